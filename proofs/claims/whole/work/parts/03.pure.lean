theorem ro_ba {a b c : Nat} (ha : a < 4) (hb : b < 4) (hc : c < 4) : nI (a + 4 * b + 16 * c) &&& 3 = nI a := by
  rw [pk_andN (by omega) 2 (by decide)]
  exact congrArg nI (by omega)
theorem ro_bb {a b c : Nat} (ha : a < 4) (hb : b < 4) (hc : c < 4) : (nI (a + 4 * b + 16 * c) >>> ((2 : Int32) &&& 31)) &&& 3 = nI b := by
  rw [pk_shrN (by omega) _ 2 (by decide), pk_andN (by omega) 2 (by decide)]
  exact congrArg nI (by omega)
theorem ro_b4 {a b c : Nat} (ha : a < 4) (hb : b < 4) (hc : c < 4) : nI (a + 4 * b + 16 * c) >>> ((4 : Int32) &&& 31) = nI c := by
  rw [pk_shrN (by omega) _ 4 (by decide)]
  exact congrArg nI (by omega)
theorem ro_bc {a b c : Nat} (ha : a < 4) (hb : b < 4) (hc : c < 4) : (nI (a + 4 * b + 16 * c) >>> ((4 : Int32) &&& 31)) &&& 3 = nI c := by
  rw [ro_b4 ha hb hc, pk_andN (by omega) 2 (by decide)]
  exact congrArg nI (by omega)
theorem ro_63 {x : Int32} (h0 : ¬ x < 0) (h : x ≤ 63) : ∃ a b c, a < 4 ∧ b < 4 ∧ c < 4 ∧ x = nI (a + 4 * b + 16 * c) := by
  obtain ⟨j, hj, rfl⟩ := nI_of2 (n := 63) (by decide) h0 h
  exact ⟨j % 4, j / 4 % 4, j / 16, by omega, by omega, by omega, congrArg nI (by omega)⟩
theorem ro_out {fp : Int32} {len : Nat} (hl : len ≤ 16) (h : fp < 0 ∨ nI len ≤ fp) : ∀ p, p < len → ¬ fp = nI p := by
  intro p hp e
  subst e
  rcases h with h | h
  · exact nI_pos (by omega) h
  · exact nI_ge hp (by omega) h
theorem ro_outI {fp : Int32} {len : Nat} (hl : len ≤ 16) (h : ∀ p, p < len → ¬ fp = nI p) : fp < 0 ∨ nI len ≤ fp := by
  rcases pk_ix fp (n := len) (by omega) with h1 | h1 | ⟨j, hj, e⟩
  · exact Or.inl h1
  · exact Or.inr h1
  · exact absurd e (h j hj)
theorem ro_nn {a : Nat} (ha : a < 2 ^ 31) : ¬ nI a = -1 := by
  intro h
  have := nI_pos ha
  rw [h] at this
  exact this (by decide)
theorem ro_w1 {o a : Nat} (h : o ≤ 4) : ro_wf o a = nI a := if_pos h
theorem ro_w2 {o a : Nat} (h : 4 < o) : ro_wf o a = -1 := if_neg (by omega)
theorem ro_rfC (o a b : Nat) (ha : a < 4) (hb : b < 4) : ro_rf o a b = -1 ∨ ∃ x, x < 4 ∧ ro_rf o a b = nI x := by
  unfold ro_rf
  by_cases h0 : o = 0
  · rw [if_pos h0]; exact Or.inl rfl
  · rw [if_neg h0]
    by_cases h5 : o ≤ 5
    · rw [if_pos h5]; exact Or.inr ⟨b, hb, rfl⟩
    · rw [if_neg h5]
      by_cases h6 : o = 6
      · rw [if_pos h6]; exact Or.inr ⟨a, ha, rfl⟩
      · rw [if_neg h6]; exact Or.inl rfl
theorem ro_afC (o a c : Nat) (ha : a < 4) (hc : c < 4) : ro_af o a c = -1 ∨ ∃ x, x < 4 ∧ ro_af o a c = nI x := by
  unfold ro_af
  by_cases h0 : o = 0
  · rw [if_pos h0]; exact Or.inl rfl
  · rw [if_neg h0]
    by_cases h5 : o ≤ 3
    · rw [if_pos h5]; exact Or.inr ⟨c, hc, rfl⟩
    · rw [if_neg h5]
      by_cases h6 : o = 5
      · rw [if_pos h6]; exact Or.inr ⟨a, ha, rfl⟩
      · rw [if_neg h6]; exact Or.inl rfl
/-- what carrying out leaves, of the two values v and w that it reads -/
def ro_Rs (o : Nat) (nm ps nx v w rs' cl' nx' : Int32) (C : Nat → Int32) : Prop :=
  (o = 0 → rs' = nm) ∧ (o = 1 → rs' = v + w) ∧ (o = 2 → rs' = v * w) ∧ (o = 3 → ¬ w = 0 ∧ rs' = v / w) ∧
  (o = 4 → ¬ v < 0 ∧ ∃ j, j < 8 ∧ v &&& 7 = nI j ∧ rs' = C j) ∧
  (o = 5 → ¬ v < 0 ∧ ∃ j, j < 8 ∧ v &&& 7 = nI j ∧ cl' = nI j ∧ rs' = w) ∧
  (o = 6 → nx' = if v = 0 then nm else ps + 1) ∧ (¬ o = 6 → nx' = nx)
/-- a register that is read, and is known -/
def ro_kk (K : Nat → Prop) (r : Int32) : Prop := ∀ x, x < 4 → r = nI x → K x
def ro_vv (V : Nat → Int32) (r v : Int32) : Prop := ∀ x, x < 4 → r = nI x → v = V x
theorem ro_fin {len o : Nat} {pO pR pN : Nat → Int32} {op nm ps wr rd al bt rs cl nx v w st' bt' rs' cl' nx' : Int32} {V : Nat → Int32} {K : Nat → Prop} {C : Nat → Int32} {S : Prop}
    (h : ro_En len pO pR pN op nm ps wr rd al 0 bt rs cl nx V K C S) (hop : op = nI o) (ho : o ≤ 8) (kd : ro_kk K rd) (ka : ro_kk K al) (ks : o = 4 → S) (hv : ro_vv V rd v) (hw : ro_vv V al w)
    (hr : (st' = 1 ∧ ro_Rs o nm ps nx v w rs' cl' nx' C) ∨ (st' = 2 ∧ nx' = nx ∧ ((o = 3 ∧ w = 0) ∨ ((o = 4 ∨ o = 5) ∧ v < 0)))) :
    ro_En len pO pR pN op nm ps wr rd al st' bt' rs' cl' nx' V K C S := by
  rcases h with ⟨_, z, _⟩ | ⟨p, q, a, b, c, h1, h2, h3, h4, h5, h6, h7, h8, h9, h10, h11, h12, h13, h14, h⟩
  · exact absurd z (by decide)
  · have hq : q = o := (nI_eq (by omega) (by omega)).mp (h10.symm.trans hop)
    subst hq
    have eb : ¬ q = 0 → q ≤ 5 → rd = nI b := fun z1 z2 => by rw [h12]; unfold ro_rf; rw [if_neg z1, if_pos z2]
    have e6 : q = 6 → rd = nI a := fun z1 => by rw [h12]; unfold ro_rf; rw [if_neg (by omega), if_neg (by omega), if_pos z1]
    have ec : ¬ q = 0 → q ≤ 3 → al = nI c := fun z1 z2 => by rw [h13]; unfold ro_af; rw [if_neg z1, if_pos z2]
    have e5 : q = 5 → al = nI a := fun z1 => by rw [h13]; unfold ro_af; rw [if_neg (by omega), if_neg (by omega), if_pos z1]
    have nxk : ¬ q = 6 → nx' = nx := by
      intro z
      rcases hr with ⟨_, r⟩ | ⟨_, r, _⟩
      · exact r.2.2.2.2.2.2.2 z
      · exact r
    refine Or.inr ⟨p, q, a, b, c, h1, h2, h3, h4, h5, h6, h7, h8, h9, h10, h11, h12, h13, ⟨fun z => ?_, fun z1 z2 => ?_⟩, Or.inr ?_⟩
    · rw [nxk (by omega)]; exact h14.1 z
    · rw [nxk z1]; exact h14.2 z1 z2
    · rcases hr with ⟨r0, ra, rb, rc, rd', re, rf, rg, rh⟩ | ⟨r0, _, r⟩
      · refine Or.inl ⟨r0, ra, ?_, ?_, ?_, ?_, ?_, ?_⟩
        · intro z
          have x1 := eb (by omega) (by omega)
          have x2 := ec (by omega) (by omega)
          exact ⟨kd b h4 x1, ka c h5 x2, by rw [rb z, hv b h4 x1, hw c h5 x2]⟩
        · intro z
          have x1 := eb (by omega) (by omega)
          have x2 := ec (by omega) (by omega)
          exact ⟨kd b h4 x1, ka c h5 x2, by rw [rc z, hv b h4 x1, hw c h5 x2]⟩
        · intro z
          have x1 := eb (by omega) (by omega)
          have x2 := ec (by omega) (by omega)
          obtain ⟨y1, y2⟩ := rd' z
          rw [hw c h5 x2] at y1 y2
          rw [hv b h4 x1] at y2
          exact ⟨kd b h4 x1, ka c h5 x2, y1, y2⟩
        · intro z
          have x1 := eb (by omega) (by omega)
          obtain ⟨y1, j, y2, y3, y4⟩ := re z
          rw [hv b h4 x1] at y1 y3
          exact ⟨kd b h4 x1, ks z, y1, j, y2, y3, y4⟩
        · intro z
          have x1 := eb (by omega) (by omega)
          have x2 := e5 z
          obtain ⟨y1, j, y2, y3, y4, y5⟩ := rf z
          rw [hv b h4 x1] at y1 y3
          rw [hw a h3 x2] at y5
          exact ⟨kd b h4 x1, ka a h3 x2, y1, j, y2, y3, y4, y5⟩
        · intro z
          have x1 := e6 z
          refine ⟨kd a h3 x1, ?_⟩
          rw [rg z, hv a h3 x1]
      · refine Or.inr ⟨r0, ?_⟩
        rcases r with ⟨z, y⟩ | ⟨z, y⟩
        · have x2 := ec (by omega) (by omega)
          exact Or.inl ⟨z, ka c h5 x2, by rw [← hw c h5 x2]; exact y⟩
        · have x1 := eb (by omega) (by omega)
          exact Or.inr ⟨z, kd b h4 x1, by rw [← hv b h4 x1]; exact y⟩
/-- an entry that waits is one of the program's nine operations, and its reads are registers or none -/
theorem ro_En_w {len : Nat} {pO pR pN : Nat → Int32} {op nm ps wr rd al bt rs cl nx : Int32} {V : Nat → Int32} {K : Nat → Prop} {C : Nat → Int32} {S : Prop}
    (h : ro_En len pO pR pN op nm ps wr rd al 0 bt rs cl nx V K C S) : ∃ o, o ≤ 8 ∧ op = nI o ∧ (rd = -1 ∨ ∃ x, x < 4 ∧ rd = nI x) ∧ (al = -1 ∨ ∃ x, x < 4 ∧ al = nI x) ∧ ∃ t, 1 ≤ t ∧ t ≤ 6 ∧ bt = nI t := by
  rcases h with ⟨_, z, _⟩ | ⟨p, q, a, b, c, h1, h2, h3, h4, h5, h6, h7, h8, h9, h10, h11, h12, h13, h14, h⟩
  · exact absurd z (by decide)
  · refine ⟨q, h2, h10, ?_, ?_, ?_⟩
    · rw [h12]; exact ro_rfC q a b h3 h4
    · rw [h13]; exact ro_afC q a c h3 h5
    · rcases h with ⟨_, h⟩ | ⟨z, _⟩ | ⟨z, _⟩
      · exact h
      · exact absurd z (by decide)
      · exact absurd z (by decide)
/-- the states of an entry -/
theorem ro_En_s {len : Nat} {pO pR pN : Nat → Int32} {op nm ps wr rd al st bt rs cl nx : Int32} {V : Nat → Int32} {K : Nat → Prop} {C : Nat → Int32} {S : Prop}
    (h : ro_En len pO pR pN op nm ps wr rd al st bt rs cl nx V K C S) : st = 0 ∨ st = 1 ∨ st = 2 := by
  rcases h with ⟨_, z, _⟩ | ⟨p, q, a, b, c, h1, h2, h3, h4, h5, h6, h7, h8, h9, h10, h11, h12, h13, h14, h⟩
  · exact Or.inr (Or.inr z)
  · rcases h with ⟨h, _⟩ | ⟨h, _⟩ | ⟨h, _⟩
    · exact Or.inl h
    · exact Or.inr (Or.inl h)
    · exact Or.inr (Or.inr h)
/-- an entry that waits may lose a beat -/
theorem ro_En_b {len t : Nat} {pO pR pN : Nat → Int32} {op nm ps wr rd al bt rs cl nx : Int32} {V : Nat → Int32} {K : Nat → Prop} {C : Nat → Int32} {S : Prop}
    (h : ro_En len pO pR pN op nm ps wr rd al 0 bt rs cl nx V K C S) (h1 : 1 ≤ t) (h6 : t ≤ 6) : ro_En len pO pR pN op nm ps wr rd al 0 (nI t) rs cl nx V K C S := by
  rcases h with h | ⟨p, q, a, b, c, y1, y2, y3, y4, y5, y6, y7, y8, y9, y10, y11, y12, y13, y14, h⟩
  · exact Or.inl h
  · exact Or.inr ⟨p, q, a, b, c, y1, y2, y3, y4, y5, y6, y7, y8, y9, y10, y11, y12, y13, y14, Or.inl ⟨rfl, t, h1, h6, rfl⟩⟩
/-- a newly fetched entry -/
theorem ro_En_f {len p o a b c t : Nat} {pO pR pN : Nat → Int32} {rs cl nx : Int32} {V : Nat → Int32} {K : Nat → Prop} {C : Nat → Int32} {S : Prop}
    (hp : p < len) (ho : o ≤ 8) (ha : a < 4) (hb : b < 4) (hc : c < 4) (e1 : pO p = nI o) (e2 : pR p = nI (a + 4 * b + 16 * c)) (h1 : 1 ≤ t) (h6 : t ≤ 6) (hn : ro_Nx o (pN p) (nI p) nx) :
    ro_En len pO pR pN (nI o) (pN p) (nI p) (ro_wf o a) (ro_rf o a b) (ro_af o a c) 0 (nI t) rs cl nx V K C S :=
  Or.inr ⟨p, o, a, b, c, hp, ho, ha, hb, hc, rfl, e1, e2, rfl, rfl, rfl, rfl, rfl, hn, Or.inl ⟨rfl, t, h1, h6, rfl⟩⟩
/-- the program's instructions -/
def ro_P (len : Nat) (pO pR : Nat → Int32) : Prop := ∀ p, p < len → ∃ o a b c, o ≤ 8 ∧ a < 4 ∧ b < 4 ∧ c < 4 ∧ pO p = nI o ∧ pR p = nI (a + 4 * b + 16 * c)
theorem ro_P_u {len o a b c : Nat} {pO pR : Nat → Int32} (H : ro_P len pO pR) (ho : o ≤ 8) (ha : a < 4) (hb : b < 4) (hc : c < 4) : ro_P (len + 1) (upd pO len (nI o)) (upd pR len (nI (a + 4 * b + 16 * c))) := by
  intro p hp
  by_cases z : p = len
  · subst z
    exact ⟨o, a, b, c, ho, ha, hb, hc, pk_us, pk_us⟩
  · obtain ⟨o, a, b, c, q1, q2, q3, q4, q5, q6⟩ := H p (by omega)
    exact ⟨o, a, b, c, q1, q2, q3, q4, (pk_un z).trans q5, (pk_un z).trans q6⟩
