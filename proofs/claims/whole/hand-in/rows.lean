section
theorem pk_us {f : Nat → Int32} {k : Nat} {x : Int32} : upd f k x k = x := if_pos rfl
theorem pk_un {f : Nat → Int32} {k j : Nat} {x : Int32} (h : j ≠ k) : upd f k x j = f j := if_neg h
theorem pk_sub {a b : Nat} (h : b ≤ a) : nI a - nI b = nI (a - b) := by
  obtain ⟨c, rfl⟩ : ∃ c, a = c + b := ⟨a - b, by omega⟩
  rw [← nI_add, Int32.add_sub_cancel, Nat.add_sub_cancel]
theorem pk_m1 (n : Nat) : nI (n + 1) + (-1) = nI n := by
  rw [← nI_1, Int32.add_assoc, show (1 : Int32) + (-1) = 0 from rfl, Int32.add_zero]
theorem pk_mul (a b : Nat) : nI a * nI b = nI (a * b) := (Int32.ofNat_mul a b).symm
theorem pk_ix (x : Int32) {n : Nat} (hn : n < 2 ^ 31) : x < 0 ∨ nI n ≤ x ∨ ∃ j : Nat, j < n ∧ x = nI j := by
  by_cases h : x < 0
  · exact Or.inl h
  · obtain ⟨j, hj, rfl⟩ := nI_of h
    by_cases h2 : j < n
    · exact Or.inr (Or.inr ⟨j, h2, rfl⟩)
    · exact Or.inr (Or.inl (nI_le (by omega) hj))
theorem pk_le {x y : Int32} {A B : Prop} (a b : Nat) (f : a ≤ b → A) (g : b < a → B) (hx : x = nI a := by rfl) (hy : y = nI b := by rfl) (ha : a < 2 ^ 31 := by omega) (hb : b < 2 ^ 31 := by omega) : (x ≤ y → A) ∧ (¬ x ≤ y → B) := by
  subst hx hy
  rw [nI_leI ha hb]
  exact ⟨f, fun z => g (by omega)⟩
theorem pk_lt {x y : Int32} {A B : Prop} (a b : Nat) (f : a < b → A) (g : b ≤ a → B) (hx : x = nI a := by rfl) (hy : y = nI b := by rfl) (ha : a < 2 ^ 31 := by omega) (hb : b < 2 ^ 31 := by omega) : (x < y → A) ∧ (¬ x < y → B) := by
  subst hx hy
  rw [nI_ltI ha hb]
  exact ⟨f, fun z => g (by omega)⟩
theorem pk_eq {x y : Int32} {A B : Prop} (a b : Nat) (f : a = b → A) (g : a ≠ b → B) (hx : x = nI a := by rfl) (hy : y = nI b := by rfl) (ha : a < 2 ^ 31 := by omega) (hb : b < 2 ^ 31 := by omega) : (x = y → A) ∧ (¬ x = y → B) := by
  subst hx hy
  rw [nI_eq ha hb]
  exact ⟨f, g⟩
theorem pk_in {x : Int32} (n N : Nat) (h : n < N) (hx : x = nI n := by rfl) (hN : N < 2 ^ 31 := by omega) : vp_in x N := by
  subst hx
  exact vp_in_nI h hN
theorem pk_cl {x : Int32} (n : Nat) (hx : x = nI n := by rfl) (h : n < 2 ^ 31 := by omega) : x.toNatClampNeg = n := by
  subst hx
  exact nI_clamp h
theorem pk_tn {n : Nat} (h : n < 2 ^ 32) : (nI n).toBitVec.toNat = n := Nat.mod_eq_of_lt h
theorem pk_and (x : Int32) {m : Int32} (k : Nat) (hm : m.toBitVec.toNat = 2 ^ k - 1) : x &&& m = nI (x.toBitVec.toNat % 2 ^ k) := by
  apply Int32.toBitVec_inj.mp
  apply BitVec.eq_of_toNat_eq
  rw [Int32.toBitVec_and, BitVec.toNat_and, hm, Nat.and_two_pow_sub_one_eq_mod]
  show _ = (BitVec.ofNat 32 _).toNat
  rw [BitVec.toNat_ofNat]
  exact (Nat.mod_eq_of_lt (Nat.lt_of_le_of_lt (Nat.mod_le _ _) x.toBitVec.isLt)).symm
theorem pk_andN {n : Nat} (h : n < 2 ^ 32) {m : Int32} (k : Nat) (hm : m.toBitVec.toNat = 2 ^ k - 1) : nI n &&& m = nI (n % 2 ^ k) := by
  rw [pk_and _ k hm, pk_tn h]
theorem pk_andE (x : Int32) {m : Int32} (k : Nat) (hm : m.toBitVec.toNat = 2 ^ k - 1) : ∃ j : Nat, j < 2 ^ k ∧ x &&& m = nI j := ⟨_, Nat.mod_lt _ (Nat.two_pow_pos k), pk_and x k hm⟩
theorem pk_andIn (x : Int32) {m : Int32} (k : Nat) (hm : m.toBitVec.toNat = 2 ^ k - 1) (hk : k ≤ 30) : vp_in (x &&& m) (2 ^ k) := by
  obtain ⟨j, hj, e⟩ := pk_andE x k hm
  rw [e]
  exact vp_in_nI hj (Nat.lt_of_le_of_lt (Nat.pow_le_pow_right (by decide) hk) (by decide))
theorem pk_shr (a s : Int32) (k : Nat) (hs : (s.toBitVec.smod 32).toNat = k) : (a >>> s).toInt = a.toInt >>> k := by
  show (a.toBitVec.sshiftRight (s.toBitVec.smod 32).toNat).toInt = _
  rw [hs, BitVec.toInt_sshiftRight]
  rfl
theorem pk_shrN {n : Nat} (h : n < 2 ^ 31) (s : Int32) (k : Nat) (hs : (s.toBitVec.smod 32).toNat = k) : nI n >>> s = nI (n / 2 ^ k) := by
  apply Int32.toInt_inj.mp
  have h2 : n / 2 ^ k ≤ n := Nat.div_le_self _ _
  rw [pk_shr _ _ k hs, nI_toInt h, nI_toInt (by omega), Int.shiftRight_eq_div_pow]
  rfl
end
section
/-- the value of register a as the entry e sees it: the nearest older writer's result, else the register -/
def ro_v (reg wr rs : Nat → Int32) (a : Nat) : Nat → Int32
  | 0 => reg a
  | e + 1 => if wr e = nI a then rs e else ro_v reg wr rs a e
/-- register a is known at the entry e -/
def ro_k (wr st : Nat → Int32) (a : Nat) : Nat → Prop
  | 0 => True
  | e + 1 => (wr e = nI a → st e = 1) ∧ (¬ wr e = nI a → ro_k wr st a e)
/-- cell c as the entry e sees it -/
def ro_c (cel op cl rs : Nat → Int32) (c : Nat) : Nat → Int32
  | 0 => cel c
  | e + 1 => if op e = 5 ∧ cl e = nI c then rs e else ro_c cel op cl rs c e
/-- the stores before e are done -/
def ro_s (op st : Nat → Int32) (e : Nat) : Prop := ∀ j, j < e → op j = 5 → st j = 1
theorem ro_v_m {reg wr rs st wr' rs' : Nat → Int32} {a : Nat} : ∀ e, (∀ i, i < e → wr' i = wr i ∧ (st i = 1 → rs' i = rs i)) → ro_k wr st a e → ro_v reg wr' rs' a e = ro_v reg wr rs a e := by
  intro e
  induction e with
  | zero => intro _ _; rfl
  | succ e ih =>
    intro h hk
    have he := h e (by omega)
    show (if wr' e = nI a then rs' e else ro_v reg wr' rs' a e) = (if wr e = nI a then rs e else ro_v reg wr rs a e)
    by_cases hw : wr e = nI a
    · rw [he.1, if_pos hw, if_pos hw]
      exact he.2 (hk.1 hw)
    · rw [he.1, if_neg hw, if_neg hw]
      exact ih (fun i hi => h i (by omega)) (hk.2 hw)
theorem ro_k_m {wr st wr' st' : Nat → Int32} {a : Nat} : ∀ e, (∀ i, i < e → wr' i = wr i ∧ (st i = 1 → st' i = 1)) → ro_k wr st a e → ro_k wr' st' a e := by
  intro e
  induction e with
  | zero => intro _ _; exact trivial
  | succ e ih =>
    intro h hk
    have he := h e (by omega)
    refine ⟨fun hw => he.2 (hk.1 (he.1.symm.trans hw)), fun hw => ih (fun i hi => h i (by omega)) (hk.2 (fun hx => hw (he.1.trans hx)))⟩
theorem ro_c_m {cel op cl rs st op' cl' rs' : Nat → Int32} {c : Nat} : ∀ e, (∀ i, i < e → op' i = op i ∧ (st i = 1 → cl' i = cl i ∧ rs' i = rs i)) → ro_s op st e → ro_c cel op' cl' rs' c e = ro_c cel op cl rs c e := by
  intro e
  induction e with
  | zero => intro _ _; rfl
  | succ e ih =>
    intro h hs
    have he := h e (by omega)
    have hi := ih (fun i hi => h i (by omega)) (fun j hj => hs j (by omega))
    show (if op' e = 5 ∧ cl' e = nI c then rs' e else ro_c cel op' cl' rs' c e) = (if op e = 5 ∧ cl e = nI c then rs e else ro_c cel op cl rs c e)
    rw [he.1, hi]
    by_cases ho : op e = 5
    · have hd := he.2 (hs e (by omega) ho)
      rw [hd.1, hd.2]
    · rw [if_neg (fun z => ho z.1), if_neg (fun z => ho z.1)]
theorem ro_s_m {op st op' st' : Nat → Int32} {e : Nat} (h : ∀ i, i < e → op' i = op i ∧ (st i = 1 → st' i = 1)) (hs : ro_s op st e) : ro_s op' st' e :=
  fun j hj ho => (h j hj).2 (hs j hj ((h j hj).1.symm.trans ho))
theorem ro_v_d {reg wr rs reg' wr' rs' : Nat → Int32} {a : Nat} (hr : reg' a = if wr 0 = nI a then rs 0 else reg a) : ∀ e, (∀ i, i < e → wr' i = wr (i + 1) ∧ rs' i = rs (i + 1)) → ro_v reg' wr' rs' a e = ro_v reg wr rs a (e + 1) := by
  intro e
  induction e with
  | zero => intro _; exact hr
  | succ e ih =>
    intro h
    have he := h e (by omega)
    have hi := ih (fun i hi => h i (by omega))
    show (if wr' e = nI a then rs' e else ro_v reg' wr' rs' a e) = (if wr (e + 1) = nI a then rs (e + 1) else ro_v reg wr rs a (e + 1))
    rw [he.1, he.2, hi]
theorem ro_k_d {wr st wr' st' : Nat → Int32} {a : Nat} : ∀ e, (∀ i, i < e → wr' i = wr (i + 1) ∧ st' i = st (i + 1)) → ro_k wr st a (e + 1) → ro_k wr' st' a e := by
  intro e
  induction e with
  | zero => intro _ _; exact trivial
  | succ e ih =>
    intro h hk
    have he := h e (by omega)
    refine ⟨fun hw => he.2.trans (hk.1 (he.1.symm.trans hw)), fun hw => ih (fun i hi => h i (by omega)) (hk.2 (fun hx => hw (he.1.trans hx)))⟩
theorem ro_c_d {cel op cl rs cel' op' cl' rs' : Nat → Int32} {c : Nat} (hr : cel' c = if op 0 = 5 ∧ cl 0 = nI c then rs 0 else cel c) : ∀ e, (∀ i, i < e → op' i = op (i + 1) ∧ cl' i = cl (i + 1) ∧ rs' i = rs (i + 1)) → ro_c cel' op' cl' rs' c e = ro_c cel op cl rs c (e + 1) := by
  intro e
  induction e with
  | zero => intro _; exact hr
  | succ e ih =>
    intro h
    have he := h e (by omega)
    have hi := ih (fun i hi => h i (by omega))
    show (if op' e = 5 ∧ cl' e = nI c then rs' e else ro_c cel' op' cl' rs' c e) = (if op (e + 1) = 5 ∧ cl (e + 1) = nI c then rs (e + 1) else ro_c cel op cl rs c (e + 1))
    rw [he.1, he.2.1, he.2.2, hi]
theorem ro_s_d {op st op' st' : Nat → Int32} {e : Nat} (h : ∀ i, i < e → op' i = op (i + 1) ∧ st' i = st (i + 1)) (hs : ro_s op st (e + 1)) : ro_s op' st' e :=
  fun j hj ho => (h j hj).2.trans (hs (j + 1) (by omega) ((h j hj).1.symm.trans ho))

/-- which register an operation writes and which two it reads -/
def ro_wf (o a : Nat) : Int32 := if o ≤ 4 then nI a else -1
def ro_rf (o a b : Nat) : Int32 := if o = 0 then -1 else if o ≤ 5 then nI b else if o = 6 then nI a else -1
def ro_af (o a c : Nat) : Int32 := if o = 0 then -1 else if o ≤ 3 then nI c else if o = 5 then nI a else -1
/-- where the program goes on, but for ZERO -/
def ro_Nx (o : Nat) (nm ps nx : Int32) : Prop := (o = 7 → nx = nm) ∧ (¬ o = 6 → ¬ o = 7 → nx = ps + 1)
/-- a done entry has what its operation gives of the values that it sees -/
def ro_Dn (o a b c : Nat) (nm ps rs cl nx : Int32) (V : Nat → Int32) (K : Nat → Prop) (C : Nat → Int32) (S : Prop) : Prop :=
  (o = 0 → rs = nm) ∧ (o = 1 → K b ∧ K c ∧ rs = V b + V c) ∧ (o = 2 → K b ∧ K c ∧ rs = V b * V c) ∧
  (o = 3 → K b ∧ K c ∧ ¬ V c = 0 ∧ rs = V b / V c) ∧
  (o = 4 → K b ∧ S ∧ ¬ V b < 0 ∧ ∃ j, j < 8 ∧ V b &&& 7 = nI j ∧ rs = C j) ∧
  (o = 5 → K b ∧ K a ∧ ¬ V b < 0 ∧ ∃ j, j < 8 ∧ V b &&& 7 = nI j ∧ cl = nI j ∧ rs = V a) ∧
  (o = 6 → K a ∧ nx = if V a = 0 then nm else ps + 1)
/-- an entry that traps has a reason -/
def ro_Tp (o b c : Nat) (V : Nat → Int32) (K : Nat → Prop) : Prop :=
  (o = 3 ∧ K c ∧ V c = 0) ∨ ((o = 4 ∨ o = 5) ∧ K b ∧ V b < 0)
/-- an entry of the window is good: against the program, and the values V, known K, cells C, stores done S before it -/
def ro_En (len : Nat) (pO pR pN : Nat → Int32) (op nm ps wr rd al st bt rs cl nx : Int32) (V : Nat → Int32) (K : Nat → Prop) (C : Nat → Int32) (S : Prop) : Prop :=
  (op = 9 ∧ st = 2 ∧ wr = -1 ∧ ∀ p, p < len → ¬ ps = nI p) ∨
  (∃ p o a b c, p < len ∧ o ≤ 8 ∧ a < 4 ∧ b < 4 ∧ c < 4 ∧ ps = nI p ∧ pO p = nI o ∧ pR p = nI (a + 4 * b + 16 * c) ∧ pN p = nm ∧ op = nI o ∧ wr = ro_wf o a ∧ rd = ro_rf o a b ∧ al = ro_af o a c ∧ ro_Nx o nm ps nx ∧
    ((st = 0 ∧ ∃ t, 1 ≤ t ∧ t ≤ 6 ∧ bt = nI t) ∨ (st = 1 ∧ ro_Dn o a b c nm ps rs cl nx V K C S) ∨ (st = 2 ∧ ro_Tp o b c V K)))
theorem ro_En_m {len : Nat} {pO pR pN : Nat → Int32} {op nm ps wr rd al st bt rs cl nx : Int32} {V V' : Nat → Int32} {K K' : Nat → Prop} {C C' : Nat → Int32} {S S' : Prop}
    (hv : ∀ a, a < 4 → K a → V' a = V a) (hk : ∀ a, K a → K' a) (hc : S → ∀ c, c < 8 → C' c = C c) (hs : S → S')
    (h : ro_En len pO pR pN op nm ps wr rd al st bt rs cl nx V K C S) : ro_En len pO pR pN op nm ps wr rd al st bt rs cl nx V' K' C' S' := by
  rcases h with h | ⟨p, o, a, b, c, h1, h2, h3, h4, h5, h6, h7, h8, h9, h10, h11, h12, h13, h14, h⟩
  · exact Or.inl h
  · refine Or.inr ⟨p, o, a, b, c, h1, h2, h3, h4, h5, h6, h7, h8, h9, h10, h11, h12, h13, h14, ?_⟩
    rcases h with h | ⟨e, d0, d1, d2, d3, d4, d5, d6⟩ | ⟨e, h⟩
    · exact Or.inl h
    · refine Or.inr (Or.inl ⟨e, d0, ?_, ?_, ?_, ?_, ?_, ?_⟩)
      · intro z; obtain ⟨x, y, w⟩ := d1 z
        exact ⟨hk _ x, hk _ y, by rw [hv _ h4 x, hv _ h5 y]; exact w⟩
      · intro z; obtain ⟨x, y, w⟩ := d2 z
        exact ⟨hk _ x, hk _ y, by rw [hv _ h4 x, hv _ h5 y]; exact w⟩
      · intro z; obtain ⟨x, y, w, q⟩ := d3 z
        exact ⟨hk _ x, hk _ y, by rw [hv _ h5 y]; exact w, by rw [hv _ h4 x, hv _ h5 y]; exact q⟩
      · intro z; obtain ⟨x, y, w, j, q, r, s⟩ := d4 z
        exact ⟨hk _ x, hs y, by rw [hv _ h4 x]; exact w, j, q, by rw [hv _ h4 x]; exact r, by rw [hc y j q]; exact s⟩
      · intro z; obtain ⟨x, y, w, j, q, r, t, s⟩ := d5 z
        exact ⟨hk _ x, hk _ y, by rw [hv _ h4 x]; exact w, j, q, by rw [hv _ h4 x]; exact r, t, by rw [hv _ h3 y]; exact s⟩
      · intro z; obtain ⟨x, w⟩ := d6 z
        exact ⟨hk _ x, by rw [hv _ h3 x]; exact w⟩
    · refine Or.inr (Or.inr ⟨e, ?_⟩)
      rcases h with ⟨z, x, w⟩ | ⟨z, x, w⟩
      · exact Or.inl ⟨z, hk _ x, by rw [hv _ h5 x]; exact w⟩
      · exact Or.inr ⟨z, hk _ x, by rw [hv _ h4 x]; exact w⟩
/-- entry e of the window is good -/
def ro_EA (len : Nat) (pO pR pN reg cel op nm ps wr rd al st bt rs cl nx : Nat → Int32) (e : Nat) : Prop :=
  ro_En len pO pR pN (op e) (nm e) (ps e) (wr e) (rd e) (al e) (st e) (bt e) (rs e) (cl e) (nx e) (fun a => ro_v reg wr rs a e) (fun a => ro_k wr st a e) (fun c => ro_c cel op cl rs c e) (ro_s op st e)
theorem ro_EA_n {len : Nat} {pO pR pN reg cel op wr st rs cl op' nm' ps' wr' rd' al' st' bt' rs' cl' nx' : Nat → Int32} {e : Nat}
    (hx : ∀ i, i < e → wr' i = wr i ∧ op' i = op i ∧ (st i = 1 → st' i = 1 ∧ rs' i = rs i ∧ cl' i = cl i))
    (h : ro_En len pO pR pN (op' e) (nm' e) (ps' e) (wr' e) (rd' e) (al' e) (st' e) (bt' e) (rs' e) (cl' e) (nx' e) (fun a => ro_v reg wr rs a e) (fun a => ro_k wr st a e) (fun c => ro_c cel op cl rs c e) (ro_s op st e)) : ro_EA len pO pR pN reg cel op' nm' ps' wr' rd' al' st' bt' rs' cl' nx' e :=
  ro_En_m (fun _ _ hk => ro_v_m e (fun i hi => ⟨(hx i hi).1, fun z => ((hx i hi).2.2 z).2.1⟩) hk)
    (fun _ hk => ro_k_m e (fun i hi => ⟨(hx i hi).1, fun z => ((hx i hi).2.2 z).1⟩) hk)
    (fun hs _ _ => ro_c_m e (fun i hi => ⟨(hx i hi).2.1, fun z => ⟨((hx i hi).2.2 z).2.2, ((hx i hi).2.2 z).2.1⟩⟩) hs)
    (fun hs => ro_s_m (fun i hi => ⟨(hx i hi).2.1, fun z => ((hx i hi).2.2 z).1⟩) hs) h
theorem ro_EA_m {len : Nat} {pO pR pN reg cel op nm ps wr rd al st bt rs cl nx op' nm' ps' wr' rd' al' st' bt' rs' cl' nx' : Nat → Int32} {e : Nat}
    (hx : ∀ i, i < e → wr' i = wr i ∧ op' i = op i ∧ (st i = 1 → st' i = 1 ∧ rs' i = rs i ∧ cl' i = cl i))
    (he : op' e = op e ∧ nm' e = nm e ∧ ps' e = ps e ∧ wr' e = wr e ∧ rd' e = rd e ∧ al' e = al e ∧ st' e = st e ∧ bt' e = bt e ∧ rs' e = rs e ∧ cl' e = cl e ∧ nx' e = nx e)
    (h : ro_EA len pO pR pN reg cel op nm ps wr rd al st bt rs cl nx e) : ro_EA len pO pR pN reg cel op' nm' ps' wr' rd' al' st' bt' rs' cl' nx' e := by
  refine ro_EA_n hx ?_
  obtain ⟨q0, q1, q2, q3, q4, q5, q6, q7, q8, q9, q10⟩ := he
  rw [q0, q1, q2, q3, q4, q5, q6, q7, q8, q9, q10]
  exact h
/-- the window, its length L, where it goes on fetching, against the program, registers, cells and the run's position -/
def ro_Win (len : Nat) (pO pR pN reg cel : Nat → Int32) (rp : Int32) (L : Nat) (fp fg : Int32) (op nm ps wr rd al st bt rs cl nx : Nat → Int32) : Prop :=
  L ≤ 8 ∧ (∀ e, e < L → ro_EA len pO pR pN reg cel op nm ps wr rd al st bt rs cl nx e) ∧ (0 < L → ps 0 = rp) ∧ (∀ e, e + 1 < L → ps (e + 1) = nx e) ∧
  ((fg = 1 ∧ (L = 0 → fp = rp) ∧ ∀ e, e + 1 = L → fp = nx e) ∨ (fg = 0 ∧ ∃ e, e + 1 = L ∧ (op e = 8 ∨ op e = 9)))
theorem ro_Win_0 {len : Nat} {pO pR pN reg cel op nm ps wr rd al st bt rs cl nx : Nat → Int32} : ro_Win len pO pR pN reg cel 0 0 0 1 op nm ps wr rd al st bt rs cl nx :=
  ⟨by omega, fun e he => absurd he (by omega), fun h => absurd h (by omega), fun e he => absurd he (by omega), Or.inl ⟨rfl, fun _ => rfl, fun e he => absurd he (by omega)⟩⟩
/-- one more entry -/
theorem ro_Win_f {len L : Nat} {pO pR pN reg cel op nm ps wr rd al st bt rs cl nx op' nm' ps' wr' rd' al' st' bt' rs' cl' nx' : Nat → Int32} {rp fp fp' fg' : Int32} (H : ro_Win len pO pR pN reg cel rp L fp 1 op nm ps wr rd al st bt rs cl nx) (hL : L < 8)
    (f : ∀ i, i < L → op' i = op i ∧ nm' i = nm i ∧ ps' i = ps i ∧ wr' i = wr i ∧ rd' i = rd i ∧ al' i = al i ∧ st' i = st i ∧ bt' i = bt i ∧ rs' i = rs i ∧ cl' i = cl i ∧ nx' i = nx i)
    (hE : ro_En len pO pR pN (op' L) (nm' L) (ps' L) (wr' L) (rd' L) (al' L) (st' L) (bt' L) (rs' L) (cl' L) (nx' L) (fun a => ro_v reg wr rs a L) (fun a => ro_k wr st a L) (fun c => ro_c cel op cl rs c L) (ro_s op st L))
    (hp : ps' L = fp) (hg : (fg' = 1 ∧ fp' = nx' L) ∨ (fg' = 0 ∧ (op' L = 8 ∨ op' L = 9))) : ro_Win len pO pR pN reg cel rp (L + 1) fp' fg' op' nm' ps' wr' rd' al' st' bt' rs' cl' nx' := by
  obtain ⟨_, w2, w3, w4, w5⟩ := H
  have hx : ∀ e, e ≤ L → ∀ i, i < e → wr' i = wr i ∧ op' i = op i ∧ (st i = 1 → st' i = 1 ∧ rs' i = rs i ∧ cl' i = cl i) := by
    intro e he i hi
    obtain ⟨q0, q1, q2, q3, q4, q5, q6, q7, q8, q9, q10⟩ := f i (by omega)
    exact ⟨q3, q0, fun z => ⟨q6.trans z, q8, q9⟩⟩
  have hf : (L = 0 → fp = rp) ∧ ∀ e, e + 1 = L → fp = nx e := by
    rcases w5 with ⟨_, a, b⟩ | ⟨z, _⟩
    · exact ⟨a, b⟩
    · exact absurd z (by decide)
  refine ⟨by omega, ?_, ?_, ?_, ?_⟩
  · intro e he
    by_cases z : e = L
    · subst z
      exact ro_EA_n (hx e (by omega)) hE
    · exact ro_EA_m (hx e (by omega)) (f e (by omega)) (w2 e (by omega))
  · intro _
    by_cases z : L = 0
    · subst z; exact hp.trans (hf.1 rfl)
    · exact (f 0 (by omega)).2.2.1.trans (w3 (by omega))
  · intro e he
    have hn : nx' e = nx e := (f e (by omega)).2.2.2.2.2.2.2.2.2.2
    by_cases z : e + 1 = L
    · rw [hn, ← hf.2 e z, z]; exact hp
    · rw [hn, (f (e + 1) (by omega)).2.2.1]; exact w4 e (by omega)
  · rcases hg with ⟨a, b⟩ | ⟨a, b⟩
    · refine Or.inl ⟨a, fun z => absurd z (by omega), fun e he => ?_⟩
      have : e = L := by omega
      subst this; exact b
    · exact Or.inr ⟨a, L, rfl, b⟩
/-- the entry j, not done before, is changed to a good one -/
theorem ro_Win_j {len L j : Nat} {pO pR pN reg cel op nm ps wr rd al st bt rs cl nx st' bt' rs' cl' nx' : Nat → Int32} {rp fp fg : Int32} (H : ro_Win len pO pR pN reg cel rp L fp fg op nm ps wr rd al st bt rs cl nx) (hst : ¬ st j = 1)
    (f : ∀ i, ¬ i = j → st' i = st i ∧ bt' i = bt i ∧ rs' i = rs i ∧ cl' i = cl i ∧ nx' i = nx i)
    (hE : ro_En len pO pR pN (op j) (nm j) (ps j) (wr j) (rd j) (al j) (st' j) (bt' j) (rs' j) (cl' j) (nx' j) (fun a => ro_v reg wr rs a j) (fun a => ro_k wr st a j) (fun c => ro_c cel op cl rs c j) (ro_s op st j))
    (hn : nx' j = nx j) : ro_Win len pO pR pN reg cel rp L fp fg op nm ps wr rd al st' bt' rs' cl' nx' := by
  obtain ⟨w1, w2, w3, w4, w5⟩ := H
  have hx : ∀ e i, i < e → wr i = wr i ∧ op i = op i ∧ (st i = 1 → st' i = 1 ∧ rs' i = rs i ∧ cl' i = cl i) := by
    intro e i hi
    refine ⟨rfl, rfl, fun z => ?_⟩
    obtain ⟨q1, q2, q3, q4, q5⟩ := f i (fun y => hst (y ▸ z))
    exact ⟨q1.trans z, q3, q4⟩
  have hnx : ∀ e, nx' e = nx e := by
    intro e
    by_cases z : e = j
    · rw [z]; exact hn
    · exact (f e z).2.2.2.2
  refine ⟨w1, ?_, w3, fun e he => by rw [hnx]; exact w4 e he, ?_⟩
  · intro e he
    by_cases z : e = j
    · subst z; exact ro_EA_n (hx e) hE
    · obtain ⟨q1, q2, q3, q4, q5⟩ := f e z
      exact ro_EA_m (hx e) ⟨rfl, rfl, rfl, rfl, rfl, rfl, q1, q2, q3, q4, q5⟩ (w2 e he)
  · rcases w5 with ⟨a, b, c⟩ | h
    · exact Or.inl ⟨a, b, fun e he => by rw [hnx]; exact c e he⟩
    · exact Or.inr h
/-- the same, and the window is cut behind j -/
theorem ro_Win_x {len L j : Nat} {pO pR pN reg cel op nm ps wr rd al st bt rs cl nx st' bt' rs' cl' nx' : Nat → Int32} {rp fp fg fp' : Int32} (H : ro_Win len pO pR pN reg cel rp L fp fg op nm ps wr rd al st bt rs cl nx) (hj : j < L) (hst : ¬ st j = 1)
    (f : ∀ i, ¬ i = j → st' i = st i ∧ bt' i = bt i ∧ rs' i = rs i ∧ cl' i = cl i ∧ nx' i = nx i)
    (hE : ro_En len pO pR pN (op j) (nm j) (ps j) (wr j) (rd j) (al j) (st' j) (bt' j) (rs' j) (cl' j) (nx' j) (fun a => ro_v reg wr rs a j) (fun a => ro_k wr st a j) (fun c => ro_c cel op cl rs c j) (ro_s op st j))
    (hn : fp' = nx' j) : ro_Win len pO pR pN reg cel rp (j + 1) fp' 1 op nm ps wr rd al st' bt' rs' cl' nx' := by
  obtain ⟨w1, w2, w3, w4, w5⟩ := H
  have hx : ∀ e i, i < e → wr i = wr i ∧ op i = op i ∧ (st i = 1 → st' i = 1 ∧ rs' i = rs i ∧ cl' i = cl i) := by
    intro e i hi
    refine ⟨rfl, rfl, fun z => ?_⟩
    obtain ⟨q1, q2, q3, q4, q5⟩ := f i (fun y => hst (y ▸ z))
    exact ⟨q1.trans z, q3, q4⟩
  refine ⟨by omega, ?_, fun _ => w3 (by omega), fun e he => ?_, Or.inl ⟨rfl, fun z => absurd z (by omega), fun e he => ?_⟩⟩
  · intro e he
    by_cases z : e = j
    · subst z; exact ro_EA_n (hx e) hE
    · obtain ⟨q1, q2, q3, q4, q5⟩ := f e z
      exact ro_EA_m (hx e) ⟨rfl, rfl, rfl, rfl, rfl, rfl, q1, q2, q3, q4, q5⟩ (w2 e (by omega))
  · rw [(f e (by omega)).2.2.2.2]; exact w4 e (by omega)
  · have : e = j := by omega
    subst this; exact hn
/-- the oldest entry, done, leaves -/
theorem ro_Win_d {len L : Nat} {pO pR pN reg cel reg' cel' op nm ps wr rd al st bt rs cl nx op' nm' ps' wr' rd' al' st' bt' rs' cl' nx' : Nat → Int32} {rp fp fg : Int32} (H : ro_Win len pO pR pN reg cel rp (L + 1) fp fg op nm ps wr rd al st bt rs cl nx) (h8 : ¬ op 0 = 8) (h9 : ¬ op 0 = 9)
    (f : ∀ i, i < L → op' i = op (i + 1) ∧ nm' i = nm (i + 1) ∧ ps' i = ps (i + 1) ∧ wr' i = wr (i + 1) ∧ rd' i = rd (i + 1) ∧ al' i = al (i + 1) ∧ st' i = st (i + 1) ∧ bt' i = bt (i + 1) ∧ rs' i = rs (i + 1) ∧ cl' i = cl (i + 1) ∧ nx' i = nx (i + 1))
    (hr : ∀ a, a < 4 → reg' a = if wr 0 = nI a then rs 0 else reg a) (hc : ∀ c, c < 8 → cel' c = if op 0 = 5 ∧ cl 0 = nI c then rs 0 else cel c) : ro_Win len pO pR pN reg' cel' (nx 0) L fp fg op' nm' ps' wr' rd' al' st' bt' rs' cl' nx' := by
  obtain ⟨w1, w2, w3, w4, w5⟩ := H
  refine ⟨by omega, ?_, ?_, ?_, ?_⟩
  · intro e he
    have h := w2 (e + 1) (by omega)
    obtain ⟨q0, q1, q2, q3, q4, q5, q6, q7, q8, q9, q10⟩ := f e he
    have hx : ∀ i, i < e → i < L := fun i hi => by omega
    unfold ro_EA at h ⊢
    rw [q0, q1, q2, q3, q4, q5, q6, q7, q8, q9, q10]
    refine ro_En_m ?_ ?_ ?_ ?_ h
    · intro a ha _
      exact ro_v_d (hr a ha) e (fun i hi => ⟨(f i (hx i hi)).2.2.2.1, (f i (hx i hi)).2.2.2.2.2.2.2.2.1⟩)
    · intro a hk
      exact ro_k_d e (fun i hi => ⟨(f i (hx i hi)).2.2.2.1, (f i (hx i hi)).2.2.2.2.2.2.1⟩) hk
    · intro _ c hc8
      exact ro_c_d (hc c hc8) e (fun i hi => ⟨(f i (hx i hi)).1, (f i (hx i hi)).2.2.2.2.2.2.2.2.2.1, (f i (hx i hi)).2.2.2.2.2.2.2.2.1⟩)
    · intro hs
      exact ro_s_d (fun i hi => ⟨(f i (hx i hi)).1, (f i (hx i hi)).2.2.2.2.2.2.1⟩) hs
  · intro h0
    rw [(f 0 h0).2.2.1]; exact w4 0 (by omega)
  · intro e he
    rw [(f (e + 1) he).2.2.1, (f e (by omega)).2.2.2.2.2.2.2.2.2.2]; exact w4 (e + 1) (by omega)
  · rcases w5 with ⟨a, b, c⟩ | ⟨a, e, he, ho⟩
    · refine Or.inl ⟨a, fun z => ?_, fun e he => ?_⟩
      · exact c 0 (by omega)
      · rw [(f e (by omega)).2.2.2.2.2.2.2.2.2.2]; exact c (e + 1) (by omega)
    · have hL : ¬ e = 0 := by
        intro z; subst z
        rcases ho with ho | ho
        · exact h8 ho
        · exact h9 ho
      obtain ⟨e', rfl⟩ : ∃ e', e = e' + 1 := ⟨e - 1, by omega⟩
      refine Or.inr ⟨a, e', by omega, ?_⟩
      rw [(f e' (by omega)).1]; exact ho
end
section
theorem ro_ba {a b c : Nat} (ha : a < 4) (hb : b < 4) (hc : c < 4) : nI (a + 4 * b + 16 * c) &&& 3 = nI a := by
  rw [pk_andN (by omega) 2 (by decide)]
  exact congrArg nI (by omega)
theorem ro_bb {a b c : Nat} (ha : a < 4) (hb : b < 4) (hc : c < 4) : (nI (a + 4 * b + 16 * c) >>> ((2 : Int32) &&& 31)) &&& 3 = nI b := by
  rw [pk_shrN (by omega) _ 2 (by decide), pk_andN (by omega) 2 (by decide)]
  exact congrArg nI (by omega)
theorem ro_b4 {a b c : Nat} (ha : a < 4) (hb : b < 4) (hc : c < 4) : nI (a + 4 * b + 16 * c) >>> ((4 : Int32) &&& 31) = nI c := by
  rw [pk_shrN (by omega) _ 4 (by decide)]
  exact congrArg nI (by omega)
theorem ro_bc {a b c : Nat} (ha : a < 4) (hb : b < 4) (hc : c < 4) : (nI (a + 4 * b + 16 * c) >>> ((4 : Int32) &&& 31)) &&& 3 = nI c := by
  rw [ro_b4 ha hb hc, pk_andN (by omega) 2 (by decide)]
  exact congrArg nI (by omega)
theorem ro_63 {x : Int32} (h0 : ¬ x < 0) (h : x ≤ 63) : ∃ a b c, a < 4 ∧ b < 4 ∧ c < 4 ∧ x = nI (a + 4 * b + 16 * c) := by
  obtain ⟨j, hj, rfl⟩ := nI_of2 (n := 63) (by decide) h0 h
  exact ⟨j % 4, j / 4 % 4, j / 16, by omega, by omega, by omega, congrArg nI (by omega)⟩
theorem ro_out {fp : Int32} {len : Nat} (hl : len ≤ 16) (h : fp < 0 ∨ nI len ≤ fp) : ∀ p, p < len → ¬ fp = nI p := by
  intro p hp e
  subst e
  rcases h with h | h
  · exact nI_pos (by omega) h
  · exact nI_ge hp (by omega) h
theorem ro_outI {fp : Int32} {len : Nat} (hl : len ≤ 16) (h : ∀ p, p < len → ¬ fp = nI p) : fp < 0 ∨ nI len ≤ fp := by
  rcases pk_ix fp (n := len) (by omega) with h1 | h1 | ⟨j, hj, e⟩
  · exact Or.inl h1
  · exact Or.inr h1
  · exact absurd e (h j hj)
theorem ro_nn {a : Nat} (ha : a < 2 ^ 31) : ¬ nI a = -1 := by
  intro h
  have := nI_pos ha
  rw [h] at this
  exact this (by decide)
theorem ro_w1 {o a : Nat} (h : o ≤ 4) : ro_wf o a = nI a := if_pos h
theorem ro_w2 {o a : Nat} (h : 4 < o) : ro_wf o a = -1 := if_neg (by omega)
theorem ro_rfC (o a b : Nat) (ha : a < 4) (hb : b < 4) : ro_rf o a b = -1 ∨ ∃ x, x < 4 ∧ ro_rf o a b = nI x := by
  unfold ro_rf
  by_cases h0 : o = 0
  · rw [if_pos h0]; exact Or.inl rfl
  · rw [if_neg h0]
    by_cases h5 : o ≤ 5
    · rw [if_pos h5]; exact Or.inr ⟨b, hb, rfl⟩
    · rw [if_neg h5]
      by_cases h6 : o = 6
      · rw [if_pos h6]; exact Or.inr ⟨a, ha, rfl⟩
      · rw [if_neg h6]; exact Or.inl rfl
theorem ro_afC (o a c : Nat) (ha : a < 4) (hc : c < 4) : ro_af o a c = -1 ∨ ∃ x, x < 4 ∧ ro_af o a c = nI x := by
  unfold ro_af
  by_cases h0 : o = 0
  · rw [if_pos h0]; exact Or.inl rfl
  · rw [if_neg h0]
    by_cases h5 : o ≤ 3
    · rw [if_pos h5]; exact Or.inr ⟨c, hc, rfl⟩
    · rw [if_neg h5]
      by_cases h6 : o = 5
      · rw [if_pos h6]; exact Or.inr ⟨a, ha, rfl⟩
      · rw [if_neg h6]; exact Or.inl rfl
/-- what carrying out leaves, of the two values v and w that it reads -/
def ro_Rs (o : Nat) (nm ps nx v w rs' cl' nx' : Int32) (C : Nat → Int32) : Prop :=
  (o = 0 → rs' = nm) ∧ (o = 1 → rs' = v + w) ∧ (o = 2 → rs' = v * w) ∧ (o = 3 → ¬ w = 0 ∧ rs' = v / w) ∧
  (o = 4 → ¬ v < 0 ∧ ∃ j, j < 8 ∧ v &&& 7 = nI j ∧ rs' = C j) ∧
  (o = 5 → ¬ v < 0 ∧ ∃ j, j < 8 ∧ v &&& 7 = nI j ∧ cl' = nI j ∧ rs' = w) ∧
  (o = 6 → nx' = if v = 0 then nm else ps + 1) ∧ (¬ o = 6 → nx' = nx)
/-- a register that is read, and is known -/
def ro_kk (K : Nat → Prop) (r : Int32) : Prop := ∀ x, x < 4 → r = nI x → K x
def ro_vv (V : Nat → Int32) (r v : Int32) : Prop := ∀ x, x < 4 → r = nI x → v = V x
theorem ro_fin {len o : Nat} {pO pR pN : Nat → Int32} {op nm ps wr rd al bt rs cl nx v w st' bt' rs' cl' nx' : Int32} {V : Nat → Int32} {K : Nat → Prop} {C : Nat → Int32} {S : Prop}
    (h : ro_En len pO pR pN op nm ps wr rd al 0 bt rs cl nx V K C S) (hop : op = nI o) (ho : o ≤ 8) (kd : ro_kk K rd) (ka : ro_kk K al) (ks : o = 4 → S) (hv : ro_vv V rd v) (hw : ro_vv V al w)
    (hr : (st' = 1 ∧ ro_Rs o nm ps nx v w rs' cl' nx' C) ∨ (st' = 2 ∧ nx' = nx ∧ ((o = 3 ∧ w = 0) ∨ ((o = 4 ∨ o = 5) ∧ v < 0)))) :
    ro_En len pO pR pN op nm ps wr rd al st' bt' rs' cl' nx' V K C S := by
  rcases h with ⟨_, z, _⟩ | ⟨p, q, a, b, c, h1, h2, h3, h4, h5, h6, h7, h8, h9, h10, h11, h12, h13, h14, h⟩
  · exact absurd z (by decide)
  · have hq : q = o := (nI_eq (by omega) (by omega)).mp (h10.symm.trans hop)
    subst hq
    have eb : ¬ q = 0 → q ≤ 5 → rd = nI b := fun z1 z2 => by rw [h12]; unfold ro_rf; rw [if_neg z1, if_pos z2]
    have e6 : q = 6 → rd = nI a := fun z1 => by rw [h12]; unfold ro_rf; rw [if_neg (by omega), if_neg (by omega), if_pos z1]
    have ec : ¬ q = 0 → q ≤ 3 → al = nI c := fun z1 z2 => by rw [h13]; unfold ro_af; rw [if_neg z1, if_pos z2]
    have e5 : q = 5 → al = nI a := fun z1 => by rw [h13]; unfold ro_af; rw [if_neg (by omega), if_neg (by omega), if_pos z1]
    have nxk : ¬ q = 6 → nx' = nx := by
      intro z
      rcases hr with ⟨_, r⟩ | ⟨_, r, _⟩
      · exact r.2.2.2.2.2.2.2 z
      · exact r
    refine Or.inr ⟨p, q, a, b, c, h1, h2, h3, h4, h5, h6, h7, h8, h9, h10, h11, h12, h13, ⟨fun z => ?_, fun z1 z2 => ?_⟩, Or.inr ?_⟩
    · rw [nxk (by omega)]; exact h14.1 z
    · rw [nxk z1]; exact h14.2 z1 z2
    · rcases hr with ⟨r0, ra, rb, rc, rd', re, rf, rg, rh⟩ | ⟨r0, _, r⟩
      · refine Or.inl ⟨r0, ra, ?_, ?_, ?_, ?_, ?_, ?_⟩
        · intro z
          have x1 := eb (by omega) (by omega)
          have x2 := ec (by omega) (by omega)
          exact ⟨kd b h4 x1, ka c h5 x2, by rw [rb z, hv b h4 x1, hw c h5 x2]⟩
        · intro z
          have x1 := eb (by omega) (by omega)
          have x2 := ec (by omega) (by omega)
          exact ⟨kd b h4 x1, ka c h5 x2, by rw [rc z, hv b h4 x1, hw c h5 x2]⟩
        · intro z
          have x1 := eb (by omega) (by omega)
          have x2 := ec (by omega) (by omega)
          obtain ⟨y1, y2⟩ := rd' z
          rw [hw c h5 x2] at y1 y2
          rw [hv b h4 x1] at y2
          exact ⟨kd b h4 x1, ka c h5 x2, y1, y2⟩
        · intro z
          have x1 := eb (by omega) (by omega)
          obtain ⟨y1, j, y2, y3, y4⟩ := re z
          rw [hv b h4 x1] at y1 y3
          exact ⟨kd b h4 x1, ks z, y1, j, y2, y3, y4⟩
        · intro z
          have x1 := eb (by omega) (by omega)
          have x2 := e5 z
          obtain ⟨y1, j, y2, y3, y4, y5⟩ := rf z
          rw [hv b h4 x1] at y1 y3
          rw [hw a h3 x2] at y5
          exact ⟨kd b h4 x1, ka a h3 x2, y1, j, y2, y3, y4, y5⟩
        · intro z
          have x1 := e6 z
          refine ⟨kd a h3 x1, ?_⟩
          rw [rg z, hv a h3 x1]
      · refine Or.inr ⟨r0, ?_⟩
        rcases r with ⟨z, y⟩ | ⟨z, y⟩
        · have x2 := ec (by omega) (by omega)
          exact Or.inl ⟨z, ka c h5 x2, by rw [← hw c h5 x2]; exact y⟩
        · have x1 := eb (by omega) (by omega)
          exact Or.inr ⟨z, kd b h4 x1, by rw [← hv b h4 x1]; exact y⟩
/-- an entry that waits is one of the program's nine operations, and its reads are registers or none -/
theorem ro_En_w {len : Nat} {pO pR pN : Nat → Int32} {op nm ps wr rd al bt rs cl nx : Int32} {V : Nat → Int32} {K : Nat → Prop} {C : Nat → Int32} {S : Prop}
    (h : ro_En len pO pR pN op nm ps wr rd al 0 bt rs cl nx V K C S) : ∃ o, o ≤ 8 ∧ op = nI o ∧ (rd = -1 ∨ ∃ x, x < 4 ∧ rd = nI x) ∧ (al = -1 ∨ ∃ x, x < 4 ∧ al = nI x) ∧ ∃ t, 1 ≤ t ∧ t ≤ 6 ∧ bt = nI t := by
  rcases h with ⟨_, z, _⟩ | ⟨p, q, a, b, c, h1, h2, h3, h4, h5, h6, h7, h8, h9, h10, h11, h12, h13, h14, h⟩
  · exact absurd z (by decide)
  · refine ⟨q, h2, h10, ?_, ?_, ?_⟩
    · rw [h12]; exact ro_rfC q a b h3 h4
    · rw [h13]; exact ro_afC q a c h3 h5
    · rcases h with ⟨_, h⟩ | ⟨z, _⟩ | ⟨z, _⟩
      · exact h
      · exact absurd z (by decide)
      · exact absurd z (by decide)
/-- the states of an entry -/
theorem ro_En_s {len : Nat} {pO pR pN : Nat → Int32} {op nm ps wr rd al st bt rs cl nx : Int32} {V : Nat → Int32} {K : Nat → Prop} {C : Nat → Int32} {S : Prop}
    (h : ro_En len pO pR pN op nm ps wr rd al st bt rs cl nx V K C S) : st = 0 ∨ st = 1 ∨ st = 2 := by
  rcases h with ⟨_, z, _⟩ | ⟨p, q, a, b, c, h1, h2, h3, h4, h5, h6, h7, h8, h9, h10, h11, h12, h13, h14, h⟩
  · exact Or.inr (Or.inr z)
  · rcases h with ⟨h, _⟩ | ⟨h, _⟩ | ⟨h, _⟩
    · exact Or.inl h
    · exact Or.inr (Or.inl h)
    · exact Or.inr (Or.inr h)
/-- an entry that waits may lose a beat -/
theorem ro_En_b {len t : Nat} {pO pR pN : Nat → Int32} {op nm ps wr rd al bt rs cl nx : Int32} {V : Nat → Int32} {K : Nat → Prop} {C : Nat → Int32} {S : Prop}
    (h : ro_En len pO pR pN op nm ps wr rd al 0 bt rs cl nx V K C S) (h1 : 1 ≤ t) (h6 : t ≤ 6) : ro_En len pO pR pN op nm ps wr rd al 0 (nI t) rs cl nx V K C S := by
  rcases h with h | ⟨p, q, a, b, c, y1, y2, y3, y4, y5, y6, y7, y8, y9, y10, y11, y12, y13, y14, h⟩
  · exact Or.inl h
  · exact Or.inr ⟨p, q, a, b, c, y1, y2, y3, y4, y5, y6, y7, y8, y9, y10, y11, y12, y13, y14, Or.inl ⟨rfl, t, h1, h6, rfl⟩⟩
/-- a newly fetched entry -/
theorem ro_En_f {len p o a b c t : Nat} {pO pR pN : Nat → Int32} {rs cl nx : Int32} {V : Nat → Int32} {K : Nat → Prop} {C : Nat → Int32} {S : Prop}
    (hp : p < len) (ho : o ≤ 8) (ha : a < 4) (hb : b < 4) (hc : c < 4) (e1 : pO p = nI o) (e2 : pR p = nI (a + 4 * b + 16 * c)) (h1 : 1 ≤ t) (h6 : t ≤ 6) (hn : ro_Nx o (pN p) (nI p) nx) :
    ro_En len pO pR pN (nI o) (pN p) (nI p) (ro_wf o a) (ro_rf o a b) (ro_af o a c) 0 (nI t) rs cl nx V K C S :=
  Or.inr ⟨p, o, a, b, c, hp, ho, ha, hb, hc, rfl, e1, e2, rfl, rfl, rfl, rfl, rfl, hn, Or.inl ⟨rfl, t, h1, h6, rfl⟩⟩
/-- the program's instructions -/
def ro_P (len : Nat) (pO pR : Nat → Int32) : Prop := ∀ p, p < len → ∃ o a b c, o ≤ 8 ∧ a < 4 ∧ b < 4 ∧ c < 4 ∧ pO p = nI o ∧ pR p = nI (a + 4 * b + 16 * c)
theorem ro_P_u {len o a b c : Nat} {pO pR : Nat → Int32} (H : ro_P len pO pR) (ho : o ≤ 8) (ha : a < 4) (hb : b < 4) (hc : c < 4) : ro_P (len + 1) (upd pO len (nI o)) (upd pR len (nI (a + 4 * b + 16 * c))) := by
  intro p hp
  by_cases z : p = len
  · subst z
    exact ⟨o, a, b, c, ho, ha, hb, hc, pk_us, pk_us⟩
  · obtain ⟨o, a, b, c, q1, q2, q3, q4, q5, q6⟩ := H p (by omega)
    exact ⟨o, a, b, c, q1, q2, q3, q4, (pk_un z).trans q5, (pk_un z).trans q6⟩
end
section
/-- an array of the window shifted down in its first m places -/
def ro_sh (a a' : Nat → Int32) (m : Nat) : Prop := ∀ i, a' i = if i < m then a (i + 1) else a i
theorem ro_sh_0 (a : Nat → Int32) : ro_sh a a 0 := fun i => (if_neg (by omega)).symm
theorem ro_sh_s {a a' : Nat → Int32} {m : Nat} (h : ro_sh a a' m) : ro_sh a (upd a' m (a' (m + 1))) (m + 1) := by
  intro i
  by_cases z : i = m
  · subst z
    rw [pk_us, h (i + 1), if_neg (by omega), if_pos (by omega)]
  · rw [pk_un z, h i]
    by_cases y : i < m
    · rw [if_pos y, if_pos (by omega)]
    · rw [if_neg y, if_neg (by omega)]
theorem ro_sh_e {a a' : Nat → Int32} {m i : Nat} (h : ro_sh a a' m) (hi : i < m) : a' i = a (i + 1) := (h i).trans (if_pos hi)
/-- the oldest entry after a beat's carrying out -/
def ro_Pg (s0 b0 s1 b1 : Int32) : Prop := (¬ s0 = 0 → ¬ s1 = 0) ∧ (s0 = 0 → s1 = 0 → ∀ t, t ≤ 6 → b0 = nI t → 2 ≤ t ∧ b1 = nI (t - 1))
/-- beats that the oldest entry still needs at most -/
def ro_nd (L : Nat) (s b : Int32) (n : Nat) : Prop := 1 ≤ n ∧ n ≤ 6 ∧ (L = 0 → n = 6) ∧ (0 < L → s = 0 → ∃ t, t ≤ n ∧ b = nI t)
theorem ro_Win_s {len L : Nat} {pO pR pN reg cel op nm ps wr rd al st bt rs cl nx : Nat → Int32} {rp fp fg : Int32} (H : ro_Win len pO pR pN reg cel rp L fp fg op nm ps wr rd al st bt rs cl nx) (hL : 0 < L) :
    ro_En len pO pR pN (op 0) (nm 0) rp (wr 0) (rd 0) (al 0) (st 0) (bt 0) (rs 0) (cl 0) (nx 0) reg (fun _ => True) cel True := by
  rw [← H.2.2.1 hL]
  exact ro_En_m (fun _ _ _ => rfl) (fun _ _ => trivial) (fun _ _ _ => rfl) (fun _ => trivial) (H.2.1 0 hL)
theorem ro_Win_n {len L : Nat} {pO pR pN reg cel op nm ps wr rd al st bt rs cl nx : Nat → Int32} {rp fp fg : Int32} (H : ro_Win len pO pR pN reg cel rp L fp fg op nm ps wr rd al st bt rs cl nx) : ro_nd L (st 0) (bt 0) 6 := by
  refine ⟨by omega, by omega, fun _ => rfl, fun hL hs => ?_⟩
  have E := ro_Win_s H hL
  rw [hs] at E
  obtain ⟨_, _, _, _, _, t, _, h6, e⟩ := ro_En_w E
  exact ⟨t, h6, e⟩
/-- after fetching, the same need serves -/
theorem ro_nd_f {L L' n : Nat} {s b s' b' : Int32} (h : ro_nd L s b n) (h6 : ro_nd L' s' b' 6) (hL : 0 < L') (hf : 0 < L → s' = s ∧ b' = b) : ro_nd L' s' b' n := by
  obtain ⟨a1, a2, a3, a4⟩ := h
  refine ⟨a1, a2, fun z => absurd z (by omega), fun _ hs => ?_⟩
  by_cases z : L = 0
  · rw [a3 z]; exact h6.2.2.2 hL hs
  · obtain ⟨q1, q2⟩ := hf (by omega)
    rw [q1] at hs
    rw [q2]
    exact a4 (by omega) hs
/-- a beat that leaves the oldest entry waiting -/
theorem ro_nd_g {L L' n : Nat} {s b s' b' : Int32} (h : ro_nd L s b n) (hL : 0 < L) (hL' : 0 < L') (hp : ro_Pg s b s' b') (hs : s' = 0) : 2 ≤ n ∧ ro_nd L' s' b' (n - 1) := by
  obtain ⟨a1, a2, a3, a4⟩ := h
  have h0 : s = 0 := Classical.byContradiction fun z => hp.1 z hs
  obtain ⟨t, ht, e⟩ := a4 hL h0
  obtain ⟨h2, e2⟩ := hp.2 h0 hs t (by omega) e
  exact ⟨by omega, by omega, by omega, fun z => absurd z (by omega), fun _ _ => ⟨t - 1, by omega, e2⟩⟩
theorem ro_m1 (m : Nat) : nI m + (-1) = nI m - 1 := (Int32.sub_eq_add_neg (nI m) 1).symm
theorem ro_p1 (m : Nat) : nI (m + 1) - 1 = nI m := nI_pred m
theorem ro_z1 : nI 0 - 1 = -1 := by decide
end
section
section
variable {PL SU RP FC ZG WL FP FG : Int32} {pO pR pN reg cel op nm ps wr rd al st bt rs cl nx : Nat → Int32}
theorem ro_xwb_l {post : Int32 → Prop} {a : Nat} : ∀ m n, m ≤ 8 → m < n → ((∀ reg rs, ro_v reg wr rs a m = reg a) → (∀ st, ro_k wr st a m) → post (-1)) → (∀ j, j < m → (∀ reg rs, ro_v reg wr rs a m = rs j) → (∀ st, (ro_k wr st a m ↔ st j = 1)) → post (nI j)) → wX_writerBefore_11 post (nI a) PL SU RP FC ZG WL FP FG pO pR pN reg cel op nm ps wr rd al st bt rs cl nx n (nI m - 1) := by
  intro m
  induction m with
  | zero =>
    intro n h8 hn h1 h2
    obtain ⟨n, rfl⟩ : ∃ q, n = q + 1 := ⟨n - 1, by omega⟩
    rw [ro_z1]
    exact br_t (by decide) (h1 (fun _ _ => rfl) (fun _ => trivial))
  | succ m ih =>
    intro n h8 hn h1 h2
    obtain ⟨n, rfl⟩ : ∃ q, n = q + 1 := ⟨n - 1, by omega⟩
    rw [ro_p1, wX_writerBefore_11]
    have e : (nI m).toNatClampNeg = m := nI_clamp (by omega)
    have w : vp_in (nI m) 8 := vp_in_nI (by omega) (by omega)
    refine br_f (nI_pos (by omega)) ⟨w, ?_⟩
    rw [e]
    by_cases hw : wr m = nI a
    · exact br_t hw (h2 m (by omega) (fun _ _ => if_pos hw) (fun st => ⟨fun k => k.1 hw, fun z => ⟨fun _ => z, fun y => absurd hw y⟩⟩))
    · exact br_f hw (nm_r (ro_m1 m) (ih n (by omega) (by omega) (fun q k => h1 (fun reg rs => (if_neg hw).trans (q reg rs)) (fun st => ⟨fun z => absurd z hw, fun _ => k st⟩)) (fun j hj q k => h2 j (by omega) (fun reg rs => (if_neg hw).trans (q reg rs)) (fun st => ⟨fun z => (k st).mp (z.2 hw), fun z => ⟨fun y => absurd y hw, fun _ => (k st).mpr z⟩⟩))))
theorem ro_xwb_n {post : Int32 → Prop} {e : Int32} (h : post (-1)) : wpX_writerBefore post (PL, SU, RP, FC, ZG, WL, FP, FG, pO, pR, pN, reg, cel, op, nm, ps, wr, rd, al, st, bt, rs, cl, nx) e (-1) := br_t rfl h
theorem ro_xwb {post : Int32 → Prop} {e a : Nat} (he : e ≤ 8) (ha : a < 4) (h1 : (∀ reg rs, ro_v reg wr rs a e = reg a) → (∀ st, ro_k wr st a e) → post (-1)) (h2 : ∀ j, j < e → (∀ reg rs, ro_v reg wr rs a e = rs j) → (∀ st, (ro_k wr st a e ↔ st j = 1)) → post (nI j)) : wpX_writerBefore post (PL, SU, RP, FC, ZG, WL, FP, FG, pO, pR, pN, reg, cel, op, nm, ps, wr, rd, al, st, bt, rs, cl, nx) (nI e) (nI a) :=
  br_f (ro_nn (by omega)) (nm_e ⟨e + 1, ro_xwb_l e (e + 1) he (by omega) h1 h2⟩)
theorem ro_xik {post : Int32 → Prop} {e : Nat} {r : Int32} (he : e ≤ 8) (hr : r = -1 ∨ ∃ x, x < 4 ∧ r = nI x) (h1 : ro_kk (fun x => ro_k wr st x e) r → post 1) (h0 : ¬ ro_kk (fun x => ro_k wr st x e) r → post 0) : wpX_isKnown post (PL, SU, RP, FC, ZG, WL, FP, FG, pO, pR, pN, reg, cel, op, nm, ps, wr, rd, al, st, bt, rs, cl, nx) (nI e) r := by
  unfold wpX_isKnown
  dsimp only
  rcases hr with rfl | ⟨x, hx, rfl⟩
  · exact ro_xwb_n (br_t rfl (h1 (fun x hx z => absurd z.symm (ro_nn (by omega)))))
  · refine ro_xwb he hx (fun _ k => br_t rfl (h1 ?_)) (fun j hj _ k => br_f (ro_nn (by omega)) ⟨vp_in_nI (by omega) (by omega), ?_⟩)
    · intro y hy z
      have hxy : x = y := (nI_eq (by omega) (by omega)).mp z
      subst hxy
      exact k st
    · rw [nI_clamp (by omega)]
      by_cases hs : st j = 1
      · refine br_t hs (h1 (fun y hy z => ?_))
        have hxy : x = y := (nI_eq (by omega) (by omega)).mp z
        subst hxy
        exact (k st).mpr hs
      · exact br_f hs (h0 (fun K => hs ((k st).mp (K x hx rfl))))
theorem ro_xvf {post : Int32 → Prop} {e : Nat} {r : Int32} (he : e ≤ 8) (hr : r = -1 ∨ ∃ x, x < 4 ∧ r = nI x) (h : ∀ v, ro_vv (fun x => ro_v reg wr rs x e) r v → post v) : wpX_valueFor post (PL, SU, RP, FC, ZG, WL, FP, FG, pO, pR, pN, reg, cel, op, nm, ps, wr, rd, al, st, bt, rs, cl, nx) (nI e) r := by
  unfold wpX_valueFor
  dsimp only
  rcases hr with rfl | ⟨x, hx, rfl⟩
  · exact br_t rfl (h 0 (fun x hx z => absurd z.symm (ro_nn (by omega))))
  · have K : ∀ v, v = ro_v reg wr rs x e → post v := fun v hv => h v (fun y hy z => by
      have hxy : x = y := (nI_eq (by omega) (by omega)).mp z
      subst hxy
      exact hv)
    refine br_f (ro_nn (by omega)) (ro_xwb he hx (fun q _ => br_t rfl ⟨vp_in_nI hx (by omega), ?_⟩) (fun j hj q _ => br_f (ro_nn (by omega)) ⟨vp_in_nI (by omega) (by omega), ?_⟩))
    · rw [nI_clamp (by omega)]
      exact K _ (q reg rs).symm
    · rw [nI_clamp (by omega)]
      exact K _ (q reg rs).symm
theorem ro_xcf_l {post : Int32 → Prop} {c : Nat} (hc : c < 8) : ∀ m n, m ≤ 8 → m < n → post (ro_c cel op cl rs c m) → wX_cellFor_4 post (nI c) PL SU RP FC ZG WL FP FG pO pR pN reg cel op nm ps wr rd al st bt rs cl nx n (nI m - 1) := by
  intro m
  induction m with
  | zero =>
    intro n h8 hn h
    obtain ⟨n, rfl⟩ : ∃ q, n = q + 1 := ⟨n - 1, by omega⟩
    rw [ro_z1, wX_cellFor_4]
    refine br_t (by decide) ⟨vp_in_nI hc (by omega), ?_⟩
    rw [nI_clamp (by omega)]
    exact h
  | succ m ih =>
    intro n h8 hn h
    obtain ⟨n, rfl⟩ : ∃ q, n = q + 1 := ⟨n - 1, by omega⟩
    rw [ro_p1, wX_cellFor_4]
    have e : (nI m).toNatClampNeg = m := nI_clamp (by omega)
    have w : vp_in (nI m) 8 := vp_in_nI (by omega) (by omega)
    refine br_f (nI_pos (by omega)) ⟨w, ?_⟩
    rw [e]
    have h' : post (if op m = 5 ∧ cl m = nI c then rs m else ro_c cel op cl rs c m) := h
    by_cases ho : op m = 5
    · by_cases hw : cl m = nI c
      · rw [if_pos ⟨ho, hw⟩] at h'
        exact br_t ho ⟨w, br_t hw ⟨w, h'⟩⟩
      · rw [if_neg (fun z => hw z.2)] at h'
        exact br_t ho ⟨w, br_f hw (nm_r (ro_m1 m) (ih n (by omega) (by omega) h'))⟩
    · rw [if_neg (fun z => ho z.1)] at h'
      exact br_f ho (nm_r (ro_m1 m) (ih n (by omega) (by omega) h'))
theorem ro_xcf {post : Int32 → Prop} {e c : Nat} (he : e ≤ 8) (hc : c < 8) (h : post (ro_c cel op cl rs c e)) : wpX_cellFor post (PL, SU, RP, FC, ZG, WL, FP, FG, pO, pR, pN, reg, cel, op, nm, ps, wr, rd, al, st, bt, rs, cl, nx) (nI e) (nI c) :=
  nm_e ⟨e + 1, ro_xcf_l hc e (e + 1) he (by omega) h⟩
theorem ro_xas_l {post : Int32 → Prop} : ∀ m n, m ≤ 8 → m < n → (ro_s op st m → post 1) → (¬ ro_s op st m → post 0) → wX_areStoresDoneBefore_4 post PL SU RP FC ZG WL FP FG pO pR pN reg cel op nm ps wr rd al st bt rs cl nx n (nI m - 1) := by
  intro m
  induction m with
  | zero =>
    intro n h8 hn h1 h0
    obtain ⟨n, rfl⟩ : ∃ q, n = q + 1 := ⟨n - 1, by omega⟩
    rw [ro_z1]
    exact br_t (by decide) (h1 (fun j hj => absurd hj (by omega)))
  | succ m ih =>
    intro n h8 hn h1 h0
    obtain ⟨n, rfl⟩ : ∃ q, n = q + 1 := ⟨n - 1, by omega⟩
    rw [ro_p1, wX_areStoresDoneBefore_4]
    have e : (nI m).toNatClampNeg = m := nI_clamp (by omega)
    have w : vp_in (nI m) 8 := vp_in_nI (by omega) (by omega)
    refine br_f (nI_pos (by omega)) ⟨w, ?_⟩
    rw [e]
    have go : (op m = 5 → st m = 1) → wX_areStoresDoneBefore_4 post PL SU RP FC ZG WL FP FG pO pR pN reg cel op nm ps wr rd al st bt rs cl nx n (nI m - 1) := by
      intro hm
      refine ih n (by omega) (by omega) (fun hs => h1 ?_) (fun hs => h0 (fun z => hs (fun j hj => z j (by omega))))
      intro j hj hj5
      by_cases y : j = m
      · subst y; exact hm hj5
      · exact hs j (by omega) hj5
    by_cases ho : op m = 5
    · by_cases hw : st m = 1
      · exact br_t ho ⟨w, br_t hw (nm_r (ro_m1 m) (go (fun _ => hw)))⟩
      · exact br_t ho ⟨w, br_f hw (h0 (fun z => hw (z m (by omega) ho)))⟩
    · exact br_f ho (nm_r (ro_m1 m) (go (fun z => absurd z ho)))
theorem ro_xas {post : Int32 → Prop} {e : Nat} (he : e ≤ 8) (h1 : ro_s op st e → post 1) (h0 : ¬ ro_s op st e → post 0) : wpX_areStoresDoneBefore post (PL, SU, RP, FC, ZG, WL, FP, FG, pO, pR, pN, reg, cel, op, nm, ps, wr, rd, al, st, bt, rs, cl, nx) (nI e) :=
  nm_e ⟨e + 1, ro_xas_l e (e + 1) he (by omega) h1 h0⟩
theorem ro_xir {post : Int32 → Prop} {e : Nat} (he : e < 8) (hd : rd e = -1 ∨ ∃ x, x < 4 ∧ rd e = nI x) (ha : al e = -1 ∨ ∃ x, x < 4 ∧ al e = nI x)
    (h1 : ro_kk (fun x => ro_k wr st x e) (rd e) → ro_kk (fun x => ro_k wr st x e) (al e) → (op e = 4 → ro_s op st e) → post 1)
    (h0 : ¬ (ro_kk (fun x => ro_k wr st x e) (rd e) ∧ ro_kk (fun x => ro_k wr st x e) (al e) ∧ (op e = 4 → ro_s op st e)) → post 0) : wpX_isReady post (PL, SU, RP, FC, ZG, WL, FP, FG, pO, pR, pN, reg, cel, op, nm, ps, wr, rd, al, st, bt, rs, cl, nx) (nI e) := by
  unfold wpX_isReady
  dsimp only
  have ce : (nI e).toNatClampNeg = e := nI_clamp (by omega)
  have w : vp_in (nI e) 8 := vp_in_nI he (by omega)
  rw [ce]
  refine ⟨w, ro_xik (by omega) hd (fun kd => br_f (by decide) ⟨w, ro_xik (by omega) ha (fun ka => br_f (by decide) ⟨w, br_c (fun h4 => ?_) (fun h4 => h1 kd ka (fun z => absurd z h4))⟩) (fun z => br_t rfl (h0 (fun y => z y.2.1)))⟩) (fun z => br_t rfl (h0 (fun y => z y.1)))⟩
  exact ro_xas (by omega) (fun hs => br_f (by decide) (h1 kd ka (fun _ => hs))) (fun hs => br_t rfl (h0 (fun y => hs (y.2.2 h4))))
end
end
section
section
variable {PL SU RP FC ZG WL FP FG : Int32} {pO pR pN reg cel op nm ps wr rd al st bt rs cl nx : Nat → Int32}
theorem ro_dc107 {post : SX → Prop} {e o a : Nat} (he : e < 8) (ho : o ≤ 9) (h : ∀ al', (al' e = if o = 5 then nI a else al e) → (∀ i, ¬ i = e → al' i = al i) → post (PL, SU, RP, FC, ZG, WL, FP, FG, pO, pR, pN, reg, cel, op, nm, ps, wr, rd, al', st, bt, rs, cl, nx)) : wX_decode_107 post (nI e) (nI o) (nI a) PL SU RP FC ZG WL FP FG pO pR pN reg cel op nm ps wr rd al st bt rs cl nx :=
  pk_eq o 5 (fun z => ⟨vp_in_nI he (by omega), nm_r (e' := upd al e (nI a)) (by rw [nI_clamp (by omega)]) (h _ (by rw [pk_us, if_pos z]) (fun i hi => pk_un hi))⟩) (fun z => h _ (if_neg z).symm (fun _ _ => rfl))
theorem ro_dc89 {post : SX → Prop} {e o a c : Nat} (he : e < 8) (ho : o ≤ 9) (h : ∀ al', (al' e = if o = 5 then nI a else if 1 ≤ o ∧ o ≤ 3 then nI c else al e) → (∀ i, ¬ i = e → al' i = al i) → post (PL, SU, RP, FC, ZG, WL, FP, FG, pO, pR, pN, reg, cel, op, nm, ps, wr, rd, al', st, bt, rs, cl, nx)) : wX_decode_89 post (nI e) (nI o) (nI a) (nI c) PL SU RP FC ZG WL FP FG pO pR pN reg cel op nm ps wr rd al st bt rs cl nx :=
  pk_lt o 1 (fun z => ro_dc107 he ho (fun al' h1 h2 => h al' (by rw [h1, if_neg (show ¬ (1 ≤ o ∧ o ≤ 3) by omega)]) h2))
    (fun z => pk_lt 3 o (fun z2 => ro_dc107 he ho (fun al' h1 h2 => h al' (by rw [h1, if_neg (show ¬ (1 ≤ o ∧ o ≤ 3) by omega)]) h2))
      (fun z2 => ⟨vp_in_nI he (by omega), nm_r (e' := upd al e (nI c)) (by rw [nI_clamp (by omega)]) (ro_dc107 he ho (fun al' h1 h2 => h al' (by rw [h1, pk_us, if_pos (show (1 ≤ o ∧ o ≤ 3) by omega)]) (fun i hi => (h2 i hi).trans (pk_un hi))))⟩))
theorem ro_dc75 {post : SX → Prop} {e o a c : Nat} (he : e < 8) (ho : o ≤ 9) (h : ∀ rd' al', (rd' e = if o = 6 then nI a else rd e) → (∀ i, ¬ i = e → rd' i = rd i) → (al' e = if o = 5 then nI a else if 1 ≤ o ∧ o ≤ 3 then nI c else al e) → (∀ i, ¬ i = e → al' i = al i) → post (PL, SU, RP, FC, ZG, WL, FP, FG, pO, pR, pN, reg, cel, op, nm, ps, wr, rd', al', st, bt, rs, cl, nx)) : wX_decode_75 post (nI e) (nI o) (nI a) (nI c) PL SU RP FC ZG WL FP FG pO pR pN reg cel op nm ps wr rd al st bt rs cl nx :=
  pk_eq o 6 (fun z => ⟨vp_in_nI he (by omega), nm_r (e' := upd rd e (nI a)) (by rw [nI_clamp (by omega)]) (ro_dc89 he ho (fun al' h1 h2 => h _ al' (by rw [pk_us, if_pos z]) (fun i hi => pk_un hi) h1 h2))⟩)
    (fun z => ro_dc89 he ho (fun al' h1 h2 => h _ al' (if_neg z).symm (fun _ _ => rfl) h1 h2))
theorem ro_aq (o a c : Nat) : (if o = 5 then nI a else if 1 ≤ o ∧ o ≤ 3 then nI c else -1) = ro_af o a c := by
  unfold ro_af
  by_cases h5 : o = 5
  · rw [if_pos h5, if_neg (by omega), if_neg (by omega), if_pos h5]
  · rw [if_neg h5]
    by_cases h0 : o = 0
    · rw [if_neg (by omega), if_pos h0]
    · rw [if_neg h0, if_neg h5]
      by_cases h3 : o ≤ 3
      · rw [if_pos ⟨by omega, h3⟩, if_pos h3]
      · rw [if_neg (by omega), if_neg h3]
theorem ro_dc42 {post : SX → Prop} {e o a b c : Nat} {w : Int32} (he : e < 8) (ho : o ≤ 9) (h : ∀ rd' al', rd' e = ro_rf o a b → (∀ i, ¬ i = e → rd' i = rd i) → al' e = ro_af o a c → (∀ i, ¬ i = e → al' i = al i) → post (PL, SU, RP, FC, ZG, WL, FP, FG, pO, pR, pN, reg, cel, op, nm, ps, upd wr e w, rd', al', st, bt, rs, cl, nx)) : wX_decode_42 post (nI e) (nI o) (nI a) (nI b) (nI c) w (nI e) PL SU RP FC ZG WL FP FG pO pR pN reg cel op nm ps wr rd al st bt rs cl nx := by
  have v : vp_in (nI e) 8 := vp_in_nI he (by omega)
  have ce : (nI e).toNatClampNeg = e := nI_clamp (by omega)
  have fa : ∀ al' : Nat → Int32, (∀ i, ¬ i = e → al' i = upd al e (-1) i) → ∀ i, ¬ i = e → al' i = al i := fun al' k i hi => (k i hi).trans (pk_un hi)
  have fr : ∀ rd' : Nat → Int32, (∀ i, ¬ i = e → rd' i = upd rd e (-1) i) → ∀ i, ¬ i = e → rd' i = rd i := fun rd' k i hi => (k i hi).trans (pk_un hi)
  have fr2 : ∀ rd' : Nat → Int32, (∀ i, ¬ i = e → rd' i = upd (upd rd e (-1)) e (nI b) i) → ∀ i, ¬ i = e → rd' i = rd i := fun rd' k i hi => (k i hi).trans ((pk_un hi).trans (pk_un hi))
  have qa : ∀ x : Int32, (x = if o = 5 then nI a else if 1 ≤ o ∧ o ≤ 3 then nI c else upd al e (-1) e) → x = ro_af o a c := fun x k => by rw [k, pk_us, ro_aq]
  refine ⟨v, nm_r (e' := upd wr e w) (by rw [ce]) ⟨v, nm_r (e' := upd rd e (-1)) (by rw [ce]) ⟨v, nm_r (e' := upd al e (-1)) (by rw [ce]) ?_⟩⟩⟩
  refine pk_lt o 1 (fun z => ro_dc75 he ho (fun rd' al' h1 h2 h3 h4 => h rd' al' ?_ (fr rd' h2) (qa _ h3) (fa al' h4))) (fun z => pk_lt 5 o (fun z2 => ro_dc75 he ho (fun rd' al' h1 h2 h3 h4 => h rd' al' ?_ (fr rd' h2) (qa _ h3) (fa al' h4))) (fun z2 => ⟨v, nm_r (e' := upd (upd rd e (-1)) e (nI b)) (by rw [ce]) (ro_dc75 he ho (fun rd' al' h1 h2 h3 h4 => h rd' al' ?_ (fr2 rd' h2) (qa _ h3) (fa al' h4)))⟩))
  · rw [h1, pk_us]
    unfold ro_rf
    rw [if_neg (by omega), if_pos (by omega)]
  · rw [h1, pk_us]
    unfold ro_rf
    rw [if_neg (show ¬ o = 0 by omega), if_neg (show ¬ o ≤ 5 by omega)]
  · rw [h1, pk_us]
    unfold ro_rf
    rw [if_neg (by omega), if_neg (by omega), if_pos (by omega)]
theorem ro_xdc {post : SX → Prop} {e o a b c : Nat} (he : e < 8) (ho : o ≤ 9) (ha : a < 4) (hb : b < 4) (hc : c < 4) (h : ∀ rd' al', rd' e = ro_rf o a b → (∀ i, ¬ i = e → rd' i = rd i) → al' e = ro_af o a c → (∀ i, ¬ i = e → al' i = al i) → post (PL, SU, RP, FC, ZG, WL, FP, FG, pO, pR, pN, reg, cel, upd op e (nI o), nm, ps, upd wr e (ro_wf o a), rd', al', st, bt, rs, cl, nx)) : wpX_decode post (PL, SU, RP, FC, ZG, WL, FP, FG, pO, pR, pN, reg, cel, op, nm, ps, wr, rd, al, st, bt, rs, cl, nx) (nI e) (nI o) (nI (a + 4 * b + 16 * c)) := by
  have v : vp_in (nI e) 8 := vp_in_nI he (by omega)
  have ce : (nI e).toNatClampNeg = e := nI_clamp (by omega)
  refine nm_r (ro_ba ha hb hc) (nm_r (ro_bb ha hb hc) (nm_r (ro_bc ha hb hc) ⟨v, nm_r (e' := upd op e (nI o)) (by rw [ce]) ?_⟩))
  refine pk_lt 4 o (fun z => ?_) (fun z => ?_)
  · refine ro_dc42 he ho ?_
    rw [ro_w2 z] at h
    exact h
  · refine ro_dc42 he ho ?_
    rw [ro_w1 z] at h
    exact h
theorem ro_xbo {post : Int32 → Prop} {o : Nat} (ho : o ≤ 8) (h : ∀ t, 1 ≤ t → t ≤ 6 → post (nI t)) : wpX_beatsOf post (nI o) :=
  pk_lt o 2 (fun _ => h 1 (by omega) (by omega)) (fun _ => pk_lt 4 o (fun _ => h 1 (by omega) (by omega)) (fun _ => pk_eq o 2 (fun _ => h 3 (by omega) (by omega)) (fun _ => pk_eq o 3 (fun _ => h 6 (by omega) (by omega)) (fun _ => pk_eq o 4 (fun _ => h 2 (by omega) (by omega)) (fun _ => trivial)))))
theorem ro_xen37 {post : Int32 → Prop} {e o : Nat} {z0 : Int32} (he : e < 8) (ho : o ≤ 8) (hz : ¬ o = 6 → z0 = 0) (h : ∀ r, ro_Nx o (nm e) (ps e) r → post r) : wX_expectedNext_37 post (nI e) (nI o) (ps e) z0 PL SU RP FC ZG WL FP FG pO pR pN reg cel op nm ps wr rd al st bt rs cl nx := by
  have v : vp_in (nI e) 8 := vp_in_nI he (by omega)
  have ce : (nI e).toNatClampNeg = e := nI_clamp (by omega)
  unfold wX_expectedNext_37
  rw [ce]
  exact pk_eq o 7 (fun z => ⟨v, h _ ⟨fun _ => rfl, fun _ y => absurd z y⟩⟩) (fun z => br_c (fun _ => h _ ⟨fun y => absurd y z, fun _ _ => rfl⟩) (fun y => ⟨v, h _ ⟨fun y => absurd y z, fun y6 => absurd (hz y6) y⟩⟩))
theorem ro_xen {post : Int32 → Prop} {e o : Nat} (he : e < 8) (ho : o ≤ 8) (hop : op e = nI o) (h : ∀ r, ro_Nx o (nm e) (ps e) r → post r) : wpX_expectedNext post (PL, SU, RP, FC, ZG, WL, FP, FG, pO, pR, pN, reg, cel, op, nm, ps, wr, rd, al, st, bt, rs, cl, nx) (nI e) := by
  have v : vp_in (nI e) 8 := vp_in_nI he (by omega)
  have ce : (nI e).toNatClampNeg = e := nI_clamp (by omega)
  unfold wpX_expectedNext
  dsimp only
  rw [ce]
  exact ⟨v, nm_r hop ⟨v, nm_e (pk_eq o 6 (fun z => br_c (fun _ => ro_xen37 he ho (fun y => absurd z y) h) (fun _ => ro_xen37 he ho (fun _ => rfl) h)) (fun z => ro_xen37 he ho (fun _ => rfl) h))⟩⟩
theorem ro_fi42 {post : SX → Prop} {L : Nat} (hL : L < 8) (h : ∀ rd' al', (∀ i, ¬ i = L → rd' i = rd i) → (∀ i, ¬ i = L → al' i = al i) → post (PL, SU, RP, FC, ZG, WL, FP, 0, pO, pR, pN, reg, cel, upd op L (nI 9), nm, ps, upd wr L (ro_wf 9 0), rd', al', upd st L 2, bt, rs, cl, nx)) : wX_fetchInto_42 post (nI L) PL SU RP FC ZG WL FP FG pO pR pN reg cel op nm ps wr rd al st bt rs cl nx := by
  have v : vp_in (nI L) 8 := vp_in_nI hL (by omega)
  have ce : (nI L).toNatClampNeg = L := nI_clamp (by omega)
  unfold wX_fetchInto_42
  exact ro_xdc (o := 9) (a := 0) (b := 0) (c := 0) hL (by omega) (by omega) (by omega) (by omega) (fun rd' al' _ h2 _ h4 => ⟨v, nm_r (e' := upd st L 2) (by rw [ce]) (h rd' al' h2 h4)⟩)
end
end
section
section
variable {PL SU RP FC ZG WL FP FG : Int32} {pO pR pN reg cel op nm ps wr rd al st bt rs cl nx : Nat → Int32}
theorem ro_xfi {post : SX → Prop} {len L : Nat} (hl : len ≤ 16) (HP : ro_P len pO pR) (H : ro_Win len pO pR pN reg cel RP L FP 1 op nm ps wr rd al st bt rs cl nx) (hL : L < 8)
    (h : ∀ (FP' FG' : Int32) (op' nm' ps' wr' rd' al' st' bt' rs' cl' nx' : Nat → Int32), ro_Win len pO pR pN reg cel RP (L + 1) FP' FG' op' nm' ps' wr' rd' al' st' bt' rs' cl' nx' → (∀ i, i < L → st' i = st i ∧ bt' i = bt i) → post (nI len, SU, RP, FC, ZG, nI L, FP', FG', pO, pR, pN, reg, cel, op', nm', ps', wr', rd', al', st', bt', rs', cl', nx')) :
    wpX_fetchInto post (nI len, SU, RP, FC, ZG, nI L, FP, 1, pO, pR, pN, reg, cel, op, nm, ps, wr, rd, al, st, bt, rs, cl, nx) (nI L) := by
  have v : vp_in (nI L) 8 := vp_in_nI hL (by omega)
  have ce : (nI L).toNatClampNeg = L := nI_clamp (by omega)
  have out : (FP < 0 ∨ nI len ≤ FP) → wX_fetchInto_42 post (nI L) (nI len) SU RP FC ZG (nI L) FP 1 pO pR pN reg cel op nm (upd ps L FP) wr rd al st bt (upd rs L 0) (upd cl L 0) nx := by
    intro ho
    refine ro_fi42 hL (fun rd' al' h2 h4 => h FP 0 _ _ _ _ _ _ _ _ _ _ _ (ro_Win_f H hL (fun i hi => ?_) (Or.inl ⟨pk_us, pk_us, ?_, ?_⟩) pk_us (Or.inr ⟨rfl, Or.inr pk_us⟩)) (fun i hi => ⟨pk_un (by omega), rfl⟩))
    · exact ⟨pk_un (by omega), rfl, pk_un (by omega), pk_un (by omega), h2 i (by omega), h4 i (by omega), pk_un (by omega), rfl, pk_un (by omega), pk_un (by omega), rfl⟩
    · rw [pk_us]; rfl
    · rw [pk_us]; exact ro_out hl ho
  refine ⟨v, nm_r (e' := upd ps L FP) (by rw [ce]) ⟨v, nm_r (e' := upd rs L 0) (by rw [ce]) ⟨v, nm_r (e' := upd cl L 0) (by rw [ce]) ?_⟩⟩⟩
  rcases pk_ix FP (n := len) (by omega) with h1 | h1 | ⟨p, hp, e⟩
  · exact br_t h1 (out (Or.inl h1))
  · have h0 : ¬ FP < 0 := fun z => nI_pos (n := len) (by omega) (Int32.lt_of_le_of_lt h1 z)
    exact br_f h0 (br_f (Int32.not_lt.mpr h1) (out (Or.inr h1)))
  · subst e
    obtain ⟨o, a, b, c, ho, ha, hb, hc, e1, e2⟩ := HP p hp
    have vp : vp_in (nI p) 16 := vp_in_nI (by omega) (by omega)
    have cp : (nI p).toNatClampNeg = p := nI_clamp (by omega)
    refine br_f (nI_pos (by omega)) (br_t (nI_lt hp (by omega)) ⟨vp, nm_r (e' := nI o) (by rw [cp]; exact e1) ⟨vp, v, nm_r (e' := upd nm L (pN p)) (by rw [ce, cp]) ⟨vp, ?_⟩⟩⟩)
    rw [cp, e2]
    refine ro_xdc hL (by omega) ha hb hc (fun rd' al' q1 q2 q3 q4 => ⟨v, nm_r (e' := upd st L 0) (by rw [ce]) (ro_xbo ho (fun t t1 t6 => ⟨v, nm_r (e' := upd bt L (nI t)) (by rw [ce]) (ro_xen hL ho pk_us (fun r hr => ⟨v, nm_r (e' := upd nx L r) (by rw [ce]) ⟨v, nm_r (e' := r) (by rw [ce]; exact pk_us) ?_⟩⟩))⟩))⟩)
    rw [pk_us, pk_us] at hr
    have W : ∀ FG' : Int32, (FG' = 1 ∨ (FG' = 0 ∧ o = 8)) → ro_Win len pO pR pN reg cel RP (L + 1) r FG' (upd op L (nI o)) (upd nm L (pN p)) (upd ps L (nI p)) (upd wr L (ro_wf o a)) rd' al' (upd st L 0) (upd bt L (nI t)) (upd rs L 0) (upd cl L 0) (upd nx L r) := by
      intro FG' hg
      refine ro_Win_f H hL (fun i hi => ?_) ?_ pk_us ?_
      · exact ⟨pk_un (by omega), pk_un (by omega), pk_un (by omega), pk_un (by omega), q2 i (by omega), q4 i (by omega), pk_un (by omega), pk_un (by omega), pk_un (by omega), pk_un (by omega), pk_un (by omega)⟩
      · rw [pk_us, pk_us, pk_us, pk_us, pk_us, pk_us, pk_us, pk_us, pk_us, q1, q3]
        exact ro_En_f hp ho ha hb hc e1 e2 t1 t6 hr
      · rcases hg with hg | ⟨hg, h8⟩
        · exact Or.inl ⟨hg, pk_us.symm⟩
        · refine Or.inr ⟨hg, Or.inl ?_⟩
          rw [pk_us, h8]; rfl
    have F : ∀ i, i < L → upd st L 0 i = st i ∧ upd bt L (nI t) i = bt i := fun i hi => ⟨pk_un (by omega), pk_un (by omega)⟩
    exact pk_eq o 8 (fun z => h _ 0 _ _ _ _ _ _ _ _ _ _ _ (W 0 (Or.inr ⟨rfl, z⟩)) F) (fun z => h _ 1 _ _ _ _ _ _ _ _ _ _ _ (W 1 (Or.inl rfl)) F)
theorem ro_xfs_l {post : SX → Prop} {len L0 : Nat} {s0 b0 : Int32} (hl : len ≤ 16) (HP : ro_P len pO pR)
    (h : ∀ (L : Nat) (FP FG : Int32) (op nm ps wr rd al st bt rs cl nx : Nat → Int32), ro_Win len pO pR pN reg cel RP L FP FG op nm ps wr rd al st bt rs cl nx → 0 < L → (0 < L0 → st 0 = s0 ∧ bt 0 = b0) → post (nI len, SU, RP, FC, ZG, nI L, FP, FG, pO, pR, pN, reg, cel, op, nm, ps, wr, rd, al, st, bt, rs, cl, nx)) :
    ∀ (d i n L : Nat) (FP FG : Int32) (op nm ps wr rd al st bt rs cl nx : Nat → Int32), i + d = 2 → d < n → ro_Win len pO pR pN reg cel RP L FP FG op nm ps wr rd al st bt rs cl nx → (i = 0 ∨ 0 < L) → (0 < L0 → 0 < L ∧ st 0 = s0 ∧ bt 0 = b0) →
    wX_fetchSome_2 post n (nI i) (nI len) SU RP FC ZG (nI L) FP FG pO pR pN reg cel op nm ps wr rd al st bt rs cl nx := by
  intro d
  induction d with
  | zero =>
    intro i n L FP FG op nm ps wr rd al st bt rs cl nx hi hn H hL h0
    obtain ⟨n, rfl⟩ : ∃ q, n = q + 1 := ⟨n - 1, by omega⟩
    rw [wX_fetchSome_2]
    exact pk_le 2 i (fun _ => h L FP FG op nm ps wr rd al st bt rs cl nx H (by omega) (fun z => (h0 z).2)) (fun z => absurd z (by omega))
  | succ d ih =>
    intro i n L FP FG op nm ps wr rd al st bt rs cl nx hi hn H hL h0
    obtain ⟨n, rfl⟩ : ∃ q, n = q + 1 := ⟨n - 1, by omega⟩
    rw [wX_fetchSome_2]
    refine pk_le 2 i (fun z => absurd z (by omega)) (fun _ => ?_)
    have L8 := H.1
    rcases H.2.2.2.2 with ⟨g, _⟩ | ⟨g, e, he, _⟩
    · subst g
      refine br_f (by decide) (pk_le 8 L (fun z => nm_r (nI_1 i) (ih (i + 1) n L FP 1 op nm ps wr rd al st bt rs cl nx (by omega) (by omega) H (by omega) h0)) (fun z => ?_))
      refine ro_xfi hl HP H (by omega) (fun FP' FG' op' nm' ps' wr' rd' al' st' bt' rs' cl' nx' W F => nm_r (nI_1 L) (nm_r (nI_1 i) (ih (i + 1) n (L + 1) FP' FG' op' nm' ps' wr' rd' al' st' bt' rs' cl' nx' (by omega) (by omega) W (by omega) (fun z0 => ?_))))
      obtain ⟨y1, y2, y3⟩ := h0 z0
      exact ⟨by omega, (F 0 y1).1.trans y2, (F 0 y1).2.trans y3⟩
    · subst g
      exact br_t rfl (nm_r (nI_1 i) (ih (i + 1) n L FP 0 op nm ps wr rd al st bt rs cl nx (by omega) (by omega) H (by omega) h0))
theorem ro_xfs {post : SX → Prop} {len L : Nat} (hl : len ≤ 16) (HP : ro_P len pO pR) (H : ro_Win len pO pR pN reg cel RP L FP FG op nm ps wr rd al st bt rs cl nx)
    (h : ∀ (L' : Nat) (FP' FG' : Int32) (op' nm' ps' wr' rd' al' st' bt' rs' cl' nx' : Nat → Int32), ro_Win len pO pR pN reg cel RP L' FP' FG' op' nm' ps' wr' rd' al' st' bt' rs' cl' nx' → 0 < L' → (0 < L → st' 0 = st 0 ∧ bt' 0 = bt 0) → post (nI len, SU, RP, FC, ZG, nI L', FP', FG', pO, pR, pN, reg, cel, op', nm', ps', wr', rd', al', st', bt', rs', cl', nx')) :
    wpX_fetchSome post (nI len, SU, RP, FC, ZG, nI L, FP, FG, pO, pR, pN, reg, cel, op, nm, ps, wr, rd, al, st, bt, rs, cl, nx) :=
  ⟨3, ro_xfs_l hl HP h 2 0 3 L FP FG op nm ps wr rd al st bt rs cl nx (by omega) (by omega) H (Or.inl rfl) (fun z => ⟨z, rfl, rfl⟩)⟩
end
end
section
section
variable {PL SU RP FC ZG WL FP FG : Int32} {pO pR pN reg cel op nm ps wr rd al st bt rs cl nx : Nat → Int32}
theorem ro_xdiv {post : SX → Prop} {e : Nat} {v w : Int32} (he : e < 8) (h0 : w = 0 → post (PL, SU, RP, FC, ZG, WL, FP, FG, pO, pR, pN, reg, cel, op, nm, ps, wr, rd, al, upd st e 2, bt, rs, cl, nx)) (h1 : ¬ w = 0 → post (PL, SU, RP, FC, ZG, WL, FP, FG, pO, pR, pN, reg, cel, op, nm, ps, wr, rd, al, st, bt, upd rs e (v / w), cl, nx)) : wpX_divide post (PL, SU, RP, FC, ZG, WL, FP, FG, pO, pR, pN, reg, cel, op, nm, ps, wr, rd, al, st, bt, rs, cl, nx) (nI e) v w := by
  have q : vp_in (nI e) 8 := vp_in_nI he (by omega)
  have ce : (nI e).toNatClampNeg = e := nI_clamp (by omega)
  exact br_c (fun z => ⟨q, nm_r (e' := upd st e 2) (by rw [ce]) (h0 z)⟩) (fun z => ⟨z, q, nm_r (e' := upd rs e (v / w)) (by rw [ce]) (h1 z)⟩)
theorem ro_xload {post : SX → Prop} {e : Nat} {v : Int32} (he : e < 8) (h0 : v < 0 → post (PL, SU, RP, FC, ZG, WL, FP, FG, pO, pR, pN, reg, cel, op, nm, ps, wr, rd, al, upd st e 2, bt, rs, cl, nx)) (h1 : ¬ v < 0 → ∀ j, j < 8 → v &&& 7 = nI j → post (PL, SU, RP, FC, ZG, WL, FP, FG, pO, pR, pN, reg, cel, op, nm, ps, wr, rd, al, st, bt, upd rs e (ro_c cel op cl rs j e), cl, nx)) : wpX_load post (PL, SU, RP, FC, ZG, WL, FP, FG, pO, pR, pN, reg, cel, op, nm, ps, wr, rd, al, st, bt, rs, cl, nx) (nI e) v := by
  have q : vp_in (nI e) 8 := vp_in_nI he (by omega)
  have ce : (nI e).toNatClampNeg = e := nI_clamp (by omega)
  obtain ⟨j, hj, ej⟩ := pk_andE v (m := 7) 3 (by decide)
  unfold wpX_load
  dsimp only
  rw [ej]
  exact br_c (fun z => ro_xcf (by omega) (by omega) ⟨q, nm_r (e' := upd rs e (ro_c cel op cl rs j e)) (by rw [ce]) (h1 (Int32.not_lt.mpr z) j (by omega) ej)⟩) (fun z => ⟨q, nm_r (e' := upd st e 2) (by rw [ce]) (h0 (Int32.not_le.mp z))⟩)
theorem ro_xstore {post : SX → Prop} {e : Nat} {v w : Int32} (he : e < 8) (h0 : v < 0 → post (PL, SU, RP, FC, ZG, WL, FP, FG, pO, pR, pN, reg, cel, op, nm, ps, wr, rd, al, upd st e 2, bt, rs, cl, nx)) (h1 : ¬ v < 0 → ∀ j, j < 8 → v &&& 7 = nI j → post (PL, SU, RP, FC, ZG, WL, FP, FG, pO, pR, pN, reg, cel, op, nm, ps, wr, rd, al, st, bt, upd rs e w, upd cl e (nI j), nx)) : wpX_store post (PL, SU, RP, FC, ZG, WL, FP, FG, pO, pR, pN, reg, cel, op, nm, ps, wr, rd, al, st, bt, rs, cl, nx) (nI e) v w := by
  have q : vp_in (nI e) 8 := vp_in_nI he (by omega)
  have ce : (nI e).toNatClampNeg = e := nI_clamp (by omega)
  obtain ⟨j, hj, ej⟩ := pk_andE v (m := 7) 3 (by decide)
  exact br_c (fun z => ⟨q, nm_r (e' := upd cl e (nI j)) (by rw [ce, ej]) ⟨q, nm_r (e' := upd rs e w) (by rw [ce]) (h1 (Int32.not_lt.mpr z) j (by omega) ej)⟩⟩) (fun z => ⟨q, nm_r (e' := upd st e 2) (by rw [ce]) (h0 (Int32.not_le.mp z))⟩)
theorem ro_xsg21 {post : SX → Prop} {e : Nat} {y : Int32} (he : e < 8) (h0 : y = nx e → post (PL, SU, RP, FC, ZG, WL, FP, FG, pO, pR, pN, reg, cel, op, nm, ps, wr, rd, al, st, bt, rs, cl, nx)) (h1 : ¬ y = nx e → post (PL, SU, RP, FC, ZG, nI (e + 1), y, 1, pO, pR, pN, reg, cel, op, nm, ps, wr, rd, al, st, bt, rs, cl, upd nx e y)) : wX_settleGuess_21 post (nI e) y PL SU RP FC ZG WL FP FG pO pR pN reg cel op nm ps wr rd al st bt rs cl nx := by
  have q : vp_in (nI e) 8 := vp_in_nI he (by omega)
  have ce : (nI e).toNatClampNeg = e := nI_clamp (by omega)
  unfold wX_settleGuess_21
  rw [ce]
  exact ⟨q, br_c h0 (fun z => ⟨q, nm_e (nm_r (nI_1 e) (h1 z))⟩)⟩
theorem ro_xsg {post : SX → Prop} {e : Nat} {v : Int32} (he : e < 8) (h0 : (if v = 0 then nm e else ps e + 1) = nx e → post (PL, SU, RP, FC, ZG, WL, FP, FG, pO, pR, pN, reg, cel, op, nm, ps, wr, rd, al, st, bt, rs, cl, nx)) (h1 : ∀ y, y = (if v = 0 then nm e else ps e + 1) → ¬ y = nx e → post (PL, SU, RP, FC, ZG, nI (e + 1), y, 1, pO, pR, pN, reg, cel, op, nm, ps, wr, rd, al, st, bt, rs, cl, upd nx e y)) : wpX_settleGuess post (PL, SU, RP, FC, ZG, WL, FP, FG, pO, pR, pN, reg, cel, op, nm, ps, wr, rd, al, st, bt, rs, cl, nx) (nI e) v := by
  have q : vp_in (nI e) 8 := vp_in_nI he (by omega)
  have ce : (nI e).toNatClampNeg = e := nI_clamp (by omega)
  unfold wpX_settleGuess
  dsimp only
  rw [ce]
  refine br_c (fun z => ⟨q, ro_xsg21 he (fun y => h0 ((if_pos z).trans y)) (fun y => h1 _ (if_pos z).symm y)⟩) (fun z => ⟨q, ro_xsg21 he (fun y => h0 ((if_neg z).trans y)) (fun y => h1 _ (if_neg z).symm y)⟩)
theorem ro_xco {post : SX → Prop} {len L e : Nat} {bt0 : Nat → Int32} (H : ro_Win len pO pR pN reg cel RP L FP FG op nm ps wr rd al st bt0 rs cl nx) (he : e < L) (hs : st e = 0) (hb : ∀ i, ¬ i = e → bt i = bt0 i)
    (kd : ro_kk (fun x => ro_k wr st x e) (rd e)) (ka : ro_kk (fun x => ro_k wr st x e) (al e)) (ks : op e = 4 → ro_s op st e)
    (h : ∀ (L' : Nat) (FP' FG' : Int32) (st' rs' cl' nx' : Nat → Int32), ro_Win len pO pR pN reg cel RP L' FP' FG' op nm ps wr rd al st' bt rs' cl' nx' → e < L' → ¬ st' e = 0 → (∀ i, ¬ i = e → st' i = st i) → post (PL, SU, RP, FC, ZG, nI L', FP', FG', pO, pR, pN, reg, cel, op, nm, ps, wr, rd, al, st', bt, rs', cl', nx')) :
    wpX_carryOut post (PL, SU, RP, FC, ZG, nI L, FP, FG, pO, pR, pN, reg, cel, op, nm, ps, wr, rd, al, st, bt, rs, cl, nx) (nI e) := by
  have L8 := H.1
  have he8 : e < 8 := by omega
  have q : vp_in (nI e) 8 := vp_in_nI he8 (by omega)
  have ce : (nI e).toNatClampNeg = e := nI_clamp (by omega)
  have E0 : ro_En len pO pR pN (op e) (nm e) (ps e) (wr e) (rd e) (al e) 0 (bt0 e) (rs e) (cl e) (nx e) (fun a => ro_v reg wr rs a e) (fun a => ro_k wr st a e) (fun c => ro_c cel op cl rs c e) (ro_s op st e) := by
    have E := H.2.1 e he
    unfold ro_EA at E
    rw [hs] at E
    exact E
  obtain ⟨o, ho, hop, hd, ha, _⟩ := ro_En_w E0
  have hns : ¬ st e = 1 := by rw [hs]; decide
  unfold wpX_carryOut
  dsimp only
  rw [ce]
  refine ⟨q, ro_xvf (by omega) hd (fun v hv => ⟨q, ro_xvf (by omega) ha (fun w hw => ⟨q, nm_e ⟨q, nm_r hop ?_⟩⟩)⟩)⟩
  have F1 : ∀ (x : Int32) i, ¬ i = e → upd st e x i = st i := fun x i hi => pk_un hi
  have F2 : ∀ (x y : Int32) i, ¬ i = e → upd (upd st e x) e y i = st i := fun x y i hi => (pk_un hi).trans (pk_un hi)
  have Fr : ∀ (x : Int32) i, ¬ i = e → upd rs e x i = rs i := fun x i hi => pk_un hi
  have Fc : ∀ (x : Int32) i, ¬ i = e → upd cl e x i = cl i := fun x i hi => pk_un hi
  have Fn : ∀ (x : Int32) i, ¬ i = e → upd nx e x i = nx i := fun x i hi => pk_un hi
  have E1 : ∀ (s' r' c' n' : Int32), ((s' = 1 ∧ ro_Rs o (nm e) (ps e) (nx e) v w r' c' n' (fun c => ro_c cel op cl rs c e)) ∨ (s' = 2 ∧ n' = nx e ∧ ((o = 3 ∧ w = 0) ∨ ((o = 4 ∨ o = 5) ∧ v < 0)))) →
      ro_En len pO pR pN (op e) (nm e) (ps e) (wr e) (rd e) (al e) s' (bt e) r' c' n' (fun a => ro_v reg wr rs a e) (fun a => ro_k wr st a e) (fun c => ro_c cel op cl rs c e) (ro_s op st e) :=
    fun s' r' c' n' E => ro_fin E0 hop ho kd ka (fun z => ks (hop.trans (congrArg nI z))) hv hw E
  have K : ∀ st' rs' cl' : Nat → Int32, (∀ i, ¬ i = e → st' i = st i) → (∀ i, ¬ i = e → rs' i = rs i) → (∀ i, ¬ i = e → cl' i = cl i) → ((st' e = 1 ∧ ro_Rs o (nm e) (ps e) (nx e) v w (rs' e) (cl' e) (nx e) (fun c => ro_c cel op cl rs c e)) ∨ (st' e = 2 ∧ nx e = nx e ∧ ((o = 3 ∧ w = 0) ∨ ((o = 4 ∨ o = 5) ∧ v < 0)))) →
      post (PL, SU, RP, FC, ZG, nI L, FP, FG, pO, pR, pN, reg, cel, op, nm, ps, wr, rd, al, st', bt, rs', cl', nx) := by
    intro st' rs' cl' f1 f2 f3 E
    refine h L FP FG st' rs' cl' nx (ro_Win_j H hns (fun i hi => ⟨f1 i hi, hb i hi, f2 i hi, f3 i hi, rfl⟩) (E1 _ _ _ _ E) rfl) he ?_ f1
    rcases E with ⟨z, _⟩ | ⟨z, _⟩
    · rw [z]; decide
    · rw [z]; decide
  refine br_f (nI_pos (by omega)) (pk_lt 6 o (fun z => ?_) (fun z => pk_eq o 0 (fun z0 => ?_) (fun n0 => pk_eq o 1 (fun z1 => ?_) (fun n1 => pk_eq o 2 (fun z2 => ?_) (fun n2 => pk_eq o 3 (fun z3 => ?_) (fun n3 => pk_eq o 4 (fun z4 => ?_) (fun n4 => pk_eq o 5 (fun z5 => ?_) (fun n5 => pk_eq o 6 (fun z6 => ?_) (fun _ => trivial)))))))))
  · exact K _ _ _ (F1 1) (fun _ _ => rfl) (fun _ _ => rfl) (Or.inl ⟨pk_us, ⟨fun y => absurd y (by omega), fun y => absurd y (by omega), fun y => absurd y (by omega), fun y => absurd y (by omega), fun y => absurd y (by omega), fun y => absurd y (by omega), fun y => absurd y (by omega), fun _ => rfl⟩⟩)
  · exact ⟨q, q, nm_e (K _ _ _ (F1 1) (Fr _) (fun _ _ => rfl) (Or.inl ⟨pk_us, ⟨fun _ => pk_us, fun y => absurd y (by omega), fun y => absurd y (by omega), fun y => absurd y (by omega), fun y => absurd y (by omega), fun y => absurd y (by omega), fun y => absurd y (by omega), fun _ => rfl⟩⟩))⟩
  · exact ⟨q, nm_e (K _ _ _ (F1 1) (Fr _) (fun _ _ => rfl) (Or.inl ⟨pk_us, ⟨fun y => absurd y (by omega), fun _ => pk_us, fun y => absurd y (by omega), fun y => absurd y (by omega), fun y => absurd y (by omega), fun y => absurd y (by omega), fun y => absurd y (by omega), fun _ => rfl⟩⟩))⟩
  · exact ⟨q, nm_e (K _ _ _ (F1 1) (Fr _) (fun _ _ => rfl) (Or.inl ⟨pk_us, ⟨fun y => absurd y (by omega), fun y => absurd y (by omega), fun _ => pk_us, fun y => absurd y (by omega), fun y => absurd y (by omega), fun y => absurd y (by omega), fun y => absurd y (by omega), fun _ => rfl⟩⟩))⟩
  · exact ro_xdiv he8 (fun y0 => K _ _ _ (F2 1 2) (fun _ _ => rfl) (fun _ _ => rfl) (Or.inr ⟨pk_us, rfl, Or.inl ⟨z3, y0⟩⟩)) (fun y0 => K _ _ _ (F1 1) (Fr _) (fun _ _ => rfl) (Or.inl ⟨pk_us, ⟨fun y => absurd y (by omega), fun y => absurd y (by omega), fun y => absurd y (by omega), fun _ => ⟨y0, pk_us⟩, fun y => absurd y (by omega), fun y => absurd y (by omega), fun y => absurd y (by omega), fun _ => rfl⟩⟩))
  · exact ro_xload he8 (fun y0 => K _ _ _ (F2 1 2) (fun _ _ => rfl) (fun _ _ => rfl) (Or.inr ⟨pk_us, rfl, Or.inr ⟨Or.inl z4, y0⟩⟩)) (fun y0 j hj ej => K _ _ _ (F1 1) (Fr _) (fun _ _ => rfl) (Or.inl ⟨pk_us, ⟨fun y => absurd y (by omega), fun y => absurd y (by omega), fun y => absurd y (by omega), fun y => absurd y (by omega), fun _ => ⟨y0, j, hj, ej, pk_us⟩, fun y => absurd y (by omega), fun y => absurd y (by omega), fun _ => rfl⟩⟩))
  · exact ro_xstore he8 (fun y0 => K _ _ _ (F2 1 2) (fun _ _ => rfl) (fun _ _ => rfl) (Or.inr ⟨pk_us, rfl, Or.inr ⟨Or.inr z5, y0⟩⟩)) (fun y0 j hj ej => K _ _ _ (F1 1) (Fr _) (Fc _) (Or.inl ⟨pk_us, ⟨fun y => absurd y (by omega), fun y => absurd y (by omega), fun y => absurd y (by omega), fun y => absurd y (by omega), fun y => absurd y (by omega), fun _ => ⟨y0, j, hj, ej, pk_us, pk_us⟩, fun y => absurd y (by omega), fun _ => rfl⟩⟩))
  · refine ro_xsg he8 (fun y0 => K _ _ _ (F1 1) (fun _ _ => rfl) (fun _ _ => rfl) (Or.inl ⟨pk_us, ⟨fun y => absurd y (by omega), fun y => absurd y (by omega), fun y => absurd y (by omega), fun y => absurd y (by omega), fun y => absurd y (by omega), fun y => absurd y (by omega), fun _ => y0.symm, fun _ => rfl⟩⟩)) (fun y ey yn => ?_)
    refine h (e + 1) y 1 (upd st e 1) rs cl (upd nx e y) (ro_Win_x H he hns (fun i hi => ⟨F1 1 i hi, hb i hi, rfl, rfl, Fn y i hi⟩) (E1 _ _ _ _ (Or.inl ⟨pk_us, ⟨fun y => absurd y (by omega), fun y => absurd y (by omega), fun y => absurd y (by omega), fun y => absurd y (by omega), fun y => absurd y (by omega), fun y => absurd y (by omega), fun _ => pk_us.trans ey, fun y6 => absurd z6 y6⟩⟩)) pk_us.symm) (by omega) ?_ (F1 1)
    rw [pk_us]; decide
end
end
section
section
variable {PL SU RP FC ZG WL FP FG : Int32} {pO pR pN reg cel op nm ps wr rd al st bt rs cl nx : Nat → Int32}
theorem ro_xcr_l {post : SX → Prop} {len : Nat} {s0 b0 : Int32}
    (h : ∀ (L : Nat) (FP FG : Int32) (st bt rs cl nx : Nat → Int32), ro_Win len pO pR pN reg cel RP L FP FG op nm ps wr rd al st bt rs cl nx → 0 < L → ro_Pg s0 b0 (st 0) (bt 0) → post (PL, SU, RP, FC, ZG, nI L, FP, FG, pO, pR, pN, reg, cel, op, nm, ps, wr, rd, al, st, bt, rs, cl, nx)) :
    ∀ (m n L : Nat) (FP FG : Int32) (st bt rs cl nx : Nat → Int32), m ≤ 8 → m < n → ro_Win len pO pR pN reg cel RP L FP FG op nm ps wr rd al st bt rs cl nx → 0 < L → (0 < m → st 0 = s0 ∧ bt 0 = b0) → (m = 0 → ro_Pg s0 b0 (st 0) (bt 0)) →
    wX_carryOutReady_3 post n (nI m - 1) PL SU RP FC ZG (nI L) FP FG pO pR pN reg cel op nm ps wr rd al st bt rs cl nx := by
  intro m
  induction m with
  | zero =>
    intro n L FP FG st bt rs cl nx h8 hn H hL h1 h2
    obtain ⟨n, rfl⟩ : ∃ q, n = q + 1 := ⟨n - 1, by omega⟩
    rw [ro_z1, wX_carryOutReady_3]
    exact br_t (by decide) (h L FP FG st bt rs cl nx H hL (h2 rfl))
  | succ m ih =>
    intro n L FP FG st bt rs cl nx h8 hn H hL h1 h2
    obtain ⟨n, rfl⟩ : ∃ q, n = q + 1 := ⟨n - 1, by omega⟩
    rw [ro_p1, wX_carryOutReady_3]
    have L8 := H.1
    have ce : (nI m).toNatClampNeg = m := nI_clamp (by omega)
    have q : vp_in (nI m) 8 := vp_in_nI (by omega) (by omega)
    obtain ⟨i1, i2⟩ := h1 (by omega)
    have skip : (m = 0 → ro_Pg s0 b0 (st 0) (bt 0)) → wX_carryOutReady_3 post n (nI m - 1) PL SU RP FC ZG (nI L) FP FG pO pR pN reg cel op nm ps wr rd al st bt rs cl nx := fun hz => ih n L FP FG st bt rs cl nx (by omega) (by omega) H hL (fun _ => ⟨i1, i2⟩) hz
    refine br_f (nI_pos (by omega)) (pk_le L m (fun z => nm_r (ro_m1 m) (skip (fun y => absurd y (by omega)))) (fun z => ⟨q, ?_⟩))
    rw [ce]
    refine br_c (fun hs => ?_) (fun hs => nm_r (ro_m1 m) (skip (fun y => ?_)))
    · have E0 : ro_En len pO pR pN (op m) (nm m) (ps m) (wr m) (rd m) (al m) 0 (bt m) (rs m) (cl m) (nx m) (fun a => ro_v reg wr rs a m) (fun a => ro_k wr st a m) (fun c => ro_c cel op cl rs c m) (ro_s op st m) := by
        have E := H.2.1 m z
        unfold ro_EA at E
        rw [hs] at E
        exact E
      obtain ⟨o, ho, hop, hd, ha, t, t1, t6, et⟩ := ro_En_w E0
      refine ro_xir (by omega) hd ha (fun kd ka ks => br_f (by decide) ⟨q, q, nm_r (e' := upd bt m (nI (t - 1))) ?_ ⟨q, ?_⟩⟩) (fun hn => br_t rfl (nm_r (ro_m1 m) (skip (fun y => ?_))))
      · rw [et]
        obtain ⟨k, rfl⟩ : ∃ k, t = k + 1 := ⟨t - 1, by omega⟩
        rw [nI_pred]
        rfl
      · have fb : ∀ i, ¬ i = m → upd bt m (nI (t - 1)) i = bt i := fun i hi => pk_un hi
        rw [pk_us]
        refine pk_lt 0 (t - 1) (fun y => nm_r (ro_m1 m) ?_) (fun y => ?_)
        · refine ih n L FP FG st (upd bt m (nI (t - 1))) rs cl nx (by omega) (by omega) (ro_Win_j H (by rw [hs]; decide) (fun i hi => ⟨rfl, fb i hi, rfl, rfl, rfl⟩) ?_ rfl) hL (fun y0 => ⟨i1, (fb 0 (by omega)).trans i2⟩) (fun y0 => ?_)
          · rw [hs, pk_us]
            exact ro_En_b E0 (by omega) (by omega)
          · subst y0
            rw [pk_us, ← i1, ← i2]
            refine ⟨fun y1 => absurd hs y1, fun _ _ t' ht' et' => ?_⟩
            have tt : t = t' := (nI_eq (by omega) (by omega)).mp (et.symm.trans et')
            subst tt
            exact ⟨by omega, rfl⟩
        · refine ro_xco H z hs fb kd ka ks (fun L' FP' FG' st' rs' cl' nx' W he hns F => nm_r (ro_m1 m) (ih n L' FP' FG' st' _ rs' cl' nx' (by omega) (by omega) W (by omega) (fun y0 => ⟨(F 0 (by omega)).trans i1, (fb 0 (by omega)).trans i2⟩) (fun y0 => ?_)))
          subst y0
          exact ⟨fun _ => hns, fun _ y1 => absurd y1 hns⟩
      · subst y
        refine absurd ⟨fun _ _ _ => trivial, fun _ _ _ => trivial, fun _ j hj => absurd hj (by omega)⟩ hn
    · subst y
      rw [← i1]
      exact ⟨fun y1 => y1, fun y1 => absurd y1 hs⟩
theorem ro_xcr {post : SX → Prop} {len L : Nat} (H : ro_Win len pO pR pN reg cel RP L FP FG op nm ps wr rd al st bt rs cl nx) (hL : 0 < L)
    (h : ∀ (L' : Nat) (FP' FG' : Int32) (st' bt' rs' cl' nx' : Nat → Int32), ro_Win len pO pR pN reg cel RP L' FP' FG' op nm ps wr rd al st' bt' rs' cl' nx' → 0 < L' → ro_Pg (st 0) (bt 0) (st' 0) (bt' 0) → post (PL, SU, RP, FC, ZG, nI L', FP', FG', pO, pR, pN, reg, cel, op, nm, ps, wr, rd, al, st', bt', rs', cl', nx')) :
    wpX_carryOutReady post (PL, SU, RP, FC, ZG, nI L, FP, FG, pO, pR, pN, reg, cel, op, nm, ps, wr, rd, al, st, bt, rs, cl, nx) :=
  ⟨9, ro_xcr_l h 8 9 L FP FG st bt rs cl nx (by omega) (by omega) H hL (fun _ => ⟨rfl, rfl⟩) (fun z => absurd z (by omega))⟩
end
end
section
section
variable {PL SU RP FC ZG WL FP FG : Int32} {pO pR pN reg cel op nm ps wr rd al st bt rs cl nx : Nat → Int32}
theorem ro_xdo_l {post : SX → Prop} {L : Nat} (hL : L + 1 ≤ 8) (h : ∀ op' nm' ps' wr' rd' al' st' bt' rs' cl' nx' : Nat → Int32, (∀ i, i < L → op' i = op (i + 1) ∧ nm' i = nm (i + 1) ∧ ps' i = ps (i + 1) ∧ wr' i = wr (i + 1) ∧ rd' i = rd (i + 1) ∧ al' i = al (i + 1) ∧ st' i = st (i + 1) ∧ bt' i = bt (i + 1) ∧ rs' i = rs (i + 1) ∧ cl' i = cl (i + 1) ∧ nx' i = nx (i + 1)) → post (PL, SU, RP, FC, ZG, nI L, FP, FG, pO, pR, pN, reg, cel, op', nm', ps', wr', rd', al', st', bt', rs', cl', nx')) :
    ∀ (m d n : Nat) (op' nm' ps' wr' rd' al' st' bt' rs' cl' nx' : Nat → Int32), m + d = L → d < n → ro_sh op op' m → ro_sh nm nm' m → ro_sh ps ps' m → ro_sh wr wr' m → ro_sh rd rd' m → ro_sh al al' m → ro_sh st st' m → ro_sh bt bt' m → ro_sh rs rs' m → ro_sh cl cl' m → ro_sh nx nx' m → wX_dropOldest_2 post PL SU RP FC ZG (nI (L + 1)) FP FG n (nI (m + 1)) pO pR pN reg cel op' nm' ps' wr' rd' al' st' bt' rs' cl' nx' := by
  intro m d
  induction d generalizing m with
  | zero =>
    intro n op' nm' ps' wr' rd' al' st' bt' rs' cl' nx' hm hn k0 k1 k2 k3 k4 k5 k6 k7 k8 k9 k10
    obtain ⟨n, rfl⟩ : ∃ q, n = q + 1 := ⟨n - 1, by omega⟩
    rw [wX_dropOldest_2]
    have e : m = L := by omega
    subst e
    exact pk_le (m + 1) (m + 1) (fun _ => nm_r (nI_pred m) (h _ _ _ _ _ _ _ _ _ _ _ (fun i hi => ⟨ro_sh_e k0 hi, ro_sh_e k1 hi, ro_sh_e k2 hi, ro_sh_e k3 hi, ro_sh_e k4 hi, ro_sh_e k5 hi, ro_sh_e k6 hi, ro_sh_e k7 hi, ro_sh_e k8 hi, ro_sh_e k9 hi, ro_sh_e k10 hi⟩))) (fun z => absurd z (by omega))
  | succ d ih =>
    intro n op' nm' ps' wr' rd' al' st' bt' rs' cl' nx' hm hn k0 k1 k2 k3 k4 k5 k6 k7 k8 k9 k10
    obtain ⟨n, rfl⟩ : ∃ q, n = q + 1 := ⟨n - 1, by omega⟩
    rw [wX_dropOldest_2]
    have q1 : vp_in (nI (m + 1)) 8 := vp_in_nI (by omega) (by omega)
    have q0 : vp_in (nI (m + 1) - 1) 8 := by rw [nI_pred]; exact vp_in_nI (by omega) (by omega)
    have c1 : (nI (m + 1)).toNatClampNeg = m + 1 := nI_clamp (by omega)
    have c0 : (nI (m + 1) - 1).toNatClampNeg = m := by rw [nI_pred]; exact nI_clamp (by omega)
    refine pk_le (L + 1) (m + 1) (fun z => absurd z (by omega)) (fun _ => ?_)
    exact ⟨q1, q0, nm_r (e' := upd op' m (op' (m + 1))) (by rw [c0, c1]) ⟨q1, q0, nm_r (e' := upd nm' m (nm' (m + 1))) (by rw [c0, c1]) ⟨q1, q0, nm_r (e' := upd ps' m (ps' (m + 1))) (by rw [c0, c1]) ⟨q1, q0, nm_r (e' := upd wr' m (wr' (m + 1))) (by rw [c0, c1]) ⟨q1, q0, nm_r (e' := upd rd' m (rd' (m + 1))) (by rw [c0, c1]) ⟨q1, q0, nm_r (e' := upd al' m (al' (m + 1))) (by rw [c0, c1]) ⟨q1, q0, nm_r (e' := upd st' m (st' (m + 1))) (by rw [c0, c1]) ⟨q1, q0, nm_r (e' := upd bt' m (bt' (m + 1))) (by rw [c0, c1]) ⟨q1, q0, nm_r (e' := upd rs' m (rs' (m + 1))) (by rw [c0, c1]) ⟨q1, q0, nm_r (e' := upd cl' m (cl' (m + 1))) (by rw [c0, c1]) ⟨q1, q0, nm_r (e' := upd nx' m (nx' (m + 1))) (by rw [c0, c1]) (nm_r (nI_1 (m + 1)) (ih (m + 1) n _ _ _ _ _ _ _ _ _ _ _ (by omega) (by omega) (ro_sh_s k0) (ro_sh_s k1) (ro_sh_s k2) (ro_sh_s k3) (ro_sh_s k4) (ro_sh_s k5) (ro_sh_s k6) (ro_sh_s k7) (ro_sh_s k8) (ro_sh_s k9) (ro_sh_s k10)))⟩⟩⟩⟩⟩⟩⟩⟩⟩⟩⟩
theorem ro_xdo {post : SX → Prop} {L : Nat} (hL : L + 1 ≤ 8) (h : ∀ op' nm' ps' wr' rd' al' st' bt' rs' cl' nx' : Nat → Int32, (∀ i, i < L → op' i = op (i + 1) ∧ nm' i = nm (i + 1) ∧ ps' i = ps (i + 1) ∧ wr' i = wr (i + 1) ∧ rd' i = rd (i + 1) ∧ al' i = al (i + 1) ∧ st' i = st (i + 1) ∧ bt' i = bt (i + 1) ∧ rs' i = rs (i + 1) ∧ cl' i = cl (i + 1) ∧ nx' i = nx (i + 1)) → post (PL, SU, RP, FC, ZG, nI L, FP, FG, pO, pR, pN, reg, cel, op', nm', ps', wr', rd', al', st', bt', rs', cl', nx')) : wpX_dropOldest post (PL, SU, RP, FC, ZG, nI (L + 1), FP, FG, pO, pR, pN, reg, cel, op, nm, ps, wr, rd, al, st, bt, rs, cl, nx) :=
  ⟨L + 1, ro_xdo_l hL h 0 L (L + 1) op nm ps wr rd al st bt rs cl nx (by omega) (by omega) (ro_sh_0 _) (ro_sh_0 _) (ro_sh_0 _) (ro_sh_0 _) (ro_sh_0 _) (ro_sh_0 _) (ro_sh_0 _) (ro_sh_0 _) (ro_sh_0 _) (ro_sh_0 _) (ro_sh_0 _)⟩
theorem ro_xfo_w {post : SX → Prop} {L : Nat} (hL : L ≤ 8) (hp : 0 < L) (hs : st 0 = 0) (h : post (PL, SU, RP, FC, ZG, nI L, FP, FG, pO, pR, pN, reg, cel, op, nm, ps, wr, rd, al, st, bt, rs, cl, nx)) : wpX_finishOldest post (PL, SU, RP, FC, ZG, nI L, FP, FG, pO, pR, pN, reg, cel, op, nm, ps, wr, rd, al, st, bt, rs, cl, nx) :=
  pk_eq L 0 (fun _ => h) (fun _ => br_t hs h)
theorem ro_xfo_t {post : SX → Prop} {L : Nat} (hL : L ≤ 8) (hp : 0 < L) (hs : st 0 = 2) (h : post (PL, 3, RP, FC, ZG, 0, FP, FG, pO, pR, pN, reg, cel, op, nm, ps, wr, rd, al, st, bt, rs, cl, nx)) : wpX_finishOldest post (PL, SU, RP, FC, ZG, nI L, FP, FG, pO, pR, pN, reg, cel, op, nm, ps, wr, rd, al, st, bt, rs, cl, nx) :=
  pk_eq L 0 (fun z => absurd z (by omega)) (fun _ => br_f (by rw [hs]; decide) (br_t hs h))
theorem ro_xfo_h {post : SX → Prop} {L : Nat} (hL : L ≤ 8) (hp : 0 < L) (hs : st 0 = 1) (ho : op 0 = 8) (h : post (PL, 2, RP, FC + 1, ZG, 0, FP, FG, pO, pR, pN, reg, cel, op, nm, ps, wr, rd, al, st, bt, rs, cl, nx)) : wpX_finishOldest post (PL, SU, RP, FC, ZG, nI L, FP, FG, pO, pR, pN, reg, cel, op, nm, ps, wr, rd, al, st, bt, rs, cl, nx) :=
  pk_eq L 0 (fun z => absurd z (by omega)) (fun _ => br_f (by rw [hs]; decide) (br_f (by rw [hs]; decide) (nm_e (br_t ho h))))
theorem ro_xfo_114 {post : SX → Prop} {L : Nat} (hL : L + 1 ≤ 8) (h : ∀ op' nm' ps' wr' rd' al' st' bt' rs' cl' nx' : Nat → Int32, (∀ i, i < L → op' i = op (i + 1) ∧ nm' i = nm (i + 1) ∧ ps' i = ps (i + 1) ∧ wr' i = wr (i + 1) ∧ rd' i = rd (i + 1) ∧ al' i = al (i + 1) ∧ st' i = st (i + 1) ∧ bt' i = bt (i + 1) ∧ rs' i = rs (i + 1) ∧ cl' i = cl (i + 1) ∧ nx' i = nx (i + 1)) → post (PL, SU, nx 0, FC, ZG, nI L, FP, FG, pO, pR, pN, reg, cel, op', nm', ps', wr', rd', al', st', bt', rs', cl', nx')) : wX_finishOldest_114 post PL SU RP FC ZG (nI (L + 1)) FP FG pO pR pN reg cel op nm ps wr rd al st bt rs cl nx :=
  nm_e (ro_xdo hL h)
theorem ro_xfo_87 {post : SX → Prop} {L : Nat} (hL : L + 1 ≤ 8) (hj : op 0 = 5 → ∃ j, j < 8 ∧ cl 0 = nI j) (h : ∀ cel' op' nm' ps' wr' rd' al' st' bt' rs' cl' nx' : Nat → Int32, (op 0 = 5 → ∀ j, j < 8 → cl 0 = nI j → cel' = upd cel j (rs 0)) → (¬ op 0 = 5 → cel' = cel) → (∀ i, i < L → op' i = op (i + 1) ∧ nm' i = nm (i + 1) ∧ ps' i = ps (i + 1) ∧ wr' i = wr (i + 1) ∧ rd' i = rd (i + 1) ∧ al' i = al (i + 1) ∧ st' i = st (i + 1) ∧ bt' i = bt (i + 1) ∧ rs' i = rs (i + 1) ∧ cl' i = cl (i + 1) ∧ nx' i = nx (i + 1)) → post (PL, SU, nx 0, FC, ZG, nI L, FP, FG, pO, pR, pN, reg, cel', op', nm', ps', wr', rd', al', st', bt', rs', cl', nx')) : wX_finishOldest_87 post PL SU RP FC ZG (nI (L + 1)) FP FG pO pR pN reg cel op nm ps wr rd al st bt rs cl nx := by
  refine br_c (fun z => ?_) (fun z => ro_xfo_114 hL (fun op' nm' ps' wr' rd' al' st' bt' rs' cl' nx' k => h cel op' nm' ps' wr' rd' al' st' bt' rs' cl' nx' (fun y => absurd y z) (fun _ => rfl) k))
  obtain ⟨j, hj8, ej⟩ := hj z
  refine ⟨by rw [ej]; exact vp_in_nI hj8 (by omega), nm_r (e' := upd cel j (rs 0)) (by rw [ej, nI_clamp (by omega)]) (ro_xfo_114 hL (fun op' nm' ps' wr' rd' al' st' bt' rs' cl' nx' k => h (upd cel j (rs 0)) op' nm' ps' wr' rd' al' st' bt' rs' cl' nx' (fun _ i hi ei => ?_) (fun y => absurd z y) k))⟩
  have e : j = i := (nI_eq (by omega) (by omega)).mp (ej.symm.trans ei)
  rw [e]
theorem ro_xfo_d {post : SX → Prop} {L : Nat} (hL : L + 1 ≤ 8) (hs : st 0 = 1) (h8 : ¬ op 0 = 8) (ha : wr 0 = -1 ∨ ∃ a, a < 4 ∧ wr 0 = nI a) (hj : op 0 = 5 → ∃ j, j < 8 ∧ cl 0 = nI j)
    (h : ∀ reg' cel' op' nm' ps' wr' rd' al' st' bt' rs' cl' nx' : Nat → Int32, (wr 0 = -1 → reg' = reg) → (∀ a, a < 4 → wr 0 = nI a → reg' = upd reg a (rs 0)) → (op 0 = 5 → ∀ j, j < 8 → cl 0 = nI j → cel' = upd cel j (rs 0)) → (¬ op 0 = 5 → cel' = cel) → (∀ i, i < L → op' i = op (i + 1) ∧ nm' i = nm (i + 1) ∧ ps' i = ps (i + 1) ∧ wr' i = wr (i + 1) ∧ rd' i = rd (i + 1) ∧ al' i = al (i + 1) ∧ st' i = st (i + 1) ∧ bt' i = bt (i + 1) ∧ rs' i = rs (i + 1) ∧ cl' i = cl (i + 1) ∧ nx' i = nx (i + 1)) → post (PL, SU, nx 0, FC + 1, ZG, nI L, FP, FG, pO, pR, pN, reg', cel', op', nm', ps', wr', rd', al', st', bt', rs', cl', nx')) : wpX_finishOldest post (PL, SU, RP, FC, ZG, nI (L + 1), FP, FG, pO, pR, pN, reg, cel, op, nm, ps, wr, rd, al, st, bt, rs, cl, nx) := by
  refine pk_eq (L + 1) 0 (fun z => absurd z (by omega)) (fun _ => br_f (by rw [hs]; decide) (br_f (by rw [hs]; decide) (nm_e (br_f h8 ?_))))
  rcases ha with ha | ⟨a, ha4, ha⟩
  · exact br_t ha (ro_xfo_87 hL hj (fun cel' op' nm' ps' wr' rd' al' st' bt' rs' cl' nx' k1 k2 k => h reg cel' op' nm' ps' wr' rd' al' st' bt' rs' cl' nx' (fun _ => rfl) (fun a h4 y => absurd (y.symm.trans ha) (ro_nn (by omega))) k1 k2 k))
  · refine br_f (by rw [ha]; exact ro_nn (by omega)) ⟨by rw [ha]; exact vp_in_nI ha4 (by omega), nm_r (e' := upd reg a (rs 0)) (by rw [ha, nI_clamp (by omega)]) (ro_xfo_87 hL hj (fun cel' op' nm' ps' wr' rd' al' st' bt' rs' cl' nx' k1 k2 k => h (upd reg a (rs 0)) cel' op' nm' ps' wr' rd' al' st' bt' rs' cl' nx' (fun y => absurd (ha.symm.trans y) (ro_nn (by omega))) (fun i hi ei => ?_) k1 k2 k))⟩
    have e : a = i := (nI_eq (by omega) (by omega)).mp (ha.symm.trans ei)
    rw [e]
end
end
section
section
variable {SZ SU RP DN : Int32} {pO pR pN reg cel : Nat → Int32}
theorem ro_y113 {post : Int32 → SY → Prop} {p o a b c : Nat} {rsv clv nxv : Int32} {R' C' : Nat → Int32} (hp : p < 16) (ho : o ≤ 8) (ha : a < 4) (hb : b < 4) (hc : c < 4)
    (D : ro_Dn o a b c (pN p) (nI p) rsv clv nxv reg (fun _ => True) cel True) (N : ro_Nx o (pN p) (nI p) nxv)
    (hR : o ≤ 4 → R' = upd reg a rsv) (hR0 : 4 < o → R' = reg) (hC : o = 5 → ∀ j, j < 8 → clv = nI j → C' = upd cel j rsv) (hC0 : ¬ o = 5 → C' = cel)
    (h8 : o = 8 → post 1 (SZ, 2, nI p, DN, pO, pR, pN, reg, cel)) (h : ¬ o = 8 → post 1 (SZ, SU, nxv, DN, pO, pR, pN, R', C')) : wY_step_113 post (nI o) (nI a) (nI b) (nI c) (nI p + 1) SZ SU (nI p) DN pO pR pN reg cel := by
  obtain ⟨D0, D1, D2, D3, D4, D5, D6⟩ := D
  have vp : vp_in (nI p) 16 := vp_in_nI hp (by omega)
  have va : vp_in (nI a) 4 := vp_in_nI ha (by omega)
  have vb : vp_in (nI b) 4 := vp_in_nI hb (by omega)
  have vc : vp_in (nI c) 4 := vp_in_nI hc (by omega)
  have cp : (nI p).toNatClampNeg = p := nI_clamp (by omega)
  have ca : (nI a).toNatClampNeg = a := nI_clamp (by omega)
  have cb : (nI b).toNatClampNeg = b := nI_clamp (by omega)
  have cc : (nI c).toNatClampNeg = c := nI_clamp (by omega)
  have K4 : o ≤ 4 → post 1 (SZ, SU, nI p + 1, DN, pO, pR, pN, upd reg a rsv, cel) := by
    intro z
    have q := h (by omega)
    rw [hR z, hC0 (by omega), N.2 (by omega) (by omega)] at q
    exact q
  unfold wY_step_113
  rw [cp, ca, cb, cc]
  refine pk_eq o 0 (fun z => ?_) (fun n0 => pk_eq o 1 (fun z => ?_) (fun n1 => pk_eq o 2 (fun z => ?_) (fun n2 => pk_eq o 3 (fun z => ?_) (fun n3 => pk_eq o 4 (fun z => ?_) (fun n4 => pk_eq o 5 (fun z => ?_) (fun n5 => pk_eq o 6 (fun z => ?_) (fun n6 => pk_eq o 7 (fun z => ?_) (fun n7 => h8 (by omega)))))))))
  · exact ⟨vp, va, nm_r (e' := upd reg a rsv) (by rw [D0 z]) (K4 (by omega))⟩
  · exact ⟨vb, vc, va, nm_r (e' := upd reg a rsv) (by rw [(D1 z).2.2]) (K4 (by omega))⟩
  · exact ⟨vb, vc, va, nm_r (e' := upd reg a rsv) (by rw [(D2 z).2.2]) (K4 (by omega))⟩
  · obtain ⟨_, _, y1, y2⟩ := D3 z
    exact ⟨vc, nm_e (br_f y1 ⟨vb, y1, va, nm_r (e' := upd reg a rsv) (by rw [y2]) (K4 (by omega))⟩)⟩
  · obtain ⟨_, _, y1, j, y2, y3, y4⟩ := D4 z
    exact ⟨vb, by rw [y3]; exact vp_in_nI y2 (by omega), va, nm_r (e' := upd reg a rsv) (by rw [y3, nI_clamp (by omega), y4]) (K4 (by omega))⟩
  · obtain ⟨_, _, y1, j, y2, y3, y4, y5⟩ := D5 z
    have q := h (by omega)
    rw [hR0 (by omega), hC z j y2 y4, N.2 (by omega) (by omega)] at q
    exact ⟨vb, va, by rw [y3]; exact vp_in_nI y2 (by omega), nm_r (e' := upd cel j rsv) (by rw [y3, nI_clamp (by omega), y5]) q⟩
  · have q := h (by omega)
    rw [hR0 (by omega), hC0 (by omega)] at q
    have y := (D6 z).2
    refine ⟨va, br_c (fun y0 => ⟨vp, nm_r (e' := nxv) ?_ q⟩) (fun y0 => ?_)⟩
    · rw [y, if_pos y0]
    · rw [y, if_neg y0] at q
      exact q
  · have q := h (by omega)
    rw [hR0 (by omega), hC0 (by omega), N.1 z] at q
    exact ⟨vp, nm_e q⟩
theorem ro_yin {post : Int32 → SY → Prop} {len p o a b c : Nat} (hl : len ≤ 16) (hp : p < len) (ho : o ≤ 8) (ha : a < 4) (hb : b < 4) (hc : c < 4) (e1 : pO p = nI o) (e2 : pR p = nI (a + 4 * b + 16 * c))
    (h0 : (o = 3 ∧ reg c = 0) ∨ ((o = 4 ∨ o = 5) ∧ reg b < 0) → post 0 (nI len, SU, nI p, DN, pO, pR, pN, reg, cel))
    (h1 : ¬ ((o = 3 ∧ reg c = 0) ∨ ((o = 4 ∨ o = 5) ∧ reg b < 0)) → wY_step_113 post (nI o) (nI a) (nI b) (nI c) (nI p + 1) (nI len) SU (nI p) DN pO pR pN reg cel) : wpY_step post (nI len, SU, nI p, DN, pO, pR, pN, reg, cel) := by
  have vp : vp_in (nI p) 16 := vp_in_nI (by omega) (by omega)
  have vb : vp_in (nI b) 4 := vp_in_nI hb (by omega)
  have vc : vp_in (nI c) 4 := vp_in_nI hc (by omega)
  have cp : (nI p).toNatClampNeg = p := nI_clamp (by omega)
  have cb : (nI b).toNatClampNeg = b := nI_clamp (by omega)
  have cc : (nI c).toNatClampNeg = c := nI_clamp (by omega)
  have k96 : ((o = 4 ∨ o = 5) → ¬ reg b < 0) → wY_step_96 post (nI o) (nI a) (nI b) (nI c) (nI p + 1) (nI len) SU (nI p) DN pO pR pN reg cel := by
    intro hx
    unfold wY_step_96
    rw [cc]
    refine pk_eq o 3 (fun z => ⟨vc, br_c (fun y => h0 (Or.inl ⟨z, y⟩)) (fun y => h1 ?_)⟩) (fun z => h1 ?_)
    · intro w
      rcases w with w | w
      · exact y w.2
      · exact hx w.1 w.2
    · intro w
      rcases w with w | w
      · exact z w.1
      · exact hx w.1 w.2
  have k87 : (o = 4 ∨ o = 5) → wY_step_87 post (nI o) (nI a) (nI b) (nI c) (nI p + 1) (nI len) SU (nI p) DN pO pR pN reg cel := by
    intro hx
    unfold wY_step_87
    rw [cb]
    exact ⟨vb, br_c (fun y => h0 (Or.inr ⟨hx, y⟩)) (fun y => k96 (fun _ => y))⟩
  refine br_f (nI_pos (by omega)) (br_t (nI_lt hp (by omega)) ⟨vp, nm_r (e' := nI o) (by rw [cp]; exact e1) ⟨vp, nm_r (e' := nI a) (by rw [cp, e2]; exact ro_ba ha hb hc) ⟨vp, nm_r (e' := nI b) (by rw [cp, e2]; exact ro_bb ha hb hc) ⟨vp, nm_r (e' := nI c) (by rw [cp, e2]; exact ro_b4 ha hb hc) (nm_e ?_)⟩⟩⟩⟩)
  exact pk_eq o 4 (fun z => k87 (Or.inl z)) (fun n4 => pk_eq o 5 (fun z => k87 (Or.inr z)) (fun n5 => k96 (fun z => absurd z (by omega))))
theorem ro_yt {post : Int32 → SY → Prop} {len : Nat} {opv nmv wrv rdv alv btv rsv clv nxv : Int32} (hl : len ≤ 16) (E : ro_En len pO pR pN opv nmv RP wrv rdv alv 2 btv rsv clv nxv reg (fun _ => True) cel True) (h : post 0 (nI len, SU, RP, DN, pO, pR, pN, reg, cel)) : wpY_step post (nI len, SU, RP, DN, pO, pR, pN, reg, cel) := by
  rcases E with ⟨_, _, _, z⟩ | ⟨p, o, a, b, c, h1, h2, h3, h4, h5, h6, h7, h8, h9, h10, h11, h12, h13, h14, E⟩
  · rcases ro_outI hl z with y | y
    · exact br_t y h
    · have h0 : ¬ RP < 0 := fun z => nI_pos (n := len) (by omega) (Int32.lt_of_le_of_lt y z)
      exact br_f h0 (br_f (Int32.not_lt.mpr y) h)
  · subst h6
    refine ro_yin hl h1 h2 h3 h4 h5 h7 h8 (fun _ => h) (fun n => absurd ?_ n)
    rcases E with ⟨z, _⟩ | ⟨z, _⟩ | ⟨_, E⟩
    · exact absurd z (by decide)
    · exact absurd z (by decide)
    · rcases E with ⟨z, _, y⟩ | ⟨z, _, y⟩
      · exact Or.inl ⟨z, y⟩
      · exact Or.inr ⟨z, y⟩
theorem ro_yd {post : Int32 → SY → Prop} {len : Nat} {opv nmv wrv rdv alv btv rsv clv nxv : Int32} {R' C' : Nat → Int32} (hl : len ≤ 16) (E : ro_En len pO pR pN opv nmv RP wrv rdv alv 1 btv rsv clv nxv reg (fun _ => True) cel True)
    (hR0 : wrv = -1 → R' = reg) (hR : ∀ a, a < 4 → wrv = nI a → R' = upd reg a rsv) (hC : opv = 5 → ∀ j, j < 8 → clv = nI j → C' = upd cel j rsv) (hC0 : ¬ opv = 5 → C' = cel)
    (h8 : opv = 8 → post 1 (nI len, 2, RP, DN, pO, pR, pN, reg, cel)) (h : ¬ opv = 8 → post 1 (nI len, SU, nxv, DN, pO, pR, pN, R', C')) : wpY_step post (nI len, SU, RP, DN, pO, pR, pN, reg, cel) := by
  rcases E with ⟨_, z, _, _⟩ | ⟨p, o, a, b, c, h1, h2, h3, h4, h5, h6, h7, h8', h9, h10, h11, h12, h13, h14, E⟩
  · exact absurd z (by decide)
  · subst h6
    rcases E with ⟨z, _⟩ | ⟨_, D⟩ | ⟨z, _⟩
    · exact absurd z (by decide)
    · subst h9
      have q5 : o = 5 → opv = 5 := fun z => by rw [h10, z]; rfl
      have q5' : ¬ o = 5 → ¬ opv = 5 := fun z y => z ((nI_eq (b := 5) (by omega) (by omega)).mp (h10.symm.trans y))
      have q8 : o = 8 → opv = 8 := fun z => by rw [h10, z]; rfl
      have q8' : ¬ o = 8 → ¬ opv = 8 := fun z y => z ((nI_eq (b := 8) (by omega) (by omega)).mp (h10.symm.trans y))
      refine ro_yin hl h1 h2 h3 h4 h5 h7 h8' (fun n => ?_) (fun n => ?_)
      · obtain ⟨D0, D1, D2, D3, D4, D5, D6⟩ := D
        rcases n with ⟨z, y⟩ | ⟨z, y⟩
        · exact absurd y (D3 z).2.2.1
        · rcases z with z | z
          · exact absurd y (D4 z).2.2.1
          · exact absurd y (D5 z).2.2.1
      · exact ro_y113 (R' := R') (C' := C') (by omega) h2 h3 h4 h5 D h14 (fun z => hR a h3 (h11.trans (ro_w1 z))) (fun z => hR0 (h11.trans (ro_w2 z))) (fun z => hC (q5 z)) (fun z => hC0 (q5' z)) (fun z => h8 (q8 z)) (fun z => h (q8' z))
    · exact absurd z (by decide)
theorem ro_En_d {len : Nat} {opv nmv psv wrv rdv alv btv rsv clv nxv : Int32} {V : Nat → Int32} {K : Nat → Prop} {C : Nat → Int32} {S : Prop} (E : ro_En len pO pR pN opv nmv psv wrv rdv alv 1 btv rsv clv nxv V K C S) : (wrv = -1 ∨ ∃ a, a < 4 ∧ wrv = nI a) ∧ (opv = 5 → ∃ j, j < 8 ∧ clv = nI j) ∧ ¬ opv = 9 := by
  rcases E with ⟨_, z, _, _⟩ | ⟨p, o, a, b, c, h1, h2, h3, h4, h5, h6, h7, h8, h9, h10, h11, h12, h13, h14, E⟩
  · exact absurd z (by decide)
  · refine ⟨?_, fun y => ?_, fun y => ?_⟩
    · by_cases z : o ≤ 4
      · exact Or.inr ⟨a, h3, h11.trans (ro_w1 z)⟩
      · exact Or.inl (h11.trans (ro_w2 (by omega)))
    · have z : o = 5 := (nI_eq (b := 5) (by omega) (by omega)).mp (h10.symm.trans y)
      rcases E with ⟨y, _⟩ | ⟨_, D0, D1, D2, D3, D4, D5, D6⟩ | ⟨y, _⟩
      · exact absurd y (by decide)
      · obtain ⟨_, _, _, j, y2, _, y4, _⟩ := D5 z
        exact ⟨j, y2, y4⟩
      · exact absurd y (by decide)
    · have z : o = 9 := (nI_eq (b := 9) (by omega) (by omega)).mp (h10.symm.trans y)
      omega
theorem ro_hr {wrv rsv : Int32} {R' : Nat → Int32} (h : wrv = -1 ∨ ∃ a, a < 4 ∧ wrv = nI a) (hR0 : wrv = -1 → R' = reg) (hR : ∀ a, a < 4 → wrv = nI a → R' = upd reg a rsv) : ∀ a, a < 4 → R' a = if wrv = nI a then rsv else reg a := by
  intro a ha
  rcases h with h | ⟨x, hx, h⟩
  · rw [hR0 h, if_neg (by rw [h]; exact fun z => ro_nn (by omega) z.symm)]
  · rw [hR x hx h, h]
    by_cases z : a = x
    · subst z
      rw [pk_us, if_pos rfl]
    · rw [pk_un z, if_neg (fun y => z ((nI_eq (by omega) (by omega)).mp y).symm)]
theorem ro_hc {opv clv rsv : Int32} {C' : Nat → Int32} (h : opv = 5 → ∃ j, j < 8 ∧ clv = nI j) (hC : opv = 5 → ∀ j, j < 8 → clv = nI j → C' = upd cel j rsv) (hC0 : ¬ opv = 5 → C' = cel) : ∀ c, c < 8 → C' c = if opv = 5 ∧ clv = nI c then rsv else cel c := by
  intro c hc
  by_cases h5 : opv = 5
  · obtain ⟨j, hj, ej⟩ := h h5
    rw [hC h5 j hj ej]
    by_cases z : c = j
    · subst z
      rw [pk_us, if_pos ⟨h5, ej⟩]
    · rw [pk_un z, if_neg (fun y => z ((nI_eq (by omega) (by omega)).mp (ej.symm.trans y.2)).symm)]
  · rw [hC0 h5, if_neg (fun y => h5 y.1)]
end
end
section
section
variable {PL SU RP FC ZG WL FP FG : Int32} {pO pR pN reg cel op nm ps wr rd al st bt rs cl nx : Nat → Int32}
theorem ro_fc (B : Int32) (cnt : Nat) : nI cnt + B + 1 = nI (cnt + 1) + B := by
  rw [Int32.add_assoc, Int32.add_comm B 1, ← Int32.add_assoc, nI_1]
theorem ro_xfn_e {post : Int32 → SX → Prop} {wd B : Int32} {n beat cnt : Nat} (hb : beat ≤ 1300) (hs : ¬ SU = 1) (h : post (nI cnt) (PL, SU, RP, nI cnt + B, ZG, WL, FP, FG, pO, pR, pN, reg, cel, op, nm, ps, wr, rd, al, st, bt, rs, cl, nx)) : wX_finish_23 post wd B (n + 1) (nI beat) PL SU RP (nI cnt + B) ZG WL FP FG pO pR pN reg cel op nm ps wr rd al st bt rs cl nx := by
  rw [wX_finish_23]
  dsimp only
  rw [Int32.add_sub_cancel]
  exact pk_le 1000000 beat (fun z => absurd z (by omega)) (fun _ => br_f hs h)
theorem ro_xfn {post : Int32 → SX → Prop} {wd B : Int32} {len : Nat} {QY : (Int32 → SY → Prop) → Prop} (hw : wd ≤ 200) (hl : len ≤ 16) (HP : ro_P len pO pR)
    (hend : ∀ (cnt : Nat) (SU RP WL FP FG : Int32) (reg cel op nm ps wr rd al st bt rs cl nx : Nat → Int32), (SU = 1 → ∃ L, WL = nI L ∧ ro_Win len pO pR pN reg cel RP L FP FG op nm ps wr rd al st bt rs cl nx) →
      (∀ post' : Int32 → SY → Prop, wY_finish_51 post' (nI cnt) (nI len) SU RP B pO pR pN reg cel → QY post') → post (nI cnt) (nI len, SU, RP, nI cnt + B, ZG, WL, FP, FG, pO, pR, pN, reg, cel, op, nm, ps, wr, rd, al, st, bt, rs, cl, nx)) :
    ∀ (d beat cnt nd L : Nat) (RP FP FG : Int32) (reg cel op nm ps wr rd al st bt rs cl nx : Nat → Int32), beat + d = 1300 → cnt ≤ 200 → ro_Win len pO pR pN reg cel RP L FP FG op nm ps wr rd al st bt rs cl nx → ro_nd L (st 0) (bt 0) nd → beat + nd ≤ 6 * cnt + 6 →
      (∀ post' : Int32 → SY → Prop, (∃ n, wY_finish_17 post' wd n (nI cnt) (nI len) 1 RP B pO pR pN reg cel) → QY post') →
      wX_finish_23 post wd B (d + 1) (nI beat) (nI len) 1 RP (nI cnt + B) ZG (nI L) FP FG pO pR pN reg cel op nm ps wr rd al st bt rs cl nx := by
  intro d
  induction d with
  | zero => intro beat cnt nd L RP FP FG reg cel op nm ps wr rd al st bt rs cl nx hb hc H hn hk; omega
  | succ d ih =>
    intro beat cnt nd L RP FP FG reg cel op nm ps wr rd al st bt rs cl nx hb hc H hn hk HY
    have n1 := hn.1
    have n6 := hn.2.1
    obtain ⟨d, rfl⟩ : ∃ q, d = q + 1 := ⟨d - 1, by omega⟩
    rw [wX_finish_23]
    dsimp only
    rw [Int32.add_sub_cancel]
    refine pk_le 1000000 beat (fun z => absurd z (by omega)) (fun _ => br_t rfl (br_c (fun hlt => ?_) (fun hge => ?_)))
    · have hlt2 : ¬ wd ≤ nI cnt := Int32.not_le.mpr hlt
      have hc2 : cnt < 200 := (nI_ltI (b := 200) (by omega) (by omega)).mp (Int32.lt_of_lt_of_le hlt hw)
      refine ro_xfs hl HP H (fun L1 FP1 FG1 op1 nm1 ps1 wr1 rd1 al1 st1 bt1 rs1 cl1 nx1 W1 hL1 F1 => ?_)
      dsimp only
      have N1 := ro_nd_f hn (ro_Win_n W1) hL1 F1
      refine ro_xcr W1 hL1 (fun L2 FP2 FG2 st2 bt2 rs2 cl2 nx2 W2 hL2 G2 => ?_)
      dsimp only
      have E := ro_Win_s W2 hL2
      have L8 := W2.1
      rcases ro_En_s E with hs | hs | hs
      · obtain ⟨q2, N2⟩ := ro_nd_g N1 hL1 hL2 G2 hs
        refine ro_xfo_w L8 hL2 hs ?_
        dsimp only
        exact nm_r (nI_1 beat) (ih (beat + 1) cnt (nd - 1) L2 RP FP2 FG2 reg cel op1 nm1 ps1 wr1 rd1 al1 st2 bt2 rs2 cl2 nx2 (by omega) hc W2 N2 (by omega) HY)
      · rw [hs] at E
        obtain ⟨k1, k2, k3⟩ := ro_En_d E
        by_cases h8 : op1 0 = 8
        · refine ro_xfo_h L8 hL2 hs h8 ?_
          dsimp only
          refine nm_r (nI_1 beat) ?_
          rw [ro_fc]
          refine ro_xfn_e (by omega) (by decide) (hend (cnt + 1) 2 RP 0 FP2 FG2 reg cel op1 nm1 ps1 wr1 rd1 al1 st2 bt2 rs2 cl2 nx2 (fun z => absurd z (by decide)) (fun post' h51 => HY post' ⟨2, br_f hlt2 (br_t rfl ?_)⟩))
          exact ro_yd (R' := if wr1 0 = -1 then reg else upd reg (wr1 0).toNatClampNeg (rs2 0)) (C' := if op1 0 = 5 then upd cel (cl2 0).toNatClampNeg (rs2 0) else cel) hl E (fun z => if_pos z) (fun a ha z => by rw [if_neg (by rw [z]; exact ro_nn (by omega)), z, nI_clamp (by omega)]) (fun z j hj y => by rw [if_pos z, y, nI_clamp (by omega)]) (fun z => if_neg z) (fun _ => br_f (by decide) (nm_r (nI_1 cnt) (br_c (fun _ => h51) (fun _ => br_f (by decide) h51)))) (fun z => absurd h8 z)
        · obtain ⟨L3, rfl⟩ : ∃ q, L2 = q + 1 := ⟨L2 - 1, by omega⟩
          refine ro_xfo_d L8 hs h8 k1 k2 (fun reg' cel' op' nm' ps' wr' rd' al' st' bt' rs' cl' nx' r0 r1 c1 c0 f => ?_)
          dsimp only
          refine nm_r (nI_1 beat) ?_
          rw [ro_fc]
          have W3 : ro_Win len pO pR pN reg' cel' (nx2 0) L3 FP2 FG2 op' nm' ps' wr' rd' al' st' bt' rs' cl' nx' := ro_Win_d W2 h8 k3 f (ro_hr k1 r0 r1) (ro_hc k2 c1 c0)
          refine ih (beat + 1) (cnt + 1) 6 L3 (nx2 0) FP2 FG2 reg' cel' op' nm' ps' wr' rd' al' st' bt' rs' cl' nx' (by omega) (by omega) W3 (ro_Win_n W3) (by omega) (fun post' hY => ?_)
          obtain ⟨n, hY⟩ := hY
          exact HY post' ⟨n + 1, br_f hlt2 (br_t rfl (ro_yd (R' := reg') (C' := cel') hl E r0 r1 c1 c0 (fun z => absurd z h8) (fun _ => br_f (by decide) (nm_r (nI_1 cnt) hY))))⟩
      · rw [hs] at E
        refine ro_xfo_t L8 hL2 hs ?_
        dsimp only
        refine nm_r (nI_1 beat) ?_
        exact ro_xfn_e (by omega) (by decide) (hend cnt 3 RP 0 FP2 FG2 reg cel op1 nm1 ps1 wr1 rd1 al1 st2 bt2 rs2 cl2 nx2 (fun z => absurd z (by decide)) (fun post' h51 => HY post' ⟨2, br_f hlt2 (br_t rfl (ro_yt hl E (br_t rfl (br_f hlt2 (br_f (by decide) h51)))))⟩))
    · exact hend cnt 1 RP (nI L) FP FG reg cel op nm ps wr rd al st bt rs cl nx (fun _ => ⟨L, rfl, H⟩) (fun post' h51 => HY post' ⟨1, br_t (Int32.not_lt.mp hge) h51⟩)
end
end
section
def ro_dg (f : Nat → Int32) (w : Nat) (s : Int32) : Nat → Int32
  | 0 => s
  | i + 1 => ro_dg f w s i + f i * nI (i + w)
section
variable {PL SU RP FC ZG WL FP FG : Int32} {pO pR pN reg cel op nm ps wr rd al st bt rs cl nx : Nat → Int32}
theorem ro_dx30 {post : Int32 → Prop} {s : Int32} (h : post (ro_dg cel 5 s 8)) : ∀ d i n, i + d = 8 → d < n → wX_digest_30 post PL SU RP FC ZG WL FP FG pO pR pN reg cel op nm ps wr rd al st bt rs cl nx n (ro_dg cel 5 s i) (nI i) := by
  intro d
  induction d with
  | zero =>
    intro i n hi hn
    obtain ⟨n, rfl⟩ : ∃ q, n = q + 1 := ⟨n - 1, by omega⟩
    have e : i = 8 := by omega
    subst e
    rw [wX_digest_30]
    exact br_t (by decide) h
  | succ d ih =>
    intro i n hi hn
    obtain ⟨n, rfl⟩ : ∃ q, n = q + 1 := ⟨n - 1, by omega⟩
    rw [wX_digest_30]
    refine pk_le 8 i (fun z => absurd z (by omega)) (fun _ => ⟨vp_in_nI (by omega) (by omega), nm_r (e' := ro_dg cel 5 s (i + 1)) ?_ (nm_r (nI_1 i) (ih (i + 1) n (by omega) (by omega)))⟩)
    rw [nI_clamp (by omega), show nI i + 5 = nI (i + 5) from nI_add i 5]
    rfl
theorem ro_dx4 {post : Int32 → Prop} (h : post (ro_dg cel 5 (ro_dg reg 1 0 4) 8)) : ∀ d i n, i + d = 4 → d < n → wX_digest_4 post PL SU RP FC ZG WL FP FG pO pR pN reg cel op nm ps wr rd al st bt rs cl nx n (ro_dg reg 1 0 i) (nI i) := by
  intro d
  induction d with
  | zero =>
    intro i n hi hn
    obtain ⟨n, rfl⟩ : ∃ q, n = q + 1 := ⟨n - 1, by omega⟩
    have e : i = 4 := by omega
    subst e
    rw [wX_digest_4]
    exact br_t (by decide) ⟨9, ro_dx30 h 8 0 9 (by omega) (by omega)⟩
  | succ d ih =>
    intro i n hi hn
    obtain ⟨n, rfl⟩ : ∃ q, n = q + 1 := ⟨n - 1, by omega⟩
    rw [wX_digest_4]
    refine pk_le 4 i (fun z => absurd z (by omega)) (fun _ => ⟨vp_in_nI (by omega) (by omega), nm_r (e' := ro_dg reg 1 0 (i + 1)) ?_ (nm_r (nI_1 i) (ih (i + 1) n (by omega) (by omega)))⟩)
    rw [nI_clamp (by omega), nI_1]
    rfl
theorem ro_dx {post : Int32 → Prop} (h : post (ro_dg cel 5 (ro_dg reg 1 0 4) 8)) : wpX_digest post (PL, SU, RP, FC, ZG, WL, FP, FG, pO, pR, pN, reg, cel, op, nm, ps, wr, rd, al, st, bt, rs, cl, nx) :=
  ⟨5, ro_dx4 h 4 0 5 (by omega) (by omega)⟩
end
section
variable {SZ SU RP DN : Int32} {pO pR pN reg cel : Nat → Int32}
theorem ro_dy30 {post : Int32 → Prop} {s : Int32} (h : post (ro_dg cel 5 s 8)) : ∀ d i n, i + d = 8 → d < n → wY_digest_30 post SZ SU RP DN pO pR pN reg cel n (ro_dg cel 5 s i) (nI i) := by
  intro d
  induction d with
  | zero =>
    intro i n hi hn
    obtain ⟨n, rfl⟩ : ∃ q, n = q + 1 := ⟨n - 1, by omega⟩
    have e : i = 8 := by omega
    subst e
    rw [wY_digest_30]
    exact br_t (by decide) h
  | succ d ih =>
    intro i n hi hn
    obtain ⟨n, rfl⟩ : ∃ q, n = q + 1 := ⟨n - 1, by omega⟩
    rw [wY_digest_30]
    refine pk_le 8 i (fun z => absurd z (by omega)) (fun _ => ⟨vp_in_nI (by omega) (by omega), nm_r (e' := ro_dg cel 5 s (i + 1)) ?_ (nm_r (nI_1 i) (ih (i + 1) n (by omega) (by omega)))⟩)
    rw [nI_clamp (by omega), show nI i + 5 = nI (i + 5) from nI_add i 5, Int32.mul_comm]
    rfl
theorem ro_dy4 {post : Int32 → Prop} (h : post (ro_dg cel 5 (ro_dg reg 1 0 4) 8)) : ∀ d i n, i + d = 4 → d < n → wY_digest_4 post SZ SU RP DN pO pR pN reg cel n (ro_dg reg 1 0 i) (nI i) := by
  intro d
  induction d with
  | zero =>
    intro i n hi hn
    obtain ⟨n, rfl⟩ : ∃ q, n = q + 1 := ⟨n - 1, by omega⟩
    have e : i = 4 := by omega
    subst e
    rw [wY_digest_4]
    exact br_t (by decide) ⟨9, ro_dy30 h 8 0 9 (by omega) (by omega)⟩
  | succ d ih =>
    intro i n hi hn
    obtain ⟨n, rfl⟩ : ∃ q, n = q + 1 := ⟨n - 1, by omega⟩
    rw [wY_digest_4]
    refine pk_le 4 i (fun z => absurd z (by omega)) (fun _ => ⟨vp_in_nI (by omega) (by omega), nm_r (e' := ro_dg reg 1 0 (i + 1)) ?_ (nm_r (nI_1 i) (ih (i + 1) n (by omega) (by omega)))⟩)
    rw [nI_clamp (by omega), nI_1, Int32.mul_comm]
    rfl
theorem ro_dy {post : Int32 → Prop} (h : post (ro_dg cel 5 (ro_dg reg 1 0 4) 8)) : wpY_digest post (SZ, SU, RP, DN, pO, pR, pN, reg, cel) :=
  ⟨5, ro_dy4 h 4 0 5 (by omega) (by omega)⟩
end
end
section
/-- the same program, registers, cells, status, position and count; and, while a run is RUNNING, a window that is good against them -/
def i_Rel (_ : Nat) (u : SX) (v : SY) : Prop :=
  ∃ (len : Nat) (SU RP FC ZG WL FP FG : Int32) (pO pR pN reg cel op nm ps wr rd al st bt rs cl nx : Nat → Int32), u = (nI len, SU, RP, FC, ZG, WL, FP, FG, pO, pR, pN, reg, cel, op, nm, ps, wr, rd, al, st, bt, rs, cl, nx) ∧ v = (nI len, SU, RP, FC, pO, pR, pN, reg, cel) ∧ len ≤ 16 ∧ ro_P len pO pR ∧
    (SU = 1 → ∃ L, WL = nI L ∧ ro_Win len pO pR pN reg cel RP L FP FG op nm ps wr rd al st bt rs cl nx)
theorem i_up {k : Nat} {u : SX} {v : SY} (h : i_Rel k u v) : i_Rel (k + 4) u v := h
theorem i_vc0 : wpX_init (fun u => wpY_init (fun v => i_Rel 0 u v)) :=
  ⟨0, 0, 0, 0, 0, 0, 0, 0, _, _, _, _, _, _, _, _, _, _, _, _, _, _, _, _, rfl, rfl, by omega, fun p hp => absurd hp (by omega), fun z => absurd z (by decide)⟩
theorem i_vc_emit {k : Nat} {u : SX} {v : SY} (I : i_Rel k u v) (hk : k + 4 ≤ 2048) (v1 : Int32) (v2 : Int32) (v3 : Int32) : wpX_emit (fun r u' => wpY_emit (fun r' v' => r' = r ∧ i_Rel (k + 4) u' v') v v1 v2 v3) u v1 v2 v3 := by
  have I0 := I
  obtain ⟨len, SU, RP, FC, ZG, WL, FP, FG, pO, pR, pN, reg, cel, op, nm, ps, wr, rd, al, st, bt, rs, cl, nx, rfl, rfl, hl, HP, HW⟩ := I
  by_cases h0 : v1 < 0
  · exact br_t h0 (br_t h0 ⟨rfl, I0⟩)
  by_cases h8 : 8 < v1
  · exact br_f h0 (br_t h8 (br_f h0 (br_t h8 ⟨rfl, I0⟩)))
  by_cases g0 : v2 < 0
  · exact br_f h0 (br_f h8 (br_t g0 (br_f h0 (br_f h8 (br_t g0 ⟨rfl, I0⟩)))))
  by_cases g6 : v2 ≤ 63
  · by_cases hf : len < 16
    · have q : nI len < 16 := nI_lt (b := 16) hf (by omega)
      have w : vp_in (nI len) 16 := vp_in_nI hf (by omega)
      have c : (nI len).toNatClampNeg = len := nI_clamp (by omega)
      obtain ⟨o, ho, rfl⟩ := nI_of2 (M := 8) (n := 8) (by decide) h0 (Int32.not_lt.mp h8)
      obtain ⟨a, b, c', ha, hb, hc, rfl⟩ := ro_63 g0 g6
      refine br_f h0 (br_f h8 (br_f g0 (br_t g6 (br_t q ⟨w, nm_r (e' := upd pO len (nI o)) (by rw [c]) ⟨w, nm_r (e' := upd pR len (nI (a + 4 * b + 16 * c'))) (by rw [c]) ⟨w, nm_r (e' := upd pN len v3) (by rw [c]) (nm_r (nI_1 len) ?_)⟩⟩⟩))))
      refine br_f h0 (br_f h8 (br_f g0 (br_t g6 (br_t q ⟨w, nm_r (e' := upd pO len (nI o)) (by rw [c]) ⟨w, nm_r (e' := upd pR len (nI (a + 4 * b + 16 * c'))) (by rw [c]) ⟨w, nm_r (e' := upd pN len v3) (by rw [c]) (nm_r (nI_1 len) ?_)⟩⟩⟩))))
      exact ⟨nI_pred len, len + 1, 0, 0, 0, _, 0, 0, 1, _, _, _, _, _, _, _, _, _, _, _, _, _, _, _, _, rfl, rfl, hf, ro_P_u HP ho ha hb hc, fun z => absurd z (by decide)⟩
    · have q : ¬ nI len < 16 := nI_nlt (b := 16) (by omega) (by omega)
      exact br_f h0 (br_f h8 (br_f g0 (br_t g6 (br_f q (br_f h0 (br_f h8 (br_f g0 (br_t g6 (br_f q ⟨rfl, I0⟩)))))))))
  · exact br_f h0 (br_f h8 (br_f g0 (br_f g6 (br_f h0 (br_f h8 (br_f g0 (br_f g6 ⟨rfl, I0⟩)))))))
theorem i_vc_clear {k : Nat} {u : SX} {v : SY} (I : i_Rel k u v) (hk : k + 4 ≤ 2048) : wpX_clear (fun u' => wpY_clear (fun v' => i_Rel (k + 4) u' v') v) u := by
  obtain ⟨len, SU, RP, FC, ZG, WL, FP, FG, pO, pR, pN, reg, cel, op, nm, ps, wr, rd, al, st, bt, rs, cl, nx, rfl, rfl, hl, HP, HW⟩ := I
  exact ⟨0, 0, 0, 0, _, 0, 0, 1, _, _, _, _, _, _, _, _, _, _, _, _, _, _, _, _, rfl, rfl, by omega, fun p hp => absurd hp (by omega), fun z => absurd z (by decide)⟩
theorem i_vc_length {k : Nat} {u : SX} {v : SY} (I : i_Rel k u v) (hk : k + 4 ≤ 2048) : wpX_length (fun r => wpY_length (fun r' => r' = r ∧ i_Rel (k + 4) u v) v) u := by
  have I0 := I
  obtain ⟨len, SU, RP, FC, ZG, WL, FP, FG, pO, pR, pN, reg, cel, op, nm, ps, wr, rd, al, st, bt, rs, cl, nx, rfl, rfl, hl, HP, HW⟩ := I
  exact ⟨rfl, I0⟩
theorem i_vc_set {k : Nat} {u : SX} {v : SY} (I : i_Rel k u v) (hk : k + 4 ≤ 2048) (v1 : Int32) (v2 : Int32) : wpX_set (fun r u' => wpY_set (fun r' v' => r' = r ∧ i_Rel (k + 4) u' v') v v1 v2) u v1 v2 := by
  have I0 := I
  obtain ⟨len, SU, RP, FC, ZG, WL, FP, FG, pO, pR, pN, reg, cel, op, nm, ps, wr, rd, al, st, bt, rs, cl, nx, rfl, rfl, hl, HP, HW⟩ := I
  by_cases hs : SU = 1
  · exact br_t hs (br_t hs ⟨rfl, I0⟩)
  by_cases h0 : v1 < 0
  · exact br_f hs (br_t h0 (br_t (Int32.lt_trans h0 (by decide)) (br_f hs (br_t h0 ⟨rfl, I0⟩))))
  obtain ⟨j, hj, rfl⟩ := nI_of h0
  by_cases j4 : j < 4
  · have w : vp_in (nI j) 4 := vp_in_nI j4 (by omega)
    have c : (nI j).toNatClampNeg = j := nI_clamp (by omega)
    refine br_f hs (br_f h0 (pk_le 4 j (fun z => absurd z (by omega)) (fun _ => ⟨w, nm_r (e' := upd reg j v2) (by rw [c]) ?_⟩)))
    refine br_f hs (br_f h0 (pk_lt 15 j (fun z => absurd z (by omega)) (fun _ => pk_le j 3 (fun _ => pk_lt 3 j (fun z => absurd z (by omega)) (fun _ => ⟨w, nm_r (e' := upd reg j v2) (by rw [c]) ?_⟩)) (fun z => absurd z (by omega)))))
    exact ⟨rfl, len, SU, RP, FC, ZG, WL, FP, FG, _, _, _, _, _, _, _, _, _, _, _, _, _, _, _, _, rfl, rfl, hl, HP, fun z => absurd z hs⟩
  by_cases j8 : j < 8
  · exact br_f hs (br_f h0 (pk_le 4 j (fun _ => pk_lt j 8 (fun _ => br_f hs (br_f h0 (pk_lt 15 j (fun z => absurd z (by omega)) (fun _ => pk_le j 3 (fun z => absurd z (by omega)) (fun _ => pk_le 8 j (fun z => absurd z (by omega)) (fun _ => ⟨rfl, I0⟩)))))) (fun z => absurd z (by omega))) (fun z => absurd z (by omega))))
  by_cases j16 : j < 16
  · have e : nI j - 8 = nI (j - 8) := pk_sub (b := 8) (by omega)
    have w : vp_in (nI j - 8) 8 := by rw [e]; exact vp_in_nI (by omega) (by omega)
    have c : (nI j - 8).toNatClampNeg = j - 8 := by rw [e]; exact nI_clamp (by omega)
    refine br_f hs (br_f h0 (pk_le 4 j (fun _ => pk_lt j 8 (fun z => absurd z (by omega)) (fun _ => pk_le 16 j (fun z => absurd z (by omega)) (fun _ => ⟨w, nm_r (e' := upd cel (j - 8) v2) (by rw [c]) ?_⟩))) (fun z => absurd z (by omega))))
    refine br_f hs (br_f h0 (pk_lt 15 j (fun z => absurd z (by omega)) (fun _ => pk_le j 3 (fun z => absurd z (by omega)) (fun _ => pk_le 8 j (fun _ => pk_lt 3 j (fun _ => ⟨w, nm_r (e' := upd cel (j - 8) v2) (by rw [c]) ?_⟩) (fun z => absurd z (by omega))) (fun z => absurd z (by omega))))))
    exact ⟨rfl, len, SU, RP, FC, ZG, WL, FP, FG, _, _, _, _, _, _, _, _, _, _, _, _, _, _, _, _, rfl, rfl, hl, HP, fun z => absurd z hs⟩
  · exact br_f hs (br_f h0 (pk_le 4 j (fun _ => pk_lt j 8 (fun z => absurd z (by omega)) (fun _ => pk_le 16 j (fun _ => br_f hs (br_f h0 (pk_lt 15 j (fun _ => ⟨rfl, I0⟩) (fun z => absurd z (by omega))))) (fun z => absurd z (by omega)))) (fun z => absurd z (by omega))))
theorem i_vc_start {k : Nat} {u : SX} {v : SY} (I : i_Rel k u v) (hk : k + 4 ≤ 2048) (v1 : Int32) : wpX_start (fun u' => wpY_start (fun v' => i_Rel (k + 4) u' v') v v1) u v1 := by
  obtain ⟨len, SU, RP, FC, ZG, WL, FP, FG, pO, pR, pN, reg, cel, op, nm, ps, wr, rd, al, st, bt, rs, cl, nx, rfl, rfl, hl, HP, HW⟩ := I
  exact ⟨len, 1, 0, 0, v1, 0, 0, 1, pO, pR, pN, reg, cel, op, nm, ps, wr, rd, al, st, bt, rs, cl, nx, rfl, rfl, hl, HP, fun _ => ⟨0, rfl, ro_Win_0⟩⟩
theorem ro_vcf {k len : Nat} {SU RP FC ZG WL FP FG wd : Int32} {pO pR pN reg cel op nm ps wr rd al st bt rs cl nx : Nat → Int32} {QY : (Int32 → SY → Prop) → Prop} (hl : len ≤ 16) (HP : ro_P len pO pR)
    (HW : SU = 1 → ∃ L, WL = nI L ∧ ro_Win len pO pR pN reg cel RP L FP FG op nm ps wr rd al st bt rs cl nx) (hw : wd ≤ 200)
    (HY : ∀ post' : Int32 → SY → Prop, (∃ n, wY_finish_17 post' wd n 0 (nI len) SU RP FC pO pR pN reg cel) → QY post') :
    ∃ n, wX_finish_23 (fun r u' => QY (fun r' v' => r' = r ∧ i_Rel (k + 4) u' v')) wd FC n 0 (nI len) SU RP FC ZG WL FP FG pO pR pN reg cel op nm ps wr rd al st bt rs cl nx := by
  have hend : ∀ (cnt : Nat) (SU RP WL FP FG : Int32) (reg cel op nm ps wr rd al st bt rs cl nx : Nat → Int32), (SU = 1 → ∃ L, WL = nI L ∧ ro_Win len pO pR pN reg cel RP L FP FG op nm ps wr rd al st bt rs cl nx) →
      (∀ post' : Int32 → SY → Prop, wY_finish_51 post' (nI cnt) (nI len) SU RP FC pO pR pN reg cel → QY post') → (fun r u' => QY (fun r' v' => r' = r ∧ i_Rel (k + 4) u' v')) (nI cnt) (nI len, SU, RP, nI cnt + FC, ZG, WL, FP, FG, pO, pR, pN, reg, cel, op, nm, ps, wr, rd, al, st, bt, rs, cl, nx) := by
    intro cnt SU RP WL FP FG reg cel op nm ps wr rd al st bt rs cl nx H hq
    exact hq _ (nm_r (Int32.add_comm FC (nI cnt)) ⟨rfl, len, SU, RP, nI cnt + FC, ZG, WL, FP, FG, pO, pR, pN, reg, cel, op, nm, ps, wr, rd, al, st, bt, rs, cl, nx, rfl, rfl, hl, HP, H⟩)
  have e : nI 0 + FC = FC := by rw [nI_0, Int32.zero_add]
  by_cases hs : SU = 1
  · subst hs
    obtain ⟨L, rfl, H⟩ := HW rfl
    refine ⟨1301, ?_⟩
    have q := ro_xfn (post := fun r u' => QY (fun r' v' => r' = r ∧ i_Rel (k + 4) u' v')) (ZG := ZG) hw hl HP hend 1300 0 0 6 L RP FP FG reg cel op nm ps wr rd al st bt rs cl nx (by omega) (by omega) H (ro_Win_n H) (by omega) (fun post' h => HY post' h)
    rw [e] at q
    exact q
  · refine ⟨1, ?_⟩
    have q := ro_xfn_e (post := fun r u' => QY (fun r' v' => r' = r ∧ i_Rel (k + 4) u' v')) (cnt := 0) (ZG := ZG) (wd := wd) (B := FC) (n := 0) (beat := 0) (by omega) hs (hend 0 SU RP WL FP FG reg cel op nm ps wr rd al st bt rs cl nx (fun z => absurd z hs) (fun post' h51 => HY post' ⟨1, br_c (fun _ => h51) (fun _ => br_f hs h51)⟩))
    rw [e] at q
    exact q
theorem i_vc_finish {k : Nat} {u : SX} {v : SY} (I : i_Rel k u v) (hk : k + 4 ≤ 2048) (v1 : Int32) : wpX_finish (fun r u' => wpY_finish (fun r' v' => r' = r ∧ i_Rel (k + 4) u' v') v v1) u v1 := by
  obtain ⟨len, SU, RP, FC, ZG, WL, FP, FG, pO, pR, pN, reg, cel, op, nm, ps, wr, rd, al, st, bt, rs, cl, nx, rfl, rfl, hl, HP, HW⟩ := I
  refine br_c (fun z => ?_) (fun z => ?_)
  · exact ro_vcf (QY := fun post' => wpY_finish post' (nI len, SU, RP, FC, pO, pR, pN, reg, cel) v1) hl HP HW z (fun post' h => br_t z h)
  · exact ro_vcf (QY := fun post' => wpY_finish post' (nI len, SU, RP, FC, pO, pR, pN, reg, cel) v1) hl HP HW (by decide) (fun post' h => br_f z h)
theorem i_vc_status {k : Nat} {u : SX} {v : SY} (I : i_Rel k u v) (hk : k + 4 ≤ 2048) : wpX_status (fun r => wpY_status (fun r' => r' = r ∧ i_Rel (k + 4) u v) v) u := by
  have I0 := I
  obtain ⟨len, SU, RP, FC, ZG, WL, FP, FG, pO, pR, pN, reg, cel, op, nm, ps, wr, rd, al, st, bt, rs, cl, nx, rfl, rfl, hl, HP, HW⟩ := I
  exact ⟨rfl, I0⟩
theorem i_vc_position {k : Nat} {u : SX} {v : SY} (I : i_Rel k u v) (hk : k + 4 ≤ 2048) : wpX_position (fun r => wpY_position (fun r' => r' = r ∧ i_Rel (k + 4) u v) v) u := by
  have I0 := I
  obtain ⟨len, SU, RP, FC, ZG, WL, FP, FG, pO, pR, pN, reg, cel, op, nm, ps, wr, rd, al, st, bt, rs, cl, nx, rfl, rfl, hl, HP, HW⟩ := I
  exact ⟨rfl, I0⟩
theorem i_vc_finished {k : Nat} {u : SX} {v : SY} (I : i_Rel k u v) (hk : k + 4 ≤ 2048) : wpX_finished (fun r => wpY_finished (fun r' => r' = r ∧ i_Rel (k + 4) u v) v) u := by
  have I0 := I
  obtain ⟨len, SU, RP, FC, ZG, WL, FP, FG, pO, pR, pN, reg, cel, op, nm, ps, wr, rd, al, st, bt, rs, cl, nx, rfl, rfl, hl, HP, HW⟩ := I
  exact ⟨rfl, I0⟩
theorem i_vc_register {k : Nat} {u : SX} {v : SY} (I : i_Rel k u v) (hk : k + 4 ≤ 2048) (v1 : Int32) : wpX_register (fun r => wpY_register (fun r' => r' = r ∧ i_Rel (k + 4) u v) v v1) u v1 := by
  have I0 := I
  obtain ⟨len, SU, RP, FC, ZG, WL, FP, FG, pO, pR, pN, reg, cel, op, nm, ps, wr, rd, al, st, bt, rs, cl, nx, rfl, rfl, hl, HP, HW⟩ := I
  by_cases h0 : v1 < 0
  · exact br_t h0 (br_t h0 ⟨rfl, I0⟩)
  obtain ⟨j, hj, rfl⟩ := nI_of h0
  exact br_f h0 (pk_le 4 j (fun _ => br_f h0 (pk_lt 3 j (fun _ => ⟨rfl, I0⟩) (fun z => absurd z (by omega)))) (fun z => ⟨vp_in_nI z (by omega), br_f h0 (pk_lt 3 j (fun z => absurd z (by omega)) (fun _ => ⟨vp_in_nI z (by omega), rfl, I0⟩))⟩))
theorem i_vc_memory {k : Nat} {u : SX} {v : SY} (I : i_Rel k u v) (hk : k + 4 ≤ 2048) (v1 : Int32) : wpX_memory (fun r => wpY_memory (fun r' => r' = r ∧ i_Rel (k + 4) u v) v v1) u v1 := by
  have I0 := I
  obtain ⟨len, SU, RP, FC, ZG, WL, FP, FG, pO, pR, pN, reg, cel, op, nm, ps, wr, rd, al, st, bt, rs, cl, nx, rfl, rfl, hl, HP, HW⟩ := I
  by_cases h0 : v1 < 0
  · exact br_t h0 (br_t h0 ⟨rfl, I0⟩)
  obtain ⟨j, hj, rfl⟩ := nI_of h0
  exact br_f h0 (pk_le 8 j (fun _ => br_f h0 (pk_lt 7 j (fun _ => ⟨rfl, I0⟩) (fun z => absurd z (by omega)))) (fun z => ⟨vp_in_nI z (by omega), br_f h0 (pk_lt 7 j (fun z => absurd z (by omega)) (fun _ => ⟨vp_in_nI z (by omega), rfl, I0⟩))⟩))
theorem i_vc_digest {k : Nat} {u : SX} {v : SY} (I : i_Rel k u v) (hk : k + 4 ≤ 2048) : wpX_digest (fun r => wpY_digest (fun r' => r' = r ∧ i_Rel (k + 4) u v) v) u := by
  have I0 := I
  obtain ⟨len, SU, RP, FC, ZG, WL, FP, FG, pO, pR, pN, reg, cel, op, nm, ps, wr, rd, al, st, bt, rs, cl, nx, rfl, rfl, hl, HP, HW⟩ := I
  exact ro_dx (ro_dy ⟨rfl, I0⟩)
end
