section
variable {SZ SU RP DN : Int32} {pO pR pN reg cel : Nat → Int32}
theorem ro_y113 {post : Int32 → SY → Prop} {p o a b c : Nat} {rsv clv nxv : Int32} {R' C' : Nat → Int32} (hp : p < 16) (ho : o ≤ 8) (ha : a < 4) (hb : b < 4) (hc : c < 4)
    (D : ro_Dn o a b c (pN p) (nI p) rsv clv nxv reg (fun _ => True) cel True) (N : ro_Nx o (pN p) (nI p) nxv)
    (hR : o ≤ 4 → R' = upd reg a rsv) (hR0 : 4 < o → R' = reg) (hC : o = 5 → ∀ j, j < 8 → clv = nI j → C' = upd cel j rsv) (hC0 : ¬ o = 5 → C' = cel)
    (h8 : o = 8 → post 1 (SZ, 2, nI p, DN, pO, pR, pN, reg, cel)) (h : ¬ o = 8 → post 1 (SZ, SU, nxv, DN, pO, pR, pN, R', C')) : wY_step_113 post (nI o) (nI a) (nI b) (nI c) (nI p + 1) SZ SU (nI p) DN pO pR pN reg cel := by
  obtain ⟨D0, D1, D2, D3, D4, D5, D6⟩ := D
  have vp : vp_in (nI p) 16 := vp_in_nI hp (by omega)
  have va : vp_in (nI a) 4 := vp_in_nI ha (by omega)
  have vb : vp_in (nI b) 4 := vp_in_nI hb (by omega)
  have vc : vp_in (nI c) 4 := vp_in_nI hc (by omega)
  have cp : (nI p).toNatClampNeg = p := nI_clamp (by omega)
  have ca : (nI a).toNatClampNeg = a := nI_clamp (by omega)
  have cb : (nI b).toNatClampNeg = b := nI_clamp (by omega)
  have cc : (nI c).toNatClampNeg = c := nI_clamp (by omega)
  have K4 : o ≤ 4 → post 1 (SZ, SU, nI p + 1, DN, pO, pR, pN, upd reg a rsv, cel) := by
    intro z
    have q := h (by omega)
    rw [hR z, hC0 (by omega), N.2 (by omega) (by omega)] at q
    exact q
  unfold wY_step_113
  rw [cp, ca, cb, cc]
  refine pk_eq o 0 (fun z => ?_) (fun n0 => pk_eq o 1 (fun z => ?_) (fun n1 => pk_eq o 2 (fun z => ?_) (fun n2 => pk_eq o 3 (fun z => ?_) (fun n3 => pk_eq o 4 (fun z => ?_) (fun n4 => pk_eq o 5 (fun z => ?_) (fun n5 => pk_eq o 6 (fun z => ?_) (fun n6 => pk_eq o 7 (fun z => ?_) (fun n7 => h8 (by omega)))))))))
  · exact ⟨vp, va, nm_r (e' := upd reg a rsv) (by rw [D0 z]) (K4 (by omega))⟩
  · exact ⟨vb, vc, va, nm_r (e' := upd reg a rsv) (by rw [(D1 z).2.2]) (K4 (by omega))⟩
  · exact ⟨vb, vc, va, nm_r (e' := upd reg a rsv) (by rw [(D2 z).2.2]) (K4 (by omega))⟩
  · obtain ⟨_, _, y1, y2⟩ := D3 z
    exact ⟨vc, nm_e (br_f y1 ⟨vb, y1, va, nm_r (e' := upd reg a rsv) (by rw [y2]) (K4 (by omega))⟩)⟩
  · obtain ⟨_, _, y1, j, y2, y3, y4⟩ := D4 z
    exact ⟨vb, by rw [y3]; exact vp_in_nI y2 (by omega), va, nm_r (e' := upd reg a rsv) (by rw [y3, nI_clamp (by omega), y4]) (K4 (by omega))⟩
  · obtain ⟨_, _, y1, j, y2, y3, y4, y5⟩ := D5 z
    have q := h (by omega)
    rw [hR0 (by omega), hC z j y2 y4, N.2 (by omega) (by omega)] at q
    exact ⟨vb, va, by rw [y3]; exact vp_in_nI y2 (by omega), nm_r (e' := upd cel j rsv) (by rw [y3, nI_clamp (by omega), y5]) q⟩
  · have q := h (by omega)
    rw [hR0 (by omega), hC0 (by omega)] at q
    have y := (D6 z).2
    refine ⟨va, br_c (fun y0 => ⟨vp, nm_r (e' := nxv) ?_ q⟩) (fun y0 => ?_)⟩
    · rw [y, if_pos y0]
    · rw [y, if_neg y0] at q
      exact q
  · have q := h (by omega)
    rw [hR0 (by omega), hC0 (by omega), N.1 z] at q
    exact ⟨vp, nm_e q⟩
theorem ro_yin {post : Int32 → SY → Prop} {len p o a b c : Nat} (hl : len ≤ 16) (hp : p < len) (ho : o ≤ 8) (ha : a < 4) (hb : b < 4) (hc : c < 4) (e1 : pO p = nI o) (e2 : pR p = nI (a + 4 * b + 16 * c))
    (h0 : (o = 3 ∧ reg c = 0) ∨ ((o = 4 ∨ o = 5) ∧ reg b < 0) → post 0 (nI len, SU, nI p, DN, pO, pR, pN, reg, cel))
    (h1 : ¬ ((o = 3 ∧ reg c = 0) ∨ ((o = 4 ∨ o = 5) ∧ reg b < 0)) → wY_step_113 post (nI o) (nI a) (nI b) (nI c) (nI p + 1) (nI len) SU (nI p) DN pO pR pN reg cel) : wpY_step post (nI len, SU, nI p, DN, pO, pR, pN, reg, cel) := by
  have vp : vp_in (nI p) 16 := vp_in_nI (by omega) (by omega)
  have vb : vp_in (nI b) 4 := vp_in_nI hb (by omega)
  have vc : vp_in (nI c) 4 := vp_in_nI hc (by omega)
  have cp : (nI p).toNatClampNeg = p := nI_clamp (by omega)
  have cb : (nI b).toNatClampNeg = b := nI_clamp (by omega)
  have cc : (nI c).toNatClampNeg = c := nI_clamp (by omega)
  have k96 : ((o = 4 ∨ o = 5) → ¬ reg b < 0) → wY_step_96 post (nI o) (nI a) (nI b) (nI c) (nI p + 1) (nI len) SU (nI p) DN pO pR pN reg cel := by
    intro hx
    unfold wY_step_96
    rw [cc]
    refine pk_eq o 3 (fun z => ⟨vc, br_c (fun y => h0 (Or.inl ⟨z, y⟩)) (fun y => h1 ?_)⟩) (fun z => h1 ?_)
    · intro w
      rcases w with w | w
      · exact y w.2
      · exact hx w.1 w.2
    · intro w
      rcases w with w | w
      · exact z w.1
      · exact hx w.1 w.2
  have k87 : (o = 4 ∨ o = 5) → wY_step_87 post (nI o) (nI a) (nI b) (nI c) (nI p + 1) (nI len) SU (nI p) DN pO pR pN reg cel := by
    intro hx
    unfold wY_step_87
    rw [cb]
    exact ⟨vb, br_c (fun y => h0 (Or.inr ⟨hx, y⟩)) (fun y => k96 (fun _ => y))⟩
  refine br_f (nI_pos (by omega)) (br_t (nI_lt hp (by omega)) ⟨vp, nm_r (e' := nI o) (by rw [cp]; exact e1) ⟨vp, nm_r (e' := nI a) (by rw [cp, e2]; exact ro_ba ha hb hc) ⟨vp, nm_r (e' := nI b) (by rw [cp, e2]; exact ro_bb ha hb hc) ⟨vp, nm_r (e' := nI c) (by rw [cp, e2]; exact ro_b4 ha hb hc) (nm_e ?_)⟩⟩⟩⟩)
  exact pk_eq o 4 (fun z => k87 (Or.inl z)) (fun n4 => pk_eq o 5 (fun z => k87 (Or.inr z)) (fun n5 => k96 (fun z => absurd z (by omega))))
theorem ro_yt {post : Int32 → SY → Prop} {len : Nat} {opv nmv wrv rdv alv btv rsv clv nxv : Int32} (hl : len ≤ 16) (E : ro_En len pO pR pN opv nmv RP wrv rdv alv 2 btv rsv clv nxv reg (fun _ => True) cel True) (h : post 0 (nI len, SU, RP, DN, pO, pR, pN, reg, cel)) : wpY_step post (nI len, SU, RP, DN, pO, pR, pN, reg, cel) := by
  rcases E with ⟨_, _, _, z⟩ | ⟨p, o, a, b, c, h1, h2, h3, h4, h5, h6, h7, h8, h9, h10, h11, h12, h13, h14, E⟩
  · rcases ro_outI hl z with y | y
    · exact br_t y h
    · have h0 : ¬ RP < 0 := fun z => nI_pos (n := len) (by omega) (Int32.lt_of_le_of_lt y z)
      exact br_f h0 (br_f (Int32.not_lt.mpr y) h)
  · subst h6
    refine ro_yin hl h1 h2 h3 h4 h5 h7 h8 (fun _ => h) (fun n => absurd ?_ n)
    rcases E with ⟨z, _⟩ | ⟨z, _⟩ | ⟨_, E⟩
    · exact absurd z (by decide)
    · exact absurd z (by decide)
    · rcases E with ⟨z, _, y⟩ | ⟨z, _, y⟩
      · exact Or.inl ⟨z, y⟩
      · exact Or.inr ⟨z, y⟩
theorem ro_yd {post : Int32 → SY → Prop} {len : Nat} {opv nmv wrv rdv alv btv rsv clv nxv : Int32} {R' C' : Nat → Int32} (hl : len ≤ 16) (E : ro_En len pO pR pN opv nmv RP wrv rdv alv 1 btv rsv clv nxv reg (fun _ => True) cel True)
    (hR0 : wrv = -1 → R' = reg) (hR : ∀ a, a < 4 → wrv = nI a → R' = upd reg a rsv) (hC : opv = 5 → ∀ j, j < 8 → clv = nI j → C' = upd cel j rsv) (hC0 : ¬ opv = 5 → C' = cel)
    (h8 : opv = 8 → post 1 (nI len, 2, RP, DN, pO, pR, pN, reg, cel)) (h : ¬ opv = 8 → post 1 (nI len, SU, nxv, DN, pO, pR, pN, R', C')) : wpY_step post (nI len, SU, RP, DN, pO, pR, pN, reg, cel) := by
  rcases E with ⟨_, z, _, _⟩ | ⟨p, o, a, b, c, h1, h2, h3, h4, h5, h6, h7, h8', h9, h10, h11, h12, h13, h14, E⟩
  · exact absurd z (by decide)
  · subst h6
    rcases E with ⟨z, _⟩ | ⟨_, D⟩ | ⟨z, _⟩
    · exact absurd z (by decide)
    · subst h9
      have q5 : o = 5 → opv = 5 := fun z => by rw [h10, z]; rfl
      have q5' : ¬ o = 5 → ¬ opv = 5 := fun z y => z ((nI_eq (b := 5) (by omega) (by omega)).mp (h10.symm.trans y))
      have q8 : o = 8 → opv = 8 := fun z => by rw [h10, z]; rfl
      have q8' : ¬ o = 8 → ¬ opv = 8 := fun z y => z ((nI_eq (b := 8) (by omega) (by omega)).mp (h10.symm.trans y))
      refine ro_yin hl h1 h2 h3 h4 h5 h7 h8' (fun n => ?_) (fun n => ?_)
      · obtain ⟨D0, D1, D2, D3, D4, D5, D6⟩ := D
        rcases n with ⟨z, y⟩ | ⟨z, y⟩
        · exact absurd y (D3 z).2.2.1
        · rcases z with z | z
          · exact absurd y (D4 z).2.2.1
          · exact absurd y (D5 z).2.2.1
      · exact ro_y113 (R' := R') (C' := C') (by omega) h2 h3 h4 h5 D h14 (fun z => hR a h3 (h11.trans (ro_w1 z))) (fun z => hR0 (h11.trans (ro_w2 z))) (fun z => hC (q5 z)) (fun z => hC0 (q5' z)) (fun z => h8 (q8 z)) (fun z => h (q8' z))
    · exact absurd z (by decide)
theorem ro_En_d {len : Nat} {opv nmv psv wrv rdv alv btv rsv clv nxv : Int32} {V : Nat → Int32} {K : Nat → Prop} {C : Nat → Int32} {S : Prop} (E : ro_En len pO pR pN opv nmv psv wrv rdv alv 1 btv rsv clv nxv V K C S) : (wrv = -1 ∨ ∃ a, a < 4 ∧ wrv = nI a) ∧ (opv = 5 → ∃ j, j < 8 ∧ clv = nI j) ∧ ¬ opv = 9 := by
  rcases E with ⟨_, z, _, _⟩ | ⟨p, o, a, b, c, h1, h2, h3, h4, h5, h6, h7, h8, h9, h10, h11, h12, h13, h14, E⟩
  · exact absurd z (by decide)
  · refine ⟨?_, fun y => ?_, fun y => ?_⟩
    · by_cases z : o ≤ 4
      · exact Or.inr ⟨a, h3, h11.trans (ro_w1 z)⟩
      · exact Or.inl (h11.trans (ro_w2 (by omega)))
    · have z : o = 5 := (nI_eq (b := 5) (by omega) (by omega)).mp (h10.symm.trans y)
      rcases E with ⟨y, _⟩ | ⟨_, D0, D1, D2, D3, D4, D5, D6⟩ | ⟨y, _⟩
      · exact absurd y (by decide)
      · obtain ⟨_, _, _, j, y2, _, y4, _⟩ := D5 z
        exact ⟨j, y2, y4⟩
      · exact absurd y (by decide)
    · have z : o = 9 := (nI_eq (b := 9) (by omega) (by omega)).mp (h10.symm.trans y)
      omega
theorem ro_hr {wrv rsv : Int32} {R' : Nat → Int32} (h : wrv = -1 ∨ ∃ a, a < 4 ∧ wrv = nI a) (hR0 : wrv = -1 → R' = reg) (hR : ∀ a, a < 4 → wrv = nI a → R' = upd reg a rsv) : ∀ a, a < 4 → R' a = if wrv = nI a then rsv else reg a := by
  intro a ha
  rcases h with h | ⟨x, hx, h⟩
  · rw [hR0 h, if_neg (by rw [h]; exact fun z => ro_nn (by omega) z.symm)]
  · rw [hR x hx h, h]
    by_cases z : a = x
    · subst z
      rw [pk_us, if_pos rfl]
    · rw [pk_un z, if_neg (fun y => z ((nI_eq (by omega) (by omega)).mp y).symm)]
theorem ro_hc {opv clv rsv : Int32} {C' : Nat → Int32} (h : opv = 5 → ∃ j, j < 8 ∧ clv = nI j) (hC : opv = 5 → ∀ j, j < 8 → clv = nI j → C' = upd cel j rsv) (hC0 : ¬ opv = 5 → C' = cel) : ∀ c, c < 8 → C' c = if opv = 5 ∧ clv = nI c then rsv else cel c := by
  intro c hc
  by_cases h5 : opv = 5
  · obtain ⟨j, hj, ej⟩ := h h5
    rw [hC h5 j hj ej]
    by_cases z : c = j
    · subst z
      rw [pk_us, if_pos ⟨h5, ej⟩]
    · rw [pk_un z, if_neg (fun y => z ((nI_eq (by omega) (by omega)).mp (ej.symm.trans y.2)).symm)]
  · rw [hC0 h5, if_neg (fun y => h5 y.1)]
end
