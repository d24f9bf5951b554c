section
variable {PL SU RP FC ZG WL FP FG : Int32} {pO pR pN reg cel op nm ps wr rd al st bt rs cl nx : Nat → Int32}
theorem ro_xwb_l {post : Int32 → Prop} {a : Nat} : ∀ m n, m ≤ 8 → m < n → ((∀ reg rs, ro_v reg wr rs a m = reg a) → (∀ st, ro_k wr st a m) → post (-1)) → (∀ j, j < m → (∀ reg rs, ro_v reg wr rs a m = rs j) → (∀ st, (ro_k wr st a m ↔ st j = 1)) → post (nI j)) → wX_writerBefore_11 post (nI a) PL SU RP FC ZG WL FP FG pO pR pN reg cel op nm ps wr rd al st bt rs cl nx n (nI m - 1) := by
  intro m
  induction m with
  | zero =>
    intro n h8 hn h1 h2
    obtain ⟨n, rfl⟩ : ∃ q, n = q + 1 := ⟨n - 1, by omega⟩
    rw [ro_z1]
    exact br_t (by decide) (h1 (fun _ _ => rfl) (fun _ => trivial))
  | succ m ih =>
    intro n h8 hn h1 h2
    obtain ⟨n, rfl⟩ : ∃ q, n = q + 1 := ⟨n - 1, by omega⟩
    rw [ro_p1, wX_writerBefore_11]
    have e : (nI m).toNatClampNeg = m := nI_clamp (by omega)
    have w : vp_in (nI m) 8 := vp_in_nI (by omega) (by omega)
    refine br_f (nI_pos (by omega)) ⟨w, ?_⟩
    rw [e]
    by_cases hw : wr m = nI a
    · exact br_t hw (h2 m (by omega) (fun _ _ => if_pos hw) (fun st => ⟨fun k => k.1 hw, fun z => ⟨fun _ => z, fun y => absurd hw y⟩⟩))
    · exact br_f hw (nm_r (ro_m1 m) (ih n (by omega) (by omega) (fun q k => h1 (fun reg rs => (if_neg hw).trans (q reg rs)) (fun st => ⟨fun z => absurd z hw, fun _ => k st⟩)) (fun j hj q k => h2 j (by omega) (fun reg rs => (if_neg hw).trans (q reg rs)) (fun st => ⟨fun z => (k st).mp (z.2 hw), fun z => ⟨fun y => absurd y hw, fun _ => (k st).mpr z⟩⟩))))
theorem ro_xwb_n {post : Int32 → Prop} {e : Int32} (h : post (-1)) : wpX_writerBefore post (PL, SU, RP, FC, ZG, WL, FP, FG, pO, pR, pN, reg, cel, op, nm, ps, wr, rd, al, st, bt, rs, cl, nx) e (-1) := br_t rfl h
theorem ro_xwb {post : Int32 → Prop} {e a : Nat} (he : e ≤ 8) (ha : a < 4) (h1 : (∀ reg rs, ro_v reg wr rs a e = reg a) → (∀ st, ro_k wr st a e) → post (-1)) (h2 : ∀ j, j < e → (∀ reg rs, ro_v reg wr rs a e = rs j) → (∀ st, (ro_k wr st a e ↔ st j = 1)) → post (nI j)) : wpX_writerBefore post (PL, SU, RP, FC, ZG, WL, FP, FG, pO, pR, pN, reg, cel, op, nm, ps, wr, rd, al, st, bt, rs, cl, nx) (nI e) (nI a) :=
  br_f (ro_nn (by omega)) (nm_e ⟨e + 1, ro_xwb_l e (e + 1) he (by omega) h1 h2⟩)
theorem ro_xik {post : Int32 → Prop} {e : Nat} {r : Int32} (he : e ≤ 8) (hr : r = -1 ∨ ∃ x, x < 4 ∧ r = nI x) (h1 : ro_kk (fun x => ro_k wr st x e) r → post 1) (h0 : ¬ ro_kk (fun x => ro_k wr st x e) r → post 0) : wpX_isKnown post (PL, SU, RP, FC, ZG, WL, FP, FG, pO, pR, pN, reg, cel, op, nm, ps, wr, rd, al, st, bt, rs, cl, nx) (nI e) r := by
  unfold wpX_isKnown
  dsimp only
  rcases hr with rfl | ⟨x, hx, rfl⟩
  · exact ro_xwb_n (br_t rfl (h1 (fun x hx z => absurd z.symm (ro_nn (by omega)))))
  · refine ro_xwb he hx (fun _ k => br_t rfl (h1 ?_)) (fun j hj _ k => br_f (ro_nn (by omega)) ⟨vp_in_nI (by omega) (by omega), ?_⟩)
    · intro y hy z
      have hxy : x = y := (nI_eq (by omega) (by omega)).mp z
      subst hxy
      exact k st
    · rw [nI_clamp (by omega)]
      by_cases hs : st j = 1
      · refine br_t hs (h1 (fun y hy z => ?_))
        have hxy : x = y := (nI_eq (by omega) (by omega)).mp z
        subst hxy
        exact (k st).mpr hs
      · exact br_f hs (h0 (fun K => hs ((k st).mp (K x hx rfl))))
theorem ro_xvf {post : Int32 → Prop} {e : Nat} {r : Int32} (he : e ≤ 8) (hr : r = -1 ∨ ∃ x, x < 4 ∧ r = nI x) (h : ∀ v, ro_vv (fun x => ro_v reg wr rs x e) r v → post v) : wpX_valueFor post (PL, SU, RP, FC, ZG, WL, FP, FG, pO, pR, pN, reg, cel, op, nm, ps, wr, rd, al, st, bt, rs, cl, nx) (nI e) r := by
  unfold wpX_valueFor
  dsimp only
  rcases hr with rfl | ⟨x, hx, rfl⟩
  · exact br_t rfl (h 0 (fun x hx z => absurd z.symm (ro_nn (by omega))))
  · have K : ∀ v, v = ro_v reg wr rs x e → post v := fun v hv => h v (fun y hy z => by
      have hxy : x = y := (nI_eq (by omega) (by omega)).mp z
      subst hxy
      exact hv)
    refine br_f (ro_nn (by omega)) (ro_xwb he hx (fun q _ => br_t rfl ⟨vp_in_nI hx (by omega), ?_⟩) (fun j hj q _ => br_f (ro_nn (by omega)) ⟨vp_in_nI (by omega) (by omega), ?_⟩))
    · rw [nI_clamp (by omega)]
      exact K _ (q reg rs).symm
    · rw [nI_clamp (by omega)]
      exact K _ (q reg rs).symm
theorem ro_xcf_l {post : Int32 → Prop} {c : Nat} (hc : c < 8) : ∀ m n, m ≤ 8 → m < n → post (ro_c cel op cl rs c m) → wX_cellFor_4 post (nI c) PL SU RP FC ZG WL FP FG pO pR pN reg cel op nm ps wr rd al st bt rs cl nx n (nI m - 1) := by
  intro m
  induction m with
  | zero =>
    intro n h8 hn h
    obtain ⟨n, rfl⟩ : ∃ q, n = q + 1 := ⟨n - 1, by omega⟩
    rw [ro_z1, wX_cellFor_4]
    refine br_t (by decide) ⟨vp_in_nI hc (by omega), ?_⟩
    rw [nI_clamp (by omega)]
    exact h
  | succ m ih =>
    intro n h8 hn h
    obtain ⟨n, rfl⟩ : ∃ q, n = q + 1 := ⟨n - 1, by omega⟩
    rw [ro_p1, wX_cellFor_4]
    have e : (nI m).toNatClampNeg = m := nI_clamp (by omega)
    have w : vp_in (nI m) 8 := vp_in_nI (by omega) (by omega)
    refine br_f (nI_pos (by omega)) ⟨w, ?_⟩
    rw [e]
    have h' : post (if op m = 5 ∧ cl m = nI c then rs m else ro_c cel op cl rs c m) := h
    by_cases ho : op m = 5
    · by_cases hw : cl m = nI c
      · rw [if_pos ⟨ho, hw⟩] at h'
        exact br_t ho ⟨w, br_t hw ⟨w, h'⟩⟩
      · rw [if_neg (fun z => hw z.2)] at h'
        exact br_t ho ⟨w, br_f hw (nm_r (ro_m1 m) (ih n (by omega) (by omega) h'))⟩
    · rw [if_neg (fun z => ho z.1)] at h'
      exact br_f ho (nm_r (ro_m1 m) (ih n (by omega) (by omega) h'))
theorem ro_xcf {post : Int32 → Prop} {e c : Nat} (he : e ≤ 8) (hc : c < 8) (h : post (ro_c cel op cl rs c e)) : wpX_cellFor post (PL, SU, RP, FC, ZG, WL, FP, FG, pO, pR, pN, reg, cel, op, nm, ps, wr, rd, al, st, bt, rs, cl, nx) (nI e) (nI c) :=
  nm_e ⟨e + 1, ro_xcf_l hc e (e + 1) he (by omega) h⟩
theorem ro_xas_l {post : Int32 → Prop} : ∀ m n, m ≤ 8 → m < n → (ro_s op st m → post 1) → (¬ ro_s op st m → post 0) → wX_areStoresDoneBefore_4 post PL SU RP FC ZG WL FP FG pO pR pN reg cel op nm ps wr rd al st bt rs cl nx n (nI m - 1) := by
  intro m
  induction m with
  | zero =>
    intro n h8 hn h1 h0
    obtain ⟨n, rfl⟩ : ∃ q, n = q + 1 := ⟨n - 1, by omega⟩
    rw [ro_z1]
    exact br_t (by decide) (h1 (fun j hj => absurd hj (by omega)))
  | succ m ih =>
    intro n h8 hn h1 h0
    obtain ⟨n, rfl⟩ : ∃ q, n = q + 1 := ⟨n - 1, by omega⟩
    rw [ro_p1, wX_areStoresDoneBefore_4]
    have e : (nI m).toNatClampNeg = m := nI_clamp (by omega)
    have w : vp_in (nI m) 8 := vp_in_nI (by omega) (by omega)
    refine br_f (nI_pos (by omega)) ⟨w, ?_⟩
    rw [e]
    have go : (op m = 5 → st m = 1) → wX_areStoresDoneBefore_4 post PL SU RP FC ZG WL FP FG pO pR pN reg cel op nm ps wr rd al st bt rs cl nx n (nI m - 1) := by
      intro hm
      refine ih n (by omega) (by omega) (fun hs => h1 ?_) (fun hs => h0 (fun z => hs (fun j hj => z j (by omega))))
      intro j hj hj5
      by_cases y : j = m
      · subst y; exact hm hj5
      · exact hs j (by omega) hj5
    by_cases ho : op m = 5
    · by_cases hw : st m = 1
      · exact br_t ho ⟨w, br_t hw (nm_r (ro_m1 m) (go (fun _ => hw)))⟩
      · exact br_t ho ⟨w, br_f hw (h0 (fun z => hw (z m (by omega) ho)))⟩
    · exact br_f ho (nm_r (ro_m1 m) (go (fun z => absurd z ho)))
theorem ro_xas {post : Int32 → Prop} {e : Nat} (he : e ≤ 8) (h1 : ro_s op st e → post 1) (h0 : ¬ ro_s op st e → post 0) : wpX_areStoresDoneBefore post (PL, SU, RP, FC, ZG, WL, FP, FG, pO, pR, pN, reg, cel, op, nm, ps, wr, rd, al, st, bt, rs, cl, nx) (nI e) :=
  nm_e ⟨e + 1, ro_xas_l e (e + 1) he (by omega) h1 h0⟩
theorem ro_xir {post : Int32 → Prop} {e : Nat} (he : e < 8) (hd : rd e = -1 ∨ ∃ x, x < 4 ∧ rd e = nI x) (ha : al e = -1 ∨ ∃ x, x < 4 ∧ al e = nI x)
    (h1 : ro_kk (fun x => ro_k wr st x e) (rd e) → ro_kk (fun x => ro_k wr st x e) (al e) → (op e = 4 → ro_s op st e) → post 1)
    (h0 : ¬ (ro_kk (fun x => ro_k wr st x e) (rd e) ∧ ro_kk (fun x => ro_k wr st x e) (al e) ∧ (op e = 4 → ro_s op st e)) → post 0) : wpX_isReady post (PL, SU, RP, FC, ZG, WL, FP, FG, pO, pR, pN, reg, cel, op, nm, ps, wr, rd, al, st, bt, rs, cl, nx) (nI e) := by
  unfold wpX_isReady
  dsimp only
  have ce : (nI e).toNatClampNeg = e := nI_clamp (by omega)
  have w : vp_in (nI e) 8 := vp_in_nI he (by omega)
  rw [ce]
  refine ⟨w, ro_xik (by omega) hd (fun kd => br_f (by decide) ⟨w, ro_xik (by omega) ha (fun ka => br_f (by decide) ⟨w, br_c (fun h4 => ?_) (fun h4 => h1 kd ka (fun z => absurd z h4))⟩) (fun z => br_t rfl (h0 (fun y => z y.2.1)))⟩) (fun z => br_t rfl (h0 (fun y => z y.1)))⟩
  exact ro_xas (by omega) (fun hs => br_f (by decide) (h1 kd ka (fun _ => hs))) (fun hs => br_t rfl (h0 (fun y => hs (y.2.2 h4))))
end
