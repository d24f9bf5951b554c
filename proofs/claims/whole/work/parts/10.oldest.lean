section
variable {PL SU RP FC ZG WL FP FG : Int32} {pO pR pN reg cel op nm ps wr rd al st bt rs cl nx : Nat → Int32}
theorem ro_xdo_l {post : SX → Prop} {L : Nat} (hL : L + 1 ≤ 8) (h : ∀ op' nm' ps' wr' rd' al' st' bt' rs' cl' nx' : Nat → Int32, (∀ i, i < L → op' i = op (i + 1) ∧ nm' i = nm (i + 1) ∧ ps' i = ps (i + 1) ∧ wr' i = wr (i + 1) ∧ rd' i = rd (i + 1) ∧ al' i = al (i + 1) ∧ st' i = st (i + 1) ∧ bt' i = bt (i + 1) ∧ rs' i = rs (i + 1) ∧ cl' i = cl (i + 1) ∧ nx' i = nx (i + 1)) → post (PL, SU, RP, FC, ZG, nI L, FP, FG, pO, pR, pN, reg, cel, op', nm', ps', wr', rd', al', st', bt', rs', cl', nx')) :
    ∀ (m d n : Nat) (op' nm' ps' wr' rd' al' st' bt' rs' cl' nx' : Nat → Int32), m + d = L → d < n → ro_sh op op' m → ro_sh nm nm' m → ro_sh ps ps' m → ro_sh wr wr' m → ro_sh rd rd' m → ro_sh al al' m → ro_sh st st' m → ro_sh bt bt' m → ro_sh rs rs' m → ro_sh cl cl' m → ro_sh nx nx' m → wX_dropOldest_2 post PL SU RP FC ZG (nI (L + 1)) FP FG n (nI (m + 1)) pO pR pN reg cel op' nm' ps' wr' rd' al' st' bt' rs' cl' nx' := by
  intro m d
  induction d generalizing m with
  | zero =>
    intro n op' nm' ps' wr' rd' al' st' bt' rs' cl' nx' hm hn k0 k1 k2 k3 k4 k5 k6 k7 k8 k9 k10
    obtain ⟨n, rfl⟩ : ∃ q, n = q + 1 := ⟨n - 1, by omega⟩
    rw [wX_dropOldest_2]
    have e : m = L := by omega
    subst e
    exact pk_le (m + 1) (m + 1) (fun _ => nm_r (nI_pred m) (h _ _ _ _ _ _ _ _ _ _ _ (fun i hi => ⟨ro_sh_e k0 hi, ro_sh_e k1 hi, ro_sh_e k2 hi, ro_sh_e k3 hi, ro_sh_e k4 hi, ro_sh_e k5 hi, ro_sh_e k6 hi, ro_sh_e k7 hi, ro_sh_e k8 hi, ro_sh_e k9 hi, ro_sh_e k10 hi⟩))) (fun z => absurd z (by omega))
  | succ d ih =>
    intro n op' nm' ps' wr' rd' al' st' bt' rs' cl' nx' hm hn k0 k1 k2 k3 k4 k5 k6 k7 k8 k9 k10
    obtain ⟨n, rfl⟩ : ∃ q, n = q + 1 := ⟨n - 1, by omega⟩
    rw [wX_dropOldest_2]
    have q1 : vp_in (nI (m + 1)) 8 := vp_in_nI (by omega) (by omega)
    have q0 : vp_in (nI (m + 1) - 1) 8 := by rw [nI_pred]; exact vp_in_nI (by omega) (by omega)
    have c1 : (nI (m + 1)).toNatClampNeg = m + 1 := nI_clamp (by omega)
    have c0 : (nI (m + 1) - 1).toNatClampNeg = m := by rw [nI_pred]; exact nI_clamp (by omega)
    refine pk_le (L + 1) (m + 1) (fun z => absurd z (by omega)) (fun _ => ?_)
    exact ⟨q1, q0, nm_r (e' := upd op' m (op' (m + 1))) (by rw [c0, c1]) ⟨q1, q0, nm_r (e' := upd nm' m (nm' (m + 1))) (by rw [c0, c1]) ⟨q1, q0, nm_r (e' := upd ps' m (ps' (m + 1))) (by rw [c0, c1]) ⟨q1, q0, nm_r (e' := upd wr' m (wr' (m + 1))) (by rw [c0, c1]) ⟨q1, q0, nm_r (e' := upd rd' m (rd' (m + 1))) (by rw [c0, c1]) ⟨q1, q0, nm_r (e' := upd al' m (al' (m + 1))) (by rw [c0, c1]) ⟨q1, q0, nm_r (e' := upd st' m (st' (m + 1))) (by rw [c0, c1]) ⟨q1, q0, nm_r (e' := upd bt' m (bt' (m + 1))) (by rw [c0, c1]) ⟨q1, q0, nm_r (e' := upd rs' m (rs' (m + 1))) (by rw [c0, c1]) ⟨q1, q0, nm_r (e' := upd cl' m (cl' (m + 1))) (by rw [c0, c1]) ⟨q1, q0, nm_r (e' := upd nx' m (nx' (m + 1))) (by rw [c0, c1]) (nm_r (nI_1 (m + 1)) (ih (m + 1) n _ _ _ _ _ _ _ _ _ _ _ (by omega) (by omega) (ro_sh_s k0) (ro_sh_s k1) (ro_sh_s k2) (ro_sh_s k3) (ro_sh_s k4) (ro_sh_s k5) (ro_sh_s k6) (ro_sh_s k7) (ro_sh_s k8) (ro_sh_s k9) (ro_sh_s k10)))⟩⟩⟩⟩⟩⟩⟩⟩⟩⟩⟩
theorem ro_xdo {post : SX → Prop} {L : Nat} (hL : L + 1 ≤ 8) (h : ∀ op' nm' ps' wr' rd' al' st' bt' rs' cl' nx' : Nat → Int32, (∀ i, i < L → op' i = op (i + 1) ∧ nm' i = nm (i + 1) ∧ ps' i = ps (i + 1) ∧ wr' i = wr (i + 1) ∧ rd' i = rd (i + 1) ∧ al' i = al (i + 1) ∧ st' i = st (i + 1) ∧ bt' i = bt (i + 1) ∧ rs' i = rs (i + 1) ∧ cl' i = cl (i + 1) ∧ nx' i = nx (i + 1)) → post (PL, SU, RP, FC, ZG, nI L, FP, FG, pO, pR, pN, reg, cel, op', nm', ps', wr', rd', al', st', bt', rs', cl', nx')) : wpX_dropOldest post (PL, SU, RP, FC, ZG, nI (L + 1), FP, FG, pO, pR, pN, reg, cel, op, nm, ps, wr, rd, al, st, bt, rs, cl, nx) :=
  ⟨L + 1, ro_xdo_l hL h 0 L (L + 1) op nm ps wr rd al st bt rs cl nx (by omega) (by omega) (ro_sh_0 _) (ro_sh_0 _) (ro_sh_0 _) (ro_sh_0 _) (ro_sh_0 _) (ro_sh_0 _) (ro_sh_0 _) (ro_sh_0 _) (ro_sh_0 _) (ro_sh_0 _) (ro_sh_0 _)⟩
theorem ro_xfo_w {post : SX → Prop} {L : Nat} (hL : L ≤ 8) (hp : 0 < L) (hs : st 0 = 0) (h : post (PL, SU, RP, FC, ZG, nI L, FP, FG, pO, pR, pN, reg, cel, op, nm, ps, wr, rd, al, st, bt, rs, cl, nx)) : wpX_finishOldest post (PL, SU, RP, FC, ZG, nI L, FP, FG, pO, pR, pN, reg, cel, op, nm, ps, wr, rd, al, st, bt, rs, cl, nx) :=
  pk_eq L 0 (fun _ => h) (fun _ => br_t hs h)
theorem ro_xfo_t {post : SX → Prop} {L : Nat} (hL : L ≤ 8) (hp : 0 < L) (hs : st 0 = 2) (h : post (PL, 3, RP, FC, ZG, 0, FP, FG, pO, pR, pN, reg, cel, op, nm, ps, wr, rd, al, st, bt, rs, cl, nx)) : wpX_finishOldest post (PL, SU, RP, FC, ZG, nI L, FP, FG, pO, pR, pN, reg, cel, op, nm, ps, wr, rd, al, st, bt, rs, cl, nx) :=
  pk_eq L 0 (fun z => absurd z (by omega)) (fun _ => br_f (by rw [hs]; decide) (br_t hs h))
theorem ro_xfo_h {post : SX → Prop} {L : Nat} (hL : L ≤ 8) (hp : 0 < L) (hs : st 0 = 1) (ho : op 0 = 8) (h : post (PL, 2, RP, FC + 1, ZG, 0, FP, FG, pO, pR, pN, reg, cel, op, nm, ps, wr, rd, al, st, bt, rs, cl, nx)) : wpX_finishOldest post (PL, SU, RP, FC, ZG, nI L, FP, FG, pO, pR, pN, reg, cel, op, nm, ps, wr, rd, al, st, bt, rs, cl, nx) :=
  pk_eq L 0 (fun z => absurd z (by omega)) (fun _ => br_f (by rw [hs]; decide) (br_f (by rw [hs]; decide) (nm_e (br_t ho h))))
theorem ro_xfo_114 {post : SX → Prop} {L : Nat} (hL : L + 1 ≤ 8) (h : ∀ op' nm' ps' wr' rd' al' st' bt' rs' cl' nx' : Nat → Int32, (∀ i, i < L → op' i = op (i + 1) ∧ nm' i = nm (i + 1) ∧ ps' i = ps (i + 1) ∧ wr' i = wr (i + 1) ∧ rd' i = rd (i + 1) ∧ al' i = al (i + 1) ∧ st' i = st (i + 1) ∧ bt' i = bt (i + 1) ∧ rs' i = rs (i + 1) ∧ cl' i = cl (i + 1) ∧ nx' i = nx (i + 1)) → post (PL, SU, nx 0, FC, ZG, nI L, FP, FG, pO, pR, pN, reg, cel, op', nm', ps', wr', rd', al', st', bt', rs', cl', nx')) : wX_finishOldest_114 post PL SU RP FC ZG (nI (L + 1)) FP FG pO pR pN reg cel op nm ps wr rd al st bt rs cl nx :=
  nm_e (ro_xdo hL h)
theorem ro_xfo_87 {post : SX → Prop} {L : Nat} (hL : L + 1 ≤ 8) (hj : op 0 = 5 → ∃ j, j < 8 ∧ cl 0 = nI j) (h : ∀ cel' op' nm' ps' wr' rd' al' st' bt' rs' cl' nx' : Nat → Int32, (op 0 = 5 → ∀ j, j < 8 → cl 0 = nI j → cel' = upd cel j (rs 0)) → (¬ op 0 = 5 → cel' = cel) → (∀ i, i < L → op' i = op (i + 1) ∧ nm' i = nm (i + 1) ∧ ps' i = ps (i + 1) ∧ wr' i = wr (i + 1) ∧ rd' i = rd (i + 1) ∧ al' i = al (i + 1) ∧ st' i = st (i + 1) ∧ bt' i = bt (i + 1) ∧ rs' i = rs (i + 1) ∧ cl' i = cl (i + 1) ∧ nx' i = nx (i + 1)) → post (PL, SU, nx 0, FC, ZG, nI L, FP, FG, pO, pR, pN, reg, cel', op', nm', ps', wr', rd', al', st', bt', rs', cl', nx')) : wX_finishOldest_87 post PL SU RP FC ZG (nI (L + 1)) FP FG pO pR pN reg cel op nm ps wr rd al st bt rs cl nx := by
  refine br_c (fun z => ?_) (fun z => ro_xfo_114 hL (fun op' nm' ps' wr' rd' al' st' bt' rs' cl' nx' k => h cel op' nm' ps' wr' rd' al' st' bt' rs' cl' nx' (fun y => absurd y z) (fun _ => rfl) k))
  obtain ⟨j, hj8, ej⟩ := hj z
  refine ⟨by rw [ej]; exact vp_in_nI hj8 (by omega), nm_r (e' := upd cel j (rs 0)) (by rw [ej, nI_clamp (by omega)]) (ro_xfo_114 hL (fun op' nm' ps' wr' rd' al' st' bt' rs' cl' nx' k => h (upd cel j (rs 0)) op' nm' ps' wr' rd' al' st' bt' rs' cl' nx' (fun _ i hi ei => ?_) (fun y => absurd z y) k))⟩
  have e : j = i := (nI_eq (by omega) (by omega)).mp (ej.symm.trans ei)
  rw [e]
theorem ro_xfo_d {post : SX → Prop} {L : Nat} (hL : L + 1 ≤ 8) (hs : st 0 = 1) (h8 : ¬ op 0 = 8) (ha : wr 0 = -1 ∨ ∃ a, a < 4 ∧ wr 0 = nI a) (hj : op 0 = 5 → ∃ j, j < 8 ∧ cl 0 = nI j)
    (h : ∀ reg' cel' op' nm' ps' wr' rd' al' st' bt' rs' cl' nx' : Nat → Int32, (wr 0 = -1 → reg' = reg) → (∀ a, a < 4 → wr 0 = nI a → reg' = upd reg a (rs 0)) → (op 0 = 5 → ∀ j, j < 8 → cl 0 = nI j → cel' = upd cel j (rs 0)) → (¬ op 0 = 5 → cel' = cel) → (∀ i, i < L → op' i = op (i + 1) ∧ nm' i = nm (i + 1) ∧ ps' i = ps (i + 1) ∧ wr' i = wr (i + 1) ∧ rd' i = rd (i + 1) ∧ al' i = al (i + 1) ∧ st' i = st (i + 1) ∧ bt' i = bt (i + 1) ∧ rs' i = rs (i + 1) ∧ cl' i = cl (i + 1) ∧ nx' i = nx (i + 1)) → post (PL, SU, nx 0, FC + 1, ZG, nI L, FP, FG, pO, pR, pN, reg', cel', op', nm', ps', wr', rd', al', st', bt', rs', cl', nx')) : wpX_finishOldest post (PL, SU, RP, FC, ZG, nI (L + 1), FP, FG, pO, pR, pN, reg, cel, op, nm, ps, wr, rd, al, st, bt, rs, cl, nx) := by
  refine pk_eq (L + 1) 0 (fun z => absurd z (by omega)) (fun _ => br_f (by rw [hs]; decide) (br_f (by rw [hs]; decide) (nm_e (br_f h8 ?_))))
  rcases ha with ha | ⟨a, ha4, ha⟩
  · exact br_t ha (ro_xfo_87 hL hj (fun cel' op' nm' ps' wr' rd' al' st' bt' rs' cl' nx' k1 k2 k => h reg cel' op' nm' ps' wr' rd' al' st' bt' rs' cl' nx' (fun _ => rfl) (fun a h4 y => absurd (y.symm.trans ha) (ro_nn (by omega))) k1 k2 k))
  · refine br_f (by rw [ha]; exact ro_nn (by omega)) ⟨by rw [ha]; exact vp_in_nI ha4 (by omega), nm_r (e' := upd reg a (rs 0)) (by rw [ha, nI_clamp (by omega)]) (ro_xfo_87 hL hj (fun cel' op' nm' ps' wr' rd' al' st' bt' rs' cl' nx' k1 k2 k => h (upd reg a (rs 0)) cel' op' nm' ps' wr' rd' al' st' bt' rs' cl' nx' (fun y => absurd (ha.symm.trans y) (ro_nn (by omega))) (fun i hi ei => ?_) k1 k2 k))⟩
    have e : a = i := (nI_eq (by omega) (by omega)).mp (ha.symm.trans ei)
    rw [e]
end
