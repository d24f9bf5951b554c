section
variable {PL SU RP FC ZG WL FP FG : Int32} {pO pR pN reg cel op nm ps wr rd al st bt rs cl nx : Nat → Int32}
theorem ro_xcr_l {post : SX → Prop} {len : Nat} {s0 b0 : Int32}
    (h : ∀ (L : Nat) (FP FG : Int32) (st bt rs cl nx : Nat → Int32), ro_Win len pO pR pN reg cel RP L FP FG op nm ps wr rd al st bt rs cl nx → 0 < L → ro_Pg s0 b0 (st 0) (bt 0) → post (PL, SU, RP, FC, ZG, nI L, FP, FG, pO, pR, pN, reg, cel, op, nm, ps, wr, rd, al, st, bt, rs, cl, nx)) :
    ∀ (m n L : Nat) (FP FG : Int32) (st bt rs cl nx : Nat → Int32), m ≤ 8 → m < n → ro_Win len pO pR pN reg cel RP L FP FG op nm ps wr rd al st bt rs cl nx → 0 < L → (0 < m → st 0 = s0 ∧ bt 0 = b0) → (m = 0 → ro_Pg s0 b0 (st 0) (bt 0)) →
    wX_carryOutReady_3 post n (nI m - 1) PL SU RP FC ZG (nI L) FP FG pO pR pN reg cel op nm ps wr rd al st bt rs cl nx := by
  intro m
  induction m with
  | zero =>
    intro n L FP FG st bt rs cl nx h8 hn H hL h1 h2
    obtain ⟨n, rfl⟩ : ∃ q, n = q + 1 := ⟨n - 1, by omega⟩
    rw [ro_z1, wX_carryOutReady_3]
    exact br_t (by decide) (h L FP FG st bt rs cl nx H hL (h2 rfl))
  | succ m ih =>
    intro n L FP FG st bt rs cl nx h8 hn H hL h1 h2
    obtain ⟨n, rfl⟩ : ∃ q, n = q + 1 := ⟨n - 1, by omega⟩
    rw [ro_p1, wX_carryOutReady_3]
    have L8 := H.1
    have ce : (nI m).toNatClampNeg = m := nI_clamp (by omega)
    have q : vp_in (nI m) 8 := vp_in_nI (by omega) (by omega)
    obtain ⟨i1, i2⟩ := h1 (by omega)
    have skip : (m = 0 → ro_Pg s0 b0 (st 0) (bt 0)) → wX_carryOutReady_3 post n (nI m - 1) PL SU RP FC ZG (nI L) FP FG pO pR pN reg cel op nm ps wr rd al st bt rs cl nx := fun hz => ih n L FP FG st bt rs cl nx (by omega) (by omega) H hL (fun _ => ⟨i1, i2⟩) hz
    refine br_f (nI_pos (by omega)) (pk_le L m (fun z => nm_r (ro_m1 m) (skip (fun y => absurd y (by omega)))) (fun z => ⟨q, ?_⟩))
    rw [ce]
    refine br_c (fun hs => ?_) (fun hs => nm_r (ro_m1 m) (skip (fun y => ?_)))
    · have E0 : ro_En len pO pR pN (op m) (nm m) (ps m) (wr m) (rd m) (al m) 0 (bt m) (rs m) (cl m) (nx m) (fun a => ro_v reg wr rs a m) (fun a => ro_k wr st a m) (fun c => ro_c cel op cl rs c m) (ro_s op st m) := by
        have E := H.2.1 m z
        unfold ro_EA at E
        rw [hs] at E
        exact E
      obtain ⟨o, ho, hop, hd, ha, t, t1, t6, et⟩ := ro_En_w E0
      refine ro_xir (by omega) hd ha (fun kd ka ks => br_f (by decide) ⟨q, q, nm_r (e' := upd bt m (nI (t - 1))) ?_ ⟨q, ?_⟩⟩) (fun hn => br_t rfl (nm_r (ro_m1 m) (skip (fun y => ?_))))
      · rw [et]
        obtain ⟨k, rfl⟩ : ∃ k, t = k + 1 := ⟨t - 1, by omega⟩
        rw [nI_pred]
        rfl
      · have fb : ∀ i, ¬ i = m → upd bt m (nI (t - 1)) i = bt i := fun i hi => pk_un hi
        rw [pk_us]
        refine pk_lt 0 (t - 1) (fun y => nm_r (ro_m1 m) ?_) (fun y => ?_)
        · refine ih n L FP FG st (upd bt m (nI (t - 1))) rs cl nx (by omega) (by omega) (ro_Win_j H (by rw [hs]; decide) (fun i hi => ⟨rfl, fb i hi, rfl, rfl, rfl⟩) ?_ rfl) hL (fun y0 => ⟨i1, (fb 0 (by omega)).trans i2⟩) (fun y0 => ?_)
          · rw [hs, pk_us]
            exact ro_En_b E0 (by omega) (by omega)
          · subst y0
            rw [pk_us, ← i1, ← i2]
            refine ⟨fun y1 => absurd hs y1, fun _ _ t' ht' et' => ?_⟩
            have tt : t = t' := (nI_eq (by omega) (by omega)).mp (et.symm.trans et')
            subst tt
            exact ⟨by omega, rfl⟩
        · refine ro_xco H z hs fb kd ka ks (fun L' FP' FG' st' rs' cl' nx' W he hns F => nm_r (ro_m1 m) (ih n L' FP' FG' st' _ rs' cl' nx' (by omega) (by omega) W (by omega) (fun y0 => ⟨(F 0 (by omega)).trans i1, (fb 0 (by omega)).trans i2⟩) (fun y0 => ?_)))
          subst y0
          exact ⟨fun _ => hns, fun _ y1 => absurd y1 hns⟩
      · subst y
        refine absurd ⟨fun _ _ _ => trivial, fun _ _ _ => trivial, fun _ j hj => absurd hj (by omega)⟩ hn
    · subst y
      rw [← i1]
      exact ⟨fun y1 => y1, fun y1 => absurd y1 hs⟩
theorem ro_xcr {post : SX → Prop} {len L : Nat} (H : ro_Win len pO pR pN reg cel RP L FP FG op nm ps wr rd al st bt rs cl nx) (hL : 0 < L)
    (h : ∀ (L' : Nat) (FP' FG' : Int32) (st' bt' rs' cl' nx' : Nat → Int32), ro_Win len pO pR pN reg cel RP L' FP' FG' op nm ps wr rd al st' bt' rs' cl' nx' → 0 < L' → ro_Pg (st 0) (bt 0) (st' 0) (bt' 0) → post (PL, SU, RP, FC, ZG, nI L', FP', FG', pO, pR, pN, reg, cel, op, nm, ps, wr, rd, al, st', bt', rs', cl', nx')) :
    wpX_carryOutReady post (PL, SU, RP, FC, ZG, nI L, FP, FG, pO, pR, pN, reg, cel, op, nm, ps, wr, rd, al, st, bt, rs, cl, nx) :=
  ⟨9, ro_xcr_l h 8 9 L FP FG st bt rs cl nx (by omega) (by omega) H hL (fun _ => ⟨rfl, rfl⟩) (fun z => absurd z (by omega))⟩
end
