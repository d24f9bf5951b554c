section
variable {PL SU RP FC ZG WL FP FG : Int32} {pO pR pN reg cel op nm ps wr rd al st bt rs cl nx : Nat → Int32}
theorem ro_fc (B : Int32) (cnt : Nat) : nI cnt + B + 1 = nI (cnt + 1) + B := by
  rw [Int32.add_assoc, Int32.add_comm B 1, ← Int32.add_assoc, nI_1]
theorem ro_xfn_e {post : Int32 → SX → Prop} {wd B : Int32} {n beat cnt : Nat} (hb : beat ≤ 1300) (hs : ¬ SU = 1) (h : post (nI cnt) (PL, SU, RP, nI cnt + B, ZG, WL, FP, FG, pO, pR, pN, reg, cel, op, nm, ps, wr, rd, al, st, bt, rs, cl, nx)) : wX_finish_23 post wd B (n + 1) (nI beat) PL SU RP (nI cnt + B) ZG WL FP FG pO pR pN reg cel op nm ps wr rd al st bt rs cl nx := by
  rw [wX_finish_23]
  dsimp only
  rw [Int32.add_sub_cancel]
  exact pk_le 1000000 beat (fun z => absurd z (by omega)) (fun _ => br_f hs h)
theorem ro_xfn {post : Int32 → SX → Prop} {wd B : Int32} {len : Nat} {QY : (Int32 → SY → Prop) → Prop} (hw : wd ≤ 200) (hl : len ≤ 16) (HP : ro_P len pO pR)
    (hend : ∀ (cnt : Nat) (SU RP WL FP FG : Int32) (reg cel op nm ps wr rd al st bt rs cl nx : Nat → Int32), (SU = 1 → ∃ L, WL = nI L ∧ ro_Win len pO pR pN reg cel RP L FP FG op nm ps wr rd al st bt rs cl nx) →
      (∀ post' : Int32 → SY → Prop, wY_finish_51 post' (nI cnt) (nI len) SU RP B pO pR pN reg cel → QY post') → post (nI cnt) (nI len, SU, RP, nI cnt + B, ZG, WL, FP, FG, pO, pR, pN, reg, cel, op, nm, ps, wr, rd, al, st, bt, rs, cl, nx)) :
    ∀ (d beat cnt nd L : Nat) (RP FP FG : Int32) (reg cel op nm ps wr rd al st bt rs cl nx : Nat → Int32), beat + d = 1300 → cnt ≤ 200 → ro_Win len pO pR pN reg cel RP L FP FG op nm ps wr rd al st bt rs cl nx → ro_nd L (st 0) (bt 0) nd → beat + nd ≤ 6 * cnt + 6 →
      (∀ post' : Int32 → SY → Prop, (∃ n, wY_finish_17 post' wd n (nI cnt) (nI len) 1 RP B pO pR pN reg cel) → QY post') →
      wX_finish_23 post wd B (d + 1) (nI beat) (nI len) 1 RP (nI cnt + B) ZG (nI L) FP FG pO pR pN reg cel op nm ps wr rd al st bt rs cl nx := by
  intro d
  induction d with
  | zero => intro beat cnt nd L RP FP FG reg cel op nm ps wr rd al st bt rs cl nx hb hc H hn hk; omega
  | succ d ih =>
    intro beat cnt nd L RP FP FG reg cel op nm ps wr rd al st bt rs cl nx hb hc H hn hk HY
    have n1 := hn.1
    have n6 := hn.2.1
    obtain ⟨d, rfl⟩ : ∃ q, d = q + 1 := ⟨d - 1, by omega⟩
    rw [wX_finish_23]
    dsimp only
    rw [Int32.add_sub_cancel]
    refine pk_le 1000000 beat (fun z => absurd z (by omega)) (fun _ => br_t rfl (br_c (fun hlt => ?_) (fun hge => ?_)))
    · have hlt2 : ¬ wd ≤ nI cnt := Int32.not_le.mpr hlt
      have hc2 : cnt < 200 := (nI_ltI (b := 200) (by omega) (by omega)).mp (Int32.lt_of_lt_of_le hlt hw)
      refine ro_xfs hl HP H (fun L1 FP1 FG1 op1 nm1 ps1 wr1 rd1 al1 st1 bt1 rs1 cl1 nx1 W1 hL1 F1 => ?_)
      dsimp only
      have N1 := ro_nd_f hn (ro_Win_n W1) hL1 F1
      refine ro_xcr W1 hL1 (fun L2 FP2 FG2 st2 bt2 rs2 cl2 nx2 W2 hL2 G2 => ?_)
      dsimp only
      have E := ro_Win_s W2 hL2
      have L8 := W2.1
      rcases ro_En_s E with hs | hs | hs
      · obtain ⟨q2, N2⟩ := ro_nd_g N1 hL1 hL2 G2 hs
        refine ro_xfo_w L8 hL2 hs ?_
        dsimp only
        exact nm_r (nI_1 beat) (ih (beat + 1) cnt (nd - 1) L2 RP FP2 FG2 reg cel op1 nm1 ps1 wr1 rd1 al1 st2 bt2 rs2 cl2 nx2 (by omega) hc W2 N2 (by omega) HY)
      · rw [hs] at E
        obtain ⟨k1, k2, k3⟩ := ro_En_d E
        by_cases h8 : op1 0 = 8
        · refine ro_xfo_h L8 hL2 hs h8 ?_
          dsimp only
          refine nm_r (nI_1 beat) ?_
          rw [ro_fc]
          refine ro_xfn_e (by omega) (by decide) (hend (cnt + 1) 2 RP 0 FP2 FG2 reg cel op1 nm1 ps1 wr1 rd1 al1 st2 bt2 rs2 cl2 nx2 (fun z => absurd z (by decide)) (fun post' h51 => HY post' ⟨2, br_f hlt2 (br_t rfl ?_)⟩))
          exact ro_yd (R' := if wr1 0 = -1 then reg else upd reg (wr1 0).toNatClampNeg (rs2 0)) (C' := if op1 0 = 5 then upd cel (cl2 0).toNatClampNeg (rs2 0) else cel) hl E (fun z => if_pos z) (fun a ha z => by rw [if_neg (by rw [z]; exact ro_nn (by omega)), z, nI_clamp (by omega)]) (fun z j hj y => by rw [if_pos z, y, nI_clamp (by omega)]) (fun z => if_neg z) (fun _ => br_f (by decide) (nm_r (nI_1 cnt) (br_c (fun _ => h51) (fun _ => br_f (by decide) h51)))) (fun z => absurd h8 z)
        · obtain ⟨L3, rfl⟩ : ∃ q, L2 = q + 1 := ⟨L2 - 1, by omega⟩
          refine ro_xfo_d L8 hs h8 k1 k2 (fun reg' cel' op' nm' ps' wr' rd' al' st' bt' rs' cl' nx' r0 r1 c1 c0 f => ?_)
          dsimp only
          refine nm_r (nI_1 beat) ?_
          rw [ro_fc]
          have W3 : ro_Win len pO pR pN reg' cel' (nx2 0) L3 FP2 FG2 op' nm' ps' wr' rd' al' st' bt' rs' cl' nx' := ro_Win_d W2 h8 k3 f (ro_hr k1 r0 r1) (ro_hc k2 c1 c0)
          refine ih (beat + 1) (cnt + 1) 6 L3 (nx2 0) FP2 FG2 reg' cel' op' nm' ps' wr' rd' al' st' bt' rs' cl' nx' (by omega) (by omega) W3 (ro_Win_n W3) (by omega) (fun post' hY => ?_)
          obtain ⟨n, hY⟩ := hY
          exact HY post' ⟨n + 1, br_f hlt2 (br_t rfl (ro_yd (R' := reg') (C' := cel') hl E r0 r1 c1 c0 (fun z => absurd z h8) (fun _ => br_f (by decide) (nm_r (nI_1 cnt) hY))))⟩
      · rw [hs] at E
        refine ro_xfo_t L8 hL2 hs ?_
        dsimp only
        refine nm_r (nI_1 beat) ?_
        exact ro_xfn_e (by omega) (by decide) (hend cnt 3 RP 0 FP2 FG2 reg cel op1 nm1 ps1 wr1 rd1 al1 st2 bt2 rs2 cl2 nx2 (fun z => absurd z (by decide)) (fun post' h51 => HY post' ⟨2, br_f hlt2 (br_t rfl (ro_yt hl E (br_t rfl (br_f hlt2 (br_f (by decide) h51)))))⟩))
    · exact hend cnt 1 RP (nI L) FP FG reg cel op nm ps wr rd al st bt rs cl nx (fun _ => ⟨L, rfl, H⟩) (fun post' h51 => HY post' ⟨1, br_t (Int32.not_lt.mp hge) h51⟩)
end
