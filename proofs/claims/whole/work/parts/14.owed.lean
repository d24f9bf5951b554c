/-- the same program, registers, cells, status, position and count; and, while a run is RUNNING, a window that is good against them -/
def i_Rel (_ : Nat) (u : SX) (v : SY) : Prop :=
  ∃ (len : Nat) (SU RP FC ZG WL FP FG : Int32) (pO pR pN reg cel op nm ps wr rd al st bt rs cl nx : Nat → Int32), u = (nI len, SU, RP, FC, ZG, WL, FP, FG, pO, pR, pN, reg, cel, op, nm, ps, wr, rd, al, st, bt, rs, cl, nx) ∧ v = (nI len, SU, RP, FC, pO, pR, pN, reg, cel) ∧ len ≤ 16 ∧ ro_P len pO pR ∧
    (SU = 1 → ∃ L, WL = nI L ∧ ro_Win len pO pR pN reg cel RP L FP FG op nm ps wr rd al st bt rs cl nx)
theorem i_up {k : Nat} {u : SX} {v : SY} (h : i_Rel k u v) : i_Rel (k + 4) u v := h
theorem i_vc0 : wpX_init (fun u => wpY_init (fun v => i_Rel 0 u v)) :=
  ⟨0, 0, 0, 0, 0, 0, 0, 0, _, _, _, _, _, _, _, _, _, _, _, _, _, _, _, _, rfl, rfl, by omega, fun p hp => absurd hp (by omega), fun z => absurd z (by decide)⟩
theorem i_vc_emit {k : Nat} {u : SX} {v : SY} (I : i_Rel k u v) (hk : k + 4 ≤ 2048) (v1 : Int32) (v2 : Int32) (v3 : Int32) : wpX_emit (fun r u' => wpY_emit (fun r' v' => r' = r ∧ i_Rel (k + 4) u' v') v v1 v2 v3) u v1 v2 v3 := by
  have I0 := I
  obtain ⟨len, SU, RP, FC, ZG, WL, FP, FG, pO, pR, pN, reg, cel, op, nm, ps, wr, rd, al, st, bt, rs, cl, nx, rfl, rfl, hl, HP, HW⟩ := I
  by_cases h0 : v1 < 0
  · exact br_t h0 (br_t h0 ⟨rfl, I0⟩)
  by_cases h8 : 8 < v1
  · exact br_f h0 (br_t h8 (br_f h0 (br_t h8 ⟨rfl, I0⟩)))
  by_cases g0 : v2 < 0
  · exact br_f h0 (br_f h8 (br_t g0 (br_f h0 (br_f h8 (br_t g0 ⟨rfl, I0⟩)))))
  by_cases g6 : v2 ≤ 63
  · by_cases hf : len < 16
    · have q : nI len < 16 := nI_lt (b := 16) hf (by omega)
      have w : vp_in (nI len) 16 := vp_in_nI hf (by omega)
      have c : (nI len).toNatClampNeg = len := nI_clamp (by omega)
      obtain ⟨o, ho, rfl⟩ := nI_of2 (M := 8) (n := 8) (by decide) h0 (Int32.not_lt.mp h8)
      obtain ⟨a, b, c', ha, hb, hc, rfl⟩ := ro_63 g0 g6
      refine br_f h0 (br_f h8 (br_f g0 (br_t g6 (br_t q ⟨w, nm_r (e' := upd pO len (nI o)) (by rw [c]) ⟨w, nm_r (e' := upd pR len (nI (a + 4 * b + 16 * c'))) (by rw [c]) ⟨w, nm_r (e' := upd pN len v3) (by rw [c]) (nm_r (nI_1 len) ?_)⟩⟩⟩))))
      refine br_f h0 (br_f h8 (br_f g0 (br_t g6 (br_t q ⟨w, nm_r (e' := upd pO len (nI o)) (by rw [c]) ⟨w, nm_r (e' := upd pR len (nI (a + 4 * b + 16 * c'))) (by rw [c]) ⟨w, nm_r (e' := upd pN len v3) (by rw [c]) (nm_r (nI_1 len) ?_)⟩⟩⟩))))
      exact ⟨nI_pred len, len + 1, 0, 0, 0, _, 0, 0, 1, _, _, _, _, _, _, _, _, _, _, _, _, _, _, _, _, rfl, rfl, hf, ro_P_u HP ho ha hb hc, fun z => absurd z (by decide)⟩
    · have q : ¬ nI len < 16 := nI_nlt (b := 16) (by omega) (by omega)
      exact br_f h0 (br_f h8 (br_f g0 (br_t g6 (br_f q (br_f h0 (br_f h8 (br_f g0 (br_t g6 (br_f q ⟨rfl, I0⟩)))))))))
  · exact br_f h0 (br_f h8 (br_f g0 (br_f g6 (br_f h0 (br_f h8 (br_f g0 (br_f g6 ⟨rfl, I0⟩)))))))
theorem i_vc_clear {k : Nat} {u : SX} {v : SY} (I : i_Rel k u v) (hk : k + 4 ≤ 2048) : wpX_clear (fun u' => wpY_clear (fun v' => i_Rel (k + 4) u' v') v) u := by
  obtain ⟨len, SU, RP, FC, ZG, WL, FP, FG, pO, pR, pN, reg, cel, op, nm, ps, wr, rd, al, st, bt, rs, cl, nx, rfl, rfl, hl, HP, HW⟩ := I
  exact ⟨0, 0, 0, 0, _, 0, 0, 1, _, _, _, _, _, _, _, _, _, _, _, _, _, _, _, _, rfl, rfl, by omega, fun p hp => absurd hp (by omega), fun z => absurd z (by decide)⟩
theorem i_vc_length {k : Nat} {u : SX} {v : SY} (I : i_Rel k u v) (hk : k + 4 ≤ 2048) : wpX_length (fun r => wpY_length (fun r' => r' = r ∧ i_Rel (k + 4) u v) v) u := by
  have I0 := I
  obtain ⟨len, SU, RP, FC, ZG, WL, FP, FG, pO, pR, pN, reg, cel, op, nm, ps, wr, rd, al, st, bt, rs, cl, nx, rfl, rfl, hl, HP, HW⟩ := I
  exact ⟨rfl, I0⟩
theorem i_vc_set {k : Nat} {u : SX} {v : SY} (I : i_Rel k u v) (hk : k + 4 ≤ 2048) (v1 : Int32) (v2 : Int32) : wpX_set (fun r u' => wpY_set (fun r' v' => r' = r ∧ i_Rel (k + 4) u' v') v v1 v2) u v1 v2 := by
  have I0 := I
  obtain ⟨len, SU, RP, FC, ZG, WL, FP, FG, pO, pR, pN, reg, cel, op, nm, ps, wr, rd, al, st, bt, rs, cl, nx, rfl, rfl, hl, HP, HW⟩ := I
  by_cases hs : SU = 1
  · exact br_t hs (br_t hs ⟨rfl, I0⟩)
  by_cases h0 : v1 < 0
  · exact br_f hs (br_t h0 (br_t (Int32.lt_trans h0 (by decide)) (br_f hs (br_t h0 ⟨rfl, I0⟩))))
  obtain ⟨j, hj, rfl⟩ := nI_of h0
  by_cases j4 : j < 4
  · have w : vp_in (nI j) 4 := vp_in_nI j4 (by omega)
    have c : (nI j).toNatClampNeg = j := nI_clamp (by omega)
    refine br_f hs (br_f h0 (pk_le 4 j (fun z => absurd z (by omega)) (fun _ => ⟨w, nm_r (e' := upd reg j v2) (by rw [c]) ?_⟩)))
    refine br_f hs (br_f h0 (pk_lt 15 j (fun z => absurd z (by omega)) (fun _ => pk_le j 3 (fun _ => pk_lt 3 j (fun z => absurd z (by omega)) (fun _ => ⟨w, nm_r (e' := upd reg j v2) (by rw [c]) ?_⟩)) (fun z => absurd z (by omega)))))
    exact ⟨rfl, len, SU, RP, FC, ZG, WL, FP, FG, _, _, _, _, _, _, _, _, _, _, _, _, _, _, _, _, rfl, rfl, hl, HP, fun z => absurd z hs⟩
  by_cases j8 : j < 8
  · exact br_f hs (br_f h0 (pk_le 4 j (fun _ => pk_lt j 8 (fun _ => br_f hs (br_f h0 (pk_lt 15 j (fun z => absurd z (by omega)) (fun _ => pk_le j 3 (fun z => absurd z (by omega)) (fun _ => pk_le 8 j (fun z => absurd z (by omega)) (fun _ => ⟨rfl, I0⟩)))))) (fun z => absurd z (by omega))) (fun z => absurd z (by omega))))
  by_cases j16 : j < 16
  · have e : nI j - 8 = nI (j - 8) := pk_sub (b := 8) (by omega)
    have w : vp_in (nI j - 8) 8 := by rw [e]; exact vp_in_nI (by omega) (by omega)
    have c : (nI j - 8).toNatClampNeg = j - 8 := by rw [e]; exact nI_clamp (by omega)
    refine br_f hs (br_f h0 (pk_le 4 j (fun _ => pk_lt j 8 (fun z => absurd z (by omega)) (fun _ => pk_le 16 j (fun z => absurd z (by omega)) (fun _ => ⟨w, nm_r (e' := upd cel (j - 8) v2) (by rw [c]) ?_⟩))) (fun z => absurd z (by omega))))
    refine br_f hs (br_f h0 (pk_lt 15 j (fun z => absurd z (by omega)) (fun _ => pk_le j 3 (fun z => absurd z (by omega)) (fun _ => pk_le 8 j (fun _ => pk_lt 3 j (fun _ => ⟨w, nm_r (e' := upd cel (j - 8) v2) (by rw [c]) ?_⟩) (fun z => absurd z (by omega))) (fun z => absurd z (by omega))))))
    exact ⟨rfl, len, SU, RP, FC, ZG, WL, FP, FG, _, _, _, _, _, _, _, _, _, _, _, _, _, _, _, _, rfl, rfl, hl, HP, fun z => absurd z hs⟩
  · exact br_f hs (br_f h0 (pk_le 4 j (fun _ => pk_lt j 8 (fun z => absurd z (by omega)) (fun _ => pk_le 16 j (fun _ => br_f hs (br_f h0 (pk_lt 15 j (fun _ => ⟨rfl, I0⟩) (fun z => absurd z (by omega))))) (fun z => absurd z (by omega)))) (fun z => absurd z (by omega))))
theorem i_vc_start {k : Nat} {u : SX} {v : SY} (I : i_Rel k u v) (hk : k + 4 ≤ 2048) (v1 : Int32) : wpX_start (fun u' => wpY_start (fun v' => i_Rel (k + 4) u' v') v v1) u v1 := by
  obtain ⟨len, SU, RP, FC, ZG, WL, FP, FG, pO, pR, pN, reg, cel, op, nm, ps, wr, rd, al, st, bt, rs, cl, nx, rfl, rfl, hl, HP, HW⟩ := I
  exact ⟨len, 1, 0, 0, v1, 0, 0, 1, pO, pR, pN, reg, cel, op, nm, ps, wr, rd, al, st, bt, rs, cl, nx, rfl, rfl, hl, HP, fun _ => ⟨0, rfl, ro_Win_0⟩⟩
theorem ro_vcf {k len : Nat} {SU RP FC ZG WL FP FG wd : Int32} {pO pR pN reg cel op nm ps wr rd al st bt rs cl nx : Nat → Int32} {QY : (Int32 → SY → Prop) → Prop} (hl : len ≤ 16) (HP : ro_P len pO pR)
    (HW : SU = 1 → ∃ L, WL = nI L ∧ ro_Win len pO pR pN reg cel RP L FP FG op nm ps wr rd al st bt rs cl nx) (hw : wd ≤ 200)
    (HY : ∀ post' : Int32 → SY → Prop, (∃ n, wY_finish_17 post' wd n 0 (nI len) SU RP FC pO pR pN reg cel) → QY post') :
    ∃ n, wX_finish_23 (fun r u' => QY (fun r' v' => r' = r ∧ i_Rel (k + 4) u' v')) wd FC n 0 (nI len) SU RP FC ZG WL FP FG pO pR pN reg cel op nm ps wr rd al st bt rs cl nx := by
  have hend : ∀ (cnt : Nat) (SU RP WL FP FG : Int32) (reg cel op nm ps wr rd al st bt rs cl nx : Nat → Int32), (SU = 1 → ∃ L, WL = nI L ∧ ro_Win len pO pR pN reg cel RP L FP FG op nm ps wr rd al st bt rs cl nx) →
      (∀ post' : Int32 → SY → Prop, wY_finish_51 post' (nI cnt) (nI len) SU RP FC pO pR pN reg cel → QY post') → (fun r u' => QY (fun r' v' => r' = r ∧ i_Rel (k + 4) u' v')) (nI cnt) (nI len, SU, RP, nI cnt + FC, ZG, WL, FP, FG, pO, pR, pN, reg, cel, op, nm, ps, wr, rd, al, st, bt, rs, cl, nx) := by
    intro cnt SU RP WL FP FG reg cel op nm ps wr rd al st bt rs cl nx H hq
    exact hq _ (nm_r (Int32.add_comm FC (nI cnt)) ⟨rfl, len, SU, RP, nI cnt + FC, ZG, WL, FP, FG, pO, pR, pN, reg, cel, op, nm, ps, wr, rd, al, st, bt, rs, cl, nx, rfl, rfl, hl, HP, H⟩)
  have e : nI 0 + FC = FC := by rw [nI_0, Int32.zero_add]
  by_cases hs : SU = 1
  · subst hs
    obtain ⟨L, rfl, H⟩ := HW rfl
    refine ⟨1301, ?_⟩
    have q := ro_xfn (post := fun r u' => QY (fun r' v' => r' = r ∧ i_Rel (k + 4) u' v')) (ZG := ZG) hw hl HP hend 1300 0 0 6 L RP FP FG reg cel op nm ps wr rd al st bt rs cl nx (by omega) (by omega) H (ro_Win_n H) (by omega) (fun post' h => HY post' h)
    rw [e] at q
    exact q
  · refine ⟨1, ?_⟩
    have q := ro_xfn_e (post := fun r u' => QY (fun r' v' => r' = r ∧ i_Rel (k + 4) u' v')) (cnt := 0) (ZG := ZG) (wd := wd) (B := FC) (n := 0) (beat := 0) (by omega) hs (hend 0 SU RP WL FP FG reg cel op nm ps wr rd al st bt rs cl nx (fun z => absurd z hs) (fun post' h51 => HY post' ⟨1, br_c (fun _ => h51) (fun _ => br_f hs h51)⟩))
    rw [e] at q
    exact q
theorem i_vc_finish {k : Nat} {u : SX} {v : SY} (I : i_Rel k u v) (hk : k + 4 ≤ 2048) (v1 : Int32) : wpX_finish (fun r u' => wpY_finish (fun r' v' => r' = r ∧ i_Rel (k + 4) u' v') v v1) u v1 := by
  obtain ⟨len, SU, RP, FC, ZG, WL, FP, FG, pO, pR, pN, reg, cel, op, nm, ps, wr, rd, al, st, bt, rs, cl, nx, rfl, rfl, hl, HP, HW⟩ := I
  refine br_c (fun z => ?_) (fun z => ?_)
  · exact ro_vcf (QY := fun post' => wpY_finish post' (nI len, SU, RP, FC, pO, pR, pN, reg, cel) v1) hl HP HW z (fun post' h => br_t z h)
  · exact ro_vcf (QY := fun post' => wpY_finish post' (nI len, SU, RP, FC, pO, pR, pN, reg, cel) v1) hl HP HW (by decide) (fun post' h => br_f z h)
theorem i_vc_status {k : Nat} {u : SX} {v : SY} (I : i_Rel k u v) (hk : k + 4 ≤ 2048) : wpX_status (fun r => wpY_status (fun r' => r' = r ∧ i_Rel (k + 4) u v) v) u := by
  have I0 := I
  obtain ⟨len, SU, RP, FC, ZG, WL, FP, FG, pO, pR, pN, reg, cel, op, nm, ps, wr, rd, al, st, bt, rs, cl, nx, rfl, rfl, hl, HP, HW⟩ := I
  exact ⟨rfl, I0⟩
theorem i_vc_position {k : Nat} {u : SX} {v : SY} (I : i_Rel k u v) (hk : k + 4 ≤ 2048) : wpX_position (fun r => wpY_position (fun r' => r' = r ∧ i_Rel (k + 4) u v) v) u := by
  have I0 := I
  obtain ⟨len, SU, RP, FC, ZG, WL, FP, FG, pO, pR, pN, reg, cel, op, nm, ps, wr, rd, al, st, bt, rs, cl, nx, rfl, rfl, hl, HP, HW⟩ := I
  exact ⟨rfl, I0⟩
theorem i_vc_finished {k : Nat} {u : SX} {v : SY} (I : i_Rel k u v) (hk : k + 4 ≤ 2048) : wpX_finished (fun r => wpY_finished (fun r' => r' = r ∧ i_Rel (k + 4) u v) v) u := by
  have I0 := I
  obtain ⟨len, SU, RP, FC, ZG, WL, FP, FG, pO, pR, pN, reg, cel, op, nm, ps, wr, rd, al, st, bt, rs, cl, nx, rfl, rfl, hl, HP, HW⟩ := I
  exact ⟨rfl, I0⟩
theorem i_vc_register {k : Nat} {u : SX} {v : SY} (I : i_Rel k u v) (hk : k + 4 ≤ 2048) (v1 : Int32) : wpX_register (fun r => wpY_register (fun r' => r' = r ∧ i_Rel (k + 4) u v) v v1) u v1 := by
  have I0 := I
  obtain ⟨len, SU, RP, FC, ZG, WL, FP, FG, pO, pR, pN, reg, cel, op, nm, ps, wr, rd, al, st, bt, rs, cl, nx, rfl, rfl, hl, HP, HW⟩ := I
  by_cases h0 : v1 < 0
  · exact br_t h0 (br_t h0 ⟨rfl, I0⟩)
  obtain ⟨j, hj, rfl⟩ := nI_of h0
  exact br_f h0 (pk_le 4 j (fun _ => br_f h0 (pk_lt 3 j (fun _ => ⟨rfl, I0⟩) (fun z => absurd z (by omega)))) (fun z => ⟨vp_in_nI z (by omega), br_f h0 (pk_lt 3 j (fun z => absurd z (by omega)) (fun _ => ⟨vp_in_nI z (by omega), rfl, I0⟩))⟩))
theorem i_vc_memory {k : Nat} {u : SX} {v : SY} (I : i_Rel k u v) (hk : k + 4 ≤ 2048) (v1 : Int32) : wpX_memory (fun r => wpY_memory (fun r' => r' = r ∧ i_Rel (k + 4) u v) v v1) u v1 := by
  have I0 := I
  obtain ⟨len, SU, RP, FC, ZG, WL, FP, FG, pO, pR, pN, reg, cel, op, nm, ps, wr, rd, al, st, bt, rs, cl, nx, rfl, rfl, hl, HP, HW⟩ := I
  by_cases h0 : v1 < 0
  · exact br_t h0 (br_t h0 ⟨rfl, I0⟩)
  obtain ⟨j, hj, rfl⟩ := nI_of h0
  exact br_f h0 (pk_le 8 j (fun _ => br_f h0 (pk_lt 7 j (fun _ => ⟨rfl, I0⟩) (fun z => absurd z (by omega)))) (fun z => ⟨vp_in_nI z (by omega), br_f h0 (pk_lt 7 j (fun z => absurd z (by omega)) (fun _ => ⟨vp_in_nI z (by omega), rfl, I0⟩))⟩))
theorem i_vc_digest {k : Nat} {u : SX} {v : SY} (I : i_Rel k u v) (hk : k + 4 ≤ 2048) : wpX_digest (fun r => wpY_digest (fun r' => r' = r ∧ i_Rel (k + 4) u v) v) u := by
  have I0 := I
  obtain ⟨len, SU, RP, FC, ZG, WL, FP, FG, pO, pR, pN, reg, cel, op, nm, ps, wr, rd, al, st, bt, rs, cl, nx, rfl, rfl, hl, HP, HW⟩ := I
  exact ro_dx (ro_dy ⟨rfl, I0⟩)
