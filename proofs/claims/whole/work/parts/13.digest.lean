def ro_dg (f : Nat → Int32) (w : Nat) (s : Int32) : Nat → Int32
  | 0 => s
  | i + 1 => ro_dg f w s i + f i * nI (i + w)
section
variable {PL SU RP FC ZG WL FP FG : Int32} {pO pR pN reg cel op nm ps wr rd al st bt rs cl nx : Nat → Int32}
theorem ro_dx30 {post : Int32 → Prop} {s : Int32} (h : post (ro_dg cel 5 s 8)) : ∀ d i n, i + d = 8 → d < n → wX_digest_30 post PL SU RP FC ZG WL FP FG pO pR pN reg cel op nm ps wr rd al st bt rs cl nx n (ro_dg cel 5 s i) (nI i) := by
  intro d
  induction d with
  | zero =>
    intro i n hi hn
    obtain ⟨n, rfl⟩ : ∃ q, n = q + 1 := ⟨n - 1, by omega⟩
    have e : i = 8 := by omega
    subst e
    rw [wX_digest_30]
    exact br_t (by decide) h
  | succ d ih =>
    intro i n hi hn
    obtain ⟨n, rfl⟩ : ∃ q, n = q + 1 := ⟨n - 1, by omega⟩
    rw [wX_digest_30]
    refine pk_le 8 i (fun z => absurd z (by omega)) (fun _ => ⟨vp_in_nI (by omega) (by omega), nm_r (e' := ro_dg cel 5 s (i + 1)) ?_ (nm_r (nI_1 i) (ih (i + 1) n (by omega) (by omega)))⟩)
    rw [nI_clamp (by omega), show nI i + 5 = nI (i + 5) from nI_add i 5]
    rfl
theorem ro_dx4 {post : Int32 → Prop} (h : post (ro_dg cel 5 (ro_dg reg 1 0 4) 8)) : ∀ d i n, i + d = 4 → d < n → wX_digest_4 post PL SU RP FC ZG WL FP FG pO pR pN reg cel op nm ps wr rd al st bt rs cl nx n (ro_dg reg 1 0 i) (nI i) := by
  intro d
  induction d with
  | zero =>
    intro i n hi hn
    obtain ⟨n, rfl⟩ : ∃ q, n = q + 1 := ⟨n - 1, by omega⟩
    have e : i = 4 := by omega
    subst e
    rw [wX_digest_4]
    exact br_t (by decide) ⟨9, ro_dx30 h 8 0 9 (by omega) (by omega)⟩
  | succ d ih =>
    intro i n hi hn
    obtain ⟨n, rfl⟩ : ∃ q, n = q + 1 := ⟨n - 1, by omega⟩
    rw [wX_digest_4]
    refine pk_le 4 i (fun z => absurd z (by omega)) (fun _ => ⟨vp_in_nI (by omega) (by omega), nm_r (e' := ro_dg reg 1 0 (i + 1)) ?_ (nm_r (nI_1 i) (ih (i + 1) n (by omega) (by omega)))⟩)
    rw [nI_clamp (by omega), nI_1]
    rfl
theorem ro_dx {post : Int32 → Prop} (h : post (ro_dg cel 5 (ro_dg reg 1 0 4) 8)) : wpX_digest post (PL, SU, RP, FC, ZG, WL, FP, FG, pO, pR, pN, reg, cel, op, nm, ps, wr, rd, al, st, bt, rs, cl, nx) :=
  ⟨5, ro_dx4 h 4 0 5 (by omega) (by omega)⟩
end
section
variable {SZ SU RP DN : Int32} {pO pR pN reg cel : Nat → Int32}
theorem ro_dy30 {post : Int32 → Prop} {s : Int32} (h : post (ro_dg cel 5 s 8)) : ∀ d i n, i + d = 8 → d < n → wY_digest_30 post SZ SU RP DN pO pR pN reg cel n (ro_dg cel 5 s i) (nI i) := by
  intro d
  induction d with
  | zero =>
    intro i n hi hn
    obtain ⟨n, rfl⟩ : ∃ q, n = q + 1 := ⟨n - 1, by omega⟩
    have e : i = 8 := by omega
    subst e
    rw [wY_digest_30]
    exact br_t (by decide) h
  | succ d ih =>
    intro i n hi hn
    obtain ⟨n, rfl⟩ : ∃ q, n = q + 1 := ⟨n - 1, by omega⟩
    rw [wY_digest_30]
    refine pk_le 8 i (fun z => absurd z (by omega)) (fun _ => ⟨vp_in_nI (by omega) (by omega), nm_r (e' := ro_dg cel 5 s (i + 1)) ?_ (nm_r (nI_1 i) (ih (i + 1) n (by omega) (by omega)))⟩)
    rw [nI_clamp (by omega), show nI i + 5 = nI (i + 5) from nI_add i 5, Int32.mul_comm]
    rfl
theorem ro_dy4 {post : Int32 → Prop} (h : post (ro_dg cel 5 (ro_dg reg 1 0 4) 8)) : ∀ d i n, i + d = 4 → d < n → wY_digest_4 post SZ SU RP DN pO pR pN reg cel n (ro_dg reg 1 0 i) (nI i) := by
  intro d
  induction d with
  | zero =>
    intro i n hi hn
    obtain ⟨n, rfl⟩ : ∃ q, n = q + 1 := ⟨n - 1, by omega⟩
    have e : i = 4 := by omega
    subst e
    rw [wY_digest_4]
    exact br_t (by decide) ⟨9, ro_dy30 h 8 0 9 (by omega) (by omega)⟩
  | succ d ih =>
    intro i n hi hn
    obtain ⟨n, rfl⟩ : ∃ q, n = q + 1 := ⟨n - 1, by omega⟩
    rw [wY_digest_4]
    refine pk_le 4 i (fun z => absurd z (by omega)) (fun _ => ⟨vp_in_nI (by omega) (by omega), nm_r (e' := ro_dg reg 1 0 (i + 1)) ?_ (nm_r (nI_1 i) (ih (i + 1) n (by omega) (by omega)))⟩)
    rw [nI_clamp (by omega), nI_1, Int32.mul_comm]
    rfl
theorem ro_dy {post : Int32 → Prop} (h : post (ro_dg cel 5 (ro_dg reg 1 0 4) 8)) : wpY_digest post (SZ, SU, RP, DN, pO, pR, pN, reg, cel) :=
  ⟨5, ro_dy4 h 4 0 5 (by omega) (by omega)⟩
end
