section
variable {PL SU RP FC ZG WL FP FG : Int32} {pO pR pN reg cel op nm ps wr rd al st bt rs cl nx : Nat → Int32}
theorem ro_xfi {post : SX → Prop} {len L : Nat} (hl : len ≤ 16) (HP : ro_P len pO pR) (H : ro_Win len pO pR pN reg cel RP L FP 1 op nm ps wr rd al st bt rs cl nx) (hL : L < 8)
    (h : ∀ (FP' FG' : Int32) (op' nm' ps' wr' rd' al' st' bt' rs' cl' nx' : Nat → Int32), ro_Win len pO pR pN reg cel RP (L + 1) FP' FG' op' nm' ps' wr' rd' al' st' bt' rs' cl' nx' → (∀ i, i < L → st' i = st i ∧ bt' i = bt i) → post (nI len, SU, RP, FC, ZG, nI L, FP', FG', pO, pR, pN, reg, cel, op', nm', ps', wr', rd', al', st', bt', rs', cl', nx')) :
    wpX_fetchInto post (nI len, SU, RP, FC, ZG, nI L, FP, 1, pO, pR, pN, reg, cel, op, nm, ps, wr, rd, al, st, bt, rs, cl, nx) (nI L) := by
  have v : vp_in (nI L) 8 := vp_in_nI hL (by omega)
  have ce : (nI L).toNatClampNeg = L := nI_clamp (by omega)
  have out : (FP < 0 ∨ nI len ≤ FP) → wX_fetchInto_42 post (nI L) (nI len) SU RP FC ZG (nI L) FP 1 pO pR pN reg cel op nm (upd ps L FP) wr rd al st bt (upd rs L 0) (upd cl L 0) nx := by
    intro ho
    refine ro_fi42 hL (fun rd' al' h2 h4 => h FP 0 _ _ _ _ _ _ _ _ _ _ _ (ro_Win_f H hL (fun i hi => ?_) (Or.inl ⟨pk_us, pk_us, ?_, ?_⟩) pk_us (Or.inr ⟨rfl, Or.inr pk_us⟩)) (fun i hi => ⟨pk_un (by omega), rfl⟩))
    · exact ⟨pk_un (by omega), rfl, pk_un (by omega), pk_un (by omega), h2 i (by omega), h4 i (by omega), pk_un (by omega), rfl, pk_un (by omega), pk_un (by omega), rfl⟩
    · rw [pk_us]; rfl
    · rw [pk_us]; exact ro_out hl ho
  refine ⟨v, nm_r (e' := upd ps L FP) (by rw [ce]) ⟨v, nm_r (e' := upd rs L 0) (by rw [ce]) ⟨v, nm_r (e' := upd cl L 0) (by rw [ce]) ?_⟩⟩⟩
  rcases pk_ix FP (n := len) (by omega) with h1 | h1 | ⟨p, hp, e⟩
  · exact br_t h1 (out (Or.inl h1))
  · have h0 : ¬ FP < 0 := fun z => nI_pos (n := len) (by omega) (Int32.lt_of_le_of_lt h1 z)
    exact br_f h0 (br_f (Int32.not_lt.mpr h1) (out (Or.inr h1)))
  · subst e
    obtain ⟨o, a, b, c, ho, ha, hb, hc, e1, e2⟩ := HP p hp
    have vp : vp_in (nI p) 16 := vp_in_nI (by omega) (by omega)
    have cp : (nI p).toNatClampNeg = p := nI_clamp (by omega)
    refine br_f (nI_pos (by omega)) (br_t (nI_lt hp (by omega)) ⟨vp, nm_r (e' := nI o) (by rw [cp]; exact e1) ⟨vp, v, nm_r (e' := upd nm L (pN p)) (by rw [ce, cp]) ⟨vp, ?_⟩⟩⟩)
    rw [cp, e2]
    refine ro_xdc hL (by omega) ha hb hc (fun rd' al' q1 q2 q3 q4 => ⟨v, nm_r (e' := upd st L 0) (by rw [ce]) (ro_xbo ho (fun t t1 t6 => ⟨v, nm_r (e' := upd bt L (nI t)) (by rw [ce]) (ro_xen hL ho pk_us (fun r hr => ⟨v, nm_r (e' := upd nx L r) (by rw [ce]) ⟨v, nm_r (e' := r) (by rw [ce]; exact pk_us) ?_⟩⟩))⟩))⟩)
    rw [pk_us, pk_us] at hr
    have W : ∀ FG' : Int32, (FG' = 1 ∨ (FG' = 0 ∧ o = 8)) → ro_Win len pO pR pN reg cel RP (L + 1) r FG' (upd op L (nI o)) (upd nm L (pN p)) (upd ps L (nI p)) (upd wr L (ro_wf o a)) rd' al' (upd st L 0) (upd bt L (nI t)) (upd rs L 0) (upd cl L 0) (upd nx L r) := by
      intro FG' hg
      refine ro_Win_f H hL (fun i hi => ?_) ?_ pk_us ?_
      · exact ⟨pk_un (by omega), pk_un (by omega), pk_un (by omega), pk_un (by omega), q2 i (by omega), q4 i (by omega), pk_un (by omega), pk_un (by omega), pk_un (by omega), pk_un (by omega), pk_un (by omega)⟩
      · rw [pk_us, pk_us, pk_us, pk_us, pk_us, pk_us, pk_us, pk_us, pk_us, q1, q3]
        exact ro_En_f hp ho ha hb hc e1 e2 t1 t6 hr
      · rcases hg with hg | ⟨hg, h8⟩
        · exact Or.inl ⟨hg, pk_us.symm⟩
        · refine Or.inr ⟨hg, Or.inl ?_⟩
          rw [pk_us, h8]; rfl
    have F : ∀ i, i < L → upd st L 0 i = st i ∧ upd bt L (nI t) i = bt i := fun i hi => ⟨pk_un (by omega), pk_un (by omega)⟩
    exact pk_eq o 8 (fun z => h _ 0 _ _ _ _ _ _ _ _ _ _ _ (W 0 (Or.inr ⟨rfl, z⟩)) F) (fun z => h _ 1 _ _ _ _ _ _ _ _ _ _ _ (W 1 (Or.inl rfl)) F)
theorem ro_xfs_l {post : SX → Prop} {len L0 : Nat} {s0 b0 : Int32} (hl : len ≤ 16) (HP : ro_P len pO pR)
    (h : ∀ (L : Nat) (FP FG : Int32) (op nm ps wr rd al st bt rs cl nx : Nat → Int32), ro_Win len pO pR pN reg cel RP L FP FG op nm ps wr rd al st bt rs cl nx → 0 < L → (0 < L0 → st 0 = s0 ∧ bt 0 = b0) → post (nI len, SU, RP, FC, ZG, nI L, FP, FG, pO, pR, pN, reg, cel, op, nm, ps, wr, rd, al, st, bt, rs, cl, nx)) :
    ∀ (d i n L : Nat) (FP FG : Int32) (op nm ps wr rd al st bt rs cl nx : Nat → Int32), i + d = 2 → d < n → ro_Win len pO pR pN reg cel RP L FP FG op nm ps wr rd al st bt rs cl nx → (i = 0 ∨ 0 < L) → (0 < L0 → 0 < L ∧ st 0 = s0 ∧ bt 0 = b0) →
    wX_fetchSome_2 post n (nI i) (nI len) SU RP FC ZG (nI L) FP FG pO pR pN reg cel op nm ps wr rd al st bt rs cl nx := by
  intro d
  induction d with
  | zero =>
    intro i n L FP FG op nm ps wr rd al st bt rs cl nx hi hn H hL h0
    obtain ⟨n, rfl⟩ : ∃ q, n = q + 1 := ⟨n - 1, by omega⟩
    rw [wX_fetchSome_2]
    exact pk_le 2 i (fun _ => h L FP FG op nm ps wr rd al st bt rs cl nx H (by omega) (fun z => (h0 z).2)) (fun z => absurd z (by omega))
  | succ d ih =>
    intro i n L FP FG op nm ps wr rd al st bt rs cl nx hi hn H hL h0
    obtain ⟨n, rfl⟩ : ∃ q, n = q + 1 := ⟨n - 1, by omega⟩
    rw [wX_fetchSome_2]
    refine pk_le 2 i (fun z => absurd z (by omega)) (fun _ => ?_)
    have L8 := H.1
    rcases H.2.2.2.2 with ⟨g, _⟩ | ⟨g, e, he, _⟩
    · subst g
      refine br_f (by decide) (pk_le 8 L (fun z => nm_r (nI_1 i) (ih (i + 1) n L FP 1 op nm ps wr rd al st bt rs cl nx (by omega) (by omega) H (by omega) h0)) (fun z => ?_))
      refine ro_xfi hl HP H (by omega) (fun FP' FG' op' nm' ps' wr' rd' al' st' bt' rs' cl' nx' W F => nm_r (nI_1 L) (nm_r (nI_1 i) (ih (i + 1) n (L + 1) FP' FG' op' nm' ps' wr' rd' al' st' bt' rs' cl' nx' (by omega) (by omega) W (by omega) (fun z0 => ?_))))
      obtain ⟨y1, y2, y3⟩ := h0 z0
      exact ⟨by omega, (F 0 y1).1.trans y2, (F 0 y1).2.trans y3⟩
    · subst g
      exact br_t rfl (nm_r (nI_1 i) (ih (i + 1) n L FP 0 op nm ps wr rd al st bt rs cl nx (by omega) (by omega) H (by omega) h0))
theorem ro_xfs {post : SX → Prop} {len L : Nat} (hl : len ≤ 16) (HP : ro_P len pO pR) (H : ro_Win len pO pR pN reg cel RP L FP FG op nm ps wr rd al st bt rs cl nx)
    (h : ∀ (L' : Nat) (FP' FG' : Int32) (op' nm' ps' wr' rd' al' st' bt' rs' cl' nx' : Nat → Int32), ro_Win len pO pR pN reg cel RP L' FP' FG' op' nm' ps' wr' rd' al' st' bt' rs' cl' nx' → 0 < L' → (0 < L → st' 0 = st 0 ∧ bt' 0 = bt 0) → post (nI len, SU, RP, FC, ZG, nI L', FP', FG', pO, pR, pN, reg, cel, op', nm', ps', wr', rd', al', st', bt', rs', cl', nx')) :
    wpX_fetchSome post (nI len, SU, RP, FC, ZG, nI L, FP, FG, pO, pR, pN, reg, cel, op, nm, ps, wr, rd, al, st, bt, rs, cl, nx) :=
  ⟨3, ro_xfs_l hl HP h 2 0 3 L FP FG op nm ps wr rd al st bt rs cl nx (by omega) (by omega) H (Or.inl rfl) (fun z => ⟨z, rfl, rfl⟩)⟩
end
