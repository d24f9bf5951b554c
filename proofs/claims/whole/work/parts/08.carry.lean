section
variable {PL SU RP FC ZG WL FP FG : Int32} {pO pR pN reg cel op nm ps wr rd al st bt rs cl nx : Nat → Int32}
theorem ro_xdiv {post : SX → Prop} {e : Nat} {v w : Int32} (he : e < 8) (h0 : w = 0 → post (PL, SU, RP, FC, ZG, WL, FP, FG, pO, pR, pN, reg, cel, op, nm, ps, wr, rd, al, upd st e 2, bt, rs, cl, nx)) (h1 : ¬ w = 0 → post (PL, SU, RP, FC, ZG, WL, FP, FG, pO, pR, pN, reg, cel, op, nm, ps, wr, rd, al, st, bt, upd rs e (v / w), cl, nx)) : wpX_divide post (PL, SU, RP, FC, ZG, WL, FP, FG, pO, pR, pN, reg, cel, op, nm, ps, wr, rd, al, st, bt, rs, cl, nx) (nI e) v w := by
  have q : vp_in (nI e) 8 := vp_in_nI he (by omega)
  have ce : (nI e).toNatClampNeg = e := nI_clamp (by omega)
  exact br_c (fun z => ⟨q, nm_r (e' := upd st e 2) (by rw [ce]) (h0 z)⟩) (fun z => ⟨z, q, nm_r (e' := upd rs e (v / w)) (by rw [ce]) (h1 z)⟩)
theorem ro_xload {post : SX → Prop} {e : Nat} {v : Int32} (he : e < 8) (h0 : v < 0 → post (PL, SU, RP, FC, ZG, WL, FP, FG, pO, pR, pN, reg, cel, op, nm, ps, wr, rd, al, upd st e 2, bt, rs, cl, nx)) (h1 : ¬ v < 0 → ∀ j, j < 8 → v &&& 7 = nI j → post (PL, SU, RP, FC, ZG, WL, FP, FG, pO, pR, pN, reg, cel, op, nm, ps, wr, rd, al, st, bt, upd rs e (ro_c cel op cl rs j e), cl, nx)) : wpX_load post (PL, SU, RP, FC, ZG, WL, FP, FG, pO, pR, pN, reg, cel, op, nm, ps, wr, rd, al, st, bt, rs, cl, nx) (nI e) v := by
  have q : vp_in (nI e) 8 := vp_in_nI he (by omega)
  have ce : (nI e).toNatClampNeg = e := nI_clamp (by omega)
  obtain ⟨j, hj, ej⟩ := pk_andE v (m := 7) 3 (by decide)
  unfold wpX_load
  dsimp only
  rw [ej]
  exact br_c (fun z => ro_xcf (by omega) (by omega) ⟨q, nm_r (e' := upd rs e (ro_c cel op cl rs j e)) (by rw [ce]) (h1 (Int32.not_lt.mpr z) j (by omega) ej)⟩) (fun z => ⟨q, nm_r (e' := upd st e 2) (by rw [ce]) (h0 (Int32.not_le.mp z))⟩)
theorem ro_xstore {post : SX → Prop} {e : Nat} {v w : Int32} (he : e < 8) (h0 : v < 0 → post (PL, SU, RP, FC, ZG, WL, FP, FG, pO, pR, pN, reg, cel, op, nm, ps, wr, rd, al, upd st e 2, bt, rs, cl, nx)) (h1 : ¬ v < 0 → ∀ j, j < 8 → v &&& 7 = nI j → post (PL, SU, RP, FC, ZG, WL, FP, FG, pO, pR, pN, reg, cel, op, nm, ps, wr, rd, al, st, bt, upd rs e w, upd cl e (nI j), nx)) : wpX_store post (PL, SU, RP, FC, ZG, WL, FP, FG, pO, pR, pN, reg, cel, op, nm, ps, wr, rd, al, st, bt, rs, cl, nx) (nI e) v w := by
  have q : vp_in (nI e) 8 := vp_in_nI he (by omega)
  have ce : (nI e).toNatClampNeg = e := nI_clamp (by omega)
  obtain ⟨j, hj, ej⟩ := pk_andE v (m := 7) 3 (by decide)
  exact br_c (fun z => ⟨q, nm_r (e' := upd cl e (nI j)) (by rw [ce, ej]) ⟨q, nm_r (e' := upd rs e w) (by rw [ce]) (h1 (Int32.not_lt.mpr z) j (by omega) ej)⟩⟩) (fun z => ⟨q, nm_r (e' := upd st e 2) (by rw [ce]) (h0 (Int32.not_le.mp z))⟩)
theorem ro_xsg21 {post : SX → Prop} {e : Nat} {y : Int32} (he : e < 8) (h0 : y = nx e → post (PL, SU, RP, FC, ZG, WL, FP, FG, pO, pR, pN, reg, cel, op, nm, ps, wr, rd, al, st, bt, rs, cl, nx)) (h1 : ¬ y = nx e → post (PL, SU, RP, FC, ZG, nI (e + 1), y, 1, pO, pR, pN, reg, cel, op, nm, ps, wr, rd, al, st, bt, rs, cl, upd nx e y)) : wX_settleGuess_21 post (nI e) y PL SU RP FC ZG WL FP FG pO pR pN reg cel op nm ps wr rd al st bt rs cl nx := by
  have q : vp_in (nI e) 8 := vp_in_nI he (by omega)
  have ce : (nI e).toNatClampNeg = e := nI_clamp (by omega)
  unfold wX_settleGuess_21
  rw [ce]
  exact ⟨q, br_c h0 (fun z => ⟨q, nm_e (nm_r (nI_1 e) (h1 z))⟩)⟩
theorem ro_xsg {post : SX → Prop} {e : Nat} {v : Int32} (he : e < 8) (h0 : (if v = 0 then nm e else ps e + 1) = nx e → post (PL, SU, RP, FC, ZG, WL, FP, FG, pO, pR, pN, reg, cel, op, nm, ps, wr, rd, al, st, bt, rs, cl, nx)) (h1 : ∀ y, y = (if v = 0 then nm e else ps e + 1) → ¬ y = nx e → post (PL, SU, RP, FC, ZG, nI (e + 1), y, 1, pO, pR, pN, reg, cel, op, nm, ps, wr, rd, al, st, bt, rs, cl, upd nx e y)) : wpX_settleGuess post (PL, SU, RP, FC, ZG, WL, FP, FG, pO, pR, pN, reg, cel, op, nm, ps, wr, rd, al, st, bt, rs, cl, nx) (nI e) v := by
  have q : vp_in (nI e) 8 := vp_in_nI he (by omega)
  have ce : (nI e).toNatClampNeg = e := nI_clamp (by omega)
  unfold wpX_settleGuess
  dsimp only
  rw [ce]
  refine br_c (fun z => ⟨q, ro_xsg21 he (fun y => h0 ((if_pos z).trans y)) (fun y => h1 _ (if_pos z).symm y)⟩) (fun z => ⟨q, ro_xsg21 he (fun y => h0 ((if_neg z).trans y)) (fun y => h1 _ (if_neg z).symm y)⟩)
theorem ro_xco {post : SX → Prop} {len L e : Nat} {bt0 : Nat → Int32} (H : ro_Win len pO pR pN reg cel RP L FP FG op nm ps wr rd al st bt0 rs cl nx) (he : e < L) (hs : st e = 0) (hb : ∀ i, ¬ i = e → bt i = bt0 i)
    (kd : ro_kk (fun x => ro_k wr st x e) (rd e)) (ka : ro_kk (fun x => ro_k wr st x e) (al e)) (ks : op e = 4 → ro_s op st e)
    (h : ∀ (L' : Nat) (FP' FG' : Int32) (st' rs' cl' nx' : Nat → Int32), ro_Win len pO pR pN reg cel RP L' FP' FG' op nm ps wr rd al st' bt rs' cl' nx' → e < L' → ¬ st' e = 0 → (∀ i, ¬ i = e → st' i = st i) → post (PL, SU, RP, FC, ZG, nI L', FP', FG', pO, pR, pN, reg, cel, op, nm, ps, wr, rd, al, st', bt, rs', cl', nx')) :
    wpX_carryOut post (PL, SU, RP, FC, ZG, nI L, FP, FG, pO, pR, pN, reg, cel, op, nm, ps, wr, rd, al, st, bt, rs, cl, nx) (nI e) := by
  have L8 := H.1
  have he8 : e < 8 := by omega
  have q : vp_in (nI e) 8 := vp_in_nI he8 (by omega)
  have ce : (nI e).toNatClampNeg = e := nI_clamp (by omega)
  have E0 : ro_En len pO pR pN (op e) (nm e) (ps e) (wr e) (rd e) (al e) 0 (bt0 e) (rs e) (cl e) (nx e) (fun a => ro_v reg wr rs a e) (fun a => ro_k wr st a e) (fun c => ro_c cel op cl rs c e) (ro_s op st e) := by
    have E := H.2.1 e he
    unfold ro_EA at E
    rw [hs] at E
    exact E
  obtain ⟨o, ho, hop, hd, ha, _⟩ := ro_En_w E0
  have hns : ¬ st e = 1 := by rw [hs]; decide
  unfold wpX_carryOut
  dsimp only
  rw [ce]
  refine ⟨q, ro_xvf (by omega) hd (fun v hv => ⟨q, ro_xvf (by omega) ha (fun w hw => ⟨q, nm_e ⟨q, nm_r hop ?_⟩⟩)⟩)⟩
  have F1 : ∀ (x : Int32) i, ¬ i = e → upd st e x i = st i := fun x i hi => pk_un hi
  have F2 : ∀ (x y : Int32) i, ¬ i = e → upd (upd st e x) e y i = st i := fun x y i hi => (pk_un hi).trans (pk_un hi)
  have Fr : ∀ (x : Int32) i, ¬ i = e → upd rs e x i = rs i := fun x i hi => pk_un hi
  have Fc : ∀ (x : Int32) i, ¬ i = e → upd cl e x i = cl i := fun x i hi => pk_un hi
  have Fn : ∀ (x : Int32) i, ¬ i = e → upd nx e x i = nx i := fun x i hi => pk_un hi
  have E1 : ∀ (s' r' c' n' : Int32), ((s' = 1 ∧ ro_Rs o (nm e) (ps e) (nx e) v w r' c' n' (fun c => ro_c cel op cl rs c e)) ∨ (s' = 2 ∧ n' = nx e ∧ ((o = 3 ∧ w = 0) ∨ ((o = 4 ∨ o = 5) ∧ v < 0)))) →
      ro_En len pO pR pN (op e) (nm e) (ps e) (wr e) (rd e) (al e) s' (bt e) r' c' n' (fun a => ro_v reg wr rs a e) (fun a => ro_k wr st a e) (fun c => ro_c cel op cl rs c e) (ro_s op st e) :=
    fun s' r' c' n' E => ro_fin E0 hop ho kd ka (fun z => ks (hop.trans (congrArg nI z))) hv hw E
  have K : ∀ st' rs' cl' : Nat → Int32, (∀ i, ¬ i = e → st' i = st i) → (∀ i, ¬ i = e → rs' i = rs i) → (∀ i, ¬ i = e → cl' i = cl i) → ((st' e = 1 ∧ ro_Rs o (nm e) (ps e) (nx e) v w (rs' e) (cl' e) (nx e) (fun c => ro_c cel op cl rs c e)) ∨ (st' e = 2 ∧ nx e = nx e ∧ ((o = 3 ∧ w = 0) ∨ ((o = 4 ∨ o = 5) ∧ v < 0)))) →
      post (PL, SU, RP, FC, ZG, nI L, FP, FG, pO, pR, pN, reg, cel, op, nm, ps, wr, rd, al, st', bt, rs', cl', nx) := by
    intro st' rs' cl' f1 f2 f3 E
    refine h L FP FG st' rs' cl' nx (ro_Win_j H hns (fun i hi => ⟨f1 i hi, hb i hi, f2 i hi, f3 i hi, rfl⟩) (E1 _ _ _ _ E) rfl) he ?_ f1
    rcases E with ⟨z, _⟩ | ⟨z, _⟩
    · rw [z]; decide
    · rw [z]; decide
  refine br_f (nI_pos (by omega)) (pk_lt 6 o (fun z => ?_) (fun z => pk_eq o 0 (fun z0 => ?_) (fun n0 => pk_eq o 1 (fun z1 => ?_) (fun n1 => pk_eq o 2 (fun z2 => ?_) (fun n2 => pk_eq o 3 (fun z3 => ?_) (fun n3 => pk_eq o 4 (fun z4 => ?_) (fun n4 => pk_eq o 5 (fun z5 => ?_) (fun n5 => pk_eq o 6 (fun z6 => ?_) (fun _ => trivial)))))))))
  · exact K _ _ _ (F1 1) (fun _ _ => rfl) (fun _ _ => rfl) (Or.inl ⟨pk_us, ⟨fun y => absurd y (by omega), fun y => absurd y (by omega), fun y => absurd y (by omega), fun y => absurd y (by omega), fun y => absurd y (by omega), fun y => absurd y (by omega), fun y => absurd y (by omega), fun _ => rfl⟩⟩)
  · exact ⟨q, q, nm_e (K _ _ _ (F1 1) (Fr _) (fun _ _ => rfl) (Or.inl ⟨pk_us, ⟨fun _ => pk_us, fun y => absurd y (by omega), fun y => absurd y (by omega), fun y => absurd y (by omega), fun y => absurd y (by omega), fun y => absurd y (by omega), fun y => absurd y (by omega), fun _ => rfl⟩⟩))⟩
  · exact ⟨q, nm_e (K _ _ _ (F1 1) (Fr _) (fun _ _ => rfl) (Or.inl ⟨pk_us, ⟨fun y => absurd y (by omega), fun _ => pk_us, fun y => absurd y (by omega), fun y => absurd y (by omega), fun y => absurd y (by omega), fun y => absurd y (by omega), fun y => absurd y (by omega), fun _ => rfl⟩⟩))⟩
  · exact ⟨q, nm_e (K _ _ _ (F1 1) (Fr _) (fun _ _ => rfl) (Or.inl ⟨pk_us, ⟨fun y => absurd y (by omega), fun y => absurd y (by omega), fun _ => pk_us, fun y => absurd y (by omega), fun y => absurd y (by omega), fun y => absurd y (by omega), fun y => absurd y (by omega), fun _ => rfl⟩⟩))⟩
  · exact ro_xdiv he8 (fun y0 => K _ _ _ (F2 1 2) (fun _ _ => rfl) (fun _ _ => rfl) (Or.inr ⟨pk_us, rfl, Or.inl ⟨z3, y0⟩⟩)) (fun y0 => K _ _ _ (F1 1) (Fr _) (fun _ _ => rfl) (Or.inl ⟨pk_us, ⟨fun y => absurd y (by omega), fun y => absurd y (by omega), fun y => absurd y (by omega), fun _ => ⟨y0, pk_us⟩, fun y => absurd y (by omega), fun y => absurd y (by omega), fun y => absurd y (by omega), fun _ => rfl⟩⟩))
  · exact ro_xload he8 (fun y0 => K _ _ _ (F2 1 2) (fun _ _ => rfl) (fun _ _ => rfl) (Or.inr ⟨pk_us, rfl, Or.inr ⟨Or.inl z4, y0⟩⟩)) (fun y0 j hj ej => K _ _ _ (F1 1) (Fr _) (fun _ _ => rfl) (Or.inl ⟨pk_us, ⟨fun y => absurd y (by omega), fun y => absurd y (by omega), fun y => absurd y (by omega), fun y => absurd y (by omega), fun _ => ⟨y0, j, hj, ej, pk_us⟩, fun y => absurd y (by omega), fun y => absurd y (by omega), fun _ => rfl⟩⟩))
  · exact ro_xstore he8 (fun y0 => K _ _ _ (F2 1 2) (fun _ _ => rfl) (fun _ _ => rfl) (Or.inr ⟨pk_us, rfl, Or.inr ⟨Or.inr z5, y0⟩⟩)) (fun y0 j hj ej => K _ _ _ (F1 1) (Fr _) (Fc _) (Or.inl ⟨pk_us, ⟨fun y => absurd y (by omega), fun y => absurd y (by omega), fun y => absurd y (by omega), fun y => absurd y (by omega), fun y => absurd y (by omega), fun _ => ⟨y0, j, hj, ej, pk_us, pk_us⟩, fun y => absurd y (by omega), fun _ => rfl⟩⟩))
  · refine ro_xsg he8 (fun y0 => K _ _ _ (F1 1) (fun _ _ => rfl) (fun _ _ => rfl) (Or.inl ⟨pk_us, ⟨fun y => absurd y (by omega), fun y => absurd y (by omega), fun y => absurd y (by omega), fun y => absurd y (by omega), fun y => absurd y (by omega), fun y => absurd y (by omega), fun _ => y0.symm, fun _ => rfl⟩⟩)) (fun y ey yn => ?_)
    refine h (e + 1) y 1 (upd st e 1) rs cl (upd nx e y) (ro_Win_x H he hns (fun i hi => ⟨F1 1 i hi, hb i hi, rfl, rfl, Fn y i hi⟩) (E1 _ _ _ _ (Or.inl ⟨pk_us, ⟨fun y => absurd y (by omega), fun y => absurd y (by omega), fun y => absurd y (by omega), fun y => absurd y (by omega), fun y => absurd y (by omega), fun y => absurd y (by omega), fun _ => pk_us.trans ey, fun y6 => absurd z6 y6⟩⟩)) pk_us.symm) (by omega) ?_ (F1 1)
    rw [pk_us]; decide
end
