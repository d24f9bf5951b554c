section
variable {PL SU RP FC ZG WL FP FG : Int32} {pO pR pN reg cel op nm ps wr rd al st bt rs cl nx : Nat → Int32}
theorem ro_dc107 {post : SX → Prop} {e o a : Nat} (he : e < 8) (ho : o ≤ 9) (h : ∀ al', (al' e = if o = 5 then nI a else al e) → (∀ i, ¬ i = e → al' i = al i) → post (PL, SU, RP, FC, ZG, WL, FP, FG, pO, pR, pN, reg, cel, op, nm, ps, wr, rd, al', st, bt, rs, cl, nx)) : wX_decode_107 post (nI e) (nI o) (nI a) PL SU RP FC ZG WL FP FG pO pR pN reg cel op nm ps wr rd al st bt rs cl nx :=
  pk_eq o 5 (fun z => ⟨vp_in_nI he (by omega), nm_r (e' := upd al e (nI a)) (by rw [nI_clamp (by omega)]) (h _ (by rw [pk_us, if_pos z]) (fun i hi => pk_un hi))⟩) (fun z => h _ (if_neg z).symm (fun _ _ => rfl))
theorem ro_dc89 {post : SX → Prop} {e o a c : Nat} (he : e < 8) (ho : o ≤ 9) (h : ∀ al', (al' e = if o = 5 then nI a else if 1 ≤ o ∧ o ≤ 3 then nI c else al e) → (∀ i, ¬ i = e → al' i = al i) → post (PL, SU, RP, FC, ZG, WL, FP, FG, pO, pR, pN, reg, cel, op, nm, ps, wr, rd, al', st, bt, rs, cl, nx)) : wX_decode_89 post (nI e) (nI o) (nI a) (nI c) PL SU RP FC ZG WL FP FG pO pR pN reg cel op nm ps wr rd al st bt rs cl nx :=
  pk_lt o 1 (fun z => ro_dc107 he ho (fun al' h1 h2 => h al' (by rw [h1, if_neg (show ¬ (1 ≤ o ∧ o ≤ 3) by omega)]) h2))
    (fun z => pk_lt 3 o (fun z2 => ro_dc107 he ho (fun al' h1 h2 => h al' (by rw [h1, if_neg (show ¬ (1 ≤ o ∧ o ≤ 3) by omega)]) h2))
      (fun z2 => ⟨vp_in_nI he (by omega), nm_r (e' := upd al e (nI c)) (by rw [nI_clamp (by omega)]) (ro_dc107 he ho (fun al' h1 h2 => h al' (by rw [h1, pk_us, if_pos (show (1 ≤ o ∧ o ≤ 3) by omega)]) (fun i hi => (h2 i hi).trans (pk_un hi))))⟩))
theorem ro_dc75 {post : SX → Prop} {e o a c : Nat} (he : e < 8) (ho : o ≤ 9) (h : ∀ rd' al', (rd' e = if o = 6 then nI a else rd e) → (∀ i, ¬ i = e → rd' i = rd i) → (al' e = if o = 5 then nI a else if 1 ≤ o ∧ o ≤ 3 then nI c else al e) → (∀ i, ¬ i = e → al' i = al i) → post (PL, SU, RP, FC, ZG, WL, FP, FG, pO, pR, pN, reg, cel, op, nm, ps, wr, rd', al', st, bt, rs, cl, nx)) : wX_decode_75 post (nI e) (nI o) (nI a) (nI c) PL SU RP FC ZG WL FP FG pO pR pN reg cel op nm ps wr rd al st bt rs cl nx :=
  pk_eq o 6 (fun z => ⟨vp_in_nI he (by omega), nm_r (e' := upd rd e (nI a)) (by rw [nI_clamp (by omega)]) (ro_dc89 he ho (fun al' h1 h2 => h _ al' (by rw [pk_us, if_pos z]) (fun i hi => pk_un hi) h1 h2))⟩)
    (fun z => ro_dc89 he ho (fun al' h1 h2 => h _ al' (if_neg z).symm (fun _ _ => rfl) h1 h2))
theorem ro_aq (o a c : Nat) : (if o = 5 then nI a else if 1 ≤ o ∧ o ≤ 3 then nI c else -1) = ro_af o a c := by
  unfold ro_af
  by_cases h5 : o = 5
  · rw [if_pos h5, if_neg (by omega), if_neg (by omega), if_pos h5]
  · rw [if_neg h5]
    by_cases h0 : o = 0
    · rw [if_neg (by omega), if_pos h0]
    · rw [if_neg h0, if_neg h5]
      by_cases h3 : o ≤ 3
      · rw [if_pos ⟨by omega, h3⟩, if_pos h3]
      · rw [if_neg (by omega), if_neg h3]
theorem ro_dc42 {post : SX → Prop} {e o a b c : Nat} {w : Int32} (he : e < 8) (ho : o ≤ 9) (h : ∀ rd' al', rd' e = ro_rf o a b → (∀ i, ¬ i = e → rd' i = rd i) → al' e = ro_af o a c → (∀ i, ¬ i = e → al' i = al i) → post (PL, SU, RP, FC, ZG, WL, FP, FG, pO, pR, pN, reg, cel, op, nm, ps, upd wr e w, rd', al', st, bt, rs, cl, nx)) : wX_decode_42 post (nI e) (nI o) (nI a) (nI b) (nI c) w (nI e) PL SU RP FC ZG WL FP FG pO pR pN reg cel op nm ps wr rd al st bt rs cl nx := by
  have v : vp_in (nI e) 8 := vp_in_nI he (by omega)
  have ce : (nI e).toNatClampNeg = e := nI_clamp (by omega)
  have fa : ∀ al' : Nat → Int32, (∀ i, ¬ i = e → al' i = upd al e (-1) i) → ∀ i, ¬ i = e → al' i = al i := fun al' k i hi => (k i hi).trans (pk_un hi)
  have fr : ∀ rd' : Nat → Int32, (∀ i, ¬ i = e → rd' i = upd rd e (-1) i) → ∀ i, ¬ i = e → rd' i = rd i := fun rd' k i hi => (k i hi).trans (pk_un hi)
  have fr2 : ∀ rd' : Nat → Int32, (∀ i, ¬ i = e → rd' i = upd (upd rd e (-1)) e (nI b) i) → ∀ i, ¬ i = e → rd' i = rd i := fun rd' k i hi => (k i hi).trans ((pk_un hi).trans (pk_un hi))
  have qa : ∀ x : Int32, (x = if o = 5 then nI a else if 1 ≤ o ∧ o ≤ 3 then nI c else upd al e (-1) e) → x = ro_af o a c := fun x k => by rw [k, pk_us, ro_aq]
  refine ⟨v, nm_r (e' := upd wr e w) (by rw [ce]) ⟨v, nm_r (e' := upd rd e (-1)) (by rw [ce]) ⟨v, nm_r (e' := upd al e (-1)) (by rw [ce]) ?_⟩⟩⟩
  refine pk_lt o 1 (fun z => ro_dc75 he ho (fun rd' al' h1 h2 h3 h4 => h rd' al' ?_ (fr rd' h2) (qa _ h3) (fa al' h4))) (fun z => pk_lt 5 o (fun z2 => ro_dc75 he ho (fun rd' al' h1 h2 h3 h4 => h rd' al' ?_ (fr rd' h2) (qa _ h3) (fa al' h4))) (fun z2 => ⟨v, nm_r (e' := upd (upd rd e (-1)) e (nI b)) (by rw [ce]) (ro_dc75 he ho (fun rd' al' h1 h2 h3 h4 => h rd' al' ?_ (fr2 rd' h2) (qa _ h3) (fa al' h4)))⟩))
  · rw [h1, pk_us]
    unfold ro_rf
    rw [if_neg (by omega), if_pos (by omega)]
  · rw [h1, pk_us]
    unfold ro_rf
    rw [if_neg (show ¬ o = 0 by omega), if_neg (show ¬ o ≤ 5 by omega)]
  · rw [h1, pk_us]
    unfold ro_rf
    rw [if_neg (by omega), if_neg (by omega), if_pos (by omega)]
theorem ro_xdc {post : SX → Prop} {e o a b c : Nat} (he : e < 8) (ho : o ≤ 9) (ha : a < 4) (hb : b < 4) (hc : c < 4) (h : ∀ rd' al', rd' e = ro_rf o a b → (∀ i, ¬ i = e → rd' i = rd i) → al' e = ro_af o a c → (∀ i, ¬ i = e → al' i = al i) → post (PL, SU, RP, FC, ZG, WL, FP, FG, pO, pR, pN, reg, cel, upd op e (nI o), nm, ps, upd wr e (ro_wf o a), rd', al', st, bt, rs, cl, nx)) : wpX_decode post (PL, SU, RP, FC, ZG, WL, FP, FG, pO, pR, pN, reg, cel, op, nm, ps, wr, rd, al, st, bt, rs, cl, nx) (nI e) (nI o) (nI (a + 4 * b + 16 * c)) := by
  have v : vp_in (nI e) 8 := vp_in_nI he (by omega)
  have ce : (nI e).toNatClampNeg = e := nI_clamp (by omega)
  refine nm_r (ro_ba ha hb hc) (nm_r (ro_bb ha hb hc) (nm_r (ro_bc ha hb hc) ⟨v, nm_r (e' := upd op e (nI o)) (by rw [ce]) ?_⟩))
  refine pk_lt 4 o (fun z => ?_) (fun z => ?_)
  · refine ro_dc42 he ho ?_
    rw [ro_w2 z] at h
    exact h
  · refine ro_dc42 he ho ?_
    rw [ro_w1 z] at h
    exact h
theorem ro_xbo {post : Int32 → Prop} {o : Nat} (ho : o ≤ 8) (h : ∀ t, 1 ≤ t → t ≤ 6 → post (nI t)) : wpX_beatsOf post (nI o) :=
  pk_lt o 2 (fun _ => h 1 (by omega) (by omega)) (fun _ => pk_lt 4 o (fun _ => h 1 (by omega) (by omega)) (fun _ => pk_eq o 2 (fun _ => h 3 (by omega) (by omega)) (fun _ => pk_eq o 3 (fun _ => h 6 (by omega) (by omega)) (fun _ => pk_eq o 4 (fun _ => h 2 (by omega) (by omega)) (fun _ => trivial)))))
theorem ro_xen37 {post : Int32 → Prop} {e o : Nat} {z0 : Int32} (he : e < 8) (ho : o ≤ 8) (hz : ¬ o = 6 → z0 = 0) (h : ∀ r, ro_Nx o (nm e) (ps e) r → post r) : wX_expectedNext_37 post (nI e) (nI o) (ps e) z0 PL SU RP FC ZG WL FP FG pO pR pN reg cel op nm ps wr rd al st bt rs cl nx := by
  have v : vp_in (nI e) 8 := vp_in_nI he (by omega)
  have ce : (nI e).toNatClampNeg = e := nI_clamp (by omega)
  unfold wX_expectedNext_37
  rw [ce]
  exact pk_eq o 7 (fun z => ⟨v, h _ ⟨fun _ => rfl, fun _ y => absurd z y⟩⟩) (fun z => br_c (fun _ => h _ ⟨fun y => absurd y z, fun _ _ => rfl⟩) (fun y => ⟨v, h _ ⟨fun y => absurd y z, fun y6 => absurd (hz y6) y⟩⟩))
theorem ro_xen {post : Int32 → Prop} {e o : Nat} (he : e < 8) (ho : o ≤ 8) (hop : op e = nI o) (h : ∀ r, ro_Nx o (nm e) (ps e) r → post r) : wpX_expectedNext post (PL, SU, RP, FC, ZG, WL, FP, FG, pO, pR, pN, reg, cel, op, nm, ps, wr, rd, al, st, bt, rs, cl, nx) (nI e) := by
  have v : vp_in (nI e) 8 := vp_in_nI he (by omega)
  have ce : (nI e).toNatClampNeg = e := nI_clamp (by omega)
  unfold wpX_expectedNext
  dsimp only
  rw [ce]
  exact ⟨v, nm_r hop ⟨v, nm_e (pk_eq o 6 (fun z => br_c (fun _ => ro_xen37 he ho (fun y => absurd z y) h) (fun _ => ro_xen37 he ho (fun _ => rfl) h)) (fun z => ro_xen37 he ho (fun _ => rfl) h))⟩⟩
theorem ro_fi42 {post : SX → Prop} {L : Nat} (hL : L < 8) (h : ∀ rd' al', (∀ i, ¬ i = L → rd' i = rd i) → (∀ i, ¬ i = L → al' i = al i) → post (PL, SU, RP, FC, ZG, WL, FP, 0, pO, pR, pN, reg, cel, upd op L (nI 9), nm, ps, upd wr L (ro_wf 9 0), rd', al', upd st L 2, bt, rs, cl, nx)) : wX_fetchInto_42 post (nI L) PL SU RP FC ZG WL FP FG pO pR pN reg cel op nm ps wr rd al st bt rs cl nx := by
  have v : vp_in (nI L) 8 := vp_in_nI hL (by omega)
  have ce : (nI L).toNatClampNeg = L := nI_clamp (by omega)
  unfold wX_fetchInto_42
  exact ro_xdc (o := 9) (a := 0) (b := 0) (c := 0) hL (by omega) (by omega) (by omega) (by omega) (fun rd' al' _ h2 _ h4 => ⟨v, nm_r (e' := upd st L 2) (by rw [ce]) (h rd' al' h2 h4)⟩)
end
