/-- the value of register a as the entry e sees it: the nearest older writer's result, else the register -/
def ro_v (reg wr rs : Nat → Int32) (a : Nat) : Nat → Int32
  | 0 => reg a
  | e + 1 => if wr e = nI a then rs e else ro_v reg wr rs a e
/-- register a is known at the entry e -/
def ro_k (wr st : Nat → Int32) (a : Nat) : Nat → Prop
  | 0 => True
  | e + 1 => (wr e = nI a → st e = 1) ∧ (¬ wr e = nI a → ro_k wr st a e)
/-- cell c as the entry e sees it -/
def ro_c (cel op cl rs : Nat → Int32) (c : Nat) : Nat → Int32
  | 0 => cel c
  | e + 1 => if op e = 5 ∧ cl e = nI c then rs e else ro_c cel op cl rs c e
/-- the stores before e are done -/
def ro_s (op st : Nat → Int32) (e : Nat) : Prop := ∀ j, j < e → op j = 5 → st j = 1
theorem ro_v_m {reg wr rs st wr' rs' : Nat → Int32} {a : Nat} : ∀ e, (∀ i, i < e → wr' i = wr i ∧ (st i = 1 → rs' i = rs i)) → ro_k wr st a e → ro_v reg wr' rs' a e = ro_v reg wr rs a e := by
  intro e
  induction e with
  | zero => intro _ _; rfl
  | succ e ih =>
    intro h hk
    have he := h e (by omega)
    show (if wr' e = nI a then rs' e else ro_v reg wr' rs' a e) = (if wr e = nI a then rs e else ro_v reg wr rs a e)
    by_cases hw : wr e = nI a
    · rw [he.1, if_pos hw, if_pos hw]
      exact he.2 (hk.1 hw)
    · rw [he.1, if_neg hw, if_neg hw]
      exact ih (fun i hi => h i (by omega)) (hk.2 hw)
theorem ro_k_m {wr st wr' st' : Nat → Int32} {a : Nat} : ∀ e, (∀ i, i < e → wr' i = wr i ∧ (st i = 1 → st' i = 1)) → ro_k wr st a e → ro_k wr' st' a e := by
  intro e
  induction e with
  | zero => intro _ _; exact trivial
  | succ e ih =>
    intro h hk
    have he := h e (by omega)
    refine ⟨fun hw => he.2 (hk.1 (he.1.symm.trans hw)), fun hw => ih (fun i hi => h i (by omega)) (hk.2 (fun hx => hw (he.1.trans hx)))⟩
theorem ro_c_m {cel op cl rs st op' cl' rs' : Nat → Int32} {c : Nat} : ∀ e, (∀ i, i < e → op' i = op i ∧ (st i = 1 → cl' i = cl i ∧ rs' i = rs i)) → ro_s op st e → ro_c cel op' cl' rs' c e = ro_c cel op cl rs c e := by
  intro e
  induction e with
  | zero => intro _ _; rfl
  | succ e ih =>
    intro h hs
    have he := h e (by omega)
    have hi := ih (fun i hi => h i (by omega)) (fun j hj => hs j (by omega))
    show (if op' e = 5 ∧ cl' e = nI c then rs' e else ro_c cel op' cl' rs' c e) = (if op e = 5 ∧ cl e = nI c then rs e else ro_c cel op cl rs c e)
    rw [he.1, hi]
    by_cases ho : op e = 5
    · have hd := he.2 (hs e (by omega) ho)
      rw [hd.1, hd.2]
    · rw [if_neg (fun z => ho z.1), if_neg (fun z => ho z.1)]
theorem ro_s_m {op st op' st' : Nat → Int32} {e : Nat} (h : ∀ i, i < e → op' i = op i ∧ (st i = 1 → st' i = 1)) (hs : ro_s op st e) : ro_s op' st' e :=
  fun j hj ho => (h j hj).2 (hs j hj ((h j hj).1.symm.trans ho))
theorem ro_v_d {reg wr rs reg' wr' rs' : Nat → Int32} {a : Nat} (hr : reg' a = if wr 0 = nI a then rs 0 else reg a) : ∀ e, (∀ i, i < e → wr' i = wr (i + 1) ∧ rs' i = rs (i + 1)) → ro_v reg' wr' rs' a e = ro_v reg wr rs a (e + 1) := by
  intro e
  induction e with
  | zero => intro _; exact hr
  | succ e ih =>
    intro h
    have he := h e (by omega)
    have hi := ih (fun i hi => h i (by omega))
    show (if wr' e = nI a then rs' e else ro_v reg' wr' rs' a e) = (if wr (e + 1) = nI a then rs (e + 1) else ro_v reg wr rs a (e + 1))
    rw [he.1, he.2, hi]
theorem ro_k_d {wr st wr' st' : Nat → Int32} {a : Nat} : ∀ e, (∀ i, i < e → wr' i = wr (i + 1) ∧ st' i = st (i + 1)) → ro_k wr st a (e + 1) → ro_k wr' st' a e := by
  intro e
  induction e with
  | zero => intro _ _; exact trivial
  | succ e ih =>
    intro h hk
    have he := h e (by omega)
    refine ⟨fun hw => he.2.trans (hk.1 (he.1.symm.trans hw)), fun hw => ih (fun i hi => h i (by omega)) (hk.2 (fun hx => hw (he.1.trans hx)))⟩
theorem ro_c_d {cel op cl rs cel' op' cl' rs' : Nat → Int32} {c : Nat} (hr : cel' c = if op 0 = 5 ∧ cl 0 = nI c then rs 0 else cel c) : ∀ e, (∀ i, i < e → op' i = op (i + 1) ∧ cl' i = cl (i + 1) ∧ rs' i = rs (i + 1)) → ro_c cel' op' cl' rs' c e = ro_c cel op cl rs c (e + 1) := by
  intro e
  induction e with
  | zero => intro _; exact hr
  | succ e ih =>
    intro h
    have he := h e (by omega)
    have hi := ih (fun i hi => h i (by omega))
    show (if op' e = 5 ∧ cl' e = nI c then rs' e else ro_c cel' op' cl' rs' c e) = (if op (e + 1) = 5 ∧ cl (e + 1) = nI c then rs (e + 1) else ro_c cel op cl rs c (e + 1))
    rw [he.1, he.2.1, he.2.2, hi]
theorem ro_s_d {op st op' st' : Nat → Int32} {e : Nat} (h : ∀ i, i < e → op' i = op (i + 1) ∧ st' i = st (i + 1)) (hs : ro_s op st (e + 1)) : ro_s op' st' e :=
  fun j hj ho => (h j hj).2.trans (hs (j + 1) (by omega) ((h j hj).1.symm.trans ho))

/-- which register an operation writes and which two it reads -/
def ro_wf (o a : Nat) : Int32 := if o ≤ 4 then nI a else -1
def ro_rf (o a b : Nat) : Int32 := if o = 0 then -1 else if o ≤ 5 then nI b else if o = 6 then nI a else -1
def ro_af (o a c : Nat) : Int32 := if o = 0 then -1 else if o ≤ 3 then nI c else if o = 5 then nI a else -1
/-- where the program goes on, but for ZERO -/
def ro_Nx (o : Nat) (nm ps nx : Int32) : Prop := (o = 7 → nx = nm) ∧ (¬ o = 6 → ¬ o = 7 → nx = ps + 1)
/-- a done entry has what its operation gives of the values that it sees -/
def ro_Dn (o a b c : Nat) (nm ps rs cl nx : Int32) (V : Nat → Int32) (K : Nat → Prop) (C : Nat → Int32) (S : Prop) : Prop :=
  (o = 0 → rs = nm) ∧ (o = 1 → K b ∧ K c ∧ rs = V b + V c) ∧ (o = 2 → K b ∧ K c ∧ rs = V b * V c) ∧
  (o = 3 → K b ∧ K c ∧ ¬ V c = 0 ∧ rs = V b / V c) ∧
  (o = 4 → K b ∧ S ∧ ¬ V b < 0 ∧ ∃ j, j < 8 ∧ V b &&& 7 = nI j ∧ rs = C j) ∧
  (o = 5 → K b ∧ K a ∧ ¬ V b < 0 ∧ ∃ j, j < 8 ∧ V b &&& 7 = nI j ∧ cl = nI j ∧ rs = V a) ∧
  (o = 6 → K a ∧ nx = if V a = 0 then nm else ps + 1)
/-- an entry that traps has a reason -/
def ro_Tp (o b c : Nat) (V : Nat → Int32) (K : Nat → Prop) : Prop :=
  (o = 3 ∧ K c ∧ V c = 0) ∨ ((o = 4 ∨ o = 5) ∧ K b ∧ V b < 0)
/-- an entry of the window is good: against the program, and the values V, known K, cells C, stores done S before it -/
def ro_En (len : Nat) (pO pR pN : Nat → Int32) (op nm ps wr rd al st bt rs cl nx : Int32) (V : Nat → Int32) (K : Nat → Prop) (C : Nat → Int32) (S : Prop) : Prop :=
  (op = 9 ∧ st = 2 ∧ wr = -1 ∧ ∀ p, p < len → ¬ ps = nI p) ∨
  (∃ p o a b c, p < len ∧ o ≤ 8 ∧ a < 4 ∧ b < 4 ∧ c < 4 ∧ ps = nI p ∧ pO p = nI o ∧ pR p = nI (a + 4 * b + 16 * c) ∧ pN p = nm ∧ op = nI o ∧ wr = ro_wf o a ∧ rd = ro_rf o a b ∧ al = ro_af o a c ∧ ro_Nx o nm ps nx ∧
    ((st = 0 ∧ ∃ t, 1 ≤ t ∧ t ≤ 6 ∧ bt = nI t) ∨ (st = 1 ∧ ro_Dn o a b c nm ps rs cl nx V K C S) ∨ (st = 2 ∧ ro_Tp o b c V K)))
theorem ro_En_m {len : Nat} {pO pR pN : Nat → Int32} {op nm ps wr rd al st bt rs cl nx : Int32} {V V' : Nat → Int32} {K K' : Nat → Prop} {C C' : Nat → Int32} {S S' : Prop}
    (hv : ∀ a, a < 4 → K a → V' a = V a) (hk : ∀ a, K a → K' a) (hc : S → ∀ c, c < 8 → C' c = C c) (hs : S → S')
    (h : ro_En len pO pR pN op nm ps wr rd al st bt rs cl nx V K C S) : ro_En len pO pR pN op nm ps wr rd al st bt rs cl nx V' K' C' S' := by
  rcases h with h | ⟨p, o, a, b, c, h1, h2, h3, h4, h5, h6, h7, h8, h9, h10, h11, h12, h13, h14, h⟩
  · exact Or.inl h
  · refine Or.inr ⟨p, o, a, b, c, h1, h2, h3, h4, h5, h6, h7, h8, h9, h10, h11, h12, h13, h14, ?_⟩
    rcases h with h | ⟨e, d0, d1, d2, d3, d4, d5, d6⟩ | ⟨e, h⟩
    · exact Or.inl h
    · refine Or.inr (Or.inl ⟨e, d0, ?_, ?_, ?_, ?_, ?_, ?_⟩)
      · intro z; obtain ⟨x, y, w⟩ := d1 z
        exact ⟨hk _ x, hk _ y, by rw [hv _ h4 x, hv _ h5 y]; exact w⟩
      · intro z; obtain ⟨x, y, w⟩ := d2 z
        exact ⟨hk _ x, hk _ y, by rw [hv _ h4 x, hv _ h5 y]; exact w⟩
      · intro z; obtain ⟨x, y, w, q⟩ := d3 z
        exact ⟨hk _ x, hk _ y, by rw [hv _ h5 y]; exact w, by rw [hv _ h4 x, hv _ h5 y]; exact q⟩
      · intro z; obtain ⟨x, y, w, j, q, r, s⟩ := d4 z
        exact ⟨hk _ x, hs y, by rw [hv _ h4 x]; exact w, j, q, by rw [hv _ h4 x]; exact r, by rw [hc y j q]; exact s⟩
      · intro z; obtain ⟨x, y, w, j, q, r, t, s⟩ := d5 z
        exact ⟨hk _ x, hk _ y, by rw [hv _ h4 x]; exact w, j, q, by rw [hv _ h4 x]; exact r, t, by rw [hv _ h3 y]; exact s⟩
      · intro z; obtain ⟨x, w⟩ := d6 z
        exact ⟨hk _ x, by rw [hv _ h3 x]; exact w⟩
    · refine Or.inr (Or.inr ⟨e, ?_⟩)
      rcases h with ⟨z, x, w⟩ | ⟨z, x, w⟩
      · exact Or.inl ⟨z, hk _ x, by rw [hv _ h5 x]; exact w⟩
      · exact Or.inr ⟨z, hk _ x, by rw [hv _ h4 x]; exact w⟩
/-- entry e of the window is good -/
def ro_EA (len : Nat) (pO pR pN reg cel op nm ps wr rd al st bt rs cl nx : Nat → Int32) (e : Nat) : Prop :=
  ro_En len pO pR pN (op e) (nm e) (ps e) (wr e) (rd e) (al e) (st e) (bt e) (rs e) (cl e) (nx e) (fun a => ro_v reg wr rs a e) (fun a => ro_k wr st a e) (fun c => ro_c cel op cl rs c e) (ro_s op st e)
theorem ro_EA_n {len : Nat} {pO pR pN reg cel op wr st rs cl op' nm' ps' wr' rd' al' st' bt' rs' cl' nx' : Nat → Int32} {e : Nat}
    (hx : ∀ i, i < e → wr' i = wr i ∧ op' i = op i ∧ (st i = 1 → st' i = 1 ∧ rs' i = rs i ∧ cl' i = cl i))
    (h : ro_En len pO pR pN (op' e) (nm' e) (ps' e) (wr' e) (rd' e) (al' e) (st' e) (bt' e) (rs' e) (cl' e) (nx' e) (fun a => ro_v reg wr rs a e) (fun a => ro_k wr st a e) (fun c => ro_c cel op cl rs c e) (ro_s op st e)) : ro_EA len pO pR pN reg cel op' nm' ps' wr' rd' al' st' bt' rs' cl' nx' e :=
  ro_En_m (fun _ _ hk => ro_v_m e (fun i hi => ⟨(hx i hi).1, fun z => ((hx i hi).2.2 z).2.1⟩) hk)
    (fun _ hk => ro_k_m e (fun i hi => ⟨(hx i hi).1, fun z => ((hx i hi).2.2 z).1⟩) hk)
    (fun hs _ _ => ro_c_m e (fun i hi => ⟨(hx i hi).2.1, fun z => ⟨((hx i hi).2.2 z).2.2, ((hx i hi).2.2 z).2.1⟩⟩) hs)
    (fun hs => ro_s_m (fun i hi => ⟨(hx i hi).2.1, fun z => ((hx i hi).2.2 z).1⟩) hs) h
theorem ro_EA_m {len : Nat} {pO pR pN reg cel op nm ps wr rd al st bt rs cl nx op' nm' ps' wr' rd' al' st' bt' rs' cl' nx' : Nat → Int32} {e : Nat}
    (hx : ∀ i, i < e → wr' i = wr i ∧ op' i = op i ∧ (st i = 1 → st' i = 1 ∧ rs' i = rs i ∧ cl' i = cl i))
    (he : op' e = op e ∧ nm' e = nm e ∧ ps' e = ps e ∧ wr' e = wr e ∧ rd' e = rd e ∧ al' e = al e ∧ st' e = st e ∧ bt' e = bt e ∧ rs' e = rs e ∧ cl' e = cl e ∧ nx' e = nx e)
    (h : ro_EA len pO pR pN reg cel op nm ps wr rd al st bt rs cl nx e) : ro_EA len pO pR pN reg cel op' nm' ps' wr' rd' al' st' bt' rs' cl' nx' e := by
  refine ro_EA_n hx ?_
  obtain ⟨q0, q1, q2, q3, q4, q5, q6, q7, q8, q9, q10⟩ := he
  rw [q0, q1, q2, q3, q4, q5, q6, q7, q8, q9, q10]
  exact h
/-- the window, its length L, where it goes on fetching, against the program, registers, cells and the run's position -/
def ro_Win (len : Nat) (pO pR pN reg cel : Nat → Int32) (rp : Int32) (L : Nat) (fp fg : Int32) (op nm ps wr rd al st bt rs cl nx : Nat → Int32) : Prop :=
  L ≤ 8 ∧ (∀ e, e < L → ro_EA len pO pR pN reg cel op nm ps wr rd al st bt rs cl nx e) ∧ (0 < L → ps 0 = rp) ∧ (∀ e, e + 1 < L → ps (e + 1) = nx e) ∧
  ((fg = 1 ∧ (L = 0 → fp = rp) ∧ ∀ e, e + 1 = L → fp = nx e) ∨ (fg = 0 ∧ ∃ e, e + 1 = L ∧ (op e = 8 ∨ op e = 9)))
theorem ro_Win_0 {len : Nat} {pO pR pN reg cel op nm ps wr rd al st bt rs cl nx : Nat → Int32} : ro_Win len pO pR pN reg cel 0 0 0 1 op nm ps wr rd al st bt rs cl nx :=
  ⟨by omega, fun e he => absurd he (by omega), fun h => absurd h (by omega), fun e he => absurd he (by omega), Or.inl ⟨rfl, fun _ => rfl, fun e he => absurd he (by omega)⟩⟩
/-- one more entry -/
theorem ro_Win_f {len L : Nat} {pO pR pN reg cel op nm ps wr rd al st bt rs cl nx op' nm' ps' wr' rd' al' st' bt' rs' cl' nx' : Nat → Int32} {rp fp fp' fg' : Int32} (H : ro_Win len pO pR pN reg cel rp L fp 1 op nm ps wr rd al st bt rs cl nx) (hL : L < 8)
    (f : ∀ i, i < L → op' i = op i ∧ nm' i = nm i ∧ ps' i = ps i ∧ wr' i = wr i ∧ rd' i = rd i ∧ al' i = al i ∧ st' i = st i ∧ bt' i = bt i ∧ rs' i = rs i ∧ cl' i = cl i ∧ nx' i = nx i)
    (hE : ro_En len pO pR pN (op' L) (nm' L) (ps' L) (wr' L) (rd' L) (al' L) (st' L) (bt' L) (rs' L) (cl' L) (nx' L) (fun a => ro_v reg wr rs a L) (fun a => ro_k wr st a L) (fun c => ro_c cel op cl rs c L) (ro_s op st L))
    (hp : ps' L = fp) (hg : (fg' = 1 ∧ fp' = nx' L) ∨ (fg' = 0 ∧ (op' L = 8 ∨ op' L = 9))) : ro_Win len pO pR pN reg cel rp (L + 1) fp' fg' op' nm' ps' wr' rd' al' st' bt' rs' cl' nx' := by
  obtain ⟨_, w2, w3, w4, w5⟩ := H
  have hx : ∀ e, e ≤ L → ∀ i, i < e → wr' i = wr i ∧ op' i = op i ∧ (st i = 1 → st' i = 1 ∧ rs' i = rs i ∧ cl' i = cl i) := by
    intro e he i hi
    obtain ⟨q0, q1, q2, q3, q4, q5, q6, q7, q8, q9, q10⟩ := f i (by omega)
    exact ⟨q3, q0, fun z => ⟨q6.trans z, q8, q9⟩⟩
  have hf : (L = 0 → fp = rp) ∧ ∀ e, e + 1 = L → fp = nx e := by
    rcases w5 with ⟨_, a, b⟩ | ⟨z, _⟩
    · exact ⟨a, b⟩
    · exact absurd z (by decide)
  refine ⟨by omega, ?_, ?_, ?_, ?_⟩
  · intro e he
    by_cases z : e = L
    · subst z
      exact ro_EA_n (hx e (by omega)) hE
    · exact ro_EA_m (hx e (by omega)) (f e (by omega)) (w2 e (by omega))
  · intro _
    by_cases z : L = 0
    · subst z; exact hp.trans (hf.1 rfl)
    · exact (f 0 (by omega)).2.2.1.trans (w3 (by omega))
  · intro e he
    have hn : nx' e = nx e := (f e (by omega)).2.2.2.2.2.2.2.2.2.2
    by_cases z : e + 1 = L
    · rw [hn, ← hf.2 e z, z]; exact hp
    · rw [hn, (f (e + 1) (by omega)).2.2.1]; exact w4 e (by omega)
  · rcases hg with ⟨a, b⟩ | ⟨a, b⟩
    · refine Or.inl ⟨a, fun z => absurd z (by omega), fun e he => ?_⟩
      have : e = L := by omega
      subst this; exact b
    · exact Or.inr ⟨a, L, rfl, b⟩
/-- the entry j, not done before, is changed to a good one -/
theorem ro_Win_j {len L j : Nat} {pO pR pN reg cel op nm ps wr rd al st bt rs cl nx st' bt' rs' cl' nx' : Nat → Int32} {rp fp fg : Int32} (H : ro_Win len pO pR pN reg cel rp L fp fg op nm ps wr rd al st bt rs cl nx) (hst : ¬ st j = 1)
    (f : ∀ i, ¬ i = j → st' i = st i ∧ bt' i = bt i ∧ rs' i = rs i ∧ cl' i = cl i ∧ nx' i = nx i)
    (hE : ro_En len pO pR pN (op j) (nm j) (ps j) (wr j) (rd j) (al j) (st' j) (bt' j) (rs' j) (cl' j) (nx' j) (fun a => ro_v reg wr rs a j) (fun a => ro_k wr st a j) (fun c => ro_c cel op cl rs c j) (ro_s op st j))
    (hn : nx' j = nx j) : ro_Win len pO pR pN reg cel rp L fp fg op nm ps wr rd al st' bt' rs' cl' nx' := by
  obtain ⟨w1, w2, w3, w4, w5⟩ := H
  have hx : ∀ e i, i < e → wr i = wr i ∧ op i = op i ∧ (st i = 1 → st' i = 1 ∧ rs' i = rs i ∧ cl' i = cl i) := by
    intro e i hi
    refine ⟨rfl, rfl, fun z => ?_⟩
    obtain ⟨q1, q2, q3, q4, q5⟩ := f i (fun y => hst (y ▸ z))
    exact ⟨q1.trans z, q3, q4⟩
  have hnx : ∀ e, nx' e = nx e := by
    intro e
    by_cases z : e = j
    · rw [z]; exact hn
    · exact (f e z).2.2.2.2
  refine ⟨w1, ?_, w3, fun e he => by rw [hnx]; exact w4 e he, ?_⟩
  · intro e he
    by_cases z : e = j
    · subst z; exact ro_EA_n (hx e) hE
    · obtain ⟨q1, q2, q3, q4, q5⟩ := f e z
      exact ro_EA_m (hx e) ⟨rfl, rfl, rfl, rfl, rfl, rfl, q1, q2, q3, q4, q5⟩ (w2 e he)
  · rcases w5 with ⟨a, b, c⟩ | h
    · exact Or.inl ⟨a, b, fun e he => by rw [hnx]; exact c e he⟩
    · exact Or.inr h
/-- the same, and the window is cut behind j -/
theorem ro_Win_x {len L j : Nat} {pO pR pN reg cel op nm ps wr rd al st bt rs cl nx st' bt' rs' cl' nx' : Nat → Int32} {rp fp fg fp' : Int32} (H : ro_Win len pO pR pN reg cel rp L fp fg op nm ps wr rd al st bt rs cl nx) (hj : j < L) (hst : ¬ st j = 1)
    (f : ∀ i, ¬ i = j → st' i = st i ∧ bt' i = bt i ∧ rs' i = rs i ∧ cl' i = cl i ∧ nx' i = nx i)
    (hE : ro_En len pO pR pN (op j) (nm j) (ps j) (wr j) (rd j) (al j) (st' j) (bt' j) (rs' j) (cl' j) (nx' j) (fun a => ro_v reg wr rs a j) (fun a => ro_k wr st a j) (fun c => ro_c cel op cl rs c j) (ro_s op st j))
    (hn : fp' = nx' j) : ro_Win len pO pR pN reg cel rp (j + 1) fp' 1 op nm ps wr rd al st' bt' rs' cl' nx' := by
  obtain ⟨w1, w2, w3, w4, w5⟩ := H
  have hx : ∀ e i, i < e → wr i = wr i ∧ op i = op i ∧ (st i = 1 → st' i = 1 ∧ rs' i = rs i ∧ cl' i = cl i) := by
    intro e i hi
    refine ⟨rfl, rfl, fun z => ?_⟩
    obtain ⟨q1, q2, q3, q4, q5⟩ := f i (fun y => hst (y ▸ z))
    exact ⟨q1.trans z, q3, q4⟩
  refine ⟨by omega, ?_, fun _ => w3 (by omega), fun e he => ?_, Or.inl ⟨rfl, fun z => absurd z (by omega), fun e he => ?_⟩⟩
  · intro e he
    by_cases z : e = j
    · subst z; exact ro_EA_n (hx e) hE
    · obtain ⟨q1, q2, q3, q4, q5⟩ := f e z
      exact ro_EA_m (hx e) ⟨rfl, rfl, rfl, rfl, rfl, rfl, q1, q2, q3, q4, q5⟩ (w2 e (by omega))
  · rw [(f e (by omega)).2.2.2.2]; exact w4 e (by omega)
  · have : e = j := by omega
    subst this; exact hn
/-- the oldest entry, done, leaves -/
theorem ro_Win_d {len L : Nat} {pO pR pN reg cel reg' cel' op nm ps wr rd al st bt rs cl nx op' nm' ps' wr' rd' al' st' bt' rs' cl' nx' : Nat → Int32} {rp fp fg : Int32} (H : ro_Win len pO pR pN reg cel rp (L + 1) fp fg op nm ps wr rd al st bt rs cl nx) (h8 : ¬ op 0 = 8) (h9 : ¬ op 0 = 9)
    (f : ∀ i, i < L → op' i = op (i + 1) ∧ nm' i = nm (i + 1) ∧ ps' i = ps (i + 1) ∧ wr' i = wr (i + 1) ∧ rd' i = rd (i + 1) ∧ al' i = al (i + 1) ∧ st' i = st (i + 1) ∧ bt' i = bt (i + 1) ∧ rs' i = rs (i + 1) ∧ cl' i = cl (i + 1) ∧ nx' i = nx (i + 1))
    (hr : ∀ a, a < 4 → reg' a = if wr 0 = nI a then rs 0 else reg a) (hc : ∀ c, c < 8 → cel' c = if op 0 = 5 ∧ cl 0 = nI c then rs 0 else cel c) : ro_Win len pO pR pN reg' cel' (nx 0) L fp fg op' nm' ps' wr' rd' al' st' bt' rs' cl' nx' := by
  obtain ⟨w1, w2, w3, w4, w5⟩ := H
  refine ⟨by omega, ?_, ?_, ?_, ?_⟩
  · intro e he
    have h := w2 (e + 1) (by omega)
    obtain ⟨q0, q1, q2, q3, q4, q5, q6, q7, q8, q9, q10⟩ := f e he
    have hx : ∀ i, i < e → i < L := fun i hi => by omega
    unfold ro_EA at h ⊢
    rw [q0, q1, q2, q3, q4, q5, q6, q7, q8, q9, q10]
    refine ro_En_m ?_ ?_ ?_ ?_ h
    · intro a ha _
      exact ro_v_d (hr a ha) e (fun i hi => ⟨(f i (hx i hi)).2.2.2.1, (f i (hx i hi)).2.2.2.2.2.2.2.2.1⟩)
    · intro a hk
      exact ro_k_d e (fun i hi => ⟨(f i (hx i hi)).2.2.2.1, (f i (hx i hi)).2.2.2.2.2.2.1⟩) hk
    · intro _ c hc8
      exact ro_c_d (hc c hc8) e (fun i hi => ⟨(f i (hx i hi)).1, (f i (hx i hi)).2.2.2.2.2.2.2.2.2.1, (f i (hx i hi)).2.2.2.2.2.2.2.2.1⟩)
    · intro hs
      exact ro_s_d (fun i hi => ⟨(f i (hx i hi)).1, (f i (hx i hi)).2.2.2.2.2.2.1⟩) hs
  · intro h0
    rw [(f 0 h0).2.2.1]; exact w4 0 (by omega)
  · intro e he
    rw [(f (e + 1) he).2.2.1, (f e (by omega)).2.2.2.2.2.2.2.2.2.2]; exact w4 (e + 1) (by omega)
  · rcases w5 with ⟨a, b, c⟩ | ⟨a, e, he, ho⟩
    · refine Or.inl ⟨a, fun z => ?_, fun e he => ?_⟩
      · exact c 0 (by omega)
      · rw [(f e (by omega)).2.2.2.2.2.2.2.2.2.2]; exact c (e + 1) (by omega)
    · have hL : ¬ e = 0 := by
        intro z; subst z
        rcases ho with ho | ho
        · exact h8 ho
        · exact h9 ho
      obtain ⟨e', rfl⟩ : ∃ e', e = e' + 1 := ⟨e - 1, by omega⟩
      refine Or.inr ⟨a, e', by omega, ?_⟩
      rw [(f e' (by omega)).1]; exact ho
