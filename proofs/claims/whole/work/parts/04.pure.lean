/-- an array of the window shifted down in its first m places -/
def ro_sh (a a' : Nat → Int32) (m : Nat) : Prop := ∀ i, a' i = if i < m then a (i + 1) else a i
theorem ro_sh_0 (a : Nat → Int32) : ro_sh a a 0 := fun i => (if_neg (by omega)).symm
theorem ro_sh_s {a a' : Nat → Int32} {m : Nat} (h : ro_sh a a' m) : ro_sh a (upd a' m (a' (m + 1))) (m + 1) := by
  intro i
  by_cases z : i = m
  · subst z
    rw [pk_us, h (i + 1), if_neg (by omega), if_pos (by omega)]
  · rw [pk_un z, h i]
    by_cases y : i < m
    · rw [if_pos y, if_pos (by omega)]
    · rw [if_neg y, if_neg (by omega)]
theorem ro_sh_e {a a' : Nat → Int32} {m i : Nat} (h : ro_sh a a' m) (hi : i < m) : a' i = a (i + 1) := (h i).trans (if_pos hi)
/-- the oldest entry after a beat's carrying out -/
def ro_Pg (s0 b0 s1 b1 : Int32) : Prop := (¬ s0 = 0 → ¬ s1 = 0) ∧ (s0 = 0 → s1 = 0 → ∀ t, t ≤ 6 → b0 = nI t → 2 ≤ t ∧ b1 = nI (t - 1))
/-- beats that the oldest entry still needs at most -/
def ro_nd (L : Nat) (s b : Int32) (n : Nat) : Prop := 1 ≤ n ∧ n ≤ 6 ∧ (L = 0 → n = 6) ∧ (0 < L → s = 0 → ∃ t, t ≤ n ∧ b = nI t)
theorem ro_Win_s {len L : Nat} {pO pR pN reg cel op nm ps wr rd al st bt rs cl nx : Nat → Int32} {rp fp fg : Int32} (H : ro_Win len pO pR pN reg cel rp L fp fg op nm ps wr rd al st bt rs cl nx) (hL : 0 < L) :
    ro_En len pO pR pN (op 0) (nm 0) rp (wr 0) (rd 0) (al 0) (st 0) (bt 0) (rs 0) (cl 0) (nx 0) reg (fun _ => True) cel True := by
  rw [← H.2.2.1 hL]
  exact ro_En_m (fun _ _ _ => rfl) (fun _ _ => trivial) (fun _ _ _ => rfl) (fun _ => trivial) (H.2.1 0 hL)
theorem ro_Win_n {len L : Nat} {pO pR pN reg cel op nm ps wr rd al st bt rs cl nx : Nat → Int32} {rp fp fg : Int32} (H : ro_Win len pO pR pN reg cel rp L fp fg op nm ps wr rd al st bt rs cl nx) : ro_nd L (st 0) (bt 0) 6 := by
  refine ⟨by omega, by omega, fun _ => rfl, fun hL hs => ?_⟩
  have E := ro_Win_s H hL
  rw [hs] at E
  obtain ⟨_, _, _, _, _, t, _, h6, e⟩ := ro_En_w E
  exact ⟨t, h6, e⟩
/-- after fetching, the same need serves -/
theorem ro_nd_f {L L' n : Nat} {s b s' b' : Int32} (h : ro_nd L s b n) (h6 : ro_nd L' s' b' 6) (hL : 0 < L') (hf : 0 < L → s' = s ∧ b' = b) : ro_nd L' s' b' n := by
  obtain ⟨a1, a2, a3, a4⟩ := h
  refine ⟨a1, a2, fun z => absurd z (by omega), fun _ hs => ?_⟩
  by_cases z : L = 0
  · rw [a3 z]; exact h6.2.2.2 hL hs
  · obtain ⟨q1, q2⟩ := hf (by omega)
    rw [q1] at hs
    rw [q2]
    exact a4 (by omega) hs
/-- a beat that leaves the oldest entry waiting -/
theorem ro_nd_g {L L' n : Nat} {s b s' b' : Int32} (h : ro_nd L s b n) (hL : 0 < L) (hL' : 0 < L') (hp : ro_Pg s b s' b') (hs : s' = 0) : 2 ≤ n ∧ ro_nd L' s' b' (n - 1) := by
  obtain ⟨a1, a2, a3, a4⟩ := h
  have h0 : s = 0 := Classical.byContradiction fun z => hp.1 z hs
  obtain ⟨t, ht, e⟩ := a4 hL h0
  obtain ⟨h2, e2⟩ := hp.2 h0 hs t (by omega) e
  exact ⟨by omega, by omega, by omega, fun z => absurd z (by omega), fun _ _ => ⟨t - 1, by omega, e2⟩⟩
theorem ro_m1 (m : Nat) : nI m + (-1) = nI m - 1 := (Int32.sub_eq_add_neg (nI m) 1).symm
theorem ro_p1 (m : Nat) : nI (m + 1) - 1 = nI m := nI_pred m
theorem ro_z1 : nI 0 - 1 = -1 := by decide
