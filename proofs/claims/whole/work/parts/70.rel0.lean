/-! ===== the first state ===== -/
def d0 (a b : Nat) : Int := if a = b then 0 else 300
theorem d0_I (a b : Nat) : iI (d0 a b) = Mi0 a b := by
  unfold d0 Mi0
  by_cases h : a = b
  · rw [if_pos h, if_pos h]
    rfl
  · rw [if_neg h, if_neg h]
    rfl
theorem Mi0_b (a b : Nat) : 0 ≤ (Mi0 a b).toInt ∧ (Mi0 a b).toInt ≤ 300 := by
  unfold Mi0
  by_cases h : a = b
  · rw [if_pos h]
    decide
  · rw [if_neg h]
    decide
theorem d0_b (a b : Nat) : 0 ≤ d0 a b ∧ d0 a b ≤ 300 := by
  unfold d0
  by_cases h : a = b
  · rw [if_pos h]
    decide
  · rw [if_neg h]
    decide
theorem fw1_0 (m a b : Nat) : fw1 Mi0 m a b = Mi0 := by
  funext x y
  unfold fw1
  by_cases h : x = a ∧ y = b
  · rw [if_pos h, h.1, h.2]
    have hn : ¬ Mi0 a m + Mi0 m b < Mi0 a b := by
      unfold Mi0
      by_cases h1 : a = m
      · by_cases h2 : m = b
        · rw [if_pos h1, if_pos h2, if_pos (h1.trans h2)]
          decide
        · rw [if_pos h1, if_neg h2, if_neg (fun e => h2 (h1.symm.trans e))]
          decide
      · by_cases h2 : m = b
        · rw [if_neg h1, if_pos h2, if_neg (fun e => h1 (e.trans h2.symm))]
          decide
        · rw [if_neg h1, if_neg h2]
          by_cases h3 : a = b
          · rw [if_pos h3]
            decide
          · rw [if_neg h3]
            decide
    rw [if_neg hn]
  · rw [if_neg h]
theorem fwB_0 (m a : Nat) : ∀ n, fwB Mi0 m a n = Mi0
  | 0 => rfl
  | n + 1 => by
    unfold fwB
    rw [fwB_0 m a n, fw1_0]
theorem fwA_0 (m : Nat) : ∀ n, fwA Mi0 m n = Mi0
  | 0 => rfl
  | n + 1 => by
    unfold fwA
    rw [fwA_0 m n, fwB_0]
theorem fwM_0 : ∀ n, fwM Mi0 n = Mi0
  | 0 => rfl
  | n + 1 => by
    unfold fwM
    rw [fwM_0 n, fwA_0]
def D0 : DD := (d0, fun _ => 0, fun _ => 0, fun _ => 0, fun _ => 0, fun _ => 0)
def X0 : XX := (D0, fun _ => 0, fun _ => 0, fun _ => 0, fun _ => 0, 0)
def A0 : AA := (X0, fun _ => 0, fun _ => 0, fun _ => 0, 0, Mi0, 0, 0, fun _ => 0, fun _ => 0, fun _ => 0, fun _ => 0, fun _ => 0)
theorem d00 : d0 0 0 = 0 := rfl
theorem q_10 : (0 : Nat) < 10 := by decide
theorem q_1 : (0 : Nat) ≤ 1 := by decide
theorem q_5 : (0 : Nat) ≤ 5 := by decide
theorem q_512 : (0 : Nat) < 512 := by decide
theorem q_i1 : (0 : Int) ≤ 0 ∧ (0 : Int) ≤ 1440 := by decide
theorem q_i6 : (0 : Int) ≤ 0 ∧ (0 : Int) ≤ 600 := by decide
theorem okA0 : okA A0 := by
  refine ⟨⟨⟨fun a b _ _ => d0_b a b, fun p _ => ⟨q_10, q_10, q_i1, q_i1, q_i6⟩⟩, by decide, fun p _ => ⟨q_1, q_5, q_1, q_512⟩⟩, fun a b _ _ => ⟨?_, Mi0_b a b⟩, by decide, ⟨by decide, fun p _ h => absurd rfl h, fun p h => ?_⟩, fun p _ => ?_⟩
  · show iI (d0 a b) = fwM Mi0 10 a b
    rw [fwM_0]
    exact d0_I a b
  · have h : (0 : Nat).testBit p = true := h
    rw [Nat.zero_testBit] at h
    cases h
  · show 0 ≤ (0 : Int) - d0 0 0 ∧ (0 : Int) - d0 0 0 ≤ 300
    rw [d00]
    decide
theorem n00 : (0 : Int32) = nI 0 := rfl
theorem i00 : (0 : Int32) = iI 0 := rfl
theorem i0d : (0 : Int32) = iI (0 - d0 0 0) := by
  rw [d00]
  rfl
theorem CS0 {σ : MS} (z : ∀ k j, k < 46 → k ≠ 8 → k ≠ 28 → σ k j = 0) (h0 : x0 σ) (h5 : x5 σ) : CS A0 σ := by
  have h56 : ∀ a b, a < 10 → b < 10 → σ (56 + a) b = iI (d0 a b) := fun a b ha hb => by
    rw [d0_I, h5.2 a b ha hb, fwM_0]
  refine ⟨⟨(z 4 1 (by omega) (by omega) (by omega)).trans n00, fun p hp => ?_, h56⟩, fun p hp => ⟨q_1, (z _ _ (by omega) (by omega) (by omega)).trans n00⟩, fun S hS => Or.inl (h0 S hS), fun p hp => z _ _ (by omega) (by omega) (by omega), fun k hk => z _ _ (by omega) (by omega) (by omega), z _ _ (by omega) (by omega) (by omega), h5.1, (z _ _ (by omega) (by omega) (by omega)).trans n00, (z _ _ (by omega) (by omega) (by omega)).trans n00, fun p hp => ⟨(z _ _ (by omega) (by omega) (by omega)).trans n00, fun h => absurd rfl h⟩⟩
  have y : ∀ j, σ (37 + p) j = 0 := fun j => z _ _ (by omega) (by omega) (by omega)
  exact ⟨(y 0).trans n00, (y 1).trans n00, (y 2).trans n00, (y 3).trans i00, (y 4).trans i00, (y 5).trans i0d, (y 6).trans n00, (y 8).trans n00, (y 9).trans n00⟩
theorem ZS0 {σ : MS} (y : ∀ k j, 66 ≤ k → k ≠ 68 → k ≠ 69 → σ k j = 0) (h8 : ∀ a b, a < 10 → b < 10 → σ 68 (10 * a + b) = Mi0 a b) (h9 : AGm (fwM Mi0 10) σ) : ZS A0 σ := by
  have h69 : ∀ a b, a < 10 → b < 10 → σ 69 (10 * a + b) = iI (d0 a b) := fun a b ha hb => by
    rw [d0_I, h9 a b ha hb, fwM_0]
  have w : ∀ k j, 66 ≤ k → k ≠ 68 → k ≠ 69 → σ k j = nI 0 := y
  refine ⟨⟨⟨by decide, w 66 3 (by omega) (by omega) (by omega), fun p _ => ⟨w 71 p (by omega) (by omega) (by omega), w 72 p (by omega) (by omega) (by omega), (y 73 p (by omega) (by omega) (by omega)).trans i00, (y 74 p (by omega) (by omega) (by omega)).trans i00, (y 75 p (by omega) (by omega) (by omega)).trans i0d⟩, h69⟩, fun p _ => ⟨w 70 p (by omega) (by omega) (by omega), w 76 p (by omega) (by omega) (by omega), w 80 p (by omega) (by omega) (by omega), w 77 p (by omega) (by omega) (by omega)⟩⟩, fun p _ => ⟨q_1, w 79 p (by omega) (by omega) (by omega)⟩, Or.inl (y 66 27 (by omega) (by omega) (by omega)), fun p _ => y 78 p (by omega) (by omega) (by omega), fun k _ => y 67 k (by omega) (by omega) (by omega), y 66 4 (by omega) (by omega) (by omega), h8, w 66 36 (by omega) (by omega) (by omega), ?_, fun p _ => ⟨w 97 p (by omega) (by omega) (by omega), fun h => absurd rfl h⟩⟩
  have e : popc (aLf A0) = 0 := by decide +kernel
  rw [e]
  exact w 66 37 (by omega) (by omega) (by omega)
theorem rel0 {σ8 σ : MS} (h8 : x8 σ8) (hz : ∀ k, p9 k = true → σ8 k = fun _ => 0) (hs : ∀ k j, p9 k = false → σ k j = σ8 k j) (h9 : x9 σ8 σ) : Rel A0 σ := by
  refine ⟨okA0, CS0 (fun k j h1 h2 h3 => ?_) (fun j hj => ?_) (x5_fr (fun k j h1 h2 => hs k j (by simp [p9]; omega)) h8.2.2), ZS0 (fun k j h1 h2 h3 => ?_) h9.2.2.1 h9.2.2.2⟩
  · rw [hs k j (by simp [p9]; omega), h8.1 k (by simp [c8d]; omega)]
  · rw [hs 28 j (by decide)]
    exact h8.2.1 j hj
  · by_cases h : k = 66 ∧ j = 27
    · rw [h.1, h.2]
      exact h9.2.1
    · rw [h9.1 k j h2 h3 h, hz k (by simp [p9]; omega)]
