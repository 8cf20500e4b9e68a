/-! ===== what the constructors' last parts do ===== -/
def Mi0 : Nat → Nat → Int32 := fun a b => if a = b then 0 else 300
theorem roadsT {σ : MS} {Q : MS → Prop} (hQ : ∀ σ', (∀ k j, ¬ (46 ≤ k ∧ k < 66) → σ' k j = σ k j) → (∀ a b, a < 10 → b < 10 → σ' (46 + a) b = Mi0 a b) → AGc (fwM Mi0 10) σ' → Q σ') : w_X5_init_T Q σ := by
  unfold w_X5_init_T
  have loop : ∀ (k i n : Nat) (s : MS), i + k = 10 → k < n → (∀ k j, ¬ (46 ≤ k ∧ k < 66) → s k j = σ k j) → (∀ a b, a < i → b < 10 → s (46 + a) b = Mi0 a b) → w_X5_init_H30 Q n (nI i) s := by
    intro k
    induction k with
    | zero =>
      intro i n s hi hn hF hG
      obtain ⟨n, rfl⟩ : ∃ z, n = z + 1 := ⟨n - 1, by omega⟩
      have e : i = 10 := by omega
      subst e
      unfold w_X5_init_H30
      refine ⟨fun _ => ?_, fun z => absurd (by decide) z⟩
      unfold w_X5_init_J63
      exact renew_ok hG (fun s2 h1 h2 => hQ s2 (fun k j hk => (h1 k j (by omega)).trans (hF k j hk)) (fun a b ha hb => by rw [h1 _ _ (by omega)]; exact hG a b ha hb) h2)
    | succ k ih =>
      intro i n s hi hn hF hG
      obtain ⟨n, rfl⟩ : ∃ z, n = z + 1 := ⟨n - 1, by omega⟩
      unfold w_X5_init_H30
      rw [nI_c (by omega : i ≤ 1000000000), nI_1]
      refine ⟨fun z => absurd z (nI_ge (b := 10) (by omega) (by omega)), fun _ => ⟨vin (by omega) (by decide), ?_⟩⟩
      refine fill_ok (n := 10) (rdm_r ⟨by omega, by omega⟩) (rw_1 ⟨by omega, by omega⟩) (rw_n ⟨by omega, by omega⟩) (by decide) (fun s2 h1 h2 => ⟨by omega, fun s3 e3 => ?_⟩)
      refine ih (i + 1) n s3 (by omega) (by omega) (fun k j hk => ?_) (fun a b ha hb => ?_)
      · rw [e3]
        unfold mst
        rw [if_neg (by omega), h1 k j (by omega)]
        exact hF k j hk
      · rw [e3]
        unfold mst Mi0
        by_cases z : a = i
        · subst z
          by_cases y : a = b
          · rw [if_pos (by omega), if_pos y]
          · rw [if_neg (by omega), if_neg y]
            exact h2 b hb
        · rw [if_neg (by omega), h1 _ _ (by omega)]
          exact hG a b (by omega) hb
  exact ⟨11, loop 10 0 11 σ (by omega) (by omega) (fun _ _ _ => rfl) (fun a b ha => absurd ha (by omega))⟩
theorem modelT {σ : MS} {Q : MS → Prop} (hQ : ∀ σ', (∀ k j, k ≠ 68 → k ≠ 69 → ¬ (k = 66 ∧ j = 27) → σ' k j = σ k j) → σ' 66 27 = 0 → (∀ a b, a < 10 → b < 10 → σ' 68 (10 * a + b) = Mi0 a b) → AGm (fwM Mi0 10) σ' → Q σ') : w_X9_init_T Q σ := by
  unfold w_X9_init_T
  have inner : ∀ (a : Nat) (K : Int32 → MS → Prop), a < 10 → (∀ s, (∀ k j, k ≠ 68 → s k j = σ k j) → (∀ x y, x < a + 1 → y < 10 → s 68 (10 * x + y) = Mi0 x y) → K (nI (a + 1)) s) → ∀ (k i n : Nat) (s : MS), i + k = 10 → k < n → (∀ k j, k ≠ 68 → s k j = σ k j) → (∀ x y, x < a → y < 10 → s 68 (10 * x + y) = Mi0 x y) → (∀ y, y < i → s 68 (10 * a + y) = Mi0 a y) → w_X9_init_H298 K Q n (nI a) (nI i) s := by
    intro a K ha hK k
    induction k with
    | zero =>
      intro i n s hi hn hF hG hR
      obtain ⟨n, rfl⟩ : ∃ z, n = z + 1 := ⟨n - 1, by omega⟩
      have e : i = 10 := by omega
      subst e
      unfold w_X9_init_H298
      rw [nI_1]
      refine ⟨fun _ => hK s hF (fun x y hx hy => ?_), fun z => absurd (by decide) z⟩
      rcases (by omega : x < a ∨ x = a) with q | q
      · exact hG x y q hy
      · rw [q]
        exact hR y hy
    | succ k ih =>
      intro i n s hi hn hF hG hR
      obtain ⟨n, rfl⟩ : ∃ z, n = z + 1 := ⟨n - 1, by omega⟩
      unfold w_X9_init_H298
      have fin : ∀ (v : Int32), v = Mi0 a i → w_X9_init_J326 K (fun x1 x2 σ => w_X9_init_H298 K Q n x1 x2 σ) Q (nI a) (nI i) ((10 : Int32) * nI a + nI i) v s := by
        intro v hv
        unfold w_X9_init_J326
        rw [ten, nI_c (by omega : 10 * a + i ≤ 1000000000), nI_1]
        refine ⟨vin (by omega) (by decide), fun s2 e2 => ih (i + 1) n s2 (by omega) (by omega) (fun k j hk => ?_) (fun x y hx hy => ?_) (fun y hy => ?_)⟩
        · rw [e2]
          unfold mst
          rw [if_neg (fun z => hk z.1)]
          exact hF k j hk
        · rw [e2]
          unfold mst
          rw [if_neg (by omega)]
          exact hG x y hx hy
        · rw [e2]
          unfold mst
          by_cases z : y = i
          · rw [if_pos (by omega), z]
            exact hv
          · rw [if_neg (by omega)]
            exact hR y (by omega)
      refine ⟨fun z => absurd z (nI_ge (b := 10) (by omega) (by omega)), fun _ => ⟨fun z => fin 300 ?_, fun z => fin 0 ?_⟩⟩
      · unfold Mi0
        rw [if_neg (fun y => z (by rw [y]))]
      · unfold Mi0
        rw [if_pos ((nI_eq (by omega) (by omega)).mp z)]
  have outer : ∀ (k a n : Nat) (s : MS), a + k = 10 → k < n → (∀ k j, k ≠ 68 → s k j = σ k j) → (∀ x y, x < a → y < 10 → s 68 (10 * x + y) = Mi0 x y) → w_X9_init_H290 Q n (nI a) s := by
    intro k
    induction k with
    | zero =>
      intro a n s hi hn hF hG
      obtain ⟨n, rfl⟩ : ∃ z, n = z + 1 := ⟨n - 1, by omega⟩
      have e : a = 10 := by omega
      subst e
      unfold w_X9_init_H290
      refine ⟨fun _ => ?_, fun z => absurd (by decide) z⟩
      unfold w_X9_init_J339
      exact measure_ok hG (fun s2 h1 h2 h3 => hQ s2 (fun k j a1 a2 a3 => (h1 k j a2 a3).trans (hF k j a1)) h2 (fun a b ha hb => by rw [h1 _ _ (by omega) (by omega)]; exact hG a b ha hb) h3)
    | succ k ih =>
      intro a n s hi hn hF hG
      obtain ⟨n, rfl⟩ : ∃ z, n = z + 1 := ⟨n - 1, by omega⟩
      unfold w_X9_init_H290
      refine ⟨fun z => absurd z (nI_ge (b := 10) (by omega) (by omega)), fun _ => ⟨11, ?_⟩⟩
      exact inner a _ (by omega) (fun s2 h1 h2 => ih (a + 1) n s2 (by omega) (by omega) h1 h2) 10 0 11 s (by omega) (by omega) hF hG (fun y hy => absurd hy (by omega))
  exact ⟨11, outer 10 0 11 σ (by omega) (by omega) (fun _ _ _ => rfl) (fun a b ha => absurd ha (by omega))⟩
theorem costsT {σ : MS} {Q : MS → Prop} (hQ : ∀ σ', (∀ k j, k ≠ 28 → σ' k j = σ k j) → (∀ j, j < 512 → σ' 28 j = -1) → Q σ') : w_X0_init_T Q σ := fill_ok (n := 512) (Or.inr rfl) (by decide) (by decide) (by decide) (fun s h1 h2 => hQ s h1 h2)
theorem ni {l l2 : List Nat} {x : Nat} (h : x ∉ l) (hs : l2.all (fun y => l.contains y) = true) : x ∉ l2 := fun hm => h (by
  have := List.all_eq_true.mp hs x hm
  simpa using this)
theorem dm_of {ids : List Nat} {P : Nat → Prop} (hP : ∀ k, P k → k < 102) (h : ∀ k, k < 102 → P k → k ∈ ids) : ∀ k, P k → k ∈ ids := fun k hk => h k (hP k hk) hk
theorem z0 {σ σ' : MS} {k : Nat} (h : ∀ j, σ' k j = σ k j) (hz : σ k = fun _ => 0) : σ' k = fun _ => 0 := by
  funext j
  rw [h j, hz]
