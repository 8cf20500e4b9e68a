/-! ===== minutes ===== -/
def AGc (L : Nat → Nat → Int32) (σ : MS) : Prop := ∀ x y, x < 10 → y < 10 → σ (56 + x) y = L x y
def FrRd (σ σ' : MS) : Prop := ∀ k j, ¬ (56 ≤ k ∧ k < 66) → σ' k j = σ k j
def AGm (L : Nat → Nat → Int32) (σ : MS) : Prop := ∀ x y, x < 10 → y < 10 → σ 69 (10 * x + y) = L x y
def FrS (σ σ' : MS) : Prop := ∀ k j, k ≠ 69 → σ' k j = σ k j
theorem shorten_ok {m a : Nat} (hm : m < 10) (ha : a < 10) {L0 : Nat → Nat → Int32} {σ : MS} (h : AGc L0 σ) {Q : MS → Prop} (hQ : ∀ σ', FrRd σ σ' → AGc (fwB L0 m a 10) σ' → Q σ') : w_X5_shortenBy (nI m) (56 + a) σ Q := by
  unfold w_X5_shortenBy w_X5_shortenBy_E
  have loop : ∀ (k i n : Nat) (s : MS), i + k = 10 → k < n → FrRd σ s → AGc (fwB L0 m a i) s → w_X5_shortenBy_H2 Q n (nI m) (56 + a) (nI i) s := by
    intro k
    induction k with
    | zero =>
      intro i n s hi hn hF hG
      obtain ⟨n, rfl⟩ : ∃ z, n = z + 1 := ⟨n - 1, by omega⟩
      have e : i = 10 := by omega
      subst e
      unfold w_X5_shortenBy_H2
      exact ⟨fun _ => hQ s hF hG, fun z => absurd (by decide) z⟩
    | succ k ih =>
      intro i n s hi hn hF hG
      obtain ⟨n, rfl⟩ : ∃ z, n = z + 1 := ⟨n - 1, by omega⟩
      unfold w_X5_shortenBy_H2
      rw [nI_c (by omega : m ≤ 1000000000), nI_c (by omega : i ≤ 1000000000), hG a m ha hm, hG m i hm (by omega), hG a i ha (by omega), nI_1]
      refine ⟨fun z => absurd z (nI_ge (b := 10) (by omega) (by omega)), fun _ => ⟨by omega, vin (by omega) (by decide), vin hm (by decide), by omega, fun s2 e2 => ?_⟩⟩
      refine ih (i + 1) n s2 (by omega) (by omega) (fun k j hk => ?_) (fun x y hx hy => ?_)
      · rw [e2]
        simp only [mst]
        rw [if_neg (by omega)]
        exact hF k j hk
      · show s2 (56 + x) y = fw1 (fwB L0 m a i) m a i x y
        unfold fw1
        rw [e2]
        unfold mst
        by_cases z : x = a ∧ y = i
        · rw [if_pos (by omega), if_pos z]
        · rw [if_neg (by omega), if_neg z]
          exact hG x y hx hy
  exact ⟨11, loop 10 0 11 σ (by omega) (by omega) (fun _ _ _ => rfl) h⟩
theorem renew_ok {M : Nat → Nat → Int32} {σ : MS} (h : ∀ x y, x < 10 → y < 10 → σ (46 + x) y = M x y) {Q : MS → Prop} (hQ : ∀ σ', FrRd σ σ' → AGc (fwM M 10) σ' → Q σ') : w_X5_renew σ Q := by
  unfold w_X5_renew w_X5_renew_E
  have la : ∀ (m : Nat) (L0 : Nat → Nat → Int32) (K : Int32 → MS → Prop), m < 10 → (∀ s, FrRd σ s → AGc (fwA L0 m 10) s → K (nI (m + 1)) s) → ∀ (k i n : Nat) (s : MS), i + k = 10 → k < n → FrRd σ s → AGc (fwA L0 m i) s → w_X5_renew_H43 K Q n (nI m) (nI i) s := by
    intro m L0 K hm hK k
    induction k with
    | zero =>
      intro i n s hi hn hF hG
      obtain ⟨n, rfl⟩ : ∃ z, n = z + 1 := ⟨n - 1, by omega⟩
      have e : i = 10 := by omega
      subst e
      unfold w_X5_renew_H43
      rw [nI_1]
      exact ⟨fun _ => hK s hF hG, fun z => absurd (by decide) z⟩
    | succ k ih =>
      intro i n s hi hn hF hG
      obtain ⟨n, rfl⟩ : ∃ z, n = z + 1 := ⟨n - 1, by omega⟩
      unfold w_X5_renew_H43
      rw [nI_c (by omega : i ≤ 1000000000), nI_1 i]
      refine ⟨fun z => absurd z (nI_ge (b := 10) (by omega) (by omega)), fun _ => ⟨vin (by omega) (by decide), ?_⟩⟩
      exact shorten_ok hm (by omega) hG (fun s2 hF2 hG2 => ih (i + 1) n s2 (by omega) (by omega) (fun k j hk => (hF2 k j hk).trans (hF k j hk)) hG2)
  have lm : ∀ (k i n : Nat) (s : MS), i + k = 10 → k < n → FrRd σ s → AGc (fwM M i) s → w_X5_renew_H35 Q n (nI i) s := by
    intro k
    induction k with
    | zero =>
      intro i n s hi hn hF hG
      obtain ⟨n, rfl⟩ : ∃ z, n = z + 1 := ⟨n - 1, by omega⟩
      have e : i = 10 := by omega
      subst e
      unfold w_X5_renew_H35
      exact ⟨fun _ => hQ s hF hG, fun z => absurd (by decide) z⟩
    | succ k ih =>
      intro i n s hi hn hF hG
      obtain ⟨n, rfl⟩ : ∃ z, n = z + 1 := ⟨n - 1, by omega⟩
      unfold w_X5_renew_H35
      refine ⟨fun z => absurd z (nI_ge (b := 10) (by omega) (by omega)), fun _ => ⟨11, ?_⟩⟩
      exact la i (fwM M i) _ (by omega) (fun s2 hF2 hG2 => ih (i + 1) n s2 (by omega) (by omega) hF2 hG2) 10 0 11 s (by omega) (by omega) hF hG
  have lc : ∀ (k i n : Nat) (s : MS), i + k = 10 → k < n → FrRd σ s → (∀ x y, x < i → y < 10 → s (56 + x) y = M x y) → w_X5_renew_H2 Q n (nI i) s := by
    intro k
    induction k with
    | zero =>
      intro i n s hi hn hF hG
      obtain ⟨n, rfl⟩ : ∃ z, n = z + 1 := ⟨n - 1, by omega⟩
      have e : i = 10 := by omega
      subst e
      unfold w_X5_renew_H2
      exact ⟨fun _ => ⟨11, lm 10 0 11 s (by omega) (by omega) hF hG⟩, fun z => absurd (by decide) z⟩
    | succ k ih =>
      intro i n s hi hn hF hG
      obtain ⟨n, rfl⟩ : ∃ z, n = z + 1 := ⟨n - 1, by omega⟩
      unfold w_X5_renew_H2
      rw [nI_c (by omega : i ≤ 1000000000), nI_1]
      refine ⟨fun z => absurd z (nI_ge (b := 10) (by omega) (by omega)), fun _ => ⟨vin (by omega) (by decide), by omega, by omega, fun s2 e2 => ?_⟩⟩
      refine ih (i + 1) n s2 (by omega) (by omega) (fun k j hk => ?_) (fun x y hx hy => ?_)
      · rw [e2]
        unfold mcp
        rw [if_neg (by omega)]
        exact hF k j hk
      · rw [e2]
        unfold mcp
        by_cases z : x = i
        · subst z
          rw [if_pos rfl]
          unfold va_cpy
          rw [if_pos (by omega), ← h x y (by omega) hy, ← hF (46 + x) y (by omega)]
          congr 1
          omega
        · rw [if_neg (by omega)]
          exact hG x y (by omega) hy
  exact ⟨11, lc 10 0 11 σ (by omega) (by omega) (fun _ _ _ => rfl) (fun x y hx => absurd hx (by omega))⟩
theorem measure_ok {M : Nat → Nat → Int32} {σ : MS} (h : ∀ x y, x < 10 → y < 10 → σ 68 (10 * x + y) = M x y) {Q : MS → Prop} (hQ : ∀ σ', (∀ k j, k ≠ 69 → ¬ (k = 66 ∧ j = 27) → σ' k j = σ k j) → σ' 66 27 = 0 → AGm (fwM M 10) σ' → Q σ') : w_X9_measure σ Q := by
  unfold w_X9_measure w_X9_measure_E
  have lb : ∀ (m a : Nat) (L0 : Nat → Nat → Int32) (K : Int32 → MS → Prop) (K2 : Int32 → Int32 → MS → Prop), m < 10 → a < 10 → (∀ s, FrS σ s → AGm (fwB L0 m a 10) s → K2 (nI m) (nI (a + 1)) s) → ∀ (k i n : Nat) (s : MS), i + k = 10 → k < n → FrS σ s → AGm (fwB L0 m a i) s → w_X9_measure_H44 K K2 Q n (nI m) (nI a) (nI i) s := by
    intro m a L0 K K2 hm ha hK k
    induction k with
    | zero =>
      intro i n s hi hn hF hG
      obtain ⟨n, rfl⟩ : ∃ z, n = z + 1 := ⟨n - 1, by omega⟩
      have e : i = 10 := by omega
      subst e
      unfold w_X9_measure_H44
      rw [nI_1]
      exact ⟨fun _ => hK s hF hG, fun z => absurd (by decide) z⟩
    | succ k ih =>
      intro i n s hi hn hF hG
      obtain ⟨n, rfl⟩ : ∃ z, n = z + 1 := ⟨n - 1, by omega⟩
      unfold w_X9_measure_H44
      rw [ten, ten, ten, nI_c (by omega : 10 * a + i ≤ 1000000000), nI_c (by omega : 10 * a + m ≤ 1000000000), nI_c (by omega : 10 * m + i ≤ 1000000000), hG a m ha hm, hG m i hm (by omega), hG a i ha (by omega), nI_1 i]
      refine ⟨fun z => absurd z (nI_ge (b := 10) (by omega) (by omega)), fun _ => ⟨vin (by omega) (by decide), vin (by omega) (by decide), vin (by omega) (by decide), fun s2 e2 => ?_⟩⟩
      refine ih (i + 1) n s2 (by omega) (by omega) (fun k j hk => ?_) (fun x y hx hy => ?_)
      · rw [e2]
        simp only [mst]
        rw [if_neg (by omega)]
        exact hF k j hk
      · show s2 69 (10 * x + y) = fw1 (fwB L0 m a i) m a i x y
        unfold fw1
        rw [e2]
        unfold mst
        by_cases z : x = a ∧ y = i
        · rw [if_pos (by omega), if_pos z]
        · rw [if_neg (by omega), if_neg z]
          exact hG x y hx hy
  have la : ∀ (m : Nat) (L0 : Nat → Nat → Int32) (K : Int32 → MS → Prop), m < 10 → (∀ s, FrS σ s → AGm (fwA L0 m 10) s → K (nI (m + 1)) s) → ∀ (k i n : Nat) (s : MS), i + k = 10 → k < n → FrS σ s → AGm (fwA L0 m i) s → w_X9_measure_H36 K Q n (nI m) (nI i) s := by
    intro m L0 K hm hK k
    induction k with
    | zero =>
      intro i n s hi hn hF hG
      obtain ⟨n, rfl⟩ : ∃ z, n = z + 1 := ⟨n - 1, by omega⟩
      have e : i = 10 := by omega
      subst e
      unfold w_X9_measure_H36
      rw [nI_1]
      exact ⟨fun _ => hK s hF hG, fun z => absurd (by decide) z⟩
    | succ k ih =>
      intro i n s hi hn hF hG
      obtain ⟨n, rfl⟩ : ∃ z, n = z + 1 := ⟨n - 1, by omega⟩
      unfold w_X9_measure_H36
      refine ⟨fun z => absurd z (nI_ge (b := 10) (by omega) (by omega)), fun _ => ⟨11, ?_⟩⟩
      exact lb m i (fwA L0 m i) _ _ hm (by omega) (fun s2 hF2 hG2 => ih (i + 1) n s2 (by omega) (by omega) hF2 hG2) 10 0 11 s (by omega) (by omega) hF hG
  have lm : ∀ (k i n : Nat) (s : MS), i + k = 10 → k < n → FrS σ s → AGm (fwM M i) s → w_X9_measure_H28 Q n (nI i) s := by
    intro k
    induction k with
    | zero =>
      intro i n s hi hn hF hG
      obtain ⟨n, rfl⟩ : ∃ z, n = z + 1 := ⟨n - 1, by omega⟩
      have e : i = 10 := by omega
      subst e
      unfold w_X9_measure_H28
      refine ⟨fun _ => ?_, fun z => absurd (by decide) z⟩
      unfold w_X9_measure_J116 w_X9_changes w_X9_changes_E
      intro s2 e2
      refine hQ s2 (fun k j h1 h2 => ?_) ?_ (fun x y hx hy => ?_)
      · rw [e2]
        simp only [mst]
        rw [if_neg h2]
        exact hF k j h1
      · rw [e2]
        simp [mst]
      · rw [e2]
        simp only [mst]
        rw [if_neg (by omega)]
        exact hG x y hx hy
    | succ k ih =>
      intro i n s hi hn hF hG
      obtain ⟨n, rfl⟩ : ∃ z, n = z + 1 := ⟨n - 1, by omega⟩
      unfold w_X9_measure_H28
      refine ⟨fun z => absurd z (nI_ge (b := 10) (by omega) (by omega)), fun _ => ⟨11, ?_⟩⟩
      exact la i (fwM M i) _ (by omega) (fun s2 hF2 hG2 => ih (i + 1) n s2 (by omega) (by omega) hF2 hG2) 10 0 11 s (by omega) (by omega) hF hG
  have lc : ∀ (k i n : Nat) (s : MS), i + k = 100 → k < n → FrS σ s → (∀ x, x < i → s 69 x = σ 68 x) → w_X9_measure_H2 Q n (nI i) s := by
    intro k
    induction k with
    | zero =>
      intro i n s hi hn hF hG
      obtain ⟨n, rfl⟩ : ∃ z, n = z + 1 := ⟨n - 1, by omega⟩
      have e : i = 100 := by omega
      subst e
      unfold w_X9_measure_H2
      exact ⟨fun _ => ⟨11, lm 10 0 11 s (by omega) (by omega) hF (fun x y hx hy => (hG _ (by omega)).trans (h x y hx hy))⟩, fun z => absurd (by decide) z⟩
    | succ k ih =>
      intro i n s hi hn hF hG
      obtain ⟨n, rfl⟩ : ∃ z, n = z + 1 := ⟨n - 1, by omega⟩
      unfold w_X9_measure_H2
      rw [nI_c (by omega : i ≤ 1000000000), nI_1]
      refine ⟨fun z => absurd z (nI_ge (b := 100) (by omega) (by omega)), fun _ => ⟨vin (by omega) (by decide), fun s2 e2 => ?_⟩⟩
      refine ih (i + 1) n s2 (by omega) (by omega) (fun k j hk => ?_) (fun x hx => ?_)
      · rw [e2]
        simp only [mst]
        rw [if_neg (by omega)]
        exact hF k j hk
      · rw [e2]
        unfold mst
        by_cases z : x = i
        · subst z
          rw [if_pos (by omega)]
          exact hF 68 x (by omega)
        · rw [if_neg (by omega)]
          exact hG x (by omega)
  exact ⟨101, lc 100 0 101 σ (by omega) (by omega) (fun _ _ _ => rfl) (fun x hx => absurd hx (by omega))⟩
def bdL (L : Nat → Nat → Int32) : Prop := ∀ a b, a < 10 → b < 10 → 0 ≤ (L a b).toInt ∧ (L a b).toInt ≤ 300
theorem bd_1 {L : Nat → Nat → Int32} {m a b : Nat} (hm : m < 10) (ha : a < 10) (hb : b < 10) (h : bdL L) : bdL (fw1 L m a b) := by
  intro x y hx hy
  unfold fw1
  by_cases z : x = a ∧ y = b
  · rw [if_pos z]
    have h1 := h a m ha hm
    have h2 := h m b hm hb
    have h3 := h a b ha hb
    have es : L a m + L m b = iI ((L a m).toInt + (L m b).toInt) := by
      rw [← iI_add, ← iI_of, ← iI_of]
    have et : (L a m + L m b).toInt = (L a m).toInt + (L m b).toInt := by
      rw [es]
      exact iI_t (by unfold sm; omega)
    split
    · rename_i q
      rw [Int32.lt_iff_toInt_lt] at q
      omega
    · exact h3
  · rw [if_neg z]
    exact h x y hx hy
theorem bd_B {L : Nat → Nat → Int32} {m a : Nat} (hm : m < 10) (ha : a < 10) (h : bdL L) : ∀ n, n ≤ 10 → bdL (fwB L m a n)
  | 0, _ => h
  | n + 1, hn => bd_1 hm ha (by omega) (bd_B hm ha h n (by omega))
theorem bd_A {L : Nat → Nat → Int32} {m : Nat} (hm : m < 10) (h : bdL L) : ∀ n, n ≤ 10 → bdL (fwA L m n)
  | 0, _ => h
  | n + 1, hn => bd_B hm (by omega) (bd_A hm h n (by omega)) 10 (Nat.le_refl _)
theorem bd_M {L : Nat → Nat → Int32} (h : bdL L) : ∀ n, n ≤ 10 → bdL (fwM L n)
  | 0, _ => h
  | n + 1, hn => bd_A (by omega) (bd_M h n (by omega)) 10 (Nat.le_refl _)
