/-! ===== the class: reasonAgainst ===== -/
def FrC (σ σ' : MS) : Prop := ∀ k j, ¬ (k = 7 ∨ k = 8 ∨ (13 ≤ k ∧ k ≤ 27)) → σ' k j = σ k j
theorem CX.fr {X : XX} {σ σ' : MS} (h : FrC σ σ') (c : CX X σ) : CX X σ' := by
  obtain ⟨c1, c2, c3⟩ := c
  refine ⟨by rw [h 4 1 (by omega)]; exact c1, fun p hp => ?_, fun a b ha hb => by rw [h (56 + a) b (by omega)]; exact c3 a b ha hb⟩
  rw [h (37 + p) 0 (by omega), h (37 + p) 1 (by omega), h (37 + p) 2 (by omega), h (37 + p) 3 (by omega), h (37 + p) 4 (by omega), h (37 + p) 5 (by omega), h (37 + p) 6 (by omega), h (37 + p) 8 (by omega), h (37 + p) 9 (by omega)]
  exact c2 p hp
theorem w_has {X : XX} (hX : okX X) {σ : MS} (hC : CX X σ) (x : Int32) {Q : Int32 → MS → Prop} (h0 : (¬ ∃ p, p < xn X ∧ x = nI p) → Q 0 σ) (h1 : ∀ p, p < xn X → x = nI p → Q 1 σ) : w_X2_has x σ Q := by
  have hn := hX.2.1
  unfold w_X2_has w_X2_has_E
  rw [hC.1]
  refine ⟨fun h => h0 ?_, fun h => ⟨fun h2 => h0 ?_, fun h2 => ?_⟩⟩
  · rintro ⟨p, hp, rfl⟩
    exact nI_pos (by omega) h
  · rintro ⟨p, hp, rfl⟩
    exact absurd ((nI_leI (by omega) (by omega)).mp h2) (by omega)
  · obtain ⟨j, hj, rfl⟩ := nI_of h
    have : j < xn X := by
      rcases Nat.lt_or_ge j (xn X) with q | q
      · exact q
      · exact absurd (nI_le q hj) h2
    exact h1 j this rfl
theorem w_at {p : Nat} (hp : p < 9) {σ : MS} {Q : Nat → MS → Prop} (hQ : Q (37 + p) σ) : w_X2_at (nI p) σ Q := by
  unfold w_X2_at w_X2_at_E
  rw [nI_c (by omega : p ≤ 1000000000)]
  exact ⟨vin hp (by omega), hQ⟩
theorem w_car {X : XX} (hX : okX X) {σ : MS} (hC : CX X σ) {p : Nat} (hp : p < 9) {Q : Int32 → MS → Prop} (h0 : (xs X p = 0 ∨ xb X p ≠ 0) → Q 0 σ) (h1 : ¬ (xs X p = 0 ∨ xb X p ≠ 0) → Q 1 σ) : w_X3_hasCar (37 + p) σ Q := by
  have h9 := hX.2.2 p hp
  obtain ⟨c0, c1, c2, c3, c4, c5, c6, c8, c9⟩ := hC.2.1 p hp
  unfold w_X3_hasCar w_X3_hasCar_E
  rw [c6, c8]
  refine ⟨by omega, fun h => h0 ?_, fun h => ⟨fun h2 => h0 ?_, fun h2 => h1 ?_⟩⟩
  · have := (nI_leI (b := 0) (by omega) (by omega)).mp h
    omega
  · exact Or.inr (fun e => h2 (by rw [e]; rfl))
  · have e := (nI_eq (b := 0) (by omega) (by omega)).mp h2
    rintro (g | g)
    · exact h (by rw [g]; decide)
    · exact g e
theorem w_seats {X : XX} (hX : okX X) {σ : MS} (hC : CX X σ) {S d : Nat} (hS : S < 2 ^ (xn X)) (hd : d < 9) {Q : Int32 → MS → Prop} (h0 : xs X d < needS X (rmD S 0 9) → Q 0 σ) (h1 : ¬ xs X d < needS X (rmD S 0 9) → Q 1 σ) : w_X2_seatsSuffice (nI S) (nI d) σ Q := by
  have hn := hX.2.1
  have hS9 := okS_9 hX hS
  have hsd := (hX.2.2 d hd).2.1
  have htot := needS_le hX (rmD S 0 9) (fun p hp => (rmD_mem.mp hp).1)
  have hpc := popc_le S
  unfold popc at hpc
  unfold w_X2_seatsSuffice w_X2_seatsSuffice_E
  have loop : ∀ (k n i s : Nat), i + k = xn X → k < n → s + needS X (rmD S i k) = needS X (rmD S 0 9) → w_X2_seatsSuffice_H5 Q n (nI S) (nI d) (nI s) (nI i) σ := by
    intro k
    induction k with
    | zero =>
      intro n i s hi hn2 hs
      obtain ⟨n, rfl⟩ : ∃ z, n = z + 1 := ⟨n - 1, by omega⟩
      unfold w_X2_seatsSuffice_H5
      rw [hC.1]
      refine ⟨fun _ => ?_, fun h => absurd (nI_le (by omega) (by omega)) h⟩
      have e : s = needS X (rmD S 0 9) := hs
      unfold w_X2_seatsSuffice_J42
      rw [nI_c (by omega : d ≤ 1000000000), (hC.2.1 d hd).2.2.2.2.2.2.1]
      refine ⟨vin hd (by omega), by omega, fun h => h0 ?_, fun h => h1 (fun g => h ?_)⟩
      · have := (nI_ltI (by omega) (by omega)).mp h
        omega
      · exact nI_lt (by omega) (by omega)
    | succ k ih =>
      intro n i s hi hn2 hs
      obtain ⟨n, rfl⟩ : ∃ z, n = z + 1 := ⟨n - 1, by omega⟩
      unfold w_X2_seatsSuffice_H5
      rw [hC.1]
      refine ⟨fun h => absurd h (nI_ge (by omega) (by omega)), fun _ => w_con (by omega) (by omega) (fun hb => ?_) (fun hb => ?_)⟩
      · refine ⟨fun _ => ?_, fun h => absurd rfl h⟩
        rw [nI_1]
        exact ih n (i + 1) s (by omega) (by omega) (by rw [rmD_f hb] at hs; exact hs)
      · refine ⟨fun h => absurd h (by decide), fun _ => ?_⟩
        have hki := hX.2.2 i (by omega)
        rw [nI_c (by omega : i ≤ 1000000000)]
        refine ⟨vin (by omega) (by omega), by omega, ?_⟩
        unfold w_X3_seatsTaken w_X3_seatsTaken_E
        rw [(hC.2.1 i (by omega)).1]
        have hs2 : s + (1 + xk X i) + needS X (rmD S (i + 1) k) = needS X (rmD S 0 9) := by
          rw [rmD_t hb] at hs
          unfold needS at hs ⊢
          rw [List.map_cons, List.sum_cons] at hs
          omega
        refine ⟨by omega, fun h x ex => ?_, fun h x ex => ?_⟩
        · have hk0 : xk X i = 0 := by
            have : xk X i ≠ 1 := fun e => h (by rw [e]; rfl)
            omega
          rw [ex, show (1 : Int32) = nI 1 from rfl, nI_add, nI_add]
          exact ih n (i + 1) (s + 1) (by omega) (by omega) (by omega)
        · have hk1 : xk X i = 1 := (nI_eq (b := 1) (by omega) (by omega)).mp h
          rw [ex, show (2 : Int32) = nI 2 from rfl, nI_add, nI_1]
          exact ih n (i + 1) (s + 2) (by omega) (by omega) (by omega)
  refine ⟨xn X + 1, ?_⟩
  have := loop (xn X) (xn X + 1) 0 0 (by omega) (by omega) (by rw [Nat.zero_add, rmD_ext hn hS])
  exact this
theorem w_bar {X : XX} (hX : okX X) {σ : MS} (hC : CX X σ) {S : Nat} (hS : S < 2 ^ (xn X)) {Q : Int32 → MS → Prop} (h0 : (rmD S 0 9).any (fun p => (xr X p &&& S) != 0) = false → Q 0 σ) (h1 : (rmD S 0 9).any (fun p => (xr X p &&& S) != 0) = true → Q 1 σ) : w_X2_hasBar (nI S) σ Q := by
  have hn := hX.2.1
  have hS9 := okS_9 hX hS
  unfold w_X2_hasBar w_X2_hasBar_E
  have loop : ∀ (k n i : Nat), i + k = xn X → k < n → (rmD S i k).any (fun p => (xr X p &&& S) != 0) = (rmD S 0 9).any (fun p => (xr X p &&& S) != 0) → w_X2_hasBar_H2 Q n (nI S) (nI i) σ := by
    intro k
    induction k with
    | zero =>
      intro n i hi hn2 hs
      obtain ⟨n, rfl⟩ : ∃ z, n = z + 1 := ⟨n - 1, by omega⟩
      unfold w_X2_hasBar_H2
      rw [hC.1]
      exact ⟨fun _ => h0 hs.symm, fun h => absurd (nI_le (by omega) (by omega)) h⟩
    | succ k ih =>
      intro n i hi hn2 hs
      obtain ⟨n, rfl⟩ : ∃ z, n = z + 1 := ⟨n - 1, by omega⟩
      unfold w_X2_hasBar_H2
      rw [hC.1]
      refine ⟨fun h => absurd h (nI_ge (by omega) (by omega)), fun _ => w_con (by omega) (by omega) (fun hb => ?_) (fun hb => ?_)⟩
      · refine ⟨fun _ => ?_, fun h => absurd rfl h⟩
        rw [nI_1]
        exact ih n (i + 1) (by omega) (by omega) (by rw [rmD_f hb] at hs; exact hs)
      · refine ⟨fun h => absurd h (by decide), fun _ => ?_⟩
        have hki := hX.2.2 i (by omega)
        rw [nI_c (by omega : i ≤ 1000000000), (hC.2.1 i (by omega)).2.2.2.2.2.2.2.2, nI_and]
        rw [rmD_t hb, List.any_cons] at hs
        have hle : xr X i &&& S ≤ xr X i := Nat.and_le_left
        refine ⟨vin (by omega) (by omega), by omega, fun h => ?_, fun h => h1 ?_⟩
        · have e : xr X i &&& S = 0 := (nI_eq (b := 0) (by omega) (by omega)).mp h
          rw [e] at hs
          rw [nI_1]
          exact ih n (i + 1) (by omega) (by omega) (by rw [← hs]; simp)
        · have e : xr X i &&& S ≠ 0 := fun e => h (by rw [e]; rfl)
          rw [← hs]
          simp [e]
  refine ⟨xn X + 1, ?_⟩
  have := loop (xn X) (xn X + 1) 0 (by omega) (by omega) (by rw [rmD_ext hn hS])
  exact this
theorem rmD_snoc_t {S i : Nat} (h : S.testBit i = true) : rmD S 0 (i + 1) = rmD S 0 i ++ [i] := by
  unfold rmD
  rw [← List.range'_append_1, List.filter_append]
  simp [h]
theorem rmD_snoc_f {S i : Nat} (h : S.testBit i = false) : rmD S 0 (i + 1) = rmD S 0 i := by
  unfold rmD
  rw [← List.range'_append_1, List.filter_append]
  simp [h]
theorem rmD_len_mono {S i : Nat} (hi : i ≤ 9) : (rmD S 0 i).length ≤ popc S := by
  unfold popc rmD
  obtain ⟨k, hk⟩ : ∃ k, i + k = 9 := ⟨9 - i, by omega⟩
  have e : List.range' 0 9 = List.range' 0 (i + k) := by rw [hk]
  rw [e, ← List.range'_append_1, List.filter_append, List.length_append]
  omega
theorem w_load {X : XX} (hX : okX X) {σ : MS} (hC : CX X σ) {S : Nat} (hS : okS X S) {Q : MS → Prop} (hQ : ∀ σ', FrC σ σ' → CE X.1 (rmD S 0 9) σ' → σ' 8 = σ 8 → Q σ') : w_X7_load (nI S) σ Q := by
  have hS9 := okS_9 hX hS.1
  unfold w_X7_load w_X7_load_E
  intro σ5 e5
  have loop : ∀ (k n i : Nat) (σ1 : MS), i + k = 9 → k < n → FrC σ σ1 → σ1 8 = σ 8 → σ1 7 0 = nI (rmD S 0 i).length → (∀ j, j < (rmD S 0 i).length → σ1 13 j = nI ((rmD S 0 i).getD j 0) ∧ σ1 23 j = nI (dh X.1 ((rmD S 0 i).getD j 0)) ∧ σ1 24 j = nI (dw X.1 ((rmD S 0 i).getD j 0)) ∧ σ1 25 j = iI (de X.1 ((rmD S 0 i).getD j 0)) ∧ σ1 26 j = iI (da X.1 ((rmD S 0 i).getD j 0)) ∧ σ1 27 j = iI (dg X.1 ((rmD S 0 i).getD j 0))) → w_X7_load_H10 Q n (nI S) (nI i) σ1 := by
    intro k
    induction k with
    | zero =>
      intro n i σ1 hi hn hF h8 h7 hA
      obtain ⟨n, rfl⟩ : ∃ z, n = z + 1 := ⟨n - 1, by omega⟩
      unfold w_X7_load_H10
      have e : i = 9 := by omega
      subst e
      refine ⟨fun _ => hQ σ1 hF ⟨h7, hA, (hC.fr hF).2.2⟩ h8, fun h => absurd (by decide) h⟩
    | succ k ih =>
      intro n i σ1 hi hn hF h8 h7 hA
      obtain ⟨n, rfl⟩ : ∃ z, n = z + 1 := ⟨n - 1, by omega⟩
      have hC1 := hC.fr hF
      unfold w_X7_load_H10
      refine ⟨fun h => absurd ((nI_leI (a := 9) (by omega) (by omega)).mp h) (by omega), fun _ => w_con (by omega) (by omega) (fun hb => ?_) (fun hb => ?_)⟩
      · refine ⟨fun _ => ?_, fun h => absurd rfl h⟩
        rw [nI_1]
        refine ih n (i + 1) σ1 (by omega) (by omega) hF h8 ?_ ?_
        · rw [rmD_snoc_f hb]; exact h7
        · rw [rmD_snoc_f hb]; exact hA
      · refine ⟨fun h => absurd h (by decide), fun _ => ?_⟩
        have hlen : (rmD S 0 (i + 1)).length = (rmD S 0 i).length + 1 := by rw [rmD_snoc_t hb, List.length_append]; rfl
        have hle := rmD_len_mono (S := S) (i := i + 1) (by omega)
        have h4 := hS.2.2
        have hl4 : (rmD S 0 i).length < 4 := by omega
        rw [h7]
        refine ⟨fun h => absurd ((nI_leI (a := 4) (by omega) (by omega)).mp h) (by omega), fun _ => ?_⟩
        have hdp := hX.1.2 i (by omega)
        unfold w_X7_loadOne w_X7_loadOne_E
        refine w_at (by omega) ?_
        rw [nI_c (by omega : (rmD S 0 i).length ≤ 1000000000)]
        generalize hL : (rmD S 0 i).length = L at *
        refine ⟨vin (by omega) (by omega), fun σa ea => ⟨by omega, fun σb eb σc ec σd ed σe ee => ?_⟩⟩
        obtain ⟨c0, c1, c2, c3, c4, c5, c6, c8, c9⟩ := hC1.2.1 i (by omega)
        have o : ∀ j, σa (37 + i) j = σ1 (37 + i) j ∧ σb (37 + i) j = σ1 (37 + i) j ∧ σc (37 + i) j = σ1 (37 + i) j ∧ σd (37 + i) j = σ1 (37 + i) j ∧ σe (37 + i) j = σ1 (37 + i) j := by
          intro j
          have g : 37 + i ≠ 13 ∧ 37 + i ≠ 23 ∧ 37 + i ≠ 24 ∧ 37 + i ≠ 25 ∧ 37 + i ≠ 26 := by omega
          subst ea eb ec ed ee
          simp [mst, g]
        have o56 : ∀ a b, a < 10 → b < 10 → σe (56 + a) b = iI (dl X.1 a b) := by
          intro a b ha hb2
          rw [← hC1.2.2 a b ha hb2]
          have g : 56 + a ≠ 13 ∧ 56 + a ≠ 23 ∧ 56 + a ≠ 24 ∧ 56 + a ≠ 25 ∧ 56 + a ≠ 26 := by omega
          subst ea eb ec ed ee
          simp [mst, g]
        rw [(o 1).2.2.2.2, (o 2).2.2.2.2, c1, c2]
        refine w_sho o56 hdp.1 hdp.2.1 (fun σf ef σg eg => ?_)
        rw [(o 5).2.2.2.2, c5, iI_add, show dl X.1 (dh X.1 i) (dw X.1 i) + (dg X.1 i - dl X.1 (dh X.1 i) (dw X.1 i)) = dg X.1 i by omega] at ef
        rw [(o 1).1, c1] at eb
        rw [(o 2).2.1, c2] at ec
        rw [(o 3).2.2.1, c3] at ed
        rw [(o 4).2.2.2.1, c4] at ee
        have h70 : σf 7 0 = nI L := by
          subst ea eb ec ed ee ef
          simp [mst, h7]
        rw [h70, nI_1] at eg
        rw [nI_1]
        refine ih n (i + 1) σg (by omega) (by omega) ?_ ?_ ?_ (fun j hj => ?_)
        · intro k j hk
          rw [← hF k j hk]
          subst ea eb ec ed ee ef eg
          simp only [mst]
          rw [if_neg (by omega), if_neg (by omega), if_neg (by omega), if_neg (by omega), if_neg (by omega), if_neg (by omega), if_neg (by omega)]
        · rw [← h8]
          subst ea eb ec ed ee ef eg
          funext j
          simp [mst]
        · rw [hlen]
          subst eg
          simp [mst]
        · rw [rmD_snoc_t hb]
          rw [hlen] at hj
          by_cases hjl : j < L
          · have e1 : (rmD S 0 i ++ [i]).getD j 0 = (rmD S 0 i).getD j 0 := by
              rw [List.getD_eq_getElem?_getD, List.getD_eq_getElem?_getD, List.getElem?_append_left (by omega)]
            rw [e1]
            have hne : j ≠ L := by omega
            have := hA j hjl
            subst ea eb ec ed ee ef eg
            simp [mst, hne, this]
          · have e : j = L := by omega
            subst e
            have e1 : (rmD S 0 i ++ [i]).getD j 0 = i := by
              rw [List.getD_eq_getElem?_getD, List.getElem?_append_right (by omega), hL, Nat.sub_self]
              rfl
            rw [e1]
            subst ea eb ec ed ee ef eg
            simp [mst]
  refine ⟨10, ?_⟩
  have hF : FrC σ σ5 := fun k j hk => by
    subst e5
    simp only [mst]
    rw [if_neg (by omega)]
  have := loop 9 10 0 σ5 (by omega) (by omega) hF (by subst e5; funext j; simp [mst]) (by subst e5; simp [mst]; rfl) (fun j hj => absurd hj (by simp [rmD]))
  exact this
theorem pmd : ∀ d, d < 9 → ((1 : Int32) <<< (nI d &&& 31)) - 1 = nI (2 ^ d - 1) := by decide +kernel
/-- reasonAgainst(set, driver), a driver in the set -/
theorem reason_ok {X : XX} (hX : okX X) {σ : MS} (hC : CX X σ) {S d : Nat} (hS : okS X S) (hd : S.testBit d = true) {Q : Int32 → MS → Prop} (hQ : ∀ σ', FrC σ σ' → (whyS X S d = 0 → CB (rmD S 0 9) σ' (bestS X.1 (rmD S 0 9) d)) → Q (nI (whyS X S d)) σ') : w_X7_reasonAgainst (nI S) (nI d) σ Q := by
  have hS9 := okS_9 hX hS.1
  have hdn : d < xn X := bits_lt hS.1 hd
  have hn := hX.2.1
  have hd9 : d < 9 := by omega
  have hM := okS_M hX hS
  have hs0 : FrC σ σ := fun _ _ _ => rfl
  unfold w_X7_reasonAgainst w_X7_reasonAgainst_E
  refine w_has hX hC _ (fun h => absurd ⟨d, hdn, rfl⟩ h) (fun _ _ _ => ⟨fun h => absurd h (by decide), fun _ => w_at hd9 ⟨by omega, w_car hX hC hd9 (fun hcar => ?_) (fun hcar => ?_)⟩⟩)
  · refine ⟨fun h => absurd rfl h, fun _ => ?_⟩
    have e : whyS X S d = 1 := if_pos hcar
    have := hQ σ hs0 (fun h => by rw [e] at h; cases h)
    rw [e] at this
    exact this
  · refine ⟨fun _ => w_seats hX hC hS.1 hd9 (fun hse => ?_) (fun hse => ?_), fun h => absurd h (by decide)⟩
    · refine ⟨fun h => absurd rfl h, fun _ => ?_⟩
      have e : whyS X S d = 2 := by
        unfold whyS
        rw [if_neg hcar, if_pos hse]
      have := hQ σ hs0 (fun h => by rw [e] at h; cases h)
      rw [e] at this
      exact this
    · refine ⟨fun _ => w_bar hX hC hS.1 (fun hba => ?_) (fun hba => ?_), fun h => absurd h (by decide)⟩
      · refine ⟨fun _ => w_load hX hC hS (fun σ1 hF1 hE1 h81 => ?_), fun h => absurd rfl h⟩
        have hidx := idx_ok S d hS9 hd9 hd
        rw [pmd d hd9, nI_and]
        refine w_bc (and_lt (n := 9) hS9) (fun σa ea => ?_)
        generalize hi : popc (S &&& (2 ^ d - 1)) = i at hidx ea
        have h4 := hS.2.2
        rw [nI_c (by omega : i ≤ 1000000000)]
        refine ⟨vin (by omega) (by omega), fun σb eb σc ec => ?_⟩
        have hlen : (rmD S 0 9).length = popc S := rfl
        have hFc : FrC σ σc := fun k j hk => by
          rw [← hF1 k j hk]
          subst ea eb ec
          simp only [mst]
          rw [if_neg (by omega), if_neg (by omega), if_neg (by omega)]
        have hEc : CE X.1 (rmD S 0 9) σc := by
          obtain ⟨g1, g2, g3⟩ := hE1
          refine ⟨?_, fun j hj => ?_, fun a b ha hb => ?_⟩
          · rw [← g1]
            subst ea eb ec
            simp [mst]
          · have := g2 j hj
            subst ea eb ec
            simp [mst, this]
          · rw [← g3 a b ha hb]
            have g : 56 + a ≠ 14 ∧ 56 + a ≠ 16 ∧ 56 + a ≠ 8 := by omega
            subst ea eb ec
            simp [mst, g]
        unfold w_X7_allPlaces w_X7_allPlaces_E
        have hpop : popc S ≤ 4 := hS.2.2
        rw [hEc.1, hlen, pm1 _ hpop]
        dsimp only
        rw [(hEc.2.1 i (by omega)).2.2.2.1, hidx.2, nI_sh (by omega), nI_dif]
        have hnone : rmC (rmD S 0 9) (dif (2 ^ popc S - 1) (2 ^ i)) 0 (rmD S 0 9).length = (rmD S 0 9).erase d := by
          have h1 := rmC_er (M := rmD S 0 9) hM.1 (R := 2 ^ popc S - 1) (i := i) (by omega) (pm1b _ hpop i (by omega))
          rw [hidx.2] at h1
          rw [← h1]
          have h2 : rmC (rmD S 0 9) (2 ^ popc S - 1) 0 (rmD S 0 9).length = rmD S 0 9 := rmC_all (fun j hj => pm1b _ hpop j hj)
          rw [h2]
        have hdM : d ∈ rmD S 0 9 := rmD_mem.mpr ⟨hd9, hd⟩
        have hde := hX.1.2 d hd9
        have key := pick_ok hX.1 hM (popc S - 1) 6 (dif (2 ^ popc S - 1) (2 ^ i)) [d] (fun _ => 0) 0 (de X.1 d) d none σc (fun σ119 => ((¬ (σ119 8 6) = 1441 → Q 0 σ119) ∧ ((σ119 8 6) = 1441 → Q 4 σ119))) (by omega) ?_ (by decide) hEc ?_ ?_ (fun σ' g1 g2 => ?_)
        · exact key
        · refine ⟨Nat.lt_of_lt_of_le (dif_lt (n := 4) ?_) (by decide), ?_, ?_, Nat.zero_lt_one, ?_, fun j hj => ?_, ⟨Int.le_refl _, by show (0 : Int) ≤ 300 * ((1 : Nat) : Int); decide⟩, ?_, ⟨?_, hde.2.2.1.1⟩, ⟨d, List.mem_cons_self, by show de X.1 d = de X.1 d - 0; omega⟩, rfl⟩
          · have : 2 ^ popc S ≤ 2 ^ 4 := Nat.pow_le_pow_right (by decide) hpop
            omega
          · rw [hnone, List.length_erase_of_mem hdM, hlen]
          · show 1 + (popc S - 1) = popc S
            omega
          · intro q hq
            rw [List.mem_singleton.mp hq]
            exact hdM
          · rw [dif_b, Nat.testBit_two_pow, pm1b _ hpop j hj, List.mem_singleton]
            by_cases e : i = j
            · subst e
              rw [decide_eq_true rfl]
              exact ⟨fun _ => rfl, fun _ => hidx.2⟩
            · have : (rmD S 0 9).getD j 0 ≠ d := fun z => e (getD_inj hM.1 (by omega) hj (hidx.2.trans z.symm))
              rw [decide_eq_false e]
              simp only [Bool.not_false, Bool.and_true, Bool.true_eq_false, iff_false]
              exact this
          · intro q hq
            rw [List.mem_singleton.mp hq]
            exact ⟨Int.le_refl _, Int.le_refl _⟩
          · intro q hq
            rw [List.mem_singleton.mp hq]
            show de X.1 d - 0 ≤ de X.1 d
            omega
        · refine ⟨fun k hk => ?_, fun j hj hjd => ?_⟩
          · have e : k = 0 := by simp at hk; omega
            subst e
            refine ⟨i, by omega, ?_, hidx.2⟩
            subst ea eb ec
            simp [mst]
          · have hj2 := List.mem_singleton.mp hjd
            have e : j = i := getD_inj hM.1 hj (by omega) (hj2.trans hidx.2.symm)
            subst e
            subst ea eb ec
            simp [mst]
            rfl
        · refine ⟨by decide, ?_, fun r hr => by cases hr⟩
          subst ec
          simp [mst]
          rfl
        · rw [hnone] at g2
          have g2 : CB (rmD S 0 9) σ' (bestS X.1 (rmD S 0 9) d) := g2
          have hF' : FrC σ σ' := fun k j hk => by rw [g1.1 k j (by omega)]; exact hFc k j hk
          have hw0 : whyS X S d = match bestS X.1 (rmD S 0 9) d with | none => 4 | some _ => 0 := by
            unfold whyS
            rw [if_neg hcar, if_neg hse, hba]
            rfl
          rw [g2.2.1]
          cases hb : bestS X.1 (rmD S 0 9) d with
          | none =>
            rw [hb] at hw0
            refine ⟨fun h => absurd rfl h, fun _ => ?_⟩
            have := hQ σ' hF' (fun h => by rw [hw0] at h; cases h)
            rw [hw0] at this
            exact this
          | some r =>
            rw [hb] at hw0 g2
            have hr := g2.2.2 r rfl
            have h0 := g2.1
            have ht : tot (some r) = r.1 := rfl
            refine ⟨fun _ => ?_, fun h => ?_⟩
            · have := hQ σ' hF' (fun _ => by rw [hb]; exact g2)
              rw [hw0] at this
              exact this
            · have := (iI_eq (a := tot (some r)) (b := 1441) (smi (by omega) (by omega)) (smi (by omega) (by omega))).mp h
              omega
      · refine ⟨fun h => absurd h (by decide), fun _ => ?_⟩
        have e : whyS X S d = 3 := by
          unfold whyS
          rw [if_neg hcar, if_neg hse, if_pos hba]
        have := hQ σ hs0 (fun h => by rw [e] at h; cases h)
        rw [e] at this
        exact this
