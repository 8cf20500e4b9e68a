/-! ===== Way.copyOf; lists by places ===== -/
/-- what copyOf leaves: found as trial is -/
def Cpy (σ σ' : MS) : Prop := (∀ k j, ¬ (k = 8 ∨ (18 ≤ k ∧ k ≤ 22)) → σ' k j = σ k j) ∧ (σ' 8 0 = σ 7 0 ∧ σ' 8 6 = σ 7 6 ∧ σ' 8 7 = σ 7 7) ∧ ∀ a j, a < 5 → j < 4 → σ' (18 + a) j = σ (13 + a) j
theorem five {P : Nat → Prop} (h0 : P 0) (h1 : P 1) (h2 : P 2) (h3 : P 3) (h4 : P 4) : ∀ a, a < 5 → P a := by
  intro a ha
  match a, ha with
  | 0, _ => exact h0
  | 1, _ => exact h1
  | 2, _ => exact h2
  | 3, _ => exact h3
  | 4, _ => exact h4
  | n + 5, h => omega
theorem copy_loop {Q : MS → Prop} {σ0 : MS} (hQ : ∀ σ', (∀ k j, ¬ (18 ≤ k ∧ k ≤ 22) → σ' k j = σ0 k j) → (∀ a j, a < 5 → j < 4 → σ' (18 + a) j = σ0 (13 + a) j) → Q σ') :
    ∀ (n i : Nat) (σ : MS), i ≤ 4 → 4 - i < n → (∀ k j, ¬ (18 ≤ k ∧ k ≤ 22) → σ k j = σ0 k j) → (∀ a j, a < 5 → j < i → σ (18 + a) j = σ0 (13 + a) j) → w_X6_copyOf_H26 Q n (nI i) σ := by
  intro n
  induction n with
  | zero => intro i σ _ h; omega
  | succ n ih =>
    intro i σ hi hn h1 h2
    unfold w_X6_copyOf_H26
    refine ⟨fun h => ?_, fun h => ?_⟩
    · have : 4 ≤ i := (nI_leI (by omega) (by omega)).mp h
      have e : i = 4 := by omega
      subst e
      exact hQ σ h1 h2
    · have hi4 : i < 4 := by
        rcases Nat.lt_or_ge i 4 with q | q
        · exact q
        · exact absurd (nI_le q (by omega)) h
      rw [nI_c (by omega : i ≤ 1000000000)]
      refine ⟨vin hi4 (by omega), fun σ42 e1 σ54 e2 σ66 e3 σ78 e4 σ90 e5 => ?_⟩
      rw [nI_1]
      refine ih (i + 1) σ90 (by omega) (by omega) (fun k j hk => ?_) (fun a j ha hj => ?_)
      · subst e1 e2 e3 e4 e5
        have : k ≠ 18 ∧ k ≠ 19 ∧ k ≠ 20 ∧ k ≠ 21 ∧ k ≠ 22 := by omega
        simp only [mst, this.1, this.2.1, this.2.2.1, this.2.2.2.1, this.2.2.2.2, false_and, if_false]
        exact h1 k j hk
      · subst e1 e2 e3 e4 e5
        revert a ha
        rcases Nat.lt_or_ge j i with q | q
        · have hne : j ≠ i := by omega
          intro a ha
          simp only [mst, hne, and_false, if_false]
          exact h2 a j ha q
        · have e : j = i := by omega
          subst e
          refine five ?_ ?_ ?_ ?_ ?_ <;> simp [mst, h1]
theorem copy_ok {σ : MS} {Q : MS → Prop} (hQ : ∀ σ', Cpy σ σ' → Q σ') : w_X6_copyOf σ Q := by
  unfold w_X6_copyOf w_X6_copyOf_E
  intro σ5 e1 σ13 e2 σ21 e3
  refine ⟨5, copy_loop (σ0 := σ21) (fun σ' h1 h2 => hQ σ' ⟨fun k j hk => ?_, ⟨?_, ?_, ?_⟩, fun a j ha hj => ?_⟩) 5 0 σ21 (by omega) (by omega) (fun _ _ _ => rfl) (fun a j _ h => absurd h (by omega))⟩
  · rw [h1 k j (by omega)]
    have : k ≠ 8 := by omega
    subst e1 e2 e3
    simp [mst, this]
  · rw [h1 8 0 (by omega)]
    subst e1 e2 e3
    simp [mst]
  · rw [h1 8 6 (by omega)]
    subst e1 e2 e3
    simp [mst]
  · rw [h1 8 7 (by omega)]
    subst e1 e2 e3
    simp [mst]
  · rw [h2 a j ha hj]
    have : 13 + a ≠ 8 := by omega
    subst e1 e2 e3
    simp [mst, this]
/-- the entries of M at the places from i on (k of them) whose bits are set -/
def rmC (M : List Nat) (R i k : Nat) : List Nat := ((List.range' i k).filter (fun j => R.testBit j)).map (fun j => M.getD j 0)
theorem rmC_0 (M : List Nat) (R i : Nat) : rmC M R i 0 = [] := rfl
theorem rmC_t {M : List Nat} {R i k : Nat} (h : R.testBit i = true) : rmC M R i (k + 1) = M.getD i 0 :: rmC M R (i + 1) k := by
  unfold rmC
  rw [List.range'_succ, List.filter_cons_of_pos (by simpa using h), List.map_cons]
theorem rmC_f {M : List Nat} {R i k : Nat} (h : R.testBit i = false) : rmC M R i (k + 1) = rmC M R (i + 1) k := by
  unfold rmC
  rw [List.range'_succ, List.filter_cons_of_neg (by simp [h])]
theorem er_fm {f : Nat → Nat} {P P2 : Nat → Bool} {i : Nat} : ∀ (l : List Nat), l.Nodup → i ∈ l → P i = true → (∀ j, P2 j = (P j && decide (j ≠ i))) → (∀ a ∈ l, ∀ b ∈ l, f a = f b → a = b) → ((l.filter P).map f).erase (f i) = (l.filter P2).map f
  | [], _, h, _, _, _ => by cases h
  | a :: l, hn, hi, hP, h2, hf => by
    obtain ⟨ha, hl⟩ := List.nodup_cons.mp hn
    by_cases e : a = i
    · subst e
      rw [List.filter_cons_of_pos hP, List.map_cons, List.erase_cons_head, List.filter_cons_of_neg (by rw [h2]; simp)]
      congr 1
      apply List.filter_congr
      intro j hj
      have : j ≠ a := fun q => ha (q ▸ hj)
      rw [h2]
      simp [this]
    · have hil : i ∈ l := by
        rcases List.mem_cons.mp hi with q | q
        · exact absurd q.symm e
        · exact q
      have ih := er_fm l hl hil hP h2 (fun x hx y hy => hf x (List.mem_cons_of_mem _ hx) y (List.mem_cons_of_mem _ hy))
      by_cases hPa : P a = true
      · rw [List.filter_cons_of_pos hPa, List.map_cons, List.erase_cons_tail (by
          simp only [beq_iff_eq]
          exact fun q => e (hf a List.mem_cons_self i hi q)), ih, List.filter_cons_of_pos (by rw [h2, hPa]; simp [e]), List.map_cons]
      · rw [List.filter_cons_of_neg hPa, ih, List.filter_cons_of_neg (by rw [h2]; simp [hPa])]
theorem getD_inj {M : List Nat} (hn : M.Nodup) {a b : Nat} (ha : a < M.length) (hb : b < M.length) (h : M.getD a 0 = M.getD b 0) : a = b := by
  rw [List.getD_eq_getElem?_getD, List.getD_eq_getElem?_getD, List.getElem?_eq_getElem ha, List.getElem?_eq_getElem hb] at h
  exact nodup_at hn (List.getElem?_eq_getElem ha) (by rw [List.getElem?_eq_getElem hb]; exact congrArg some h.symm)
theorem rmC_er {M : List Nat} (hn : M.Nodup) {R i : Nat} (hi : i < M.length) (hR : R.testBit i = true) : (rmC M R 0 M.length).erase (M.getD i 0) = rmC M (dif R (2 ^ i)) 0 M.length := by
  unfold rmC
  refine er_fm (f := fun j => M.getD j 0) _ List.nodup_range' (List.mem_range'_1.mpr ⟨Nat.zero_le _, by omega⟩) hR (fun j => ?_) (fun a ha b hb h => ?_)
  · rw [dif_b, Nat.testBit_two_pow]
    by_cases e : i = j
    · subst e
      simp
    · have : ¬ j = i := fun q => e q.symm
      simp [e, this]
  · have h1 := (List.mem_range'_1.mp ha).2
    have h2 := (List.mem_range'_1.mp hb).2
    exact getD_inj hn (by omega) (by omega) h
theorem rmC_mem {M : List Nat} {R p : Nat} : p ∈ rmC M R 0 M.length ↔ ∃ i, i < M.length ∧ R.testBit i = true ∧ M.getD i 0 = p := by
  unfold rmC
  rw [List.mem_map]
  constructor
  · rintro ⟨i, hi, rfl⟩
    obtain ⟨h1, h2⟩ := List.mem_filter.mp hi
    exact ⟨i, by have := (List.mem_range'_1.mp h1).2; omega, h2, rfl⟩
  · rintro ⟨i, h1, h2, rfl⟩
    exact ⟨i, List.mem_filter.mpr ⟨List.mem_range'_1.mpr ⟨Nat.zero_le _, by omega⟩, h2⟩, rfl⟩
theorem rmC_nd {M : List Nat} (hn : M.Nodup) {R : Nat} : (rmC M R 0 M.length).Nodup := by
  unfold rmC
  rw [List.nodup_iff_pairwise_ne, List.pairwise_map]
  refine List.Pairwise.imp_of_mem ?_ ((List.nodup_iff_pairwise_ne.mp (List.nodup_range' (s := 0) (n := M.length))).filter _)
  intro a b ha hb hab h
  have h1 := (List.mem_range'_1.mp (List.mem_filter.mp ha).1).2
  have h2 := (List.mem_range'_1.mp (List.mem_filter.mp hb).1).2
  exact hab (getD_inj hn (by omega) (by omega) h)
theorem getD_mem {M : List Nat} {i : Nat} (h : i < M.length) : M.getD i 0 ∈ M := by
  rw [List.getD_eq_getElem?_getD, List.getElem?_eq_getElem h]
  exact List.getElem_mem h
theorem mem_getD {M : List Nat} {p : Nat} (h : p ∈ M) : ∃ i, i < M.length ∧ M.getD i 0 = p := by
  obtain ⟨i, hi, e⟩ := List.mem_iff_getElem.mp h
  exact ⟨i, hi, by rw [List.getD_eq_getElem?_getD, List.getElem?_eq_getElem hi]; exact e⟩
