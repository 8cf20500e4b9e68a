/-! ===== personOf, count ===== -/
theorem L_personOf {A : AA} {σ : MS} (h : Rel A σ) (x1 x2 : Int32) {K : Int32 → Int32 → MS → Prop} (hK : ∀ r A' σ', Rel A' σ' → K r r σ') : w_X8_personOf x1 x2 σ (fun r1 σ1 => w_X9_personOf x1 x2 σ1 (fun r2 σ2 => K r1 r2 σ2)) := by
  unfold w_X8_personOf w_X8_personOf_E
  refine prC h x1 (fun a => ?_) (fun p hp hp9 e => ?_)
  · repeat (first | refine ct (by assumption) ?_ | refine cf (by assumption) ?_ | refine dt (by assumption) ?_ | refine df (by assumption) ?_ | refine ct rfl ?_ | refine cf (by decide) ?_ | refine dt rfl ?_ | refine df (by decide) ?_)
    refine rfG em1 (by decide) h hK (fun σ1 hm q => ?_)
    unfold w_X9_personOf w_X9_personOf_E
    refine prM0 h hm a ?_
    repeat (first | refine ct (by assumption) ?_ | refine cf (by assumption) ?_ | refine dt (by assumption) ?_ | refine df (by assumption) ?_ | refine ct rfl ?_ | refine cf (by decide) ?_ | refine dt rfl ?_ | refine df (by decide) ?_)
    exact q
  · subst e
    repeat (first | refine ct (by assumption) ?_ | refine cf (by assumption) ?_ | refine dt (by assumption) ?_ | refine df (by assumption) ?_ | refine ct rfl ?_ | refine cf (by decide) ?_ | refine dt rfl ?_ | refine df (by decide) ?_)
    have d := h.2.1.1.2.1 p hp9
    have da := (h.2.1.2.1 p hp9).2
    have dp := h.2.1.2.2.2.1 p hp9
    have m := h.2.2.1.1.2.2.1 p hp9
    have m2 := h.2.2.1.2 p hp9
    have ma := (h.2.2.2.1 p hp9).2
    have mp := h.2.2.2.2.2.1 p hp9
    have od := h.1.1.1.2 p hp9
    unfold w_X2_at w_X2_at_E
    rw [nI_c (by omega : p ≤ 1000000000)]
    refine ⟨vin hp9 (by decide), ?_⟩
    have hv9 : vp_in (nI p) 9 := vin hp9 (by decide)
    have h37 : 37 ≤ 37 + p ∧ 37 + p < 46 := by omega
    by_cases e0 : x2 = 0
    · repeat (first | refine ct (by assumption) ?_ | refine cf (by assumption) ?_ | refine dt (by assumption) ?_ | refine df (by assumption) ?_ | refine ct rfl ?_ | refine cf (by decide) ?_ | refine dt rfl ?_ | refine df (by decide) ?_)
      refine ⟨h37, ?_⟩
      rw [d.1]
      unfold w_X9_personOf w_X9_personOf_E
      refine prM1 h SmM.rf hp ?_
      repeat (first | refine ct (by assumption) ?_ | refine cf (by assumption) ?_ | refine dt (by assumption) ?_ | refine df (by assumption) ?_ | refine ct rfl ?_ | refine cf (by decide) ?_ | refine dt rfl ?_ | refine df (by decide) ?_)
      rw [nI_c (by omega : p ≤ 1000000000)]
      refine ⟨hv9, ?_⟩
      rw [m2.1]
      exact hK _ A σ h
    by_cases e1 : x2 = 1
    · repeat (first | refine ct (by assumption) ?_ | refine cf (by assumption) ?_ | refine dt (by assumption) ?_ | refine df (by assumption) ?_ | refine ct rfl ?_ | refine cf (by decide) ?_ | refine dt rfl ?_ | refine df (by decide) ?_)
      refine ⟨h37, ?_⟩
      rw [d.2.1]
      unfold w_X9_personOf w_X9_personOf_E
      refine prM1 h SmM.rf hp ?_
      repeat (first | refine ct (by assumption) ?_ | refine cf (by assumption) ?_ | refine dt (by assumption) ?_ | refine df (by assumption) ?_ | refine ct rfl ?_ | refine cf (by decide) ?_ | refine dt rfl ?_ | refine df (by decide) ?_)
      rw [nI_c (by omega : p ≤ 1000000000)]
      refine ⟨hv9, ?_⟩
      rw [m.1]
      exact hK _ A σ h
    by_cases e2 : x2 = 2
    · repeat (first | refine ct (by assumption) ?_ | refine cf (by assumption) ?_ | refine dt (by assumption) ?_ | refine df (by assumption) ?_ | refine ct rfl ?_ | refine cf (by decide) ?_ | refine dt rfl ?_ | refine df (by decide) ?_)
      refine ⟨h37, ?_⟩
      rw [d.2.2.1]
      unfold w_X9_personOf w_X9_personOf_E
      refine prM1 h SmM.rf hp ?_
      repeat (first | refine ct (by assumption) ?_ | refine cf (by assumption) ?_ | refine dt (by assumption) ?_ | refine df (by assumption) ?_ | refine ct rfl ?_ | refine cf (by decide) ?_ | refine dt rfl ?_ | refine df (by decide) ?_)
      rw [nI_c (by omega : p ≤ 1000000000)]
      refine ⟨hv9, ?_⟩
      rw [m.2.1]
      exact hK _ A σ h
    by_cases e3 : x2 = 3
    · repeat (first | refine ct (by assumption) ?_ | refine cf (by assumption) ?_ | refine dt (by assumption) ?_ | refine df (by assumption) ?_ | refine ct rfl ?_ | refine cf (by decide) ?_ | refine dt rfl ?_ | refine df (by decide) ?_)
      refine ⟨h37, ?_⟩
      rw [d.2.2.2.1]
      unfold w_X9_personOf w_X9_personOf_E
      refine prM1 h SmM.rf hp ?_
      repeat (first | refine ct (by assumption) ?_ | refine cf (by assumption) ?_ | refine dt (by assumption) ?_ | refine df (by assumption) ?_ | refine ct rfl ?_ | refine cf (by decide) ?_ | refine dt rfl ?_ | refine df (by decide) ?_)
      rw [nI_c (by omega : p ≤ 1000000000)]
      refine ⟨hv9, ?_⟩
      rw [m.2.2.1]
      exact hK _ A σ h
    by_cases e4 : x2 = 4
    · repeat (first | refine ct (by assumption) ?_ | refine cf (by assumption) ?_ | refine dt (by assumption) ?_ | refine df (by assumption) ?_ | refine ct rfl ?_ | refine cf (by decide) ?_ | refine dt rfl ?_ | refine df (by decide) ?_)
      refine ⟨h37, ?_⟩
      rw [d.2.2.2.2.1]
      unfold w_X9_personOf w_X9_personOf_E
      refine prM1 h SmM.rf hp ?_
      repeat (first | refine ct (by assumption) ?_ | refine cf (by assumption) ?_ | refine dt (by assumption) ?_ | refine df (by assumption) ?_ | refine ct rfl ?_ | refine cf (by decide) ?_ | refine dt rfl ?_ | refine df (by decide) ?_)
      rw [nI_c (by omega : p ≤ 1000000000)]
      refine ⟨hv9, ?_⟩
      rw [m.2.2.2.1]
      exact hK _ A σ h
    by_cases e5 : x2 = 5
    · repeat (first | refine ct (by assumption) ?_ | refine cf (by assumption) ?_ | refine dt (by assumption) ?_ | refine df (by assumption) ?_ | refine ct rfl ?_ | refine cf (by decide) ?_ | refine dt rfl ?_ | refine df (by decide) ?_)
      refine ⟨h37, ?_⟩
      rw [d.2.2.2.2.2.1]
      unfold w_X9_personOf w_X9_personOf_E
      refine prM1 h SmM.rf hp ?_
      repeat (first | refine ct (by assumption) ?_ | refine cf (by assumption) ?_ | refine dt (by assumption) ?_ | refine df (by assumption) ?_ | refine ct rfl ?_ | refine cf (by decide) ?_ | refine dt rfl ?_ | refine df (by decide) ?_)
      rw [nI_c (by omega : p ≤ 1000000000)]
      refine ⟨hv9, ?_⟩
      rw [m.2.2.2.2]
      exact hK _ A σ h
    by_cases e6 : x2 = 6
    · repeat (first | refine ct (by assumption) ?_ | refine cf (by assumption) ?_ | refine dt (by assumption) ?_ | refine df (by assumption) ?_ | refine ct rfl ?_ | refine cf (by decide) ?_ | refine dt rfl ?_ | refine df (by decide) ?_)
      refine ⟨h37, ?_⟩
      rw [d.2.2.2.2.2.2.1]
      unfold w_X9_personOf w_X9_personOf_E
      refine prM1 h SmM.rf hp ?_
      repeat (first | refine ct (by assumption) ?_ | refine cf (by assumption) ?_ | refine dt (by assumption) ?_ | refine df (by assumption) ?_ | refine ct rfl ?_ | refine cf (by decide) ?_ | refine dt rfl ?_ | refine df (by decide) ?_)
      rw [nI_c (by omega : p ≤ 1000000000)]
      refine ⟨hv9, ?_⟩
      rw [m2.2.1]
      exact hK _ A σ h
    by_cases e7 : x2 = 7
    · repeat (first | refine ct (by assumption) ?_ | refine cf (by assumption) ?_ | refine dt (by assumption) ?_ | refine df (by assumption) ?_ | refine ct rfl ?_ | refine cf (by decide) ?_ | refine dt rfl ?_ | refine df (by decide) ?_)
      refine ⟨h37, ?_⟩
      rw [da]
      by_cases z : nI (aW A p) = 0
      · repeat (first | refine ct (by assumption) ?_ | refine cf (by assumption) ?_ | refine dt (by assumption) ?_ | refine df (by assumption) ?_ | refine ct rfl ?_ | refine cf (by decide) ?_ | refine dt rfl ?_ | refine df (by decide) ?_)
        unfold w_X9_personOf w_X9_personOf_E
        refine prM1 h SmM.rf hp ?_
        repeat (first | refine ct (by assumption) ?_ | refine cf (by assumption) ?_ | refine dt (by assumption) ?_ | refine df (by assumption) ?_ | refine ct rfl ?_ | refine cf (by decide) ?_ | refine dt rfl ?_ | refine df (by decide) ?_)
        rw [nI_c (by omega : p ≤ 1000000000)]
        refine ⟨hv9, ?_⟩
        rw [ma]
        repeat (first | refine ct (by assumption) ?_ | refine cf (by assumption) ?_ | refine dt (by assumption) ?_ | refine df (by assumption) ?_ | refine ct rfl ?_ | refine cf (by decide) ?_ | refine dt rfl ?_ | refine df (by decide) ?_)
        exact hK _ A σ h
      · repeat (first | refine ct (by assumption) ?_ | refine cf (by assumption) ?_ | refine dt (by assumption) ?_ | refine df (by assumption) ?_ | refine ct rfl ?_ | refine cf (by decide) ?_ | refine dt rfl ?_ | refine df (by decide) ?_)
        unfold w_X9_personOf w_X9_personOf_E
        refine prM1 h SmM.rf hp ?_
        repeat (first | refine ct (by assumption) ?_ | refine cf (by assumption) ?_ | refine dt (by assumption) ?_ | refine df (by assumption) ?_ | refine ct rfl ?_ | refine cf (by decide) ?_ | refine dt rfl ?_ | refine df (by decide) ?_)
        rw [nI_c (by omega : p ≤ 1000000000)]
        refine ⟨hv9, ?_⟩
        rw [ma]
        repeat (first | refine ct (by assumption) ?_ | refine cf (by assumption) ?_ | refine dt (by assumption) ?_ | refine df (by assumption) ?_ | refine ct rfl ?_ | refine cf (by decide) ?_ | refine dt rfl ?_ | refine df (by decide) ?_)
        exact hK _ A σ h
    by_cases e8 : x2 = 8
    · repeat (first | refine ct (by assumption) ?_ | refine cf (by assumption) ?_ | refine dt (by assumption) ?_ | refine df (by assumption) ?_ | refine ct rfl ?_ | refine cf (by decide) ?_ | refine dt rfl ?_ | refine df (by decide) ?_)
      refine ⟨h37, ?_⟩
      rw [d.2.2.2.2.2.2.2.1]
      by_cases z : nI (xb (aX A) p) = 0
      · repeat (first | refine ct (by assumption) ?_ | refine cf (by assumption) ?_ | refine dt (by assumption) ?_ | refine df (by assumption) ?_ | refine ct rfl ?_ | refine cf (by decide) ?_ | refine dt rfl ?_ | refine df (by decide) ?_)
        unfold w_X9_personOf w_X9_personOf_E
        refine prM1 h SmM.rf hp ?_
        repeat (first | refine ct (by assumption) ?_ | refine cf (by assumption) ?_ | refine dt (by assumption) ?_ | refine df (by assumption) ?_ | refine ct rfl ?_ | refine cf (by decide) ?_ | refine dt rfl ?_ | refine df (by decide) ?_)
        rw [nI_c (by omega : p ≤ 1000000000)]
        refine ⟨hv9, ?_⟩
        rw [m2.2.2.1]
        repeat (first | refine ct (by assumption) ?_ | refine cf (by assumption) ?_ | refine dt (by assumption) ?_ | refine df (by assumption) ?_ | refine ct rfl ?_ | refine cf (by decide) ?_ | refine dt rfl ?_ | refine df (by decide) ?_)
        exact hK _ A σ h
      · repeat (first | refine ct (by assumption) ?_ | refine cf (by assumption) ?_ | refine dt (by assumption) ?_ | refine df (by assumption) ?_ | refine ct rfl ?_ | refine cf (by decide) ?_ | refine dt rfl ?_ | refine df (by decide) ?_)
        unfold w_X9_personOf w_X9_personOf_E
        refine prM1 h SmM.rf hp ?_
        repeat (first | refine ct (by assumption) ?_ | refine cf (by assumption) ?_ | refine dt (by assumption) ?_ | refine df (by assumption) ?_ | refine ct rfl ?_ | refine cf (by decide) ?_ | refine dt rfl ?_ | refine df (by decide) ?_)
        rw [nI_c (by omega : p ≤ 1000000000)]
        refine ⟨hv9, ?_⟩
        rw [m2.2.2.1]
        repeat (first | refine ct (by assumption) ?_ | refine cf (by assumption) ?_ | refine dt (by assumption) ?_ | refine df (by assumption) ?_ | refine ct rfl ?_ | refine cf (by decide) ?_ | refine dt rfl ?_ | refine df (by decide) ?_)
        exact hK _ A σ h
    by_cases e9 : x2 = 9
    · repeat (first | refine ct (by assumption) ?_ | refine cf (by assumption) ?_ | refine dt (by assumption) ?_ | refine df (by assumption) ?_ | refine ct rfl ?_ | refine cf (by decide) ?_ | refine dt rfl ?_ | refine df (by decide) ?_)
      refine ⟨h37, ?_⟩
      rw [d.2.2.2.2.2.2.2.2]
      unfold w_X9_personOf w_X9_personOf_E
      refine prM1 h SmM.rf hp ?_
      repeat (first | refine ct (by assumption) ?_ | refine cf (by assumption) ?_ | refine dt (by assumption) ?_ | refine df (by assumption) ?_ | refine ct rfl ?_ | refine cf (by decide) ?_ | refine dt rfl ?_ | refine df (by decide) ?_)
      rw [nI_c (by omega : p ≤ 1000000000)]
      refine ⟨hv9, ?_⟩
      rw [m2.2.2.2]
      exact hK _ A σ h
    by_cases e10 : x2 = 10
    · repeat (first | refine ct (by assumption) ?_ | refine cf (by assumption) ?_ | refine dt (by assumption) ?_ | refine df (by assumption) ?_ | refine ct rfl ?_ | refine cf (by decide) ?_ | refine dt rfl ?_ | refine df (by decide) ?_)
      refine ⟨h37, ?_⟩
      rw [d.2.1, d.2.2.1]
      unfold w_X5_shortest w_X5_shortest_E
      rw [nI_c (by omega : dh (aX A).1 p ≤ 1000000000), nI_c (by omega : dw (aX A).1 p ≤ 1000000000), h.2.1.1.2.2 _ _ od.1 od.2.1]
      refine ⟨vin od.1 (by decide), by omega, vin od.2.1 (by decide), ?_⟩
      unfold w_X9_personOf w_X9_personOf_E
      refine prM1 h SmM.rf hp ?_
      repeat (first | refine ct (by assumption) ?_ | refine cf (by assumption) ?_ | refine dt (by assumption) ?_ | refine df (by assumption) ?_ | refine ct rfl ?_ | refine cf (by decide) ?_ | refine dt rfl ?_ | refine df (by decide) ?_)
      rw [nI_c (by omega : p ≤ 1000000000)]
      refine ⟨hv9, ?_⟩
      rw [m.1, m.2.1]
      unfold w_X9_leastOf w_X9_leastOf_E
      rw [ten, nI_c (by omega : 10 * dh (aX A).1 p + dw (aX A).1 p ≤ 1000000000), h.2.2.1.1.2.2.2 _ _ od.1 od.2.1]
      exact ⟨vin (by omega) (by decide), hK _ A σ h⟩
    by_cases e11 : x2 = 11
    · repeat (first | refine ct (by assumption) ?_ | refine cf (by assumption) ?_ | refine dt (by assumption) ?_ | refine df (by assumption) ?_ | refine ct rfl ?_ | refine cf (by decide) ?_ | refine dt rfl ?_ | refine df (by decide) ?_)
      refine ⟨h37, ?_⟩
      rw [dp]
      unfold w_X9_personOf w_X9_personOf_E
      refine prM1 h SmM.rf hp ?_
      repeat (first | refine ct (by assumption) ?_ | refine cf (by assumption) ?_ | refine dt (by assumption) ?_ | refine df (by assumption) ?_ | refine ct rfl ?_ | refine cf (by decide) ?_ | refine dt rfl ?_ | refine df (by decide) ?_)
      rw [nI_c (by omega : p ≤ 1000000000)]
      refine ⟨hv9, ?_⟩
      rw [mp, Int32.add_comm]
      exact hK _ A σ h
    repeat (first | refine ct (by assumption) ?_ | refine cf (by assumption) ?_ | refine dt (by assumption) ?_ | refine df (by assumption) ?_ | refine ct rfl ?_ | refine cf (by decide) ?_ | refine dt rfl ?_ | refine df (by decide) ?_)
    refine rfG em2 (by decide) h hK (fun σ1 hm q => ?_)
    unfold w_X9_personOf w_X9_personOf_E
    refine prM1 h hm hp ?_
    repeat (first | refine ct (by assumption) ?_ | refine cf (by assumption) ?_ | refine dt (by assumption) ?_ | refine df (by assumption) ?_ | refine ct rfl ?_ | refine cf (by decide) ?_ | refine dt rfl ?_ | refine df (by decide) ?_)
    exact q
def carS (X : XX) : Nat → Nat
  | 0 => 0
  | n + 1 => if 0 < xs X n ∧ xb X n = 0 then carS X n + 1 else carS X n
theorem w_carC {X : XX} (hX : okX X) {σ : MS} (hC : CX X σ) {Q : Int32 → MS → Prop} (hQ : Q (nI (carS X (xn X))) σ) : w_X2_withCar σ Q := by
  have hn := hX.2.1
  unfold w_X2_withCar w_X2_withCar_E
  have loop : ∀ (k n i : Nat), i + k = xn X → k < n → w_X2_withCar_H4 Q n (nI (carS X i)) (nI i) σ := by
    intro k
    induction k with
    | zero =>
      intro n i hi hn2
      obtain ⟨n, rfl⟩ : ∃ z, n = z + 1 := ⟨n - 1, by omega⟩
      unfold w_X2_withCar_H4
      rw [hC.1]
      have e : i = xn X := by omega
      rw [e]
      exact ⟨fun _ => hQ, fun h => absurd (nI_le (Nat.le_refl _) (by omega)) h⟩
    | succ k ih =>
      intro n i hi hn2
      obtain ⟨n, rfl⟩ : ∃ z, n = z + 1 := ⟨n - 1, by omega⟩
      unfold w_X2_withCar_H4
      have d := hC.2.1 i (by omega)
      have o := hX.2.2 i (by omega)
      rw [hC.1, nI_c (by omega : i ≤ 1000000000)]
      refine ⟨fun h => absurd h (nI_ge (by omega) (by omega)), fun _ => ⟨vin (by omega) (by omega), ?_⟩⟩
      have i1 := ih n (i + 1) (by omega) (by omega)
      unfold w_X3_hasCar w_X3_hasCar_E
      rw [d.2.2.2.2.2.2.1, d.2.2.2.2.2.2.2.1]
      refine ⟨by omega, by omega, fun h => ?_, fun h => ⟨fun h2 => ?_, fun h2 => ?_⟩⟩
      · repeat (first | refine ct (by assumption) ?_ | refine cf (by assumption) ?_ | refine dt (by assumption) ?_ | refine df (by assumption) ?_ | refine ct rfl ?_ | refine cf (by decide) ?_ | refine dt rfl ?_ | refine df (by decide) ?_)
        have e := (nI_leI (b := 0) (by omega) (by omega)).mp h
        have e2 : carS X (i + 1) = carS X i := if_neg (by omega)
        rw [e2] at i1
        rw [nI_1]
        exact i1
      · repeat (first | refine ct (by assumption) ?_ | refine cf (by assumption) ?_ | refine dt (by assumption) ?_ | refine df (by assumption) ?_ | refine ct rfl ?_ | refine cf (by decide) ?_ | refine dt rfl ?_ | refine df (by decide) ?_)
        have e : xs X i ≠ 0 := fun z => h (by rw [z]; exact nI_le (a := 0) (b := 0) (by omega) (by omega))
        have e2 : carS X (i + 1) = carS X i := if_neg (fun z => h2 (by rw [z.2]; rfl))
        rw [e2] at i1
        rw [nI_1]
        exact i1
      · repeat (first | refine ct (by assumption) ?_ | refine cf (by assumption) ?_ | refine dt (by assumption) ?_ | refine df (by assumption) ?_ | refine ct rfl ?_ | refine cf (by decide) ?_ | refine dt rfl ?_ | refine df (by decide) ?_)
        have e : xs X i ≠ 0 := fun z => h (by rw [z]; exact nI_le (a := 0) (b := 0) (by omega) (by omega))
        have e2 : carS X (i + 1) = carS X i + 1 := if_pos ⟨by omega, (nI_eq (b := 0) (by omega) (by omega)).mp h2⟩
        rw [e2] at i1
        rw [nI_1, nI_1]
        exact i1
  refine ⟨xn X + 1, ?_⟩
  have := loop (xn X) (xn X + 1) 0 (by omega) (by omega)
  exact this
theorem w_carM {X : XX} (hX : okX X) {σ : MS} (hC : MX X σ) {Q : Int32 → MS → Prop} (hQ : Q (nI (carS X (xn X))) σ) : ∃ n75, w_X9_count_H75 Q n75 0 0 σ := by
  have hn := hX.2.1
  have loop : ∀ (k n i : Nat), i + k = xn X → k < n → w_X9_count_H75 Q n (nI (carS X i)) (nI i) σ := by
    intro k
    induction k with
    | zero =>
      intro n i hi hn2
      obtain ⟨n, rfl⟩ : ∃ z, n = z + 1 := ⟨n - 1, by omega⟩
      unfold w_X9_count_H75
      rw [hC.1.2.1]
      have e : i = xn X := by omega
      rw [e]
      exact ⟨fun _ => hQ, fun h => absurd (nI_le (Nat.le_refl _) (by omega)) h⟩
    | succ k ih =>
      intro n i hi hn2
      obtain ⟨n, rfl⟩ : ∃ z, n = z + 1 := ⟨n - 1, by omega⟩
      unfold w_X9_count_H75
      have d := hC.2 i (by omega)
      have o := hX.2.2 i (by omega)
      rw [hC.1.2.1, nI_c (by omega : i ≤ 1000000000), d.2.1, d.2.2.1]
      refine ⟨fun h => absurd h (nI_ge (by omega) (by omega)), fun _ => ⟨vin (by omega) (by omega), ?_⟩⟩
      have i1 := ih n (i + 1) (by omega) (by omega)
      refine ⟨fun h x ex => ?_, fun h => ⟨fun h2 x ex => ?_, fun h2 x ex => ?_⟩⟩
      · have e := (nI_leI (b := 0) (by omega) (by omega)).mp h
        have e2 : carS X (i + 1) = carS X i := if_neg (by omega)
        rw [e2] at i1
        rw [ex, Int32.add_zero, nI_1]
        exact i1
      · have e2 : carS X (i + 1) = carS X i := if_neg (fun z => h2 (by rw [z.2]; rfl))
        rw [e2] at i1
        rw [ex, Int32.add_zero, nI_1]
        exact i1
      · have e : xs X i ≠ 0 := fun z => h (by rw [z]; exact nI_le (a := 0) (b := 0) (by omega) (by omega))
        have e2 : carS X (i + 1) = carS X i + 1 := if_pos ⟨by omega, (nI_eq (b := 0) (by omega) (by omega)).mp h2⟩
        rw [e2] at i1
        rw [ex, nI_1, nI_1]
        exact i1
  refine ⟨xn X + 1, ?_⟩
  have := loop (xn X) (xn X + 1) 0 (by omega) (by omega)
  exact this
theorem L_count {A : AA} {σ : MS} (h : Rel A σ) (x : Int32) {K : Int32 → Int32 → MS → Prop} (hK : ∀ r A' σ', Rel A' σ' → K r r σ') : w_X8_count x σ (fun r1 σ1 => w_X9_count x σ1 (fun r2 σ2 => K r1 r2 σ2)) := by
  have p9 := okS_9 h.1.1 (pres_lt (aw := aW A) (n := xn (aX A)))
  unfold w_X8_count w_X8_count_E
  by_cases e0 : x = 0
  · subst e0
    repeat (first | refine ct (by assumption) ?_ | refine cf (by assumption) ?_ | refine dt (by assumption) ?_ | refine df (by assumption) ?_ | refine ct rfl ?_ | refine cf (by decide) ?_ | refine dt rfl ?_ | refine df (by decide) ?_)
    show K (σ 4 1) (σ 66 3) σ
    rw [h.2.1.1.1, h.2.2.1.1.2.1]
    exact hK _ A σ h
  by_cases e1 : x = 1
  · subst e1
    repeat (first | refine ct (by assumption) ?_ | refine cf (by assumption) ?_ | refine dt (by assumption) ?_ | refine df (by assumption) ?_ | refine ct rfl ?_ | refine cf (by decide) ?_ | refine dt rfl ?_ | refine df (by decide) ?_)
    refine w_here h.1.1 h.2.1.1 h.2.1.2.1 (w_bc p9 ?_)
    have t : (1 : Int32) ≤ 10 := by decide
    unfold w_X9_count w_X9_count_E
    repeat (first | refine ct (by assumption) ?_ | refine cf (by assumption) ?_ | refine dt (by assumption) ?_ | refine df (by assumption) ?_ | refine ct rfl ?_ | refine cf (by decide) ?_ | refine dt rfl ?_ | refine df (by decide) ?_)
    exact w_pres h.1.1 h.2.2.1 h.2.2.2.1 (w_many p9 (hK _ A σ h))
  by_cases e2 : x = 2
  · subst e2
    repeat (first | refine ct (by assumption) ?_ | refine cf (by assumption) ?_ | refine dt (by assumption) ?_ | refine df (by assumption) ?_ | refine ct rfl ?_ | refine cf (by decide) ?_ | refine dt rfl ?_ | refine df (by decide) ?_)
    refine w_carC h.1.1 h.2.1.1 ?_
    have t : (2 : Int32) ≤ 10 := by decide
    unfold w_X9_count w_X9_count_E
    repeat (first | refine ct (by assumption) ?_ | refine cf (by assumption) ?_ | refine dt (by assumption) ?_ | refine df (by assumption) ?_ | refine ct rfl ?_ | refine cf (by decide) ?_ | refine dt rfl ?_ | refine df (by decide) ?_)
    exact w_carM h.1.1 h.2.2.1 (hK _ A σ h)
  by_cases e3 : x = 3
  · subst e3
    have hb := h.1.2.2.1
    repeat (first | refine ct (by assumption) ?_ | refine cf (by assumption) ?_ | refine dt (by assumption) ?_ | refine df (by assumption) ?_ | refine ct rfl ?_ | refine cf (by decide) ?_ | refine dt rfl ?_ | refine df (by decide) ?_)
    unfold w_X4_isMade w_X4_isMade_E
    rw [h.2.1.2.2.2.2.2.2.2.1]
    refine ⟨n_zb hb, ?_⟩
    have t : (3 : Int32) ≤ 10 := by decide
    by_cases z : nI (aMb A) = 0
    · repeat (first | refine ct (by assumption) ?_ | refine cf (by assumption) ?_ | refine dt (by assumption) ?_ | refine df (by assumption) ?_ | refine ct rfl ?_ | refine cf (by decide) ?_ | refine dt rfl ?_ | refine df (by decide) ?_)
      rw [h.2.2.2.2.2.2.2.2.2.1]
      repeat (first | refine ct (by assumption) ?_ | refine cf (by assumption) ?_ | refine dt (by assumption) ?_ | refine df (by assumption) ?_ | refine ct rfl ?_ | refine cf (by decide) ?_ | refine dt rfl ?_ | refine df (by decide) ?_)
      exact hK _ A σ h
    · repeat (first | refine ct (by assumption) ?_ | refine cf (by assumption) ?_ | refine dt (by assumption) ?_ | refine df (by assumption) ?_ | refine ct rfl ?_ | refine cf (by decide) ?_ | refine dt rfl ?_ | refine df (by decide) ?_)
      rw [h.2.2.2.2.2.2.2.2.2.1]
      repeat (first | refine ct (by assumption) ?_ | refine cf (by assumption) ?_ | refine dt (by assumption) ?_ | refine df (by assumption) ?_ | refine ct rfl ?_ | refine cf (by decide) ?_ | refine dt rfl ?_ | refine df (by decide) ?_)
      exact hK _ A σ h
  by_cases e4 : x = 4
  · subst e4
    repeat (first | refine ct (by assumption) ?_ | refine cf (by assumption) ?_ | refine dt (by assumption) ?_ | refine df (by assumption) ?_ | refine ct rfl ?_ | refine cf (by decide) ?_ | refine dt rfl ?_ | refine df (by decide) ?_)
    show K (σ 0 7) (σ 66 4) σ
    rw [h.2.1.2.2.2.2.2.1, h.2.2.2.2.2.2.2.1]
    exact hK _ A σ h
  by_cases e5 : x ≤ 10
  · repeat (first | refine ct (by assumption) ?_ | refine cf (by assumption) ?_ | refine dt (by assumption) ?_ | refine df (by assumption) ?_ | refine ct rfl ?_ | refine cf (by decide) ?_ | refine dt rfl ?_ | refine df (by decide) ?_)
    exact hK _ A σ h
  by_cases e6 : 16 < x
  · have t : 17 ≤ x := by
      have e6' := e6
      rw [Int32.le_iff_toInt_le]
      rw [Int32.lt_iff_toInt_lt] at e6'
      have a : (16 : Int32).toInt = 16 := rfl
      have b : (17 : Int32).toInt = 17 := rfl
      omega
    repeat (first | refine ct (by assumption) ?_ | refine cf (by assumption) ?_ | refine dt (by assumption) ?_ | refine df (by assumption) ?_ | refine ct rfl ?_ | refine cf (by decide) ?_ | refine dt rfl ?_ | refine df (by decide) ?_)
    exact hK _ A σ h
  · repeat (first | refine ct (by assumption) ?_ | refine cf (by assumption) ?_ | refine dt (by assumption) ?_ | refine df (by assumption) ?_ | refine ct rfl ?_ | refine cf (by decide) ?_ | refine dt rfl ?_ | refine df (by decide) ?_)
    have a : (16 : Int32).toInt = 16 := rfl
    have b : (17 : Int32).toInt = 17 := rfl
    have c : (10 : Int32).toInt = 10 := rfl
    have hx : ∃ j, j < 7 ∧ x - 10 = nI j ∧ x = nI (10 + j) := by
      have e5' := e5
      have e6' := e6
      rw [Int32.le_iff_toInt_le] at e5'
      rw [Int32.lt_iff_toInt_lt] at e6'
      obtain ⟨m, hm, e⟩ := n_of (x := x) (by omega)
      have : x.toInt = m := by rw [e, nI_toInt hm]
      refine ⟨m - 10, by omega, ?_, ?_⟩
      · rw [e]
        exact pk_sub (b := 10) (by omega)
      · rw [e]
        congr 1
        omega
    have t : ¬ 17 ≤ x := by
      have e6' := e6
      rw [Int32.le_iff_toInt_le]
      rw [Int32.lt_iff_toInt_lt] at e6'
      omega
    obtain ⟨j, hj, ej, -⟩ := hx
    rw [ej, nI_c (by omega : j ≤ 1000000000), h.2.1.2.2.2.2.1 j hj]
    refine ⟨vin hj (by decide), ?_⟩
    unfold w_X9_count w_X9_count_E
    repeat (first | refine ct (by assumption) ?_ | refine cf (by assumption) ?_ | refine dt (by assumption) ?_ | refine df (by assumption) ?_ | refine ct rfl ?_ | refine cf (by decide) ?_ | refine dt rfl ?_ | refine df (by decide) ?_)
    rw [ej, nI_c (by omega : j ≤ 1000000000), h.2.2.2.2.2.2.1 j hj]
    exact ⟨vin hj (by decide), hK _ A σ h⟩
