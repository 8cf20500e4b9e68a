/-! ===== mornings ===== -/
def ptS (A : AA) (p : Nat) : Int32 := if popc (aPl A p) ≤ 1 then 0 else if aDv A p = p then nI (popc (aPl A p) - 1) else -1
def poN (A : AA) (x : Int32) (p : Nat) : Int32 := aPo A p + x * ptS A p
def aMo' (A : AA) (x : Int32) : AA := (aX A, aW A, poN A x, aRf A, aMo A + x, A.2.2.2.2.2)
theorem popc0 : popc 0 = 0 := by decide +kernel
theorem dv9 {A : AA} (ok : okA A) {p : Nat} (hp : p < 9) (h : aPl A p ≠ 0) : aDv A p < 9 := by
  have d := ok.2.2.2.1.2.1 p hp h
  exact bits_lt (n := 9) (okS_9 ok.1 d.1) d.2.2.2.1
theorem pl0 {A : AA} {p : Nat} (h : ¬ popc (aPl A p) ≤ 1) : aPl A p ≠ 0 := fun e => h (by rw [e, popc0]; omega)
theorem pem {A : AA} (ok : okA A) {σ : MS} (c : planC A σ) {p : Nat} (hp : p < 9) {Q : Int32 → MS → Prop} (hQ : Q (ptS A p) σ) : w_X4_pointsEachMorning (nI p) σ Q := by
  have cc := c.2.2 p hp
  have hl := pl_lt ok hp
  have hpc := popc_le (aPl A p)
  unfold w_X4_pointsEachMorning w_X4_pointsEachMorning_E
  rw [nI_c (by omega : p ≤ 1000000000), cc.1]
  refine ⟨vin hp (by decide), w_bc hl (fun x ex => ?_)⟩
  by_cases h : popc (aPl A p) ≤ 1
  · have e : ptS A p = 0 := if_pos h
    rw [e] at hQ
    refine cf (fun z => ?_) hQ
    rw [ex] at z
    rcases (by omega : popc (aPl A p) = 0 ∨ popc (aPl A p) = 1) with q | q
    · rw [q] at z
      exact absurd z (by decide)
    · rw [q] at z
      exact absurd z (by decide)
  · have hne := pl0 h
    have hd := dv9 ok hp hne
    have e1 : x = nI (popc (aPl A p) - 1) := by
      rw [ex]
      exact pk_sub (b := 1) (by omega)
    rw [e1, (cc.2 hne).1]
    refine ct (nI_le (a := 1) (by omega) (by omega)) ⟨fun z => ?_, fun z => ?_⟩
    · have e : ptS A p = -1 := by
        unfold ptS
        rw [if_neg h, if_neg (fun y => z (by rw [y]))]
      rw [e] at hQ
      exact hQ
    · have z := (nI_eq (by omega) (by omega)).mp z
      have e : ptS A p = nI (popc (aPl A p) - 1) := by
        unfold ptS
        rw [if_neg h, if_pos z]
      rw [e] at hQ
      exact hQ
theorem morn_C {A : AA} {σ σ' : MS} (c : CS A σ) {x : Int32} (hk : ∀ k j, k < 66 → ¬ (37 ≤ k ∧ k < 46 ∧ j = 10) → ¬ (k = 0 ∧ j = 7) → σ' k j = σ k j) (hp : ∀ p, p < 9 → σ' (37 + p) 10 = poN A x p) (h7 : σ' 0 7 = aMo A + x) : CS (aMo' A x) σ' := by
  obtain ⟨c1, c2, c3, c4, c5, c6, c7, c8, c9, c10⟩ := c
  refine ⟨?_, c2.fr (fun p _ => hk _ _ (by omega) (by omega) (by omega)), fun S hS => by rw [hk 28 S (by omega) (by omega) (by omega), hk 29 S (by omega) (by omega) (by omega)]; exact c3 S hS, hp, fun k hk2 => by rw [hk _ _ (by omega) (by omega) (by omega)]; exact c5 k hk2, h7, fun a b ha hb => by rw [hk _ _ (by omega) (by omega) (by omega)]; exact c7 a b ha hb, by rw [hk _ _ (by omega) (by omega) (by omega)]; exact c8, by rw [hk _ _ (by omega) (by omega) (by omega)]; exact c9, fun p hp => ?_⟩
  · obtain ⟨d1, d2, d3⟩ := c1
    refine ⟨by rw [hk 4 1 (by omega) (by omega) (by omega)]; exact d1, fun q hq => ?_, fun a b ha hb => by rw [hk (56 + a) b (by omega) (by omega) (by omega)]; exact d3 a b ha hb⟩
    rw [hk (37 + q) 0 (by omega) (by omega) (by omega), hk (37 + q) 1 (by omega) (by omega) (by omega), hk (37 + q) 2 (by omega) (by omega) (by omega), hk (37 + q) 3 (by omega) (by omega) (by omega), hk (37 + q) 4 (by omega) (by omega) (by omega), hk (37 + q) 5 (by omega) (by omega) (by omega), hk (37 + q) 6 (by omega) (by omega) (by omega), hk (37 + q) 8 (by omega) (by omega) (by omega), hk (37 + q) 9 (by omega) (by omega) (by omega)]
    exact d2 q hq
  · rw [hk 32 p (by omega) (by omega) (by omega), hk 33 p (by omega) (by omega) (by omega), hk 34 p (by omega) (by omega) (by omega), hk 35 p (by omega) (by omega) (by omega), hk 36 p (by omega) (by omega) (by omega)]
    exact c10 p hp
theorem morn_M {A : AA} {σ σ' : MS} (c : ZS A σ) {x : Int32} (hk : ∀ k j, 66 ≤ k → k ≠ 78 → ¬ (k = 66 ∧ j = 4) → σ' k j = σ k j) (hp : ∀ p, p < 9 → σ' 78 p = poN A x p) (h7 : σ' 66 4 = aMo A + x) : ZS (aMo' A x) σ' := by
  obtain ⟨c1, c2, c3, c4, c5, c6, c7, c8, c9, c10⟩ := c
  refine ⟨?_, c2.fr (fun p _ => hk _ _ (by omega) (by omega) (by omega)), ?_, hp, fun k hk2 => by rw [hk _ _ (by omega) (by omega) (by omega)]; exact c5 k hk2, h7, fun a b ha hb => by rw [hk _ _ (by omega) (by omega) (by omega)]; exact c7 a b ha hb, by rw [hk _ _ (by omega) (by omega) (by omega)]; exact c8, by rw [hk _ _ (by omega) (by omega) (by omega)]; exact c9, fun p hp => ?_⟩
  · obtain ⟨⟨d0, d1, d2, d3⟩, d4⟩ := c1
    refine ⟨⟨d0, by rw [hk 66 3 (by omega) (by omega) (by omega)]; exact d1, fun q hq => ?_, fun a b ha hb => by rw [hk _ _ (by omega) (by omega) (by omega)]; exact d3 a b ha hb⟩, fun q hq => ?_⟩
    · rw [hk 71 q (by omega) (by omega) (by omega), hk 72 q (by omega) (by omega) (by omega), hk 73 q (by omega) (by omega) (by omega), hk 74 q (by omega) (by omega) (by omega), hk 75 q (by omega) (by omega) (by omega)]
      exact d2 q hq
    · rw [hk 70 q (by omega) (by omega) (by omega), hk 76 q (by omega) (by omega) (by omega), hk 80 q (by omega) (by omega) (by omega), hk 77 q (by omega) (by omega) (by omega)]
      exact d4 q hq
  · rcases c3 with g | ⟨g1, g2⟩
    · exact Or.inl (by rw [hk 66 27 (by omega) (by omega) (by omega)]; exact g)
    · refine Or.inr ⟨by rw [hk 66 27 (by omega) (by omega) (by omega)]; exact g1, fun S a1 a2 => ?_⟩
      have := g2 S a1 a2
      unfold mrow at this ⊢
      rw [hk 89 S (by omega) (by omega) (by omega), hk 90 S (by omega) (by omega) (by omega), hk 91 S (by omega) (by omega) (by omega)]
      exact this
  · rw [hk 97 p (by omega) (by omega) (by omega), hk 98 p (by omega) (by omega) (by omega), hk 99 p (by omega) (by omega) (by omega), hk 100 p (by omega) (by omega) (by omega), hk 101 p (by omega) (by omega) (by omega)]
    exact c10 p hp
theorem mornC {A : AA} (ok : okA A) {σ : MS} (c : CS A σ) {x : Int32} {Q : Int32 → MS → Prop} (hQ : ∀ σ', CS (aMo' A x) σ' → SmM σ σ' → Q x σ') : ∃ n45, w_X8_mornings_H45 Q n45 x 0 σ := by
  have loop : ∀ (k i n : Nat) (s : MS), i + k = 9 → k < n → (∀ k j, ¬ (37 ≤ k ∧ k < 46 ∧ j = 10) → s k j = σ k j) → (∀ p, p < 9 → s (37 + p) 10 = if p < i then poN A x p else aPo A p) → w_X8_mornings_H45 Q n x (nI i) s := by
    intro k
    induction k with
    | zero =>
      intro i n s hi hn hF hP
      obtain ⟨n, rfl⟩ : ∃ z, n = z + 1 := ⟨n - 1, by omega⟩
      have e : i = 9 := by omega
      subst e
      unfold w_X8_mornings_H45
      refine ⟨fun _ => ?_, fun z => absurd (by decide) z⟩
      unfold w_X8_mornings_J83
      intro s2 e2
      rw [hF 0 7 (by omega), c.2.2.2.2.2.1] at e2
      have k2 : ∀ k j, ¬ (k = 0 ∧ j = 7) → s2 k j = s k j := fun k j hk => by
        rw [e2]
        unfold mst
        rw [if_neg hk]
      refine hQ s2 (morn_C c (fun k j _ h1 h2 => (k2 k j h2).trans (hF k j h1)) (fun p hp => ?_) ?_) (fun k j hk => (k2 k j (by omega)).trans (hF k j (by omega)))
      · rw [k2 _ _ (by omega), hP p hp, if_pos hp]
      · rw [e2]
        simp [mst]
    | succ k ih =>
      intro i n s hi hn hF hP
      obtain ⟨n, rfl⟩ : ∃ z, n = z + 1 := ⟨n - 1, by omega⟩
      unfold w_X8_mornings_H45
      refine ⟨fun z => absurd z (nI_ge (b := 9) (by omega) (by omega)), fun _ => ?_⟩
      unfold w_X2_at w_X2_at_E
      rw [nI_c (by omega : i ≤ 1000000000)]
      refine ⟨vin (by omega) (by decide), by omega, ?_⟩
      have pc : planC A s := ⟨by rw [hF _ _ (by omega)]; exact c.2.2.2.2.2.2.2.1, by rw [hF _ _ (by omega)]; exact c.2.2.2.2.2.2.2.2.1, fun p hp => by
        rw [hF 32 p (by omega), hF 33 p (by omega), hF 34 p (by omega), hF 35 p (by omega), hF 36 p (by omega)]
        exact c.2.2.2.2.2.2.2.2.2 p hp⟩
      refine pem ok pc (by omega) (fun s2 e2 => ?_)
      rw [hP i (by omega), if_neg (by omega)] at e2
      rw [nI_1]
      refine ih (i + 1) n s2 (by omega) (by omega) (fun k j hk => ?_) (fun p hp => ?_)
      · rw [e2]
        unfold mst
        rw [if_neg (by omega)]
        exact hF k j hk
      · rw [e2]
        unfold mst
        by_cases z : p = i
        · subst z
          rw [if_pos (by omega), if_pos (by omega)]
          rfl
        · rw [if_neg (by omega), hP p hp]
          by_cases y : p < i
          · rw [if_pos y, if_pos (by omega)]
          · rw [if_neg y, if_neg (by omega)]
  exact ⟨10, loop 9 0 10 σ (by omega) (by omega) (fun _ _ _ => rfl) (fun p hp => by rw [if_neg (by omega)]; exact c.2.2.2.1 p hp)⟩
theorem mornM {A : AA} (ok : okA A) {σ : MS} (c : ZS A σ) {x : Int32} {Q : Int32 → MS → Prop} (hQ : ∀ σ', ZS (aMo' A x) σ' → SmC σ σ' → Q x σ') : ∃ n42, w_X9_mornings_H42 Q n42 x 0 σ := by
  have hn9 := ok.1.2.1
  have loop : ∀ (k i n : Nat) (s : MS), i + k = xn (aX A) → k < n → (∀ k j, k ≠ 78 → s k j = σ k j) → (∀ p, p < 9 → s 78 p = if p < i then poN A x p else aPo A p) → w_X9_mornings_H42 Q n x (nI i) s := by
    intro k
    induction k with
    | zero =>
      intro i n s hi hn hF hP
      obtain ⟨n, rfl⟩ : ∃ z, n = z + 1 := ⟨n - 1, by omega⟩
      have e : i = xn (aX A) := by omega
      subst e
      unfold w_X9_mornings_H42
      rw [hF 66 3 (by omega), c.1.1.2.1]
      refine ⟨fun _ => ?_, fun z => absurd (nI_le (Nat.le_refl _) (by omega)) z⟩
      unfold w_X9_mornings_J99
      intro s2 e2
      rw [hF 66 4 (by omega), c.2.2.2.2.2.1] at e2
      have k2 : ∀ k j, ¬ (k = 66 ∧ j = 4) → s2 k j = s k j := fun k j hk => by
        rw [e2]
        unfold mst
        rw [if_neg hk]
      refine hQ s2 (morn_M c (fun k j _ h1 h2 => (k2 k j h2).trans (hF k j h1)) (fun p hp => ?_) ?_) (fun k j hk => (k2 k j (by omega)).trans (hF k j (by omega)))
      · rw [k2 _ _ (by omega), hP p hp]
        by_cases y : p < xn (aX A)
        · rw [if_pos y]
        · rw [if_neg y]
          unfold poN ptS
          rw [pl_n ok hp (by omega), popc0, if_pos (by omega), Int32.mul_zero, Int32.add_zero]
      · rw [e2]
        simp [mst]
    | succ k ih =>
      intro i n s hi hn hF hP
      obtain ⟨n, rfl⟩ : ∃ z, n = z + 1 := ⟨n - 1, by omega⟩
      unfold w_X9_mornings_H42
      have cc := c.2.2.2.2.2.2.2.2.2 i (by omega)
      have hl := pl_lt ok (p := i) (by omega)
      have hpc := popc_le (aPl A i)
      rw [hF 66 3 (by omega), c.1.1.2.1, nI_c (by omega : i ≤ 1000000000), hF 97 i (by omega), cc.1, nI_1]
      refine ⟨fun z => absurd z (nI_ge (by omega) (by omega)), fun _ => ⟨vin (by omega) (by decide), w_many hl (fun y ey => ?_)⟩⟩
      have step : ∀ (v : Int32) , poN A x i = aPo A i + v → w_X9_mornings_J91 (fun x1 x2 σ => w_X9_mornings_H42 Q n x1 x2 σ) Q x (nI i) (nI i) (s 78 i) v s := by
        intro v hv
        unfold w_X9_mornings_J91
        rw [hP i (by omega), if_neg (by omega), nI_1, nI_c (by omega : i ≤ 1000000000)]
        refine ⟨vin (by omega) (by decide), fun s2 e2 => ih (i + 1) n s2 (by omega) (by omega) (fun k j hk => ?_) (fun p hp => ?_)⟩
        · rw [e2]
          unfold mst
          rw [if_neg (by omega)]
          exact hF k j hk
        · rw [e2]
          unfold mst
          by_cases z : p = i
          · subst z
            rw [if_pos (by omega), if_pos (by omega), hv]
          · rw [if_neg (by omega), hP p hp]
            by_cases y : p < i
            · rw [if_pos y, if_pos (by omega)]
            · rw [if_neg y, if_neg (by omega)]
      by_cases h : popc (aPl A i) ≤ 1
      · refine ct ?_ (ih (i + 1) n s (by omega) (by omega) hF (fun p hp => ?_))
        · rw [ey]
          rcases (by omega : popc (aPl A i) = 0 ∨ popc (aPl A i) = 1) with q | q
          · rw [q]
            decide
          · rw [q]
            decide
        · rw [hP p hp]
          by_cases z : p = i
          · subst z
            rw [if_neg (by omega), if_pos (by omega)]
            unfold poN ptS
            rw [if_pos h, Int32.mul_zero, Int32.add_zero]
          · by_cases y : p < i
            · rw [if_pos y, if_pos (by omega)]
            · rw [if_neg y, if_neg (by omega)]
      · have hne := pl0 h
        have hd := dv9 ok (p := i) (by omega) hne
        have e1 : y = nI (popc (aPl A i) - 1) := by
          rw [ey]
          exact pk_sub (b := 1) (by omega)
        have e98 : s 98 i = nI (aDv A i) := by rw [hF 98 i (by omega)]; exact (cc.2 hne).1
        refine cf (fun z => ?_) ⟨fun z => step _ ?_, fun z => step _ ?_⟩
        · rw [e1] at z
          have := (nI_leI (b := 0) (by omega) (by omega)).mp z
          omega
        · rw [e98] at z
          unfold poN ptS
          rw [if_neg h, if_neg (fun y => z (by rw [y])), Int32.mul_neg, Int32.mul_one]
        · rw [e98] at z
          have z := (nI_eq (by omega) (by omega)).mp z
          unfold poN ptS
          rw [if_neg h, if_pos z, e1]
  exact ⟨xn (aX A) + 1, loop (xn (aX A)) 0 (xn (aX A) + 1) σ (by omega) (by omega) (fun _ _ _ => rfl) (fun p hp => by rw [if_neg (by omega)]; exact c.2.2.2.1 p hp)⟩
theorem L_mornings {A : AA} {σ : MS} (h : Rel A σ) (x : Int32) {K : Int32 → Int32 → MS → Prop} (hK : ∀ r A' σ', Rel A' σ' → K r r σ') : w_X8_mornings x σ (fun r1 σ1 => w_X9_mornings x σ1 (fun r2 σ2 => K r1 r2 σ2)) := by
  have mm : ∀ s, SmM σ s → s 66 36 = nI (aMb A) := fun s hm => (h.2.2.m hm).2.2.2.2.2.2.2.1
  unfold w_X8_mornings w_X8_mornings_E
  refine made0 h.1 h.2.1 ?_
  by_cases m0 : nI (aMb A) = 0
  · repeat (first | refine ct (by assumption) ?_ | refine cf (by assumption) ?_ | refine dt (by assumption) ?_ | refine df (by assumption) ?_ | refine ct rfl ?_ | refine cf (by decide) ?_ | refine dt rfl ?_ | refine df (by decide) ?_)
    refine rfG em3 (by decide) h hK (fun σ1 hm q => ?_)
    have m1 : σ1 66 36 = 0 := by rw [mm σ1 hm]; exact m0
    unfold w_X9_mornings w_X9_mornings_E
    repeat (first | refine ct (by assumption) ?_ | refine cf (by assumption) ?_ | refine dt (by assumption) ?_ | refine df (by assumption) ?_ | refine ct rfl ?_ | refine cf (by decide) ?_ | refine dt rfl ?_ | refine df (by decide) ?_)
    exact q
  have m1 : ∀ s, SmM σ s → ¬ s 66 36 = 0 := fun s hm => by rw [mm s hm]; exact m0
  repeat (first | refine ct (by assumption) ?_ | refine cf (by assumption) ?_ | refine dt (by assumption) ?_ | refine df (by assumption) ?_ | refine ct rfl ?_ | refine cf (by decide) ?_ | refine dt rfl ?_ | refine df (by decide) ?_)
  by_cases b0 : 1 ≤ x
  · by_cases b1 : x ≤ 1000
    · repeat (first | refine ct (by assumption) ?_ | refine cf (by assumption) ?_ | refine dt (by assumption) ?_ | refine df (by assumption) ?_ | refine ct rfl ?_ | refine cf (by decide) ?_ | refine dt rfl ?_ | refine df (by decide) ?_)
      refine mornC h.1 h.2.1 (fun σ1 hC hm => ?_)
      have m2 := m1 σ1 hm
      have hZ := h.2.2.m hm
      unfold w_X9_mornings w_X9_mornings_E
      repeat (first | refine ct (by assumption) ?_ | refine cf (by assumption) ?_ | refine dt (by assumption) ?_ | refine df (by assumption) ?_ | refine ct rfl ?_ | refine cf (by decide) ?_ | refine dt rfl ?_ | refine df (by decide) ?_)
      exact mornM h.1 hZ (fun σ2 g1 g2 => hK _ (aMo' A x) σ2 ⟨h.1, hC.m g2, g1⟩)
    · repeat (first | refine ct (by assumption) ?_ | refine cf (by assumption) ?_ | refine dt (by assumption) ?_ | refine df (by assumption) ?_ | refine ct rfl ?_ | refine cf (by decide) ?_ | refine dt rfl ?_ | refine df (by decide) ?_)
      refine rfG em6 (by decide) h hK (fun σ1 hm q => ?_)
      have m2 := m1 σ1 hm
      unfold w_X9_mornings w_X9_mornings_E
      repeat (first | refine ct (by assumption) ?_ | refine cf (by assumption) ?_ | refine dt (by assumption) ?_ | refine df (by assumption) ?_ | refine ct rfl ?_ | refine cf (by decide) ?_ | refine dt rfl ?_ | refine df (by decide) ?_)
      exact q
  · repeat (first | refine ct (by assumption) ?_ | refine cf (by assumption) ?_ | refine dt (by assumption) ?_ | refine df (by assumption) ?_ | refine ct rfl ?_ | refine cf (by decide) ?_ | refine dt rfl ?_ | refine df (by decide) ?_)
    refine rfG em4 (by decide) h hK (fun σ1 hm q => ?_)
    have m2 := m1 σ1 hm
    unfold w_X9_mornings w_X9_mornings_E
    repeat (first | refine ct (by assumption) ?_ | refine cf (by assumption) ?_ | refine dt (by assumption) ?_ | refine df (by assumption) ?_ | refine ct rfl ?_ | refine cf (by decide) ?_ | refine dt rfl ?_ | refine df (by decide) ?_)
    exact q
