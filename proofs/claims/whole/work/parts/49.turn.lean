/-! ===== turn ===== -/
noncomputable def turnS (X : XX) (Po : Nat → Int32) (S : Nat) : Nat → Option Nat
  | 0 => none
  | n + 1 => if S.testBit n = true ∧ whyS X S n = 0 then (match turnS X Po S n with
    | none => some n
    | some b => if Po b ≤ Po n then some b else some n) else turnS X Po S n
def tI (o : Option Nat) : Int32 := match o with
  | none => -9
  | some b => nI b
theorem turn_ok {X : XX} {Po : Nat → Int32} {S : Nat} : ∀ (n b : Nat), turnS X Po S n = some b → b < n ∧ S.testBit b = true ∧ whyS X S b = 0
  | 0, b, h => by cases h
  | n + 1, b, h => by
    unfold turnS at h
    by_cases hc : S.testBit n = true ∧ whyS X S n = 0
    · rw [if_pos hc] at h
      cases ho : turnS X Po S n with
      | none =>
        rw [ho] at h
        simp only [Option.some.injEq] at h
        subst h
        exact ⟨by omega, hc⟩
      | some c =>
        rw [ho] at h
        have ih := turn_ok n c ho
        by_cases hp : Po c ≤ Po n
        · simp only [if_pos hp, Option.some.injEq] at h
          subst h
          exact ⟨by omega, ih.2⟩
        · simp only [if_neg hp, Option.some.injEq] at h
          subst h
          exact ⟨by omega, hc⟩
    · rw [if_neg hc] at h
      have ih := turn_ok n b h
      exact ⟨by omega, ih.2⟩
theorem turn_ext {X : XX} {Po : Nat → Int32} {S n : Nat} (hS : S < 2 ^ n) : ∀ k, turnS X Po S (n + k) = turnS X Po S n
  | 0 => rfl
  | k + 1 => by
    have ih := turn_ext (X := X) (Po := Po) hS k
    show (if S.testBit (n + k) = true ∧ whyS X S (n + k) = 0 then _ else _) = _
    rw [if_neg (fun z => by have := bits_lt hS z.1; omega)]
    exact ih
theorem neg9 {b : Nat} (hb : b < 9) : ¬ nI b = -9 := by
  intro h
  have : (nI b).toInt = (-9 : Int32).toInt := by rw [h]
  rw [nI_toInt (by omega)] at this
  have e : (-9 : Int32).toInt = -9 := rfl
  omega
theorem whose_ok {X : XX} (hX : okX X) {Po : Nat → Int32} {σ : MS} (hC : CX X σ) (hP : ∀ p, p < 9 → σ (37 + p) 10 = Po p) {S : Nat} (hS : okS X S) {Q : Int32 → MS → Prop} (hQ : ∀ σ', FrC σ σ' → Q (tI (turnS X Po S 9)) σ') : w_X8_whoseTurn (nI S) σ Q := by
  have h9 := okS_9 hX hS.1
  unfold w_X8_whoseTurn w_X8_whoseTurn_E
  have loop : ∀ (k i n : Nat) (s : MS), i + k = 9 → k < n → FrC σ s → w_X8_whoseTurn_H5 Q n (nI S) (tI (turnS X Po S i)) (nI i) s := by
    intro k
    induction k with
    | zero =>
      intro i n s hi hn hF
      obtain ⟨n, rfl⟩ : ∃ z, n = z + 1 := ⟨n - 1, by omega⟩
      have e : i = 9 := by omega
      subst e
      unfold w_X8_whoseTurn_H5
      exact ⟨fun _ => hQ s hF, fun z => absurd (by decide) z⟩
    | succ k ih =>
      intro i n s hi hn hF
      obtain ⟨n, rfl⟩ : ∃ z, n = z + 1 := ⟨n - 1, by omega⟩
      unfold w_X8_whoseTurn_H5
      refine ⟨fun z => absurd z (nI_ge (b := 9) (by omega) (by omega)), fun _ => ?_⟩
      have hC2 := hC.fr hF
      have hP2 : ∀ p, p < 9 → s (37 + p) 10 = Po p := fun p hp => by rw [hF _ _ (by omega)]; exact hP p hp
      have ihs : ∀ s2, FrC s s2 → w_X8_whoseTurn_H5 Q n (nI S) (tI (turnS X Po S (i + 1))) (nI (i + 1)) s2 := fun s2 h2 => ih (i + 1) n s2 (by omega) (by omega) (fun k j hk => (h2 k j hk).trans (hF k j hk))
      have j1 : (∀ b, turnS X Po S i = some b → ¬ Po b ≤ Po i) → w_X8_whoseTurn_J47 (fun x1 x2 x3 σ => w_X8_whoseTurn_H5 Q n x1 x2 x3 σ) Q (nI S) (tI (turnS X Po S i)) (nI i) 1 s := by
        intro hb
        unfold w_X8_whoseTurn_J47
        rw [nI_1]
        refine w_con (by omega) (by omega) (fun h => ?_) (fun h => ?_)
        · repeat (first | refine ct (by assumption) ?_ | refine cf (by assumption) ?_ | refine dt (by assumption) ?_ | refine df (by assumption) ?_ | refine ct rfl ?_ | refine cf (by decide) ?_ | refine dt rfl ?_ | refine df (by decide) ?_)
          have e : turnS X Po S (i + 1) = turnS X Po S i := if_neg (fun z => by rw [h] at z; cases z.1)
          rw [← e]
          exact ihs s (fun _ _ _ => rfl)
        · repeat (first | refine ct (by assumption) ?_ | refine cf (by assumption) ?_ | refine dt (by assumption) ?_ | refine df (by assumption) ?_ | refine ct rfl ?_ | refine cf (by decide) ?_ | refine dt rfl ?_ | refine df (by decide) ?_)
          refine reason_ok hX hC2 hS h (fun s2 hF2 _ => ?_)
          refine ⟨fun z => ?_, fun z => ?_⟩
          · have e : turnS X Po S (i + 1) = turnS X Po S i := if_neg (fun y => w1 z y.2)
            rw [← e]
            exact ihs s2 hF2
          · have e : turnS X Po S (i + 1) = some i := by
              unfold turnS
              rw [if_pos ⟨h, w0 z⟩]
              cases ho : turnS X Po S i with
              | none => rfl
              | some b => exact if_neg (hb b ho)
            have := ihs s2 hF2
            rw [e] at this
            exact this
      have j0 : (∃ b, turnS X Po S i = some b ∧ Po b ≤ Po i) → w_X8_whoseTurn_J47 (fun x1 x2 x3 σ => w_X8_whoseTurn_H5 Q n x1 x2 x3 σ) Q (nI S) (tI (turnS X Po S i)) (nI i) 0 s := by
        rintro ⟨b, hb1, hb2⟩
        have e : turnS X Po S (i + 1) = turnS X Po S i := by
          show (if S.testBit i = true ∧ whyS X S i = 0 then _ else _) = _
          by_cases hc : S.testBit i = true ∧ whyS X S i = 0
          · rw [if_pos hc, hb1]
            exact if_pos hb2
          · rw [if_neg hc]
        unfold w_X8_whoseTurn_J47
        rw [nI_1]
        refine w_con (by omega) (by omega) (fun h => ?_) (fun h => ?_)
        · repeat (first | refine ct (by assumption) ?_ | refine cf (by assumption) ?_ | refine dt (by assumption) ?_ | refine df (by assumption) ?_ | refine ct rfl ?_ | refine cf (by decide) ?_ | refine dt rfl ?_ | refine df (by decide) ?_)
          rw [← e]
          exact ihs s (fun _ _ _ => rfl)
        · repeat (first | refine ct (by assumption) ?_ | refine cf (by assumption) ?_ | refine dt (by assumption) ?_ | refine df (by assumption) ?_ | refine ct rfl ?_ | refine cf (by decide) ?_ | refine dt rfl ?_ | refine df (by decide) ?_)
          rw [← e]
          exact ihs s (fun _ _ _ => rfl)
      cases ho : turnS X Po S i with
      | none =>
        rw [ho] at j1
        exact ⟨fun _ => j1 (fun b hb => by cases hb), fun z => absurd rfl z⟩
      | some b =>
        have hb := turn_ok i b ho
        rw [ho] at j1 j0
        refine ⟨fun z => absurd z (neg9 (by omega)), fun _ => ?_⟩
        unfold w_X2_at w_X2_at_E
        rw [nI_c (by omega : i ≤ 1000000000)]
        refine ⟨vin (by omega) (by decide), by omega, ?_⟩
        show vp_in (nI b) 9 ∧ _
        rw [show (tI (some b)).toNatClampNeg = b from nI_c (by omega)]
        dsimp only
        rw [hP2 b (by omega), hP2 i (by omega)]
        refine ⟨vin (by omega) (by decide), by omega, fun z => j0 ⟨b, rfl, z⟩, fun z => ?_⟩
        refine j1 (fun c hc => ?_)
        simp only [Option.some.injEq] at hc
        subst hc
        exact z
  exact ⟨10, loop 9 0 10 σ (by omega) (by omega) (fun _ _ _ => rfl)⟩
theorem turnOf_ok {X : XX} (hX : okX X) {aw : Nat → Nat} {Po : Nat → Int32} {σ : MS} (hC : MX X σ) (hA : MA aw σ) (hK : MK X aw σ) (hP : ∀ p, p < 9 → σ 78 p = Po p) {S : Nat} (hS : okS X S) (hd : dif S (pres aw (xn X)) = 0) {Q : Int32 → MS → Prop} (hQ : ∀ σ', FrW σ σ' → σ' 66 27 = 1 → KT X (pres aw (xn X)) σ' → Q (tI (turnS X Po S (xn X))) σ') : w_X9_turnOf (nI S) σ Q := by
  have h9 := okS_9 hX hS.1
  have hn9 := hX.2.1
  have hS0 : 0 < S := by
    rcases Nat.eq_zero_or_pos S with z | z
    · subst z
      have h2 := hS.2.1
      have : popc 0 = 0 := by decide +kernel
      omega
    · exact z
  unfold w_X9_turnOf w_X9_turnOf_E
  refine know_ok hX hC hA hK (fun s hF h27 hKT => ?_)
  have hC2 := hC.frw hF
  have hP2 : ∀ p, p < 9 → s 78 p = Po p := fun p hp => by rw [hF _ _ (by omega)]; exact hP p hp
  have hfit := ((hKT S hS0 hS.1).1 ⟨hS, hd⟩).2
  have hfl := fit_lt (X := X) h9
  have loop : ∀ (k i n : Nat), i + k = xn X → k < n → w_X9_turnOf_H9 Q n (nI S) (tI (turnS X Po S i)) (nI i) s := by
    intro k
    induction k with
    | zero =>
      intro i n hi hn
      obtain ⟨n, rfl⟩ : ∃ z, n = z + 1 := ⟨n - 1, by omega⟩
      have e : i = xn X := by omega
      subst e
      unfold w_X9_turnOf_H9
      rw [hC2.1.2.1]
      exact ⟨fun _ => hQ s hF h27 hKT, fun z => absurd (nI_le (Nat.le_refl _) (by omega)) z⟩
    | succ k ih =>
      intro i n hi hn
      obtain ⟨n, rfl⟩ : ∃ z, n = z + 1 := ⟨n - 1, by omega⟩
      unfold w_X9_turnOf_H9
      have ih1 := ih (i + 1) n (by omega) (by omega)
      rw [hC2.1.2.1, nI_c (by omega : S ≤ 1000000000), hfit, nI_1]
      refine ⟨fun z => absurd z (nI_ge (by omega) (by omega)), fun _ => ⟨vin h9 (by decide), fun z => ?_, fun z => ?_⟩⟩
      · rw [nI_bit1 (by omega) (by omega)] at z
        have e : turnS X Po S (i + 1) = turnS X Po S i := if_neg (fun y => z ((fit_b h9).mpr y))
        rw [e] at ih1
        exact ih1
      · have z := (fit_b h9).mp ((nI_bit1 (by omega) (by omega)).mp z)
        cases ho : turnS X Po S i with
        | none =>
          have e : turnS X Po S (i + 1) = some i := by
            unfold turnS
            rw [if_pos z, ho]
          rw [e] at ih1
          exact ⟨fun _ => ih1, fun y => absurd (by decide) y⟩
        | some b =>
          have hb := turn_ok i b ho
          have e : turnS X Po S (i + 1) = if Po b ≤ Po i then some b else some i := by
            show (if S.testBit i = true ∧ whyS X S i = 0 then _ else _) = _
            rw [if_pos z, ho]
          refine ⟨fun y => absurd y (nI_pos (by omega)), fun _ => ?_⟩
          rw [show (tI (some b)).toNatClampNeg = b from nI_c (by omega), nI_c (by omega : i ≤ 1000000000), hP2 b (by omega), hP2 i (by omega)]
          refine ⟨vin (by omega) (by decide), vin (n := b) (by omega) (by decide), fun y => ?_, fun y => ?_⟩
          · rw [if_pos y] at e
            rw [e] at ih1
            exact ih1
          · rw [if_neg y] at e
            rw [e] at ih1
            exact ih1
  exact ⟨xn X + 1, loop (xn X) 0 (xn X + 1) (by omega) (by omega)⟩
theorem L_turn {A : AA} {σ : MS} (h : Rel A σ) (x : Int32) {K : Int32 → Int32 → MS → Prop} (hK : ∀ r A' σ', Rel A' σ' → K r r σ') : w_X8_turn x σ (fun r1 σ1 => w_X9_turn x σ1 (fun r2 σ2 => K r1 r2 σ2)) := by
  unfold w_X8_turn w_X8_turn_E w_X9_turn w_X9_turn_E
  refine w_wsC h.1.1 h.2.1.1 h.2.1.2.1 x (fun g => ⟨fun z => absurd z (by decide), fun _ => ?_⟩) (fun S hS e1 g => ⟨fun z => absurd z (by decide), fun _ => ?_⟩) (fun S hS e1 g => ⟨fun _ => ?_, fun z => absurd rfl z⟩)
  · rw [em1]
    refine refC (by decide) h.2.1 (fun σ1 g1 g2 => ?_)
    rw [← em1]
    exact wsM1 h g hK g2 g1 (fun q => ⟨fun z => absurd z (by decide), fun _ => q⟩)
  · rw [em3]
    refine refC (by decide) h.2.1 (fun σ1 g1 g2 => ?_)
    rw [← em3]
    exact wsM3 h hS e1 g hK g2 g1 (fun q => ⟨fun z => absurd z (by decide), fun _ => q⟩)
  · subst e1
    refine whose_ok h.1.1 h.2.1.1 h.2.1.2.2.2.1 hS (fun σ1 hF => ?_)
    refine wsM0 h hS rfl g hF.m ⟨fun _ => ?_, fun z => absurd rfl z⟩
    have hZ := h.2.2.m hF.m
    refine turnOf_ok h.1.1 hZ.1 hZ.2.1 hZ.2.2.1 hZ.2.2.2.1 hS g (fun σ2 hF2 h27 hKT => ?_)
    have e : turnS (aX A) (aPo A) S 9 = turnS (aX A) (aPo A) S (xn (aX A)) := by
      have := turn_ext (X := aX A) (Po := aPo A) hS.1 (9 - xn (aX A))
      rw [← this]
      congr 1
      have := h.1.1.2.1
      omega
    rw [e]
    exact hK _ A σ2 ⟨h.1, (h.2.1.frC hF).m hF2.c, hZ.frW hF2 h27 hKT⟩
