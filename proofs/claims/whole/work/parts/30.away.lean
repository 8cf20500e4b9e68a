/-! ===== who is not AWAY; sets that may be asked for ===== -/
def pres (aw : Nat → Nat) : Nat → Nat
  | 0 => 0
  | n + 1 => if aw n = 0 then pres aw n ||| 2 ^ n else pres aw n
theorem pres_b {aw : Nat → Nat} : ∀ (n p : Nat), (pres aw n).testBit p = (decide (p < n) && decide (aw p = 0))
  | 0, p => by simp [pres]
  | n + 1, p => by
    have ih := pres_b (aw := aw) n p
    unfold pres
    by_cases ha : aw n = 0
    · rw [if_pos ha, Nat.testBit_or, ih, Nat.testBit_two_pow]
      by_cases e : n = p
      · subst e
        simp [ha]
      · have h1 : decide (p < n + 1) = decide (p < n) := decide_eq_decide.mpr (by omega)
        rw [h1, decide_eq_false e, Bool.or_false]
    · rw [if_neg ha, ih]
      by_cases e : n = p
      · subst e
        simp [ha]
      · have h1 : decide (p < n + 1) = decide (p < n) := decide_eq_decide.mpr (by omega)
        rw [h1]
theorem pres_lt {aw : Nat → Nat} {n : Nat} : pres aw n < 2 ^ n := lt_bits (fun i hi => by
  rw [pres_b] at hi
  simp only [Bool.and_eq_true, decide_eq_true_eq] at hi
  exact hi.1)
/-- the flags of those who are AWAY, as class and reference hold them -/
def CA (aw : Nat → Nat) (σ : MS) : Prop := ∀ p, p < 9 → aw p ≤ 1 ∧ σ (37 + p) 7 = nI (aw p)
def MA (aw : Nat → Nat) (σ : MS) : Prop := ∀ p, p < 9 → aw p ≤ 1 ∧ σ 79 p = nI (aw p)
theorem CA.fr {aw : Nat → Nat} {σ σ' : MS} (h : ∀ p, p < 9 → σ' (37 + p) 7 = σ (37 + p) 7) (c : CA aw σ) : CA aw σ' := fun p hp => ⟨(c p hp).1, by rw [h p hp]; exact (c p hp).2⟩
theorem MA.fr {aw : Nat → Nat} {σ σ' : MS} (h : ∀ p, p < 9 → σ' 79 p = σ 79 p) (c : MA aw σ) : MA aw σ' := fun p hp => ⟨(c p hp).1, by rw [h p hp]; exact (c p hp).2⟩
theorem w_here {X : XX} (hX : okX X) {aw : Nat → Nat} {σ : MS} (hC : CX X σ) (hA : CA aw σ) {Q : Int32 → MS → Prop} (hQ : Q (nI (pres aw (xn X))) σ) : w_X2_notAway σ Q := by
  have hn := hX.2.1
  unfold w_X2_notAway w_X2_notAway_E
  have loop : ∀ (k n i : Nat), i + k = xn X → k < n → w_X2_notAway_H4 Q n (nI (pres aw i)) (nI i) σ := by
    intro k
    induction k with
    | zero =>
      intro n i hi hn2
      obtain ⟨n, rfl⟩ : ∃ z, n = z + 1 := ⟨n - 1, by omega⟩
      unfold w_X2_notAway_H4
      rw [hC.1]
      have e : i = xn X := by omega
      rw [e]
      exact ⟨fun _ => hQ, fun h => absurd (nI_le (Nat.le_refl _) (by omega)) h⟩
    | succ k ih =>
      intro n i hi hn2
      obtain ⟨n, rfl⟩ : ∃ z, n = z + 1 := ⟨n - 1, by omega⟩
      unfold w_X2_notAway_H4
      have ha := hA i (by omega)
      rw [hC.1, nI_c (by omega : i ≤ 1000000000), ha.2]
      refine ⟨fun h => absurd h (nI_ge (by omega) (by omega)), fun _ => ⟨vin (by omega) (by omega), by omega, fun h => ?_, fun h x ex => ?_⟩⟩
      · have e : pres aw (i + 1) = pres aw i := if_neg (fun z => h (by rw [z]; rfl))
        have := ih n (i + 1) (by omega) (by omega)
        rw [e] at this
        rw [nI_1]
        exact this
      · have e : pres aw (i + 1) = pres aw i ||| 2 ^ i := if_pos ((nI_eq (b := 0) (by omega) (by omega)).mp h)
        rw [nI_sh (by omega), nI_or, ← e] at ex
        rw [ex, nI_1]
        exact ih n (i + 1) (by omega) (by omega)
  refine ⟨xn X + 1, ?_⟩
  have := loop (xn X) (xn X + 1) 0 (by omega) (by omega)
  exact this
theorem w_someA {X : XX} (hX : okX X) {aw : Nat → Nat} {σ : MS} (hC : CX X σ) (hA : CA aw σ) {S : Nat} (hS : S < 512) {Q : Int32 → MS → Prop} (h0 : dif S (pres aw (xn X)) = 0 → Q 0 σ) (h1 : dif S (pres aw (xn X)) ≠ 0 → Q 1 σ) : w_X2_someAway (nI S) σ Q := by
  unfold w_X2_someAway w_X2_someAway_E
  refine w_here hX hC hA ?_
  rw [nI_dif]
  have := dif_lt (a := S) (b := pres aw (xn X)) (n := 9) hS
  exact ⟨fun h => h0 ((nI_eq (b := 0) (by omega) (by omega)).mp h), fun h => h1 (fun e => h (by rw [e]; rfl))⟩
theorem w_pres {X : XX} (hX : okX X) {aw : Nat → Nat} {σ : MS} (hC : MX X σ) (hA : MA aw σ) {Q : Int32 → MS → Prop} (hQ : Q (nI (pres aw (xn X))) σ) : w_X9_present σ Q := by
  have hn := hX.2.1
  unfold w_X9_present w_X9_present_E
  have loop : ∀ (k n i : Nat), i + k = xn X → k < n → w_X9_present_H4 Q n (nI (pres aw i)) (nI i) σ := by
    intro k
    induction k with
    | zero =>
      intro n i hi hn2
      obtain ⟨n, rfl⟩ : ∃ z, n = z + 1 := ⟨n - 1, by omega⟩
      unfold w_X9_present_H4
      rw [hC.1.2.1]
      have e : i = xn X := by omega
      rw [e]
      exact ⟨fun _ => hQ, fun h => absurd (nI_le (Nat.le_refl _) (by omega)) h⟩
    | succ k ih =>
      intro n i hi hn2
      obtain ⟨n, rfl⟩ : ∃ z, n = z + 1 := ⟨n - 1, by omega⟩
      unfold w_X9_present_H4
      have ha := hA i (by omega)
      rw [hC.1.2.1, nI_c (by omega : i ≤ 1000000000), ha.2]
      refine ⟨fun h => absurd h (nI_ge (by omega) (by omega)), fun _ => ⟨vin (by omega) (by omega), fun h => ?_, fun h => ?_⟩⟩
      · unfold w_X9_present_J29
        intro x ex
        have e : pres aw (i + 1) = pres aw i ||| 2 ^ i := if_pos ((nI_eq (b := 0) (by omega) (by omega)).mp h)
        rw [nI_sh (by omega), nI_or, ← e] at ex
        rw [ex, nI_1]
        exact ih n (i + 1) (by omega) (by omega)
      · unfold w_X9_present_J29
        intro x ex
        have e : pres aw (i + 1) = pres aw i := if_neg (fun z => h (by rw [z]; rfl))
        have := ih n (i + 1) (by omega) (by omega)
        rw [e] at this
        rw [Int32.or_zero] at ex
        rw [ex, nI_1]
        exact this
  refine ⟨xn X + 1, ?_⟩
  have := loop (xn X) (xn X + 1) 0 (by omega) (by omega)
  exact this
theorem dif_0 {a b : Nat} : dif a b = 0 ↔ ∀ i, a.testBit i = true → b.testBit i = true := by
  constructor
  · intro h i hi
    have := dif_b a b i
    rw [h, Nat.zero_testBit, hi] at this
    cases hb : b.testBit i
    · rw [hb] at this; cases this
    · rfl
  · intro h
    apply Nat.eq_of_testBit_eq
    intro i
    rw [dif_b, Nat.zero_testBit]
    cases ha : a.testBit i
    · rfl
    · rw [h i ha]; rfl
theorem w_hasA {X : XX} (hX : okX X) {aw : Nat → Nat} {σ : MS} (hC : MX X σ) (hA : MA aw σ) {S : Nat} (hS : S < 2 ^ (xn X)) {Q : Int32 → MS → Prop} (h0 : dif S (pres aw (xn X)) = 0 → Q 0 σ) (h1 : dif S (pres aw (xn X)) ≠ 0 → Q 1 σ) : w_X9_hasAway (nI S) σ Q := by
  have hn := hX.2.1
  have hS9 := okS_9 hX hS
  unfold w_X9_hasAway w_X9_hasAway_E
  have loop : ∀ (k n i : Nat), i + k = xn X → k + 1 < n → (∀ p, p < i → S.testBit p = true → aw p = 0) → w_X9_hasAway_H4 Q n (nI S) 0 (nI i) σ := by
    intro k
    induction k with
    | zero =>
      intro n i hi hn2 hp
      obtain ⟨n, rfl⟩ : ∃ z, n = z + 1 := ⟨n - 1, by omega⟩
      unfold w_X9_hasAway_H4
      rw [hC.1.2.1]
      refine ⟨fun _ => ⟨Or.inl rfl, h0 (dif_0.mpr (fun p hb => ?_))⟩, fun h => absurd (nI_le (by omega) (by omega)) h⟩
      have hpn := bits_lt hS hb
      rw [pres_b, decide_eq_true hpn, decide_eq_true (hp p (by omega) hb)]
      rfl
    | succ k ih =>
      intro n i hi hn2 hp
      obtain ⟨n, rfl⟩ : ∃ z, n = z + 1 := ⟨n - 1, by omega⟩
      unfold w_X9_hasAway_H4
      have ha := hA i (by omega)
      rw [hC.1.2.1]
      refine ⟨fun h => absurd h (nI_ge (by omega) (by omega)), fun _ => ⟨fun h => absurd rfl h, fun _ => ⟨fun h => ?_, fun h => ?_⟩⟩⟩
      · rw [nI_1]
        refine ih n (i + 1) (by omega) (by omega) (fun p hpi hb => ?_)
        rcases Nat.lt_or_ge p i with q | q
        · exact hp p q hb
        · have e : p = i := by omega
          subst e
          exact absurd ((nI_bit1 (by omega) (by omega)).mpr hb) h
      · have hb := (nI_bit1 (by omega) (by omega)).mp h
        rw [nI_c (by omega : i ≤ 1000000000), ha.2]
        refine ⟨vin (by omega) (by omega), fun h => ?_, fun h => ?_⟩
        · have e := (nI_eq (b := 0) (by omega) (by omega)).mp h
          rw [nI_1]
          refine ih n (i + 1) (by omega) (by omega) (fun p hpi hb => ?_)
          rcases Nat.lt_or_ge p i with q | q
          · exact hp p q hb
          · have e2 : p = i := by omega
            subst e2
            exact e
        · obtain ⟨n, rfl⟩ : ∃ z, n = z + 1 := ⟨n - 1, by omega⟩
          have hne : dif S (pres aw (xn X)) ≠ 0 := fun e => by
            have := dif_0.mp e i hb
            rw [pres_b] at this
            simp only [Bool.and_eq_true, decide_eq_true_eq] at this
            exact h (by rw [this.2]; rfl)
          unfold w_X9_hasAway_H4
          exact ⟨fun _ => ⟨Or.inr rfl, h1 hne⟩, fun _ => ⟨fun _ => ⟨Or.inr rfl, h1 hne⟩, fun z => absurd z (by decide)⟩⟩
  refine ⟨xn X + 2, ?_⟩
  have := loop (xn X) (xn X + 2) 0 (by omega) (by omega) (fun p hp => absurd hp (by omega))
  exact this
theorem sh_n {n : Nat} (hn : n ≤ 9) (x : Int32) (h : ¬ x ≤ 0) : (∃ S, 0 < S ∧ S < 2 ^ n ∧ x = nI S) ∨ ((∀ S, S < 2 ^ n → x ≠ nI S) ∧ ∃ S, 2 ^ n ≤ S ∧ S < 2 ^ 31 ∧ x = nI S) := by
  have h0 : ¬ x < 0 := fun z => h (by
    rw [Int32.le_iff_toInt_le]
    rw [Int32.lt_iff_toInt_lt] at z
    omega)
  obtain ⟨j, hj, rfl⟩ := nI_of h0
  have hp : 2 ^ n ≤ 2 ^ 9 := Nat.pow_le_pow_right (by decide) hn
  rcases Nat.lt_or_ge j (2 ^ n) with q | q
  · refine Or.inl ⟨j, ?_, q, rfl⟩
    rcases Nat.eq_zero_or_pos j with z | z
    · subst z
      exact absurd (by decide) h
    · exact z
  · refine Or.inr ⟨fun S hS e => ?_, j, q, hj, rfl⟩
    have := (nI_eq hj (by omega)).mp e
    omega
theorem w_all {X : XX} (hX : okX X) {σ : MS} (hC : CX X σ) (x : Int32) {Q : Int32 → MS → Prop} (h0 : (∀ S, 0 < S → S < 2 ^ (xn X) → x ≠ nI S) → Q 0 σ) (h1 : ∀ S, 0 < S → S < 2 ^ (xn X) → x = nI S → Q 1 σ) : w_X2_hasAll x σ Q := by
  have hn := hX.2.1
  have hp : 2 ^ (xn X) ≤ 2 ^ 9 := Nat.pow_le_pow_right (by decide) hn
  unfold w_X2_hasAll w_X2_hasAll_E
  rw [hC.1]
  refine ⟨fun h => h0 (fun S h1 h2 e => ?_), fun h => ?_⟩
  · rw [e] at h
    have := (nI_leI (b := 0) (by omega) (by omega)).mp h
    omega
  · rcases sh_n hn x h with ⟨S, g1, g2, g3⟩ | ⟨g1, S, g2, g3, g4⟩
    · refine ⟨fun h2 => absurd ?_ h2, fun _ => h1 S g1 g2 g3⟩
      rw [g3, pk_shrN (by omega) (nI (xn X) &&& 31) (xn X) (shc _ (by omega)), Nat.div_eq_of_lt g2]
      rfl
    · refine ⟨fun _ => h0 (fun T _ h3 => g1 T h3), fun h2 => ?_⟩
      rw [g4, pk_shrN g3 (nI (xn X) &&& 31) (xn X) (shc _ (by omega))] at h2
      have hd : S / 2 ^ (xn X) ≤ S := Nat.div_le_self _ _
      have e := (nI_eq (b := 0) (by omega) (by omega)).mp h2
      have := (Nat.div_eq_zero_iff_lt (Nat.two_pow_pos _)).mp e
      omega
theorem w_isSet {X : XX} (hX : okX X) {σ : MS} (hC : MX X σ) (x : Int32) {Q : Int32 → MS → Prop} (h0 : (∀ S, okS X S → x ≠ nI S) → Q 0 σ) (h1 : ∀ S, okS X S → x = nI S → Q 1 σ) : w_X9_isSet x σ Q := by
  have hn := hX.2.1
  have hp : 2 ^ (xn X) ≤ 2 ^ 9 := Nat.pow_le_pow_right (by decide) hn
  unfold w_X9_isSet w_X9_isSet_E
  rw [hC.1.2.1]
  refine ⟨fun h => h0 (fun S h1 e => ?_), fun h => ?_⟩
  · rw [e] at h
    have h9 := okS_9 hX h1.1
    have := (nI_leI (b := 0) (by omega) (by omega)).mp h
    have e0 : S = 0 := by omega
    rw [e0] at h1
    have h2 := h1.2.1
    have : popc 0 = 0 := by decide +kernel
    omega
  · rw [nI_sh (by omega)]
    rcases sh_n hn x h with ⟨S, g1, g2, g3⟩ | ⟨g1, S, g2, g3, g4⟩
    · refine ⟨fun h2 => ?_, fun _ => ?_⟩
      · rw [g3] at h2
        have := (nI_leI (by omega) (by omega)).mp h2
        omega
      · rw [g3]
        refine w_many (by omega) ⟨fun h2 => h0 (fun T hT e => ?_), fun h2 => h1 S ⟨g2, ?_, ?_⟩ g3⟩
        · have h9 := okS_9 hX hT.1
          have e2 : S = T := (nI_eq (by omega) (by omega)).mp (g3.symm.trans e)
          have hpl := popc_le S
          have := (nI_ltI (a := 4) (by omega) (by omega)).mp h2
          have := hT.2.2
          rw [← e2] at this
          omega
        · rcases Nat.eq_zero_or_pos (popc S) with z | z
          · have h3 : rmD S 0 9 = [] := List.length_eq_zero_iff.mp z
            have := (rmD_0 (n := 9) (by omega)).mp h3
            omega
          · exact z
        · rcases Nat.lt_or_ge 4 (popc S) with q | q
          · exact absurd (nI_lt q (by have := popc_le S; omega)) h2
          · exact q
    · refine ⟨fun _ => h0 (fun T hT => g1 T hT.1), fun h2 => ?_⟩
      rw [g4] at h2
      exact absurd (nI_le g2 g3) h2
/-- wrongSet in both: the set, or why it is refused -/
theorem w_wsC {X : XX} (hX : okX X) {aw : Nat → Nat} {σ : MS} (hC : CX X σ) (hA : CA aw σ) (x : Int32) {Q : Int32 → MS → Prop} (h1 : (∀ S, okS X S → x ≠ nI S) → Q (-1) σ) (h3 : ∀ S, okS X S → x = nI S → dif S (pres aw (xn X)) ≠ 0 → Q (-3) σ) (h0 : ∀ S, okS X S → x = nI S → dif S (pres aw (xn X)) = 0 → Q 0 σ) : w_X8_wrongSet x σ Q := by
  have hn := hX.2.1
  have hp : 2 ^ (xn X) ≤ 2 ^ 9 := Nat.pow_le_pow_right (by decide) hn
  unfold w_X8_wrongSet w_X8_wrongSet_E
  refine w_all hX hC x (fun h => ⟨fun _ => h1 (fun S hS => ?_), fun z => absurd rfl z⟩) (fun S g1 g2 g3 => ⟨fun z => absurd z (by decide), fun _ => ?_⟩)
  · refine h S ?_ hS.1
    rcases Nat.eq_zero_or_pos S with z | z
    · subst z
      have h2 := hS.2.1
      have : popc 0 = 0 := by decide +kernel
      omega
    · exact z
  · subst g3
    have hpl := popc_le S
    refine w_bc (by omega) ⟨fun h => ?_, fun h => h1 (fun T hT e => ?_)⟩
    · have h := (nI_leI (b := 4) (by omega) (by omega)).mp h
      have hS : okS X S := by
        refine ⟨g2, ?_, h⟩
        rcases Nat.eq_zero_or_pos (popc S) with z | z
        · have h3 : rmD S 0 9 = [] := List.length_eq_zero_iff.mp z
          have := (rmD_0 (n := 9) (by omega)).mp h3
          omega
        · exact z
      exact w_someA hX hC hA (by omega) (fun g => ⟨fun _ => h0 S hS rfl g, fun z => absurd rfl z⟩) (fun g => ⟨fun z => absurd z (by decide), fun _ => h3 S hS rfl g⟩)
    · have h9 := okS_9 hX hT.1
      have e2 : S = T := (nI_eq (by omega) (by omega)).mp e
      have := hT.2.2
      rw [← e2] at this
      exact h (nI_le (b := 4) this (by decide))
theorem w_wsM {X : XX} (hX : okX X) {aw : Nat → Nat} {σ : MS} (hC : MX X σ) (hA : MA aw σ) (x : Int32) {Q : Int32 → MS → Prop} (h1 : (∀ S, okS X S → x ≠ nI S) → Q (-1) σ) (h3 : ∀ S, okS X S → x = nI S → dif S (pres aw (xn X)) ≠ 0 → Q (-3) σ) (h0 : ∀ S, okS X S → x = nI S → dif S (pres aw (xn X)) = 0 → Q 0 σ) : w_X9_wrongSet x σ Q := by
  unfold w_X9_wrongSet w_X9_wrongSet_E
  refine w_isSet hX hC x (fun h => ⟨fun z => absurd rfl z, fun _ => h1 h⟩) (fun S hS e => ⟨fun _ => ?_, fun z => absurd z (by decide)⟩)
  subst e
  exact w_hasA hX hC hA hS.1 (fun g => ⟨fun _ => h0 S hS rfl g, fun z => absurd rfl z⟩) (fun g => ⟨fun z => absurd z (by decide), fun _ => h3 S hS rfl g⟩)
