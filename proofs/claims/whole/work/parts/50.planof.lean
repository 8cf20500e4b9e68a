/-! ===== what is told of the plan ===== -/
def ldb (pl : Nat → Nat) (p : Nat) : Bool := decide (pl p ≠ 0 ∧ lb (pl p) = 2 ^ p)
def sumN (f : Nat → Nat) : Nat → Nat
  | 0 => 0
  | n + 1 => sumN f n + f n
theorem sumN_ext {f : Nat → Nat} {n : Nat} : ∀ k, (∀ p, n ≤ p → p < n + k → f p = 0) → sumN f (n + k) = sumN f n
  | 0, _ => rfl
  | k + 1, h => by
    show sumN f (n + k) + f (n + k) = _
    rw [h (n + k) (by omega) (by omega), sumN_ext k (fun p h1 h2 => h p h1 (by omega))]
    rfl
theorem sumN_c {f g : Nat → Nat} : ∀ n, (∀ p, p < n → f p = g p) → sumN f n = sumN g n
  | 0, _ => rfl
  | n + 1, h => by
    show sumN f n + f n = sumN g n + g n
    rw [h n (by omega), sumN_c n (fun p hp => h p (by omega))]
theorem sumN_le {f : Nat → Nat} {B : Nat} : ∀ n, (∀ p, p < n → f p ≤ B) → sumN f n ≤ B * n
  | 0, _ => Nat.zero_le _
  | n + 1, h => by
    have h1 := h n (by omega)
    have h2 := sumN_le n (fun p hp => h p (by omega))
    show sumN f n + f n ≤ B * (n + 1)
    rw [Nat.mul_add, Nat.mul_one]
    omega
theorem sumN_up {f g : Nat → Nat} {x v : Nat} (hx : ∀ p, p ≠ x → f p = g p) (h0 : f x = 0) (h1 : g x = v) : ∀ n, sumN g n = sumN f n + if x < n then v else 0
  | 0 => by simp [sumN]
  | n + 1 => by
    show sumN g n + g n = sumN f n + f n + _
    rw [sumN_up hx h0 h1 n]
    by_cases e : n = x
    · subst e
      rw [h0, h1, if_neg (by omega), if_pos (by omega)]
    · rw [hx n e]
      by_cases q : x < n
      · rw [if_pos q, if_pos (by omega)]
        omega
      · rw [if_neg q, if_neg (by omega)]
        omega
def fP (A : AA) (p : Nat) : Nat := if ldb (aPl A) p then 1 else 0
def fM (A : AA) (p : Nat) : Nat := if ldb (aPl A) p then (aTk A p).toNat else 0
def fI (A : AA) (p : Nat) : Nat := if aPl A p = 0 then 0 else 1
theorem pl_lt {A : AA} (ok : okA A) {p : Nat} (hp : p < 9) : aPl A p < 512 := by
  by_cases e : aPl A p = 0
  · omega
  · exact okS_9 ok.1 (ok.2.2.2.1.2.1 p hp e).1
theorem pl_n {A : AA} (ok : okA A) {p : Nat} (hp : p < 9) (h : xn (aX A) ≤ p) : aPl A p = 0 := by
  by_cases e : aPl A p = 0
  · exact e
  · have d := ok.2.2.2.1.2.1 p hp e
    have := bits_lt d.1 d.2.2.1
    omega
theorem ldb0 {pl : Nat → Nat} {p : Nat} (h : pl p = 0) : ldb pl p = false := by
  unfold ldb
  rw [h]
  simp
theorem ldb_ne {pl : Nat → Nat} {p : Nat} (h : ldb pl p = true) : pl p ≠ 0 := fun e => by
  rw [ldb0 e] at h
  cases h
theorem lb_le (S : Nat) : lb S ≤ S := Nat.and_le_left
theorem w_lead {pl : Nat → Nat} {p : Nat} (hp : p < 9) (h5 : pl p < 512) {σ : MS} (h : σ 32 p = nI (pl p)) {Q : Int32 → MS → Prop} (h0 : ldb pl p = false → Q 0 σ) (h1 : ldb pl p = true → Q 1 σ) : w_X4_leads (nI p) σ Q := by
  have hl := lb_le (pl p)
  have h2 := pw9 hp
  unfold w_X4_leads w_X4_leads_E
  rw [nI_c (by omega : p ≤ 1000000000), h, lbI h5, nI_sh (by omega)]
  refine ⟨vin hp (by decide), fun z => h0 ?_, fun z => h1 ?_⟩
  · unfold ldb
    exact decide_eq_false (fun y => z (by rw [y.2]))
  · have e := (nI_eq (by omega) (by omega)).mp z
    unfold ldb
    refine decide_eq_true ⟨fun y => ?_, e⟩
    rw [y] at hl e
    have := Nat.two_pow_pos p
    omega
theorem w_first {pl : Nat → Nat} {p : Nat} (hp : p < 9) (h5 : pl p < 512) {σ : MS} (h : σ 97 p = nI (pl p)) {Q : Int32 → MS → Prop} (h0 : ldb pl p = false → Q 0 σ) (h1 : ldb pl p = true → Q 1 σ) : w_X9_isFirst (nI p) σ Q := by
  have hl := lb_le (pl p)
  have h2 := pw9 hp
  unfold w_X9_isFirst w_X9_isFirst_E
  rw [nI_c (by omega : p ≤ 1000000000), h, lbI h5, nI_sh (by omega)]
  refine ⟨vin hp (by decide), fun y => h0 (ldb0 ((nI_eq (b := 0) (by omega) (by omega)).mp y)), fun y => ⟨fun z => h0 ?_, fun z => h1 ?_⟩⟩
  · unfold ldb
    exact decide_eq_false (fun y => z (by rw [y.2]))
  · have e := (nI_eq (by omega) (by omega)).mp z
    unfold ldb
    exact decide_eq_true ⟨fun q => y (by rw [q]; rfl), e⟩
theorem w_pools {A : AA} (ok : okA A) {σ : MS} (c : CS A σ) {Q : Int32 → MS → Prop} (hQ : Q (nI (sumN (fP A) 9)) σ) : w_X4_pools σ Q := by
  unfold w_X4_pools w_X4_pools_E
  have loop : ∀ (k i n : Nat), i + k = 9 → k < n → w_X4_pools_H4 Q n (nI (sumN (fP A) i)) (nI i) σ := by
    intro k
    induction k with
    | zero =>
      intro i n hi hn
      obtain ⟨n, rfl⟩ : ∃ z, n = z + 1 := ⟨n - 1, by omega⟩
      have e : i = 9 := by omega
      subst e
      unfold w_X4_pools_H4
      exact ⟨fun _ => hQ, fun z => absurd (by decide) z⟩
    | succ k ih =>
      intro i n hi hn
      obtain ⟨n, rfl⟩ : ∃ z, n = z + 1 := ⟨n - 1, by omega⟩
      unfold w_X4_pools_H4
      have i1 := ih (i + 1) n (by omega) (by omega)
      refine ⟨fun z => absurd z (nI_ge (b := 9) (by omega) (by omega)), fun _ => ?_⟩
      refine w_lead (by omega) (pl_lt ok (by omega)) (c.2.2.2.2.2.2.2.2.2 i (by omega)).1 (fun h => ?_) (fun h => ?_)
      · repeat (first | refine ct (by assumption) ?_ | refine cf (by assumption) ?_ | refine dt (by assumption) ?_ | refine df (by assumption) ?_ | refine ct rfl ?_ | refine cf (by decide) ?_ | refine dt rfl ?_ | refine df (by decide) ?_)
        have e : sumN (fP A) (i + 1) = sumN (fP A) i := by
          show sumN (fP A) i + fP A i = _
          unfold fP
          rw [h]
          rfl
        rw [e] at i1
        rw [nI_1]
        exact i1
      · repeat (first | refine ct (by assumption) ?_ | refine cf (by assumption) ?_ | refine dt (by assumption) ?_ | refine df (by assumption) ?_ | refine ct rfl ?_ | refine cf (by decide) ?_ | refine dt rfl ?_ | refine df (by decide) ?_)
        have e : sumN (fP A) (i + 1) = sumN (fP A) i + 1 := by
          show sumN (fP A) i + fP A i = _
          unfold fP
          rw [h]
          rfl
        rw [e] at i1
        rw [nI_1, nI_1]
        exact i1
  exact ⟨10, loop 9 0 10 (by omega) (by omega)⟩
theorem tkN {A : AA} (ok : okA A) {p : Nat} (hp : p < 9) (h : aPl A p ≠ 0) : iI (aTk A p) = nI (aTk A p).toNat ∧ (aTk A p).toNat ≤ 1440 := by
  have d := (ok.2.2.2.1.2.1 p hp h).2.2.2.2.1
  constructor
  · rw [iI_n, Int.toNat_of_nonneg d.1]
  · omega
theorem w_minT {A : AA} (ok : okA A) {σ : MS} (c : CS A σ) {Q : Int32 → MS → Prop} (hQ : Q (nI (sumN (fM A) 9)) σ) : w_X4_minutesTogether σ Q := by
  unfold w_X4_minutesTogether w_X4_minutesTogether_E
  have loop : ∀ (k i n : Nat), i + k = 9 → k < n → w_X4_minutesTogether_H4 Q n (nI (sumN (fM A) i)) (nI i) σ := by
    intro k
    induction k with
    | zero =>
      intro i n hi hn
      obtain ⟨n, rfl⟩ : ∃ z, n = z + 1 := ⟨n - 1, by omega⟩
      have e : i = 9 := by omega
      subst e
      unfold w_X4_minutesTogether_H4
      exact ⟨fun _ => hQ, fun z => absurd (by decide) z⟩
    | succ k ih =>
      intro i n hi hn
      obtain ⟨n, rfl⟩ : ∃ z, n = z + 1 := ⟨n - 1, by omega⟩
      unfold w_X4_minutesTogether_H4
      have i1 := ih (i + 1) n (by omega) (by omega)
      refine ⟨fun z => absurd z (nI_ge (b := 9) (by omega) (by omega)), fun _ => ?_⟩
      have cc := c.2.2.2.2.2.2.2.2.2 i (by omega)
      refine w_lead (by omega) (pl_lt ok (by omega)) cc.1 (fun h => ?_) (fun h => ?_)
      · repeat (first | refine ct (by assumption) ?_ | refine cf (by assumption) ?_ | refine dt (by assumption) ?_ | refine df (by assumption) ?_ | refine ct rfl ?_ | refine cf (by decide) ?_ | refine dt rfl ?_ | refine df (by decide) ?_)
        have e : sumN (fM A) (i + 1) = sumN (fM A) i := by
          show sumN (fM A) i + fM A i = _
          unfold fM
          rw [h]
          rfl
        rw [e] at i1
        rw [nI_1]
        exact i1
      · repeat (first | refine ct (by assumption) ?_ | refine cf (by assumption) ?_ | refine dt (by assumption) ?_ | refine df (by assumption) ?_ | refine ct rfl ?_ | refine cf (by decide) ?_ | refine dt rfl ?_ | refine df (by decide) ?_)
        have hne := ldb_ne h
        rw [nI_c (by omega : i ≤ 1000000000), (cc.2 hne).2.1, (tkN ok (by omega) hne).1, nI_add]
        refine ⟨vin (by omega) (by decide), fun x ex => ?_⟩
        have e : sumN (fM A) (i + 1) = sumN (fM A) i + (aTk A i).toNat := by
          show sumN (fM A) i + fM A i = _
          unfold fM
          rw [h]
          rfl
        rw [e] at i1
        rw [nI_1, ex]
        exact i1
  exact ⟨10, loop 9 0 10 (by omega) (by omega)⟩
theorem w_inP {A : AA} (ok : okA A) {σ : MS} (c : CS A σ) {Q : Int32 → MS → Prop} (hQ : Q (nI (sumN (fI A) 9)) σ) : w_X4_personsInPools σ Q := by
  unfold w_X4_personsInPools w_X4_personsInPools_E
  have loop : ∀ (k i n : Nat), i + k = 9 → k < n → w_X4_personsInPools_H4 Q n (nI (sumN (fI A) i)) (nI i) σ := by
    intro k
    induction k with
    | zero =>
      intro i n hi hn
      obtain ⟨n, rfl⟩ : ∃ z, n = z + 1 := ⟨n - 1, by omega⟩
      have e : i = 9 := by omega
      subst e
      unfold w_X4_personsInPools_H4
      exact ⟨fun _ => hQ, fun z => absurd (by decide) z⟩
    | succ k ih =>
      intro i n hi hn
      obtain ⟨n, rfl⟩ : ∃ z, n = z + 1 := ⟨n - 1, by omega⟩
      unfold w_X4_personsInPools_H4
      have i1 := ih (i + 1) n (by omega) (by omega)
      have cc := c.2.2.2.2.2.2.2.2.2 i (by omega)
      have hl := pl_lt ok (p := i) (by omega)
      rw [nI_c (by omega : i ≤ 1000000000), cc.1, nI_1, nI_1]
      refine ⟨fun z => absurd z (nI_ge (b := 9) (by omega) (by omega)), fun _ => ⟨vin (by omega) (by decide), fun z => ?_, fun z => ?_⟩⟩
      · have z := (nI_eq (b := 0) (by omega) (by omega)).mp z
        have e : sumN (fI A) (i + 1) = sumN (fI A) i := by
          show sumN (fI A) i + fI A i = _
          unfold fI
          rw [if_pos z]
          rfl
        rw [e] at i1
        exact i1
      · have e : sumN (fI A) (i + 1) = sumN (fI A) i + 1 := by
          show sumN (fI A) i + fI A i = _
          unfold fI
          rw [if_neg (fun q => z (by rw [q]; rfl))]
        rw [e] at i1
        exact i1
  exact ⟨10, loop 9 0 10 (by omega) (by omega)⟩
theorem w_planned {A : AA} (ok : okA A) {σ : MS} (c : ZS A σ) {x : Nat} (hx : x ≤ 3) (hx1 : x ≠ 1) {f : Nat → Nat} (hf : f = if x = 0 then fP A else if x = 2 then fM A else fI A) {Q : Int32 → MS → Prop} (hQ : Q (nI (sumN f 9)) σ) : w_X9_planned (nI x) σ Q := by
  have hn9 := ok.1.2.1
  have e9 : sumN f 9 = sumN f (xn (aX A)) := by
    have := sumN_ext (f := f) (n := xn (aX A)) (9 - xn (aX A)) (fun p h1 h2 => by
      have hz := pl_n ok (p := p) (by omega) h1
      subst hf
      split
      · unfold fP
        rw [ldb0 hz]
        rfl
      · split
        · unfold fM
          rw [ldb0 hz]
          rfl
        · unfold fI
          rw [if_pos hz])
    rw [← this]
    congr 1
    omega
  rw [e9] at hQ
  unfold w_X9_planned w_X9_planned_E
  have loop : ∀ (k i n : Nat), i + k = xn (aX A) → k < n → w_X9_planned_H4 Q n (nI x) (nI (sumN f i)) (nI i) σ := by
    intro k
    induction k with
    | zero =>
      intro i n hi hn
      obtain ⟨n, rfl⟩ : ∃ z, n = z + 1 := ⟨n - 1, by omega⟩
      have e : i = xn (aX A) := by omega
      subst e
      unfold w_X9_planned_H4
      rw [c.1.1.2.1]
      exact ⟨fun _ => hQ, fun z => absurd (nI_le (Nat.le_refl _) (by omega)) z⟩
    | succ k ih =>
      intro i n hi hn
      obtain ⟨n, rfl⟩ : ∃ z, n = z + 1 := ⟨n - 1, by omega⟩
      unfold w_X9_planned_H4
      have i1 := ih (i + 1) n (by omega) (by omega)
      have e1 : sumN f (i + 1) = sumN f i + f i := rfl
      have cc := c.2.2.2.2.2.2.2.2.2 i (by omega)
      have hl := pl_lt ok (p := i) (by omega)
      rw [c.1.1.2.1, nI_c (by omega : i ≤ 1000000000), nI_1 i]
      refine ⟨fun z => absurd z (nI_ge (by omega) (by omega)), fun _ => ⟨fun y => ?_, fun y => ?_⟩⟩
      · have y3 : x ≠ 3 := fun z => y (by rw [z]; rfl)
        refine w_first (by omega) hl cc.1 (fun h => ?_) (fun h => ?_)
        · repeat (first | refine ct (by assumption) ?_ | refine cf (by assumption) ?_ | refine dt (by assumption) ?_ | refine df (by assumption) ?_ | refine ct rfl ?_ | refine cf (by decide) ?_ | refine dt rfl ?_ | refine df (by decide) ?_)
          have e2 : f i = 0 := by
            subst hf
            rcases (by omega : x = 0 ∨ x = 2) with z | z
            · rw [if_pos z]
              unfold fP
              rw [h]
              rfl
            · rw [if_neg (by omega), if_pos z]
              unfold fM
              rw [h]
              rfl
          rw [e1, e2] at i1
          exact i1
        · repeat (first | refine ct (by assumption) ?_ | refine cf (by assumption) ?_ | refine dt (by assumption) ?_ | refine df (by assumption) ?_ | refine ct rfl ?_ | refine cf (by decide) ?_ | refine dt rfl ?_ | refine df (by decide) ?_)
          have hne := ldb_ne h
          refine ⟨fun z => ⟨vin (by omega) (by decide), fun w ew => ?_⟩, fun z w ew => ?_⟩
          · have x2 : x = 2 := by
              have : x ≠ 0 := fun q => z (by rw [q]; rfl)
              omega
            have e2 : f i = (aTk A i).toNat := by
              subst hf
              rw [if_neg (by omega), if_pos x2]
              unfold fM
              rw [h]
              rfl
            rw [(cc.2 hne).2.1, (tkN ok (by omega) hne).1, nI_add, ← e2] at ew
            rw [ew]
            exact i1
          · have x0 : x = 0 := (nI_eq (b := 0) (by omega) (by omega)).mp z
            have e2 : f i = 1 := by
              subst hf
              rw [if_pos x0]
              unfold fP
              rw [h]
              rfl
            rw [nI_1] at ew
            rw [e1, e2] at i1
            rw [ew]
            exact i1
      · have x3 : x = 3 := (nI_eq (b := 3) (by omega) (by omega)).mp y
        rw [cc.1]
        refine ⟨vin (by omega) (by decide), fun z w ew => ?_, fun z w ew => ?_⟩
        · have z := (nI_eq (b := 0) (by omega) (by omega)).mp z
          have e2 : f i = 0 := by
            subst hf
            rw [if_neg (by omega), if_neg (by omega)]
            unfold fI
            rw [if_pos z]
          rw [e1, e2] at i1
          rw [ew, Int32.add_zero]
          exact i1
        · have e2 : f i = 1 := by
            subst hf
            rw [if_neg (by omega), if_neg (by omega)]
            unfold fI
            rw [if_neg (fun q => z (by rw [q]; rfl))]
          rw [e1, e2] at i1
          rw [ew, nI_1]
          exact i1
  exact ⟨xn (aX A) + 1, loop (xn (aX A)) 0 (xn (aX A) + 1) (by omega) (by omega)⟩
theorem made0 {A : AA} (ok : okA A) {σ : MS} (c : CS A σ) {Q : Int32 → MS → Prop} (hQ : Q (nI (aMb A)) σ) : w_X4_isMade σ Q := by
  unfold w_X4_isMade w_X4_isMade_E
  rw [c.2.2.2.2.2.2.2.1]
  exact ⟨n_zb ok.2.2.1, hQ⟩
theorem L_planOf {A : AA} {σ : MS} (h : Rel A σ) (x : Int32) {K : Int32 → Int32 → MS → Prop} (hK : ∀ r A' σ', Rel A' σ' → K r r σ') : w_X8_planOf x σ (fun r1 σ1 => w_X9_planOf x σ1 (fun r2 σ2 => K r1 r2 σ2)) := by
  have mm : ∀ s, SmM σ s → s 66 36 = nI (aMb A) := fun s hm => (h.2.2.m hm).2.2.2.2.2.2.2.1
  unfold w_X8_planOf w_X8_planOf_E
  refine made0 h.1 h.2.1 ?_
  by_cases m0 : nI (aMb A) = 0
  · repeat (first | refine ct (by assumption) ?_ | refine cf (by assumption) ?_ | refine dt (by assumption) ?_ | refine df (by assumption) ?_ | refine ct rfl ?_ | refine cf (by decide) ?_ | refine dt rfl ?_ | refine df (by decide) ?_)
    refine rfG em3 (by decide) h hK (fun σ1 hm q => ?_)
    have m1 : σ1 66 36 = 0 := by rw [mm σ1 hm]; exact m0
    unfold w_X9_planOf w_X9_planOf_E
    repeat (first | refine ct (by assumption) ?_ | refine cf (by assumption) ?_ | refine dt (by assumption) ?_ | refine df (by assumption) ?_ | refine ct rfl ?_ | refine cf (by decide) ?_ | refine dt rfl ?_ | refine df (by decide) ?_)
    exact q
  have m1 : ¬ σ 66 36 = 0 := by rw [mm σ SmM.rf]; exact m0
  by_cases e0 : x = 0
  · subst e0
    repeat (first | refine ct (by assumption) ?_ | refine cf (by assumption) ?_ | refine dt (by assumption) ?_ | refine df (by assumption) ?_ | refine ct rfl ?_ | refine cf (by decide) ?_ | refine dt rfl ?_ | refine df (by decide) ?_)
    refine w_pools h.1 h.2.1 ?_
    unfold w_X9_planOf w_X9_planOf_E
    repeat (first | refine ct (by assumption) ?_ | refine cf (by assumption) ?_ | refine dt (by assumption) ?_ | refine df (by assumption) ?_ | refine ct rfl ?_ | refine cf (by decide) ?_ | refine dt rfl ?_ | refine df (by decide) ?_)
    exact w_planned (x := 0) h.1 h.2.2 (by decide) (by decide) (if_pos rfl).symm (hK _ A σ h)
  by_cases e1 : x = 1
  · subst e1
    repeat (first | refine ct (by assumption) ?_ | refine cf (by assumption) ?_ | refine dt (by assumption) ?_ | refine df (by assumption) ?_ | refine ct rfl ?_ | refine cf (by decide) ?_ | refine dt rfl ?_ | refine df (by decide) ?_)
    unfold w_X4_leftCount w_X4_leftCount_E
    rw [h.2.1.2.2.2.2.2.2.2.2.1]
    refine w_bc h.1.2.2.2.1.1 ?_
    unfold w_X9_planOf w_X9_planOf_E
    repeat (first | refine ct (by assumption) ?_ | refine cf (by assumption) ?_ | refine dt (by assumption) ?_ | refine df (by assumption) ?_ | refine ct rfl ?_ | refine cf (by decide) ?_ | refine dt rfl ?_ | refine df (by decide) ?_)
    rw [h.2.2.2.2.2.2.2.2.2.2.1]
    exact hK _ A σ h
  by_cases e2 : x = 2
  · subst e2
    repeat (first | refine ct (by assumption) ?_ | refine cf (by assumption) ?_ | refine dt (by assumption) ?_ | refine df (by assumption) ?_ | refine ct rfl ?_ | refine cf (by decide) ?_ | refine dt rfl ?_ | refine df (by decide) ?_)
    refine w_minT h.1 h.2.1 ?_
    unfold w_X9_planOf w_X9_planOf_E
    repeat (first | refine ct (by assumption) ?_ | refine cf (by assumption) ?_ | refine dt (by assumption) ?_ | refine df (by assumption) ?_ | refine ct rfl ?_ | refine cf (by decide) ?_ | refine dt rfl ?_ | refine df (by decide) ?_)
    exact w_planned (x := 2) h.1 h.2.2 (by decide) (by decide) rfl (hK _ A σ h)
  by_cases e3 : x = 3
  · subst e3
    repeat (first | refine ct (by assumption) ?_ | refine cf (by assumption) ?_ | refine dt (by assumption) ?_ | refine df (by assumption) ?_ | refine ct rfl ?_ | refine cf (by decide) ?_ | refine dt rfl ?_ | refine df (by decide) ?_)
    refine w_inP h.1 h.2.1 ?_
    unfold w_X9_planOf w_X9_planOf_E
    repeat (first | refine ct (by assumption) ?_ | refine cf (by assumption) ?_ | refine dt (by assumption) ?_ | refine df (by assumption) ?_ | refine ct rfl ?_ | refine cf (by decide) ?_ | refine dt rfl ?_ | refine df (by decide) ?_)
    exact w_planned (x := 3) h.1 h.2.2 (by decide) (by decide) rfl (hK _ A σ h)
  repeat (first | refine ct (by assumption) ?_ | refine cf (by assumption) ?_ | refine dt (by assumption) ?_ | refine df (by assumption) ?_ | refine ct rfl ?_ | refine cf (by decide) ?_ | refine dt rfl ?_ | refine df (by decide) ?_)
  refine rfG em2 (by decide) h hK (fun σ1 hm q => ?_)
  have m2 : ¬ σ1 66 36 = 0 := by rw [mm σ1 hm]; exact m0
  unfold w_X9_planOf w_X9_planOf_E
  refine df m2 ?_
  refine w_in (fun z => ?_) (fun z => ?_)
  · repeat (first | refine ct (by assumption) ?_ | refine cf (by assumption) ?_ | refine dt (by assumption) ?_ | refine df (by assumption) ?_ | refine ct rfl ?_ | refine cf (by decide) ?_ | refine dt rfl ?_ | refine df (by decide) ?_)
    exact q
  · obtain ⟨j, hj, ej⟩ := in_of (n := 4) (by decide) z
    rcases (by omega : j = 0 ∨ j = 1 ∨ j = 2 ∨ j = 3) with e | e | e | e
    · subst e
      exact absurd ej e0
    · subst e
      exact absurd ej e1
    · subst e
      exact absurd ej e2
    · subst e
      exact absurd ej e3
