/-! ===== the state that both hold ===== -/
/-- MINUTES to LEAST, the order of the program -/
def fw1 (L : Nat → Nat → Int32) (m a b : Nat) : Nat → Nat → Int32 := fun x y => if x = a ∧ y = b then (if L a m + L m b < L a b then L a m + L m b else L a b) else L x y
def fwB (L : Nat → Nat → Int32) (m a : Nat) : Nat → Nat → Nat → Int32
  | 0 => L
  | n + 1 => fw1 (fwB L m a n) m a n
def fwA (L : Nat → Nat → Int32) (m : Nat) : Nat → Nat → Nat → Int32
  | 0 => L
  | n + 1 => fwB (fwA L m n) m n 10
def fwM (L : Nat → Nat → Int32) : Nat → Nat → Nat → Int32
  | 0 => L
  | n + 1 => fwA (fwM L n) n 10
abbrev AA : Type := XX × (Nat → Nat) × (Nat → Int32) × (Nat → Int32) × Int32 × (Nat → Nat → Int32) × Nat × Nat × (Nat → Nat) × (Nat → Nat) × (Nat → Int) × (Nat → Int32) × (Nat → Int32)
abbrev aX (A : AA) : XX := A.1
abbrev aW (A : AA) : Nat → Nat := A.2.1
abbrev aPo (A : AA) : Nat → Int32 := A.2.2.1
abbrev aRf (A : AA) : Nat → Int32 := A.2.2.2.1
abbrev aMo (A : AA) : Int32 := A.2.2.2.2.1
abbrev aMi (A : AA) : Nat → Nat → Int32 := A.2.2.2.2.2.1
abbrev aMb (A : AA) : Nat := A.2.2.2.2.2.2.1
abbrev aLf (A : AA) : Nat := A.2.2.2.2.2.2.2.1
abbrev aPl (A : AA) : Nat → Nat := A.2.2.2.2.2.2.2.2.1
abbrev aDv (A : AA) : Nat → Nat := A.2.2.2.2.2.2.2.2.2.1
abbrev aTk (A : AA) : Nat → Int := A.2.2.2.2.2.2.2.2.2.2.1
abbrev aPa (A : AA) : Nat → Int32 := A.2.2.2.2.2.2.2.2.2.2.2.1
abbrev aBa (A : AA) : Nat → Int32 := A.2.2.2.2.2.2.2.2.2.2.2.2
/-- what class and reference hold of a plan -/
def planC (A : AA) (σ : MS) : Prop := σ 11 0 = nI (aMb A) ∧ σ 11 1 = nI (aLf A) ∧ ∀ p, p < 9 → σ 32 p = nI (aPl A p) ∧ (aPl A p ≠ 0 → σ 33 p = nI (aDv A p) ∧ σ 34 p = iI (aTk A p) ∧ σ 35 p = aPa A p ∧ σ 36 p = aBa A p)
def planM (A : AA) (σ : MS) : Prop := σ 66 36 = nI (aMb A) ∧ σ 66 37 = nI (popc (aLf A)) ∧ ∀ p, p < 9 → σ 97 p = nI (aPl A p) ∧ (aPl A p ≠ 0 → σ 98 p = nI (aDv A p) ∧ σ 101 p = iI (aTk A p) ∧ σ 99 p = aPa A p ∧ σ 100 p = aBa A p)
def CS (A : AA) (σ : MS) : Prop := CX (aX A) σ ∧ CA (aW A) σ ∧ CK (aX A) σ ∧ (∀ p, p < 9 → σ (37 + p) 10 = aPo A p) ∧ (∀ k, k < 7 → σ 12 k = aRf A k) ∧ σ 0 7 = aMo A ∧ (∀ a b, a < 10 → b < 10 → σ (46 + a) b = aMi A a b) ∧ planC A σ
def ZS (A : AA) (σ : MS) : Prop := MX (aX A) σ ∧ MA (aW A) σ ∧ MK (aX A) (aW A) σ ∧ (∀ p, p < 9 → σ 78 p = aPo A p) ∧ (∀ k, k < 7 → σ 67 k = aRf A k) ∧ σ 66 4 = aMo A ∧ (∀ a b, a < 10 → b < 10 → σ 68 (10 * a + b) = aMi A a b) ∧ planM A σ
/-- the POOLS of a plan are POOLS -/
def okP (n Lf : Nat) (pl dv : Nat → Nat) (tk : Nat → Int) : Prop := Lf < 512 ∧ (∀ p, p < 9 → pl p ≠ 0 → pl p < 2 ^ n ∧ popc (pl p) ≤ 4 ∧ (pl p).testBit p = true ∧ (pl p).testBit (dv p) = true ∧ (0 ≤ tk p ∧ tk p ≤ 1440) ∧ ∀ q, (pl p).testBit q = true → pl q = pl p ∧ dv q = dv p ∧ tk q = tk p) ∧ ∀ p, Lf.testBit p = true → p < 9 ∧ pl p = 0
def okA (A : AA) : Prop := okX (aX A) ∧ (∀ a b, a < 10 → b < 10 → iI (dl (aX A).1 a b) = fwM (aMi A) 10 a b ∧ 0 ≤ (aMi A a b).toInt ∧ (aMi A a b).toInt ≤ 300) ∧ aMb A ≤ 1 ∧ okP (xn (aX A)) (aLf A) (aPl A) (aDv A) (aTk A) ∧ ∀ p, p < 9 → 0 ≤ dg (aX A).1 p - dl (aX A).1 (dh (aX A).1 p) (dw (aX A).1 p) ∧ dg (aX A).1 p - dl (aX A).1 (dh (aX A).1 p) (dw (aX A).1 p) ≤ 300
def SmM (σ σ' : MS) : Prop := ∀ k j, 66 ≤ k → σ' k j = σ k j
def SmC (σ σ' : MS) : Prop := ∀ k j, k < 66 → σ' k j = σ k j
theorem SmM.rf {σ : MS} : SmM σ σ := fun _ _ _ => rfl
theorem SmC.rf {σ : MS} : SmC σ σ := fun _ _ _ => rfl
theorem SmM.tr {a b c : MS} (h : SmM a b) (g : SmM b c) : SmM a c := fun k j hk => (g k j hk).trans (h k j hk)
theorem SmC.tr {a b c : MS} (h : SmC a b) (g : SmC b c) : SmC a c := fun k j hk => (g k j hk).trans (h k j hk)
theorem FrN.m {σ σ' : MS} (h : FrN σ σ') : SmM σ σ' := fun k j hk => h k j (by omega)
theorem FrC.m {σ σ' : MS} (h : FrC σ σ') : SmM σ σ' := fun k j hk => h k j (by omega)
theorem FrW.c {σ σ' : MS} (h : FrW σ σ') : SmC σ σ' := fun k j hk => h k j (by omega)
theorem FrM.c {σ σ' : MS} (h : FrM σ σ') : SmC σ σ' := fun k j hk => h k j (by omega)
theorem FrX.c {σ σ' : MS} (h : FrX σ σ') : SmC σ σ' := fun k j hk => h k j (by omega)
theorem CS.m {A : AA} {σ σ' : MS} (h : SmC σ σ') (c : CS A σ) : CS A σ' := by
  obtain ⟨c1, c2, c3, c4, c5, c6, c7, c8, c9, c10⟩ := c
  refine ⟨?_, c2.fr (fun p _ => h _ _ (by omega)), fun S hS => by rw [h 28 S (by omega), h 29 S (by omega)]; exact c3 S hS, fun p hp => by rw [h _ _ (by omega)]; exact c4 p hp, fun k hk => by rw [h _ _ (by omega)]; exact c5 k hk, by rw [h _ _ (by omega)]; exact c6, fun a b ha hb => by rw [h _ _ (by omega)]; exact c7 a b ha hb, by rw [h _ _ (by omega)]; exact c8, by rw [h _ _ (by omega)]; exact c9, fun p hp => ?_⟩
  · obtain ⟨d1, d2, d3⟩ := c1
    refine ⟨by rw [h 4 1 (by omega)]; exact d1, fun p hp => ?_, fun a b ha hb => by rw [h (56 + a) b (by omega)]; exact d3 a b ha hb⟩
    rw [h (37 + p) 0 (by omega), h (37 + p) 1 (by omega), h (37 + p) 2 (by omega), h (37 + p) 3 (by omega), h (37 + p) 4 (by omega), h (37 + p) 5 (by omega), h (37 + p) 6 (by omega), h (37 + p) 8 (by omega), h (37 + p) 9 (by omega)]
    exact d2 p hp
  · rw [h 32 p (by omega), h 33 p (by omega), h 34 p (by omega), h 35 p (by omega), h 36 p (by omega)]
    exact c10 p hp
theorem ZS.m {A : AA} {σ σ' : MS} (h : SmM σ σ') (c : ZS A σ) : ZS A σ' := by
  obtain ⟨c1, c2, c3, c4, c5, c6, c7, c8, c9, c10⟩ := c
  refine ⟨c1.fr (fun k j hk => h k j (by omega)), c2.fr (fun p _ => h _ _ (by omega)), ?_, fun p hp => by rw [h _ _ (by omega)]; exact c4 p hp, fun k hk => by rw [h _ _ (by omega)]; exact c5 k hk, by rw [h _ _ (by omega)]; exact c6, fun a b ha hb => by rw [h _ _ (by omega)]; exact c7 a b ha hb, by rw [h _ _ (by omega)]; exact c8, by rw [h _ _ (by omega)]; exact c9, fun p hp => ?_⟩
  · rcases c3 with g | ⟨g1, g2⟩
    · exact Or.inl (by rw [h 66 27 (by omega)]; exact g)
    · refine Or.inr ⟨by rw [h 66 27 (by omega)]; exact g1, fun S a1 a2 => ?_⟩
      have := g2 S a1 a2
      unfold mrow at this ⊢
      rw [h 89 S (by omega), h 90 S (by omega), h 91 S (by omega)]
      exact this
  · rw [h 97 p (by omega), h 98 p (by omega), h 99 p (by omega), h 100 p (by omega), h 101 p (by omega)]
    exact c10 p hp
/-- the class's scratch may change -/
theorem CS.fr {A : AA} {σ σ' : MS} (h : ∀ k j, k < 66 → ¬ (k = 7 ∨ k = 8 ∨ (13 ≤ k ∧ k ≤ 31)) → σ' k j = σ k j) (hK : CK (aX A) σ') (c : CS A σ) : CS A σ' := by
  obtain ⟨c1, c2, c3, c4, c5, c6, c7, c8, c9, c10⟩ := c
  refine ⟨?_, c2.fr (fun p _ => h _ _ (by omega) (by omega)), hK, fun p hp => by rw [h _ _ (by omega) (by omega)]; exact c4 p hp, fun k hk => by rw [h _ _ (by omega) (by omega)]; exact c5 k hk, by rw [h _ _ (by omega) (by omega)]; exact c6, fun a b ha hb => by rw [h _ _ (by omega) (by omega)]; exact c7 a b ha hb, by rw [h _ _ (by omega) (by omega)]; exact c8, by rw [h _ _ (by omega) (by omega)]; exact c9, fun p hp => ?_⟩
  · obtain ⟨d1, d2, d3⟩ := c1
    refine ⟨by rw [h 4 1 (by omega) (by omega)]; exact d1, fun p hp => ?_, fun a b ha hb => by rw [h (56 + a) b (by omega) (by omega)]; exact d3 a b ha hb⟩
    rw [h (37 + p) 0 (by omega) (by omega), h (37 + p) 1 (by omega) (by omega), h (37 + p) 2 (by omega) (by omega), h (37 + p) 3 (by omega) (by omega), h (37 + p) 4 (by omega) (by omega), h (37 + p) 5 (by omega) (by omega), h (37 + p) 6 (by omega) (by omega), h (37 + p) 8 (by omega) (by omega), h (37 + p) 9 (by omega) (by omega)]
    exact d2 p hp
  · rw [h 32 p (by omega) (by omega), h 33 p (by omega) (by omega), h 34 p (by omega) (by omega), h 35 p (by omega) (by omega), h 36 p (by omega) (by omega)]
    exact c10 p hp
theorem ZS.fr {A : AA} {σ σ' : MS} (h : ∀ k j, 66 ≤ k → ¬ ((81 ≤ k ∧ k ≤ 96) ∨ (k = 66 ∧ (24 ≤ j ∧ j ≤ 27))) → σ' k j = σ k j) (hK : MK (aX A) (aW A) σ') (c : ZS A σ) : ZS A σ' := by
  obtain ⟨c1, c2, c3, c4, c5, c6, c7, c8, c9, c10⟩ := c
  refine ⟨c1.fr (fun k j hk => h k j (by omega) (by omega)), c2.fr (fun p _ => h _ _ (by omega) (by omega)), hK, fun p hp => by rw [h _ _ (by omega) (by omega)]; exact c4 p hp, fun k hk => by rw [h _ _ (by omega) (by omega)]; exact c5 k hk, by rw [h _ _ (by omega) (by omega)]; exact c6, fun a b ha hb => by rw [h _ _ (by omega) (by omega)]; exact c7 a b ha hb, by rw [h _ _ (by omega) (by omega)]; exact c8, by rw [h _ _ (by omega) (by omega)]; exact c9, fun p hp => ?_⟩
  rw [h 97 p (by omega) (by omega), h 98 p (by omega) (by omega), h 99 p (by omega) (by omega), h 100 p (by omega) (by omega), h 101 p (by omega) (by omega)]
  exact c10 p hp
/-- a refusal is counted -/
def refA (A : AA) (c : Nat) : AA := (A.1, A.2.1, A.2.2.1, va_up (aRf A) c (aRf A c + 1), A.2.2.2.2)
theorem refC {A : AA} {σ : MS} {c : Nat} (hc : c < 7) (hS : CS A σ) {Q : Int32 → MS → Prop} (hQ : ∀ σ', CS (refA A c) σ' → SmM σ σ' → Q (iI (-c)) σ') : w_X8_refuse (iI (-c)) σ Q := by
  unfold w_X8_refuse w_X8_refuse_E
  have e : -iI (-(c : Int)) = nI c := by rw [iI_neg, iI_n]; congr 1; omega
  rw [e, nI_c (by omega : c ≤ 1000000000)]
  refine ⟨vin hc (by omega), fun σ1 e1 => hQ σ1 ?_ ?_⟩
  · have hr := hS.2.2.2.2.1 c hc
    have keep : ∀ k j, k ≠ 12 → σ1 k j = σ k j := fun k j hk => by
      subst e1
      simp [mst, hk]
    obtain ⟨c1, c2, c3, c4, c5, c6, c7, c8, c9, c10⟩ := hS
    refine ⟨?_, c2.fr (fun p _ => keep _ _ (by omega)), fun S hS => by rw [keep 28 S (by omega), keep 29 S (by omega)]; exact c3 S hS, fun p hp => by rw [keep _ _ (by omega)]; exact c4 p hp, fun k hk => ?_, by rw [keep _ _ (by omega)]; exact c6, fun a b ha hb => by rw [keep _ _ (by omega)]; exact c7 a b ha hb, by rw [keep _ _ (by omega)]; exact c8, by rw [keep _ _ (by omega)]; exact c9, fun p hp => ?_⟩
    · obtain ⟨d1, d2, d3⟩ := c1
      refine ⟨by rw [keep 4 1 (by omega)]; exact d1, fun p hp => ?_, fun a b ha hb => by rw [keep (56 + a) b (by omega)]; exact d3 a b ha hb⟩
      rw [keep (37 + p) 0 (by omega), keep (37 + p) 1 (by omega), keep (37 + p) 2 (by omega), keep (37 + p) 3 (by omega), keep (37 + p) 4 (by omega), keep (37 + p) 5 (by omega), keep (37 + p) 6 (by omega), keep (37 + p) 8 (by omega), keep (37 + p) 9 (by omega)]
      exact d2 p hp
    · show σ1 12 k = va_up (aRf A) c (aRf A c + 1) k
      rw [hr] at e1
      by_cases hk2 : k = c
      · subst hk2
        rw [up_s]
        subst e1
        simp [mst]
      · rw [up_n hk2]
        rw [← c5 k hk]
        subst e1
        simp [mst, hk2]
    · rw [keep 32 p (by omega), keep 33 p (by omega), keep 34 p (by omega), keep 35 p (by omega), keep 36 p (by omega)]
      exact c10 p hp
  · intro k j hk
    subst e1
    simp only [mst]
    rw [if_neg (by omega)]
theorem refM {A : AA} {σ : MS} {c : Nat} (hc : c < 7) (hS : ZS A σ) {Q : Int32 → MS → Prop} (hQ : ∀ σ', ZS (refA A c) σ' → SmC σ σ' → Q (iI (-c)) σ') : w_X9_refuse (iI (-c)) σ Q := by
  unfold w_X9_refuse w_X9_refuse_E
  have e : -iI (-(c : Int)) = nI c := by rw [iI_neg, iI_n]; congr 1; omega
  rw [e, nI_c (by omega : c ≤ 1000000000)]
  refine ⟨vin hc (by omega), fun σ1 e1 => hQ σ1 ?_ ?_⟩
  · have hr := hS.2.2.2.2.1 c hc
    have keep : ∀ k j, k ≠ 67 → σ1 k j = σ k j := fun k j hk => by
      subst e1
      simp [mst, hk]
    obtain ⟨c1, c2, c3, c4, c5, c6, c7, c8, c9, c10⟩ := hS
    refine ⟨c1.fr (fun k j hk => keep k j (by omega)), c2.fr (fun p _ => keep _ _ (by omega)), ?_, fun p hp => by rw [keep _ _ (by omega)]; exact c4 p hp, fun k hk => ?_, by rw [keep _ _ (by omega)]; exact c6, fun a b ha hb => by rw [keep _ _ (by omega)]; exact c7 a b ha hb, by rw [keep _ _ (by omega)]; exact c8, by rw [keep _ _ (by omega)]; exact c9, fun p hp => ?_⟩
    · have k9 : ∀ S, σ1 89 S = σ 89 S ∧ σ1 90 S = σ 90 S ∧ σ1 91 S = σ 91 S := fun S => ⟨keep _ _ (by omega), keep _ _ (by omega), keep _ _ (by omega)⟩
      rcases c3 with g | ⟨g1, g2⟩
      · exact Or.inl (by rw [keep 66 27 (by omega)]; exact g)
      · refine Or.inr ⟨by rw [keep 66 27 (by omega)]; exact g1, fun S a1 a2 => ?_⟩
        have := g2 S a1 a2
        unfold mrow at this ⊢
        rw [(k9 S).1, (k9 S).2.1, (k9 S).2.2]
        exact this
    · show σ1 67 k = va_up (aRf A) c (aRf A c + 1) k
      rw [hr] at e1
      by_cases hk2 : k = c
      · subst hk2
        rw [up_s]
        subst e1
        simp [mst]
      · rw [up_n hk2]
        rw [← c5 k hk]
        subst e1
        simp [mst, hk2]
    · rw [keep 97 p (by omega), keep 98 p (by omega), keep 99 p (by omega), keep 100 p (by omega), keep 101 p (by omega)]
      exact c10 p hp
  · intro k j hk
    subst e1
    simp only [mst]
    rw [if_neg (by omega)]
theorem okA_ref {A : AA} {c : Nat} (h : okA A) : okA (refA A c) := h
