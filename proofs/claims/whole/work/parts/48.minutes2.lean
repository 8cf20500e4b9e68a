/-! ===== minutes, both ===== -/
def xM (X : XX) (M : Nat → Nat → Int32) : XX := ((fun a b => (fwM M 10 a b).toInt, dh X.1, dw X.1, de X.1, da X.1, fun p => dg X.1 p - dl X.1 (dh X.1 p) (dw X.1 p) + (fwM M 10 (dh X.1 p) (dw X.1 p)).toInt), X.2)
def aM (A : AA) (M : Nat → Nat → Int32) : AA := (xM (aX A) M, aW A, aPo A, aRf A, aMo A, M, A.2.2.2.2.2.2)
def up2 (M : Nat → Nat → Int32) (a b : Nat) (v : Int32) : Nat → Nat → Int32 := fun x y => if x = a ∧ y = b then v else M x y
theorem okM' {A : AA} (ok : okA A) {M : Nat → Nat → Int32} (hb : bdL M) : okA (aM A M) := by
  obtain ⟨⟨⟨h1, h2⟩, h3, h4⟩, h5, h6, h7, h8⟩ := ok
  have hB := bd_M hb 10 (Nat.le_refl _)
  refine ⟨⟨⟨fun a b ha hb => hB a b ha hb, fun q hq => ?_⟩, h3, h4⟩, fun a b ha hb2 => ⟨(iI_of _).symm, hb a b ha hb2⟩, h6, h7, fun q hq => ?_⟩
  · have d := h2 q hq
    have e := h8 q hq
    have f := hB _ _ d.1 d.2.1
    refine ⟨d.1, d.2.1, d.2.2.1, d.2.2.2.1, ?_⟩
    show 0 ≤ dg (aX A).1 q - dl (aX A).1 (dh (aX A).1 q) (dw (aX A).1 q) + (fwM M 10 (dh (aX A).1 q) (dw (aX A).1 q)).toInt ∧ dg (aX A).1 q - dl (aX A).1 (dh (aX A).1 q) (dw (aX A).1 q) + (fwM M 10 (dh (aX A).1 q) (dw (aX A).1 q)).toInt ≤ 600
    omega
  · have e := h8 q hq
    show 0 ≤ dg (aX A).1 q - dl (aX A).1 (dh (aX A).1 q) (dw (aX A).1 q) + (fwM M 10 (dh (aX A).1 q) (dw (aX A).1 q)).toInt - (fwM M 10 (dh (aX A).1 q) (dw (aX A).1 q)).toInt ∧ dg (aX A).1 q - dl (aX A).1 (dh (aX A).1 q) (dw (aX A).1 q) + (fwM M 10 (dh (aX A).1 q) (dw (aX A).1 q)).toInt - (fwM M 10 (dh (aX A).1 q) (dw (aX A).1 q)).toInt ≤ 300
    omega
theorem minC {A : AA} {σ σ' : MS} (c : CS A σ) {M : Nat → Nat → Int32} (hk : ∀ k j, k < 66 → k ≠ 28 → ¬ (46 ≤ k ∧ k < 66) → σ' k j = σ k j) (h46 : ∀ x y, x < 10 → y < 10 → σ' (46 + x) y = M x y) (h56 : AGc (fwM M 10) σ') (h28 : ∀ S, S < 512 → σ' 28 S = -1) : CS (aM A M) σ' := by
  obtain ⟨c1, c2, c3, c4, c5, c6, c7, c8, c9, c10⟩ := c
  refine ⟨?_, c2.fr (fun p _ => hk _ _ (by omega) (by omega) (by omega)), fun S hS => Or.inl (h28 S hS), fun p hp => by rw [hk _ _ (by omega) (by omega) (by omega)]; exact c4 p hp, fun k hk2 => by rw [hk _ _ (by omega) (by omega) (by omega)]; exact c5 k hk2, by rw [hk _ _ (by omega) (by omega) (by omega)]; exact c6, h46, by rw [hk _ _ (by omega) (by omega) (by omega)]; exact c8, by rw [hk _ _ (by omega) (by omega) (by omega)]; exact c9, fun p hp => ?_⟩
  · obtain ⟨d1, d2, d3⟩ := c1
    refine ⟨by rw [hk 4 1 (by omega) (by omega) (by omega)]; exact d1, fun q hq => ?_, fun a b ha hb => by rw [h56 a b ha hb]; exact iI_of _⟩
    have d := d2 q hq
    rw [hk (37 + q) 0 (by omega) (by omega) (by omega), hk (37 + q) 1 (by omega) (by omega) (by omega), hk (37 + q) 2 (by omega) (by omega) (by omega), hk (37 + q) 3 (by omega) (by omega) (by omega), hk (37 + q) 4 (by omega) (by omega) (by omega), hk (37 + q) 5 (by omega) (by omega) (by omega), hk (37 + q) 6 (by omega) (by omega) (by omega), hk (37 + q) 8 (by omega) (by omega) (by omega), hk (37 + q) 9 (by omega) (by omega) (by omega)]
    refine ⟨d.1, d.2.1, d.2.2.1, d.2.2.2.1, d.2.2.2.2.1, ?_, d.2.2.2.2.2.2.1, d.2.2.2.2.2.2.2.1, d.2.2.2.2.2.2.2.2⟩
    rw [d.2.2.2.2.2.1]
    show _ = iI (dg (aX A).1 q - dl (aX A).1 (dh (aX A).1 q) (dw (aX A).1 q) + (fwM M 10 (dh (aX A).1 q) (dw (aX A).1 q)).toInt - (fwM M 10 (dh (aX A).1 q) (dw (aX A).1 q)).toInt)
    congr 1
    omega
  · rw [hk 32 p (by omega) (by omega) (by omega), hk 33 p (by omega) (by omega) (by omega), hk 34 p (by omega) (by omega) (by omega), hk 35 p (by omega) (by omega) (by omega), hk 36 p (by omega) (by omega) (by omega)]
    exact c10 p hp
theorem minM {A : AA} {σ σ' : MS} (c : ZS A σ) {M : Nat → Nat → Int32} (hk : ∀ k j, 66 ≤ k → k ≠ 68 → k ≠ 69 → ¬ (k = 66 ∧ j = 27) → σ' k j = σ k j) (h68 : ∀ x y, x < 10 → y < 10 → σ' 68 (10 * x + y) = M x y) (h69 : AGm (fwM M 10) σ') (h27 : σ' 66 27 = 0) : ZS (aM A M) σ' := by
  obtain ⟨c1, c2, c3, c4, c5, c6, c7, c8, c9, c10⟩ := c
  refine ⟨?_, c2.fr (fun p _ => hk _ _ (by omega) (by omega) (by omega) (by omega)), Or.inl h27, fun p hp => by rw [hk _ _ (by omega) (by omega) (by omega) (by omega)]; exact c4 p hp, fun k hk2 => by rw [hk _ _ (by omega) (by omega) (by omega) (by omega)]; exact c5 k hk2, by rw [hk _ _ (by omega) (by omega) (by omega) (by omega)]; exact c6, h68, by rw [hk _ _ (by omega) (by omega) (by omega) (by omega)]; exact c8, by rw [hk _ _ (by omega) (by omega) (by omega) (by omega)]; exact c9, fun p hp => ?_⟩
  · obtain ⟨⟨d0, d1, d2, d3⟩, d4⟩ := c1
    refine ⟨⟨d0, by rw [hk 66 3 (by omega) (by omega) (by omega) (by omega)]; exact d1, fun q hq => ?_, fun a b ha hb => by rw [h69 a b ha hb]; exact iI_of _⟩, fun q hq => ?_⟩
    · have d := d2 q hq
      rw [hk 71 q (by omega) (by omega) (by omega) (by omega), hk 72 q (by omega) (by omega) (by omega) (by omega), hk 73 q (by omega) (by omega) (by omega) (by omega), hk 74 q (by omega) (by omega) (by omega) (by omega), hk 75 q (by omega) (by omega) (by omega) (by omega)]
      refine ⟨d.1, d.2.1, d.2.2.1, d.2.2.2.1, ?_⟩
      rw [d.2.2.2.2]
      show _ = iI (dg (aX A).1 q - dl (aX A).1 (dh (aX A).1 q) (dw (aX A).1 q) + (fwM M 10 (dh (aX A).1 q) (dw (aX A).1 q)).toInt - (fwM M 10 (dh (aX A).1 q) (dw (aX A).1 q)).toInt)
      congr 1
      omega
    · have d := d4 q hq
      rw [hk 70 q (by omega) (by omega) (by omega) (by omega), hk 76 q (by omega) (by omega) (by omega) (by omega), hk 80 q (by omega) (by omega) (by omega) (by omega), hk 77 q (by omega) (by omega) (by omega) (by omega)]
      exact d
  · rw [hk 97 p (by omega) (by omega) (by omega) (by omega), hk 98 p (by omega) (by omega) (by omega) (by omega), hk 99 p (by omega) (by omega) (by omega) (by omega), hk 100 p (by omega) (by omega) (by omega) (by omega), hk 101 p (by omega) (by omega) (by omega) (by omega)]
    exact c10 p hp
/-- measured anew, with nothing changed -/
theorem minM0 {A : AA} (ok : okA A) {σ σ' : MS} (c : ZS A σ) (hk : ∀ k j, 66 ≤ k → k ≠ 68 → k ≠ 69 → ¬ (k = 66 ∧ j = 27) → σ' k j = σ k j) (h68 : ∀ x y, x < 10 → y < 10 → σ' 68 (10 * x + y) = aMi A x y) (h69 : AGm (fwM (aMi A) 10) σ') (h27 : σ' 66 27 = 0) : ZS A σ' := by
  obtain ⟨c1, c2, c3, c4, c5, c6, c7, c8, c9, c10⟩ := c
  refine ⟨?_, c2.fr (fun p _ => hk _ _ (by omega) (by omega) (by omega) (by omega)), Or.inl h27, fun p hp => by rw [hk _ _ (by omega) (by omega) (by omega) (by omega)]; exact c4 p hp, fun k hk2 => by rw [hk _ _ (by omega) (by omega) (by omega) (by omega)]; exact c5 k hk2, by rw [hk _ _ (by omega) (by omega) (by omega) (by omega)]; exact c6, h68, by rw [hk _ _ (by omega) (by omega) (by omega) (by omega)]; exact c8, by rw [hk _ _ (by omega) (by omega) (by omega) (by omega)]; exact c9, fun p hp => ?_⟩
  · obtain ⟨⟨d0, d1, d2, d3⟩, d4⟩ := c1
    refine ⟨⟨d0, by rw [hk 66 3 (by omega) (by omega) (by omega) (by omega)]; exact d1, fun q hq => ?_, fun a b ha hb => by rw [h69 a b ha hb]; exact (ok.2.1 a b ha hb).1.symm⟩, fun q hq => ?_⟩
    · rw [hk 71 q (by omega) (by omega) (by omega) (by omega), hk 72 q (by omega) (by omega) (by omega) (by omega), hk 73 q (by omega) (by omega) (by omega) (by omega), hk 74 q (by omega) (by omega) (by omega) (by omega), hk 75 q (by omega) (by omega) (by omega) (by omega)]
      exact d2 q hq
    · rw [hk 70 q (by omega) (by omega) (by omega) (by omega), hk 76 q (by omega) (by omega) (by omega) (by omega), hk 80 q (by omega) (by omega) (by omega) (by omega), hk 77 q (by omega) (by omega) (by omega) (by omega)]
      exact d4 q hq
  · rw [hk 97 p (by omega) (by omega) (by omega) (by omega), hk 98 p (by omega) (by omega) (by omega) (by omega), hk 99 p (by omega) (by omega) (by omega) (by omega), hk 100 p (by omega) (by omega) (by omega) (by omega), hk 101 p (by omega) (by omega) (by omega) (by omega)]
    exact c10 p hp
theorem L_minutes {A : AA} {σ : MS} (h : Rel A σ) (x1 x2 x3 : Int32) {K : Int32 → Int32 → MS → Prop} (hK : ∀ r A' σ', Rel A' σ' → K r r σ') : w_X8_minutes x1 x2 x3 σ (fun r1 σ1 => w_X9_minutes x1 x2 x3 σ1 (fun r2 σ2 => K r1 r2 σ2)) := by
  by_cases a0 : x1 < 0
  · skip
    unfold w_X8_minutes w_X8_minutes_E
    repeat (first | refine ct (by assumption) ?_ | refine cf (by assumption) ?_ | refine dt (by assumption) ?_ | refine df (by assumption) ?_ | refine ct rfl ?_ | refine cf (by decide) ?_ | refine dt rfl ?_ | refine df (by decide) ?_)
    unfold w_X8_minutes_J19
    refine rfG em1 (by decide) h hK (fun σ1 hm q => ?_)
    unfold w_X9_minutes w_X9_minutes_E
    repeat (first | refine ct (by assumption) ?_ | refine cf (by assumption) ?_ | refine dt (by assumption) ?_ | refine df (by assumption) ?_ | refine ct rfl ?_ | refine cf (by decide) ?_ | refine dt rfl ?_ | refine df (by decide) ?_)
    exact q
  by_cases a1 : 10 ≤ x1
  · skip
    unfold w_X8_minutes w_X8_minutes_E
    repeat (first | refine ct (by assumption) ?_ | refine cf (by assumption) ?_ | refine dt (by assumption) ?_ | refine df (by assumption) ?_ | refine ct rfl ?_ | refine cf (by decide) ?_ | refine dt rfl ?_ | refine df (by decide) ?_)
    unfold w_X8_minutes_J19
    refine rfG em1 (by decide) h hK (fun σ1 hm q => ?_)
    unfold w_X9_minutes w_X9_minutes_E
    repeat (first | refine ct (by assumption) ?_ | refine cf (by assumption) ?_ | refine dt (by assumption) ?_ | refine df (by assumption) ?_ | refine ct rfl ?_ | refine cf (by decide) ?_ | refine dt rfl ?_ | refine df (by decide) ?_)
    exact q
  by_cases a2 : x2 < 0
  · skip
    unfold w_X8_minutes w_X8_minutes_E
    repeat (first | refine ct (by assumption) ?_ | refine cf (by assumption) ?_ | refine dt (by assumption) ?_ | refine df (by assumption) ?_ | refine ct rfl ?_ | refine cf (by decide) ?_ | refine dt rfl ?_ | refine df (by decide) ?_)
    unfold w_X8_minutes_J19
    refine rfG em1 (by decide) h hK (fun σ1 hm q => ?_)
    unfold w_X9_minutes w_X9_minutes_E
    repeat (first | refine ct (by assumption) ?_ | refine cf (by assumption) ?_ | refine dt (by assumption) ?_ | refine df (by assumption) ?_ | refine ct rfl ?_ | refine cf (by decide) ?_ | refine dt rfl ?_ | refine df (by decide) ?_)
    exact q
  by_cases a3 : 10 ≤ x2
  · skip
    unfold w_X8_minutes w_X8_minutes_E
    repeat (first | refine ct (by assumption) ?_ | refine cf (by assumption) ?_ | refine dt (by assumption) ?_ | refine df (by assumption) ?_ | refine ct rfl ?_ | refine cf (by decide) ?_ | refine dt rfl ?_ | refine df (by decide) ?_)
    unfold w_X8_minutes_J19
    refine rfG em1 (by decide) h hK (fun σ1 hm q => ?_)
    unfold w_X9_minutes w_X9_minutes_E
    repeat (first | refine ct (by assumption) ?_ | refine cf (by assumption) ?_ | refine dt (by assumption) ?_ | refine df (by assumption) ?_ | refine ct rfl ?_ | refine cf (by decide) ?_ | refine dt rfl ?_ | refine df (by decide) ?_)
    exact q
  by_cases a4 : x1 = x2
  · skip
    unfold w_X8_minutes w_X8_minutes_E
    repeat (first | refine ct (by assumption) ?_ | refine cf (by assumption) ?_ | refine dt (by assumption) ?_ | refine df (by assumption) ?_ | refine ct rfl ?_ | refine cf (by decide) ?_ | refine dt rfl ?_ | refine df (by decide) ?_)
    unfold w_X8_minutes_J19
    refine rfG em1 (by decide) h hK (fun σ1 hm q => ?_)
    unfold w_X9_minutes w_X9_minutes_E
    repeat (first | refine ct (by assumption) ?_ | refine cf (by assumption) ?_ | refine dt (by assumption) ?_ | refine df (by assumption) ?_ | refine ct rfl ?_ | refine cf (by decide) ?_ | refine dt rfl ?_ | refine df (by decide) ?_)
    exact q
  by_cases b0 : 0 ≤ x3
  rotate_left
  · skip
    unfold w_X8_minutes w_X8_minutes_E
    repeat (first | refine ct (by assumption) ?_ | refine cf (by assumption) ?_ | refine dt (by assumption) ?_ | refine df (by assumption) ?_ | refine ct rfl ?_ | refine cf (by decide) ?_ | refine dt rfl ?_ | refine df (by decide) ?_)
    refine rfG em4 (by decide) h hK (fun σ1 hm q => ?_)
    unfold w_X9_minutes w_X9_minutes_E
    repeat (first | refine ct (by assumption) ?_ | refine cf (by assumption) ?_ | refine dt (by assumption) ?_ | refine df (by assumption) ?_ | refine ct rfl ?_ | refine cf (by decide) ?_ | refine dt rfl ?_ | refine df (by decide) ?_)
    exact q
  by_cases b1 : x3 ≤ 300
  rotate_left
  · skip
    unfold w_X8_minutes w_X8_minutes_E
    repeat (first | refine ct (by assumption) ?_ | refine cf (by assumption) ?_ | refine dt (by assumption) ?_ | refine df (by assumption) ?_ | refine ct rfl ?_ | refine cf (by decide) ?_ | refine dt rfl ?_ | refine df (by decide) ?_)
    refine rfG em6 (by decide) h hK (fun σ1 hm q => ?_)
    unfold w_X9_minutes w_X9_minutes_E
    repeat (first | refine ct (by assumption) ?_ | refine cf (by assumption) ?_ | refine dt (by assumption) ?_ | refine df (by assumption) ?_ | refine ct rfl ?_ | refine cf (by decide) ?_ | refine dt rfl ?_ | refine df (by decide) ?_)
    exact q
  have c0 := a0
  have c1 := a1
  have c2 := a2
  have c3 := a3
  obtain ⟨a, ha, rfl⟩ := s10 a0 a1
  obtain ⟨b, hb, rfl⟩ := s10 a2 a3
  have e46 := h.2.1.2.2.2.2.2.2.1 a b ha hb
  have b3 : 0 ≤ x3.toInt ∧ x3.toInt ≤ 300 := by
    have t0 := b0
    have t1 := b1
    rw [Int32.le_iff_toInt_le] at t0 t1
    have z0 : (0 : Int32).toInt = 0 := rfl
    have z1 : (300 : Int32).toInt = 300 := rfl
    omega
  have bd0 : bdL (aMi A) := fun x y hx hy => (h.1.2.1 x y hx hy).2
  have bd : bdL (up2 (aMi A) a b x3) := fun x y hx hy => by
    unfold up2
    by_cases z : x = a ∧ y = b
    · rw [if_pos z]
      exact b3
    · rw [if_neg z]
      exact bd0 x y hx hy
  unfold w_X8_minutes w_X8_minutes_E
  repeat (first | refine ct (by assumption) ?_ | refine cf (by assumption) ?_ | refine dt (by assumption) ?_ | refine df (by assumption) ?_ | refine ct rfl ?_ | refine cf (by decide) ?_ | refine dt rfl ?_ | refine df (by decide) ?_)
  unfold w_X5_change w_X5_change_E
  rw [nI_c (by omega : a ≤ 1000000000), nI_c (by omega : b ≤ 1000000000), e46]
  refine ⟨vin ha (by decide), by omega, vin hb (by decide), fun x4 e4 σ1 t1 => ?_⟩
  have mm : ∀ (Q : Int32 → MS → Prop) (s : MS), ZS A s → (∀ s2, (∀ k j, k ≠ 68 → k ≠ 69 → ¬ (k = 66 ∧ j = 27) → s2 k j = s k j) → s2 66 27 = 0 → (∀ x y, x < 10 → y < 10 → s2 68 (10 * x + y) = up2 (aMi A) a b x3 x y) → AGm (fwM (up2 (aMi A) a b x3) 10) s2 → Q (aMi A a b) s2) → w_X9_minutes (nI a) (nI b) x3 s Q := by
    intro Q s hZ hQ
    have e68 := hZ.2.2.2.2.2.2.1 a b ha hb
    unfold w_X9_minutes w_X9_minutes_E
    repeat (first | refine ct (by assumption) ?_ | refine cf (by assumption) ?_ | refine dt (by assumption) ?_ | refine df (by assumption) ?_ | refine ct rfl ?_ | refine cf (by decide) ?_ | refine dt rfl ?_ | refine df (by decide) ?_)
    rw [ten, nI_c (by omega : 10 * a + b ≤ 1000000000), e68]
    refine ⟨vin (by omega) (by decide), fun y4 f4 s1 u1 => ?_⟩
    have e1 : ∀ x y, x < 10 → y < 10 → s1 68 (10 * x + y) = up2 (aMi A) a b x3 x y := fun x y hx hy => by
      rw [u1]
      unfold mst up2
      by_cases z : x = a ∧ y = b
      · rw [if_pos (by omega), if_pos z]
      · rw [if_neg (by omega), if_neg z]
        exact hZ.2.2.2.2.2.2.1 x y hx hy
    refine measure_ok e1 (fun s2 g1 g2 g3 => ?_)
    rw [f4]
    refine hQ s2 (fun k j h1 h2 h3 => ?_) g2 (fun x y hx hy => by rw [g1 _ _ (by omega) (by omega)]; exact e1 x y hx hy) g3
    rw [g1 k j h2 h3, u1]
    unfold mst
    rw [if_neg (by omega)]
  refine ⟨fun z => ?_, fun z => ?_⟩
  · refine ct z ?_
    have z2 : aMi A a b = x3 := e4.symm.trans z
    have eu : up2 (aMi A) a b x3 = aMi A := by
      funext x y
      unfold up2
      by_cases y2 : x = a ∧ y = b
      · rw [if_pos y2, y2.1, y2.2, z2]
      · rw [if_neg y2]
    have es : ∀ k j, σ1 k j = σ k j := fun k j => by
      rw [t1]
      unfold mst
      by_cases y2 : k = 46 + a ∧ j = b
      · rw [if_pos y2, y2.1, y2.2, e46, z2]
      · rw [if_neg y2]
    refine mm _ σ1 (h.2.2.m (fun k j _ => es k j)) (fun s2 g1 g2 g3 g4 => ?_)
    rw [e4]
    rw [eu] at g3 g4
    exact hK _ A s2 ⟨h.1, h.2.1.m (fun k j hk => (g1 k j (by omega) (by omega) (by omega)).trans (es k j)), minM0 h.1 (h.2.2.m (fun k j _ => es k j)) (fun k j _ h2 h3 h4 => g1 k j h2 h3 h4) g3 g4 g2⟩
  · have e1 : ∀ x y, x < 10 → y < 10 → σ1 (46 + x) y = up2 (aMi A) a b x3 x y := fun x y hx hy => by
      rw [t1]
      unfold mst up2
      by_cases z : x = a ∧ y = b
      · rw [if_pos (by omega), if_pos z]
      · rw [if_neg (by omega), if_neg z]
        exact h.2.1.2.2.2.2.2.2.1 x y hx hy
    refine renew_ok e1 (fun σ2 g1 g2 => ?_)
    refine cf z ?_
    refine forget_ok (m := 0) (by decide) (fun σ3 f1 f2 => ?_)
    have keep : ∀ k j, k ≠ 28 → ¬ (46 ≤ k ∧ k < 66) → σ3 k j = σ k j := fun k j h1 h2 => by
      rw [f1 k j h1, g1 k j (by omega), t1]
      unfold mst
      rw [if_neg (by omega)]
    have hC : CS (aM A (up2 (aMi A) a b x3)) σ3 := minC h.2.1 (fun k j _ h1 h2 => keep k j h1 h2) (fun x y hx hy => by rw [f1 _ _ (by omega), g1 _ _ (by omega)]; exact e1 x y hx hy) (fun x y hx hy => by rw [f1 _ _ (by omega)]; exact g2 x y hx hy) (fun S hS => by rw [f2 S hS, if_pos (Nat.and_zero S)])
    have hZ := h.2.2.m (fun k j hk => keep k j (by omega) (by omega))
    refine mm _ σ3 hZ (fun s2 u1 u2 u3 u4 => ?_)
    rw [e4]
    exact hK _ (aM A (up2 (aMi A) a b x3)) s2 ⟨okM' h.1 bd, hC.m (fun k j hk => u1 k j (by omega) (by omega) (by omega)), minM hZ (fun k j _ h2 h3 h4 => u1 k j h2 h3 h4) u3 u4 u2⟩
