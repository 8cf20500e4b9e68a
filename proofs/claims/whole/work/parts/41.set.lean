/-! ===== times, bar, away, broken, person ===== -/
theorem and2 {S p : Nat} : S &&& 2 ^ p = 2 ^ p ↔ S.testBit p = true := by
  constructor
  · intro h
    have := congrArg (fun x => x.testBit p) h
    simp only [Nat.testBit_and, Nat.testBit_two_pow_self, Bool.and_true] at this
    exact this
  · intro h
    apply Nat.eq_of_testBit_eq
    intro i
    rw [Nat.testBit_and, Nat.testBit_two_pow]
    by_cases e : p = i
    · subst e
      simp [h]
    · simp [e]
theorem CS.x {A : AA} {X' : XX} {aw' : Nat → Nat} {σ σ' : MS} (c : CS A σ) (cx : CX X' σ') (ca : CA aw' σ') (ck : CK X' σ') (ho : ∀ k j, k < 66 → ¬ (k = 4 ∨ k = 28 ∨ k = 29 ∨ (37 ≤ k ∧ k < 46 ∧ j ≠ 10)) → σ' k j = σ k j) : CS (X', aw', A.2.2) σ' := by
  obtain ⟨c1, c2, c3, c4, c5, c6, c7, c8, c9, c10⟩ := c
  refine ⟨cx, ca, ck, fun p hp => by rw [ho (37 + p) 10 (by omega) (by omega)]; exact c4 p hp, fun k hk => by rw [ho 12 k (by omega) (by omega)]; exact c5 k hk, by rw [ho 0 7 (by omega) (by omega)]; exact c6, fun a b ha hb => by rw [ho (46 + a) b (by omega) (by omega)]; exact c7 a b ha hb, by rw [ho 11 0 (by omega) (by omega)]; exact c8, by rw [ho 11 1 (by omega) (by omega)]; exact c9, fun p hp => ?_⟩
  rw [ho 32 p (by omega) (by omega), ho 33 p (by omega) (by omega), ho 34 p (by omega) (by omega), ho 35 p (by omega) (by omega), ho 36 p (by omega) (by omega)]
  exact c10 p hp
theorem ZS.x {A : AA} {X' : XX} {aw' : Nat → Nat} {σ σ' : MS} (c : ZS A σ) (cx : MX X' σ') (ca : MA aw' σ') (ck : σ' 66 27 = 0) (ho : ∀ k j, 66 ≤ k → ¬ ((70 ≤ k ∧ k ≤ 77) ∨ k = 79 ∨ k = 80 ∨ (k = 66 ∧ (j = 3 ∨ j = 27))) → σ' k j = σ k j) : ZS (X', aw', A.2.2) σ' := by
  obtain ⟨c1, c2, c3, c4, c5, c6, c7, c8, c9, c10⟩ := c
  refine ⟨cx, ca, Or.inl ck, fun p hp => by rw [ho 78 p (by omega) (by omega)]; exact c4 p hp, fun k hk => by rw [ho 67 k (by omega) (by omega)]; exact c5 k hk, by rw [ho 66 4 (by omega) (by omega)]; exact c6, fun a b ha hb => by rw [ho 68 _ (by omega) (by omega)]; exact c7 a b ha hb, by rw [ho 66 36 (by omega) (by omega)]; exact c8, by rw [ho 66 37 (by omega) (by omega)]; exact c9, fun p hp => ?_⟩
  rw [ho 97 p (by omega) (by omega), ho 98 p (by omega) (by omega), ho 99 p (by omega) (by omega), ho 100 p (by omega) (by omega), ho 101 p (by omega) (by omega)]
  exact c10 p hp
theorem CK_f {X X' : XX} {σ σ' : MS} {m : Nat} (hK : CK X σ) (hf : ∀ S, S < 512 → σ' 28 S = if S &&& m = m then -1 else σ 28 S) (h29 : ∀ S, σ' 29 S = σ 29 S) (hn : xn X' = xn X) (hag : ∀ S, S < 512 → ¬ S &&& m = m → ag X X' S) : CK X' σ' := by
  intro S hS
  rw [hf S hS, h29 S]
  by_cases e : S &&& m = m
  · rw [if_pos e]
    exact Or.inl rfl
  · rw [if_neg e]
    rcases hK S hS with g | ⟨g1, g2⟩
    · exact Or.inl g
    · refine Or.inr ⟨?_, ?_⟩
      · unfold okS at g1 ⊢
        rw [hn]
        exact g1
      · rw [← cost_c (hag S hS e)]
        exact g2
def xT (X : XX) (p : Nat) (e l : Int) : XX := ((X.1.1, X.1.2.1, X.1.2.2.1, va_up (de X.1) p e, va_up (da X.1) p l, dg X.1), X.2)
theorem timesC {A : AA} {σ σ' : MS} (c : CS A σ) {p e l : Nat} (hp : p < 9) (hk : ∀ k j, k < 66 → k ≠ 28 → ¬ (k = 37 + p ∧ (j = 3 ∨ j = 4)) → σ' k j = σ k j) (h3 : σ' (37 + p) 3 = nI e) (h4 : σ' (37 + p) 4 = nI l) (h28 : ∀ S, S < 512 → σ' 28 S = if S &&& 2 ^ p = 2 ^ p then -1 else σ 28 S) : CS (xT (aX A) p e l, A.2) σ' := by
  refine CS.x (A := A) (aw' := aW A) (σ := σ) c ?_ ?_ ?_ (fun k j h1 h2 => hk k j h1 (by omega) (by omega))
  · obtain ⟨d1, d2, d3⟩ := c.1
    refine ⟨by rw [hk 4 1 (by omega) (by omega) (by omega)]; exact d1, fun q hq => ?_, fun a b ha hb => by rw [hk _ _ (by omega) (by omega) (by omega)]; exact d3 a b ha hb⟩
    have d := d2 q hq
    rw [hk (37 + q) 0 (by omega) (by omega) (by omega), hk (37 + q) 1 (by omega) (by omega) (by omega), hk (37 + q) 2 (by omega) (by omega) (by omega), hk (37 + q) 5 (by omega) (by omega) (by omega), hk (37 + q) 6 (by omega) (by omega) (by omega), hk (37 + q) 8 (by omega) (by omega) (by omega), hk (37 + q) 9 (by omega) (by omega) (by omega)]
    refine ⟨d.1, d.2.1, d.2.2.1, ?_, ?_, d.2.2.2.2.2.1, d.2.2.2.2.2.2.1, d.2.2.2.2.2.2.2.1, d.2.2.2.2.2.2.2.2⟩
    · show _ = iI (va_up (de (aX A).1) p e q)
      by_cases z : q = p
      · subst z
        rw [h3, up_s, iI_n]
      · rw [up_n z, hk (37 + q) 3 (by omega) (by omega) (by omega)]
        exact d.2.2.2.1
    · show _ = iI (va_up (da (aX A).1) p l q)
      by_cases z : q = p
      · subst z
        rw [h4, up_s, iI_n]
      · rw [up_n z, hk (37 + q) 4 (by omega) (by omega) (by omega)]
        exact d.2.2.2.2.1
  · exact c.2.1.fr (fun q _ => hk _ _ (by omega) (by omega) (by omega))
  · refine CK_f c.2.2.1 h28 (fun S => hk _ _ (by omega) (by omega) (by omega)) rfl (fun S hS hm => ?_)
    have hne : ∀ q, S.testBit q = true → q ≠ p := fun q hq e => hm (and2.mpr (e ▸ hq))
    exact ⟨⟨rfl, fun q hq => ⟨rfl, rfl, (up_n (hne q (rmD_mem.mp hq).2)).symm, (up_n (hne q (rmD_mem.mp hq).2)).symm, rfl⟩⟩, fun q _ _ => ⟨rfl, rfl, rfl, rfl⟩⟩
theorem timesM {A : AA} {σ σ' : MS} (c : ZS A σ) {p e l : Nat} (hp : p < 9) (hk : ∀ k j, 66 ≤ k → ¬ (k = 66 ∧ j = 27) → ¬ ((k = 73 ∨ k = 74) ∧ j = p) → σ' k j = σ k j) (h3 : σ' 73 p = nI e) (h4 : σ' 74 p = nI l) (h27 : σ' 66 27 = 0) : ZS (xT (aX A) p e l, A.2) σ' := by
  refine ZS.x (A := A) (aw' := aW A) (σ := σ) c ?_ ?_ h27 (fun k j h1 h2 => hk k j h1 (by omega) (by omega))
  · obtain ⟨⟨d0, d1, d2, d3⟩, d4⟩ := c.1
    refine ⟨⟨d0, by rw [hk 66 3 (by omega) (by omega) (by omega)]; exact d1, fun q hq => ?_, fun a b ha hb => by rw [hk _ _ (by omega) (by omega) (by omega)]; exact d3 a b ha hb⟩, fun q hq => ?_⟩
    · have d := d2 q hq
      rw [hk 71 q (by omega) (by omega) (by omega), hk 72 q (by omega) (by omega) (by omega), hk 75 q (by omega) (by omega) (by omega)]
      refine ⟨d.1, d.2.1, ?_, ?_, d.2.2.2.2⟩
      · show _ = iI (va_up (de (aX A).1) p e q)
        by_cases z : q = p
        · subst z
          rw [h3, up_s, iI_n]
        · rw [up_n z, hk 73 q (by omega) (by omega) (by omega)]
          exact d.2.2.1
      · show _ = iI (va_up (da (aX A).1) p l q)
        by_cases z : q = p
        · subst z
          rw [h4, up_s, iI_n]
        · rw [up_n z, hk 74 q (by omega) (by omega) (by omega)]
          exact d.2.2.2.1
    · have d := d4 q hq
      rw [hk 70 q (by omega) (by omega) (by omega), hk 76 q (by omega) (by omega) (by omega), hk 80 q (by omega) (by omega) (by omega), hk 77 q (by omega) (by omega) (by omega)]
      exact d
  · exact c.2.1.fr (fun q _ => hk _ _ (by omega) (by omega) (by omega))
theorem okT {A : AA} (h : okA A) {p e l : Nat} (he : e ≤ 1440) (hl : l ≤ 1440) : okA (xT (aX A) p e l, A.2) := by
  obtain ⟨⟨⟨h1, h2⟩, h3, h4⟩, h5⟩ := h
  refine ⟨⟨⟨h1, fun q hq => ?_⟩, h3, h4⟩, h5⟩
  have d := h2 q hq
  refine ⟨d.1, d.2.1, ?_, ?_, d.2.2.2.2⟩
  · show 0 ≤ va_up (de (aX A).1) p e q ∧ va_up (de (aX A).1) p e q ≤ 1440
    by_cases z : q = p
    · subst z
      rw [up_s]
      omega
    · rw [up_n z]
      exact d.2.2.1
  · show 0 ≤ va_up (da (aX A).1) p l q ∧ va_up (da (aX A).1) p l q ≤ 1440
    by_cases z : q = p
    · subst z
      rw [up_s]
      omega
    · rw [up_n z]
      exact d.2.2.2.1
theorem day {x : Int32} (h0 : ¬ x < 0) (h1 : ¬ 1440 < x) : ∃ a : Nat, a ≤ 1440 ∧ x = nI a := by
  obtain ⟨j, hj, rfl⟩ := nI_of h0
  refine ⟨j, ?_, rfl⟩
  rcases Nat.lt_or_ge 1440 j with q | q
  · exact absurd (nI_lt q hj) h1
  · exact q
theorem n0l {x : Int32} (h : 0 ≤ x) : ¬ x < 0 := by
  rw [Int32.lt_iff_toInt_lt]
  rw [Int32.le_iff_toInt_le] at h
  omega
theorem nltl {x y : Int32} (h : x ≤ y) : ¬ y < x := by
  rw [Int32.lt_iff_toInt_lt]
  rw [Int32.le_iff_toInt_le] at h
  omega
theorem prC {A : AA} {σ : MS} (h : Rel A σ) (x : Int32) {Q : Int32 → MS → Prop} (h0 : (¬ ∃ p, p < xn (aX A) ∧ x = nI p) → Q 0 σ) (h1 : ∀ p, p < xn (aX A) → p < 9 → x = nI p → Q 1 σ) : w_X2_has x σ Q := w_has h.1.1 h.2.1.1 x h0 (fun p hp e => h1 p hp (Nat.lt_of_lt_of_le hp h.1.1.2.1) e)
theorem prM1 {A : AA} {σ : MS} (h : Rel A σ) {σ1 : MS} (hm : SmM σ σ1) {p : Nat} (hp : p < xn (aX A)) {Q : Int32 → MS → Prop} (hQ : Q 1 σ1) : w_X9_isPerson (nI p) σ1 Q := by
  refine w_isP h.1.1 (h.2.2.m hm).1 (nI p) (fun z => absurd ⟨p, hp, rfl⟩ z) (fun q _ _ => hQ)
theorem prM0 {A : AA} {σ : MS} (h : Rel A σ) {σ1 : MS} (hm : SmM σ σ1) {x : Int32} (hx : ¬ ∃ p, p < xn (aX A) ∧ x = nI p) {Q : Int32 → MS → Prop} (hQ : Q 0 σ1) : w_X9_isPerson x σ1 Q := by
  refine w_isP h.1.1 (h.2.2.m hm).1 x (fun z => hQ) (fun q hq e => absurd ⟨q, hq, e⟩ hx)
theorem L_times {A : AA} {σ : MS} (h : Rel A σ) (x1 x2 x3 : Int32) {K : Int32 → Int32 → MS → Prop} (hK : ∀ r A' σ', Rel A' σ' → K r r σ') : w_X8_times x1 x2 x3 σ (fun r1 σ1 => w_X9_times x1 x2 x3 σ1 (fun r2 σ2 => K r1 r2 σ2)) := by
  unfold w_X8_times w_X8_times_E
  refine prC h x1 (fun a => ?_) (fun p hp hp9 e => ?_)
  · repeat (first | refine ct (by assumption) ?_ | refine cf (by assumption) ?_ | refine dt (by assumption) ?_ | refine df (by assumption) ?_ | refine ct rfl ?_ | refine cf (by decide) ?_ | refine dt rfl ?_ | refine df (by decide) ?_)
    refine rfG em1 (by decide) h hK (fun σ1 hm q => ?_)
    unfold w_X9_times w_X9_times_E
    refine prM0 h hm a ?_
    repeat (first | refine ct (by assumption) ?_ | refine cf (by assumption) ?_ | refine dt (by assumption) ?_ | refine df (by assumption) ?_ | refine ct rfl ?_ | refine cf (by decide) ?_ | refine dt rfl ?_ | refine df (by decide) ?_)
    exact q
  · subst e
    repeat (first | refine ct (by assumption) ?_ | refine cf (by assumption) ?_ | refine dt (by assumption) ?_ | refine df (by assumption) ?_ | refine ct rfl ?_ | refine cf (by decide) ?_ | refine dt rfl ?_ | refine df (by decide) ?_)
    have r4 : w_X8_times_J25 (fun r1 σ1 => w_X9_times (nI p) x2 x3 σ1 (fun r2 σ2 => K r1 r2 σ2)) σ ∨ (¬ x2 < 0 ∧ 0 ≤ x3) := by
      by_cases a2 : x2 < 0
      · left
        unfold w_X8_times_J25
        refine rfG em4 (by decide) h hK (fun σ1 hm q => ?_)
        unfold w_X9_times w_X9_times_E
        refine prM1 h hm hp ?_
        repeat (first | refine ct (by assumption) ?_ | refine cf (by assumption) ?_ | refine dt (by assumption) ?_ | refine df (by assumption) ?_ | refine ct rfl ?_ | refine cf (by decide) ?_ | refine dt rfl ?_ | refine df (by decide) ?_)
        exact q
      · by_cases a3 : 0 ≤ x3
        · exact Or.inr ⟨a2, a3⟩
        · left
          unfold w_X8_times_J25
          refine rfG em4 (by decide) h hK (fun σ1 hm q => ?_)
          unfold w_X9_times w_X9_times_E
          refine prM1 h hm hp ?_
          repeat (first | refine ct (by assumption) ?_ | refine cf (by assumption) ?_ | refine dt (by assumption) ?_ | refine df (by assumption) ?_ | refine ct rfl ?_ | refine cf (by decide) ?_ | refine dt rfl ?_ | refine df (by decide) ?_)
          exact q
    have r6 : ¬ x2 < 0 → 0 ≤ x3 → (w_X8_times_J46 (fun r1 σ1 => w_X9_times (nI p) x2 x3 σ1 (fun r2 σ2 => K r1 r2 σ2)) σ ∨ (¬ 1440 < x2 ∧ x3 ≤ 1440)) := by
      intro a2 a3
      by_cases a4 : 1440 < x2
      · left
        unfold w_X8_times_J46
        refine rfG em6 (by decide) h hK (fun σ1 hm q => ?_)
        unfold w_X9_times w_X9_times_E
        refine prM1 h hm hp ?_
        repeat (first | refine ct (by assumption) ?_ | refine cf (by assumption) ?_ | refine dt (by assumption) ?_ | refine df (by assumption) ?_ | refine ct rfl ?_ | refine cf (by decide) ?_ | refine dt rfl ?_ | refine df (by decide) ?_)
        exact q
      · by_cases a5 : x3 ≤ 1440
        · exact Or.inr ⟨a4, a5⟩
        · left
          unfold w_X8_times_J46
          refine rfG em6 (by decide) h hK (fun σ1 hm q => ?_)
          unfold w_X9_times w_X9_times_E
          refine prM1 h hm hp ?_
          repeat (first | refine ct (by assumption) ?_ | refine cf (by assumption) ?_ | refine dt (by assumption) ?_ | refine df (by assumption) ?_ | refine ct rfl ?_ | refine cf (by decide) ?_ | refine dt rfl ?_ | refine df (by decide) ?_)
          exact q
    refine ⟨fun a2 => (r4.resolve_right (fun z => z.1 a2)), fun a2 => ⟨fun a3 => ⟨fun a4 => (r6 a2 a3).resolve_right (fun z => z.1 a4), fun a4 => ⟨fun a5 => ?_, fun a5 => (r6 a2 a3).resolve_right (fun z => a5 z.2)⟩⟩, fun a3 => r4.resolve_right (fun z => a3 z.2)⟩⟩
    have b2 := a2
    have b3 := a3
    have b4 := a4
    have b5 := a5
    obtain ⟨e, he, rfl⟩ := day a2 a4
    obtain ⟨l, hl, rfl⟩ := day (n0l a3) (nltl a5)
    unfold w_X2_at w_X2_at_E
    rw [nI_c (by omega : p ≤ 1000000000)]
    refine ⟨vin hp9 (by decide), by omega, fun σa ea => ⟨vin hp9 (by decide), by omega, fun σb eb => ?_⟩⟩
    rw [nI_sh (by omega)]
    have hm9 : 2 ^ p < 512 := by
      have : 2 ^ p < 2 ^ 9 := Nat.pow_lt_pow_right (by decide) hp9
      exact this
    refine forget_ok hm9 (fun σc ec1 ec2 => ?_)
    have keep : ∀ k j, k ≠ 28 → ¬ (k = 37 + p ∧ (j = 3 ∨ j = 4)) → σc k j = σ k j := fun k j h1 h2 => by
      rw [ec1 k j h1, eb, ea]
      simp only [mst]
      rw [if_neg (by omega), if_neg (by omega)]
    have hm : SmM σ σc := fun k j hk => keep k j (by omega) (by omega)
    have hC : CS (xT (aX A) p e l, A.2) σc := timesC h.2.1 hp9 (fun k j _ h1 h2 => keep k j h1 h2) (by rw [ec1 _ _ (by omega), eb, ea]; simp [mst]) (by rw [ec1 _ _ (by omega), eb, ea]; simp [mst]) (fun S hS => by rw [ec2 S hS, eb, ea]; simp only [mst]; rw [if_neg (show ¬ (28 = 37 + p ∧ S = 4) by omega), if_neg (show ¬ (28 = 37 + p ∧ S = 3) by omega)])
    have hZ := h.2.2.m hm
    unfold w_X9_times w_X9_times_E
    refine prM1 h hm hp ?_
    repeat (first | refine ct (by assumption) ?_ | refine cf (by assumption) ?_ | refine dt (by assumption) ?_ | refine df (by assumption) ?_ | refine ct rfl ?_ | refine cf (by decide) ?_ | refine dt rfl ?_ | refine df (by decide) ?_)
    rw [nI_c (by omega : p ≤ 1000000000)]
    refine ⟨vin hp9 (by decide), fun σd ed σe ee σf ef => ?_⟩
    have keep2 : ∀ k j, ¬ (k = 66 ∧ j = 27) → ¬ ((k = 73 ∨ k = 74) ∧ j = p) → σf k j = σc k j := fun k j h1 h2 => by
      rw [ef, ee, ed]
      simp only [mst]
      rw [if_neg (by omega), if_neg (by omega), if_neg (by omega)]
    refine hK _ (xT (aX A) p e l, A.2) σf ⟨okT h.1 he hl, hC.m (fun k j hk => keep2 k j (by omega) (by omega)), timesM hZ hp9 (fun k j _ h1 h2 => keep2 k j h1 h2) ?_ ?_ ?_⟩
    · rw [ef, ee, ed]
      simp [mst]
    · rw [ef, ee, ed]
      simp [mst]
    · rw [ef]
      simp [mst]
