/-! ===== broken, away, bar, person ===== -/
def xB (X : XX) (p v : Nat) : XX := (X.1, xk X, xs X, va_up (xb X) p v, xr X, xn X)
theorem up_same {α : Type} {f : Nat → α} {p : Nat} {v : α} (h : f p = v) : va_up f p v = f := by
  funext q
  by_cases z : q = p
  · subst z
    rw [up_s, h]
  · rw [up_n z]
theorem xB_same {X : XX} {p v : Nat} (h : xb X p = v) : xB X p v = X := by
  unfold xB
  rw [up_same h]
theorem brokC {A : AA} {σ σ' : MS} (c : CS A σ) {p v : Nat} (hp : p < 9) (hk : ∀ k j, k < 66 → k ≠ 28 → ¬ (k = 37 + p ∧ j = 8) → σ' k j = σ k j) (h8 : σ' (37 + p) 8 = nI v) (h28 : ∀ S, S < 512 → σ' 28 S = if S &&& 2 ^ p = 2 ^ p then -1 else σ 28 S) : CS (xB (aX A) p v, A.2) σ' := by
  refine CS.x (A := A) (aw' := aW A) (σ := σ) c ?_ ?_ ?_ (fun k j h1 h2 => hk k j h1 (by omega) (by omega))
  · obtain ⟨d1, d2, d3⟩ := c.1
    refine ⟨by rw [hk 4 1 (by omega) (by omega) (by omega)]; exact d1, fun q hq => ?_, fun a b ha hb => by rw [hk _ _ (by omega) (by omega) (by omega)]; exact d3 a b ha hb⟩
    have d := d2 q hq
    rw [hk (37 + q) 0 (by omega) (by omega) (by omega), hk (37 + q) 1 (by omega) (by omega) (by omega), hk (37 + q) 2 (by omega) (by omega) (by omega), hk (37 + q) 3 (by omega) (by omega) (by omega), hk (37 + q) 4 (by omega) (by omega) (by omega), hk (37 + q) 5 (by omega) (by omega) (by omega), hk (37 + q) 6 (by omega) (by omega) (by omega), hk (37 + q) 9 (by omega) (by omega) (by omega)]
    refine ⟨d.1, d.2.1, d.2.2.1, d.2.2.2.1, d.2.2.2.2.1, d.2.2.2.2.2.1, d.2.2.2.2.2.2.1, ?_, d.2.2.2.2.2.2.2.2⟩
    show _ = nI (va_up (xb (aX A)) p v q)
    by_cases z : q = p
    · subst z
      rw [h8, up_s]
    · rw [up_n z, hk (37 + q) 8 (by omega) (by omega) (by omega)]
      exact d.2.2.2.2.2.2.2.1
  · exact c.2.1.fr (fun q _ => hk _ _ (by omega) (by omega) (by omega))
  · refine CK_f c.2.2.1 h28 (fun S => hk _ _ (by omega) (by omega) (by omega)) rfl (fun S hS hm => ?_)
    have hne : ∀ q, S.testBit q = true → q ≠ p := fun q hq e => hm (and2.mpr (e ▸ hq))
    exact ⟨⟨rfl, fun q hq => ⟨rfl, rfl, rfl, rfl, rfl⟩⟩, fun q _ hb => ⟨rfl, rfl, (up_n (hne q hb)).symm, rfl⟩⟩
theorem brokM {A : AA} {σ σ' : MS} (c : ZS A σ) {p v : Nat} (hp : p < 9) (hk : ∀ k j, 66 ≤ k → ¬ (k = 66 ∧ j = 27) → ¬ (k = 80 ∧ j = p) → σ' k j = σ k j) (h8 : σ' 80 p = nI v) (h27 : σ' 66 27 = 0) : ZS (xB (aX A) p v, A.2) σ' := by
  refine ZS.x (A := A) (aw' := aW A) (σ := σ) c ?_ ?_ h27 (fun k j h1 h2 => hk k j h1 (by omega) (by omega))
  · obtain ⟨⟨d0, d1, d2, d3⟩, d4⟩ := c.1
    refine ⟨⟨d0, by rw [hk 66 3 (by omega) (by omega) (by omega)]; exact d1, fun q hq => ?_, fun a b ha hb => by rw [hk _ _ (by omega) (by omega) (by omega)]; exact d3 a b ha hb⟩, fun q hq => ?_⟩
    · have d := d2 q hq
      rw [hk 71 q (by omega) (by omega) (by omega), hk 72 q (by omega) (by omega) (by omega), hk 73 q (by omega) (by omega) (by omega), hk 74 q (by omega) (by omega) (by omega), hk 75 q (by omega) (by omega) (by omega)]
      exact d
    · have d := d4 q hq
      rw [hk 70 q (by omega) (by omega) (by omega), hk 76 q (by omega) (by omega) (by omega), hk 77 q (by omega) (by omega) (by omega)]
      refine ⟨d.1, d.2.1, ?_, d.2.2.2⟩
      show _ = nI (va_up (xb (aX A)) p v q)
      by_cases z : q = p
      · subst z
        rw [h8, up_s]
      · rw [up_n z, hk 80 q (by omega) (by omega) (by omega)]
        exact d.2.2.1
  · exact c.2.1.fr (fun q _ => hk _ _ (by omega) (by omega) (by omega))
theorem okB {A : AA} (h : okA A) {p v : Nat} (hv : v ≤ 1) : okA (xB (aX A) p v, A.2) := by
  obtain ⟨⟨h1, h3, h4⟩, h5⟩ := h
  refine ⟨⟨h1, h3, fun q hq => ?_⟩, h5⟩
  have d := h4 q hq
  refine ⟨d.1, d.2.1, ?_, d.2.2.2⟩
  show va_up (xb (aX A)) p v q ≤ 1
  by_cases z : q = p
  · subst z
    rw [up_s]
    exact hv
  · rw [up_n z]
    exact d.2.2.1
theorem pw9 {p : Nat} (hp : p < 9) : 2 ^ p < 512 := by
  have : 2 ^ p < 2 ^ 9 := Nat.pow_lt_pow_right (by decide) hp
  exact this
theorem setB_ok {A : AA} {σ : MS} (hA : okA A) (c : CS A σ) {p v : Nat} (hp : p < 9) (hv : v ≤ 1) {Q : Int32 → MS → Prop} (h0 : xb (aX A) p = v → Q 0 σ) (h1 : xb (aX A) p ≠ v → ∀ σ', CS (xB (aX A) p v, A.2) σ' → SmM σ σ' → Q 1 σ') : w_X8_setBroken (nI p) (nI v) σ Q := by
  have d := c.1.2.1 p hp
  have o := hA.1.2.2 p hp
  unfold w_X8_setBroken w_X8_setBroken_E w_X2_at w_X2_at_E
  rw [nI_c (by omega : p ≤ 1000000000)]
  dsimp only
  rw [d.2.2.2.2.2.2.2.1]
  refine ⟨vin hp (by decide), by omega, fun z => ⟨vin hp (by decide), by omega, ?_, fun σa ea => ?_⟩, fun z => h0 ((nI_eq (by omega) (by omega)).mp z)⟩
  · rcases (by omega : v = 0 ∨ v = 1) with e | e
    · subst e
      exact Or.inl rfl
    · subst e
      exact Or.inr rfl
  · rw [nI_sh (by omega)]
    refine forget_ok (pw9 hp) (fun σc ec1 ec2 => ?_)
    have keep : ∀ k j, k ≠ 28 → ¬ (k = 37 + p ∧ j = 8) → σc k j = σ k j := fun k j h1 h2 => by
      rw [ec1 k j h1, ea]
      simp only [mst]
      rw [if_neg (by omega)]
    exact h1 (fun e => z (by rw [e])) σc (brokC c hp (fun k j _ h1 h2 => keep k j h1 h2) (by rw [ec1 _ _ (by omega), ea]; simp [mst]) (fun S hS => by rw [ec2 S hS, ea]; simp only [mst]; rw [if_neg (show ¬ (28 = 37 + p ∧ S = 8) by omega)])) (fun k j hk => keep k j (by omega) (by omega))
theorem zb_n {x : Int32} (h : zb x) : ∃ v, v ≤ 1 ∧ x = nI v := by
  rcases h with e | e
  · exact ⟨0, by omega, e⟩
  · exact ⟨1, by omega, e⟩
theorem n_zb {v : Nat} (h : v ≤ 1) : zb (nI v) := by
  rcases (by omega : v = 0 ∨ v = 1) with e | e
  · subst e
    exact Or.inl rfl
  · subst e
    exact Or.inr rfl
theorem L_broken {A : AA} {σ : MS} (h : Rel A σ) (x1 x2 : Int32) (hz : zb x2) {K : Int32 → Int32 → MS → Prop} (hK : ∀ r A' σ', Rel A' σ' → K r r σ') : w_X8_broken x1 x2 σ (fun r1 σ1 => w_X9_broken x1 x2 σ1 (fun r2 σ2 => K r1 r2 σ2)) := by
  unfold w_X8_broken w_X8_broken_E
  obtain ⟨v, hv, rfl⟩ := zb_n hz
  refine prC h x1 (fun a => ?_) (fun p hp hp9 e => ?_)
  · repeat (first | refine ct (by assumption) ?_ | refine cf (by assumption) ?_ | refine dt (by assumption) ?_ | refine df (by assumption) ?_ | refine ct rfl ?_ | refine cf (by decide) ?_ | refine dt rfl ?_ | refine df (by decide) ?_)
    refine rfG em1 (by decide) h hK (fun σ1 hm q => ?_)
    unfold w_X9_broken w_X9_broken_E
    refine prM0 h hm a ?_
    repeat (first | refine ct (by assumption) ?_ | refine cf (by assumption) ?_ | refine dt (by assumption) ?_ | refine df (by assumption) ?_ | refine ct rfl ?_ | refine cf (by decide) ?_ | refine dt rfl ?_ | refine df (by decide) ?_)
    exact q
  · subst e
    repeat (first | refine ct (by assumption) ?_ | refine cf (by assumption) ?_ | refine dt (by assumption) ?_ | refine df (by assumption) ?_ | refine ct rfl ?_ | refine cf (by decide) ?_ | refine dt rfl ?_ | refine df (by decide) ?_)
    have o := h.1.1.2.2 p hp9
    refine setB_ok h.1 h.2.1 hp9 hv (fun e => ?_) (fun e σ1 hC hm => ?_)
    · repeat (first | refine ct (by assumption) ?_ | refine cf (by assumption) ?_ | refine dt (by assumption) ?_ | refine df (by assumption) ?_ | refine ct rfl ?_ | refine cf (by decide) ?_ | refine dt rfl ?_ | refine df (by decide) ?_)
      unfold w_X9_broken w_X9_broken_E
      refine prM1 h SmM.rf hp ?_
      repeat (first | refine ct (by assumption) ?_ | refine cf (by assumption) ?_ | refine dt (by assumption) ?_ | refine df (by assumption) ?_ | refine ct rfl ?_ | refine cf (by decide) ?_ | refine dt rfl ?_ | refine df (by decide) ?_)
      have d := h.2.2.1.2 p hp9
      rw [nI_c (by omega : p ≤ 1000000000), d.2.2.1]
      exact ⟨vin hp9 (by decide), dt (by rw [e]) (hK _ A σ h)⟩
    · repeat (first | refine ct (by assumption) ?_ | refine cf (by assumption) ?_ | refine dt (by assumption) ?_ | refine df (by assumption) ?_ | refine ct rfl ?_ | refine cf (by decide) ?_ | refine dt rfl ?_ | refine df (by decide) ?_)
      unfold w_X9_broken w_X9_broken_E
      refine prM1 h hm hp ?_
      repeat (first | refine ct (by assumption) ?_ | refine cf (by assumption) ?_ | refine dt (by assumption) ?_ | refine df (by assumption) ?_ | refine ct rfl ?_ | refine cf (by decide) ?_ | refine dt rfl ?_ | refine df (by decide) ?_)
      have hZ := h.2.2.m hm
      have d := hZ.1.2 p hp9
      rw [nI_c (by omega : p ≤ 1000000000), d.2.2.1]
      refine ⟨vin hp9 (by decide), df (fun z => e ((nI_eq (by omega) (by omega)).mp z)) ⟨n_zb hv, fun σd ed σf ef => ?_⟩⟩
      have keep2 : ∀ k j, ¬ (k = 66 ∧ j = 27) → ¬ (k = 80 ∧ j = p) → σf k j = σ1 k j := fun k j h1 h2 => by
        rw [ef, ed]
        simp only [mst]
        rw [if_neg (by omega), if_neg (by omega)]
      refine hK _ (xB (aX A) p v, A.2) σf ⟨okB h.1 hv, hC.m (fun k j hk => keep2 k j (by omega) (by omega)), brokM hZ hp9 (fun k j _ h1 h2 => keep2 k j h1 h2) ?_ ?_⟩
      · rw [ef, ed]
        simp [mst]
      · rw [ef]
        simp [mst]
theorem L_away {A : AA} {σ : MS} (h : Rel A σ) (x1 x2 : Int32) (hz : zb x2) {K : Int32 → Int32 → MS → Prop} (hK : ∀ r A' σ', Rel A' σ' → K r r σ') : w_X8_away x1 x2 σ (fun r1 σ1 => w_X9_away x1 x2 σ1 (fun r2 σ2 => K r1 r2 σ2)) := by
  unfold w_X8_away w_X8_away_E
  obtain ⟨v, hv, rfl⟩ := zb_n hz
  refine prC h x1 (fun a => ?_) (fun p hp hp9 e => ?_)
  · repeat (first | refine ct (by assumption) ?_ | refine cf (by assumption) ?_ | refine dt (by assumption) ?_ | refine df (by assumption) ?_ | refine ct rfl ?_ | refine cf (by decide) ?_ | refine dt rfl ?_ | refine df (by decide) ?_)
    refine rfG em1 (by decide) h hK (fun σ1 hm q => ?_)
    unfold w_X9_away w_X9_away_E
    refine prM0 h hm a ?_
    repeat (first | refine ct (by assumption) ?_ | refine cf (by assumption) ?_ | refine dt (by assumption) ?_ | refine df (by assumption) ?_ | refine ct rfl ?_ | refine cf (by decide) ?_ | refine dt rfl ?_ | refine df (by decide) ?_)
    exact q
  · subst e
    repeat (first | refine ct (by assumption) ?_ | refine cf (by assumption) ?_ | refine dt (by assumption) ?_ | refine df (by assumption) ?_ | refine ct rfl ?_ | refine cf (by decide) ?_ | refine dt rfl ?_ | refine df (by decide) ?_)
    have o := h.2.1.2.1 p hp9
    unfold w_X2_at w_X2_at_E
    rw [nI_c (by omega : p ≤ 1000000000)]
    dsimp only
    rw [o.2]
    refine ⟨vin hp9 (by decide), by omega, fun z => ⟨vin hp9 (by decide), by omega, hz, fun σ1 e1 => ?_⟩, fun z => ?_⟩
    · have keep : ∀ k j, ¬ (k = 37 + p ∧ j = 7) → σ1 k j = σ k j := fun k j h1 => by
        rw [e1]
        simp only [mst]
        rw [if_neg h1]
      have hm : SmM σ σ1 := fun k j hk => keep k j (by omega)
      have hC : CS (aX A, va_up (aW A) p v, A.2.2) σ1 := by
        refine CS.x h.2.1 ?_ ?_ ?_ (fun k j h1 h2 => keep k j (by omega))
        · obtain ⟨d1, d2, d3⟩ := h.2.1.1
          refine ⟨by rw [keep 4 1 (by omega)]; exact d1, fun q hq => ?_, fun a b ha hb => by rw [keep _ _ (by omega)]; exact d3 a b ha hb⟩
          have d := d2 q hq
          rw [keep (37 + q) 0 (by omega), keep (37 + q) 1 (by omega), keep (37 + q) 2 (by omega), keep (37 + q) 3 (by omega), keep (37 + q) 4 (by omega), keep (37 + q) 5 (by omega), keep (37 + q) 6 (by omega), keep (37 + q) 8 (by omega), keep (37 + q) 9 (by omega)]
          exact d
        · intro q hq
          by_cases z : q = p
          · subst z
            rw [up_s, e1]
            exact ⟨hv, by simp [mst]⟩
          · rw [up_n z, keep (37 + q) 7 (by omega)]
            exact h.2.1.2.1 q hq
        · intro S hS
          rw [keep 28 S (by omega), keep 29 S (by omega)]
          exact h.2.1.2.2.1 S hS
      have hZ := h.2.2.m hm
      unfold w_X9_away w_X9_away_E
      refine prM1 h hm hp ?_
      repeat (first | refine ct (by assumption) ?_ | refine cf (by assumption) ?_ | refine dt (by assumption) ?_ | refine df (by assumption) ?_ | refine ct rfl ?_ | refine cf (by decide) ?_ | refine dt rfl ?_ | refine df (by decide) ?_)
      have d := hZ.2.1 p hp9
      rw [nI_c (by omega : p ≤ 1000000000), d.2]
      refine ⟨vin hp9 (by decide), df z ⟨n_zb hv, fun σd ed σf ef => ?_⟩⟩
      have keep2 : ∀ k j, ¬ (k = 66 ∧ j = 27) → ¬ (k = 79 ∧ j = p) → σf k j = σ1 k j := fun k j h1 h2 => by
        rw [ef, ed]
        simp only [mst]
        rw [if_neg (by omega), if_neg (by omega)]
      refine hK _ (aX A, va_up (aW A) p v, A.2.2) σf ⟨h.1, hC.m (fun k j hk => keep2 k j (by omega) (by omega)), ZS.x hZ ?_ ?_ ?_ (fun k j h1 h2 => keep2 k j (by omega) (by omega))⟩
      · obtain ⟨⟨d0, d1, d2, d3⟩, d4⟩ := hZ.1
        refine ⟨⟨d0, by rw [keep2 66 3 (by omega) (by omega)]; exact d1, fun q hq => ?_, fun a b ha hb => by rw [keep2 _ _ (by omega) (by omega)]; exact d3 a b ha hb⟩, fun q hq => ?_⟩
        · rw [keep2 71 q (by omega) (by omega), keep2 72 q (by omega) (by omega), keep2 73 q (by omega) (by omega), keep2 74 q (by omega) (by omega), keep2 75 q (by omega) (by omega)]
          exact d2 q hq
        · rw [keep2 70 q (by omega) (by omega), keep2 76 q (by omega) (by omega), keep2 80 q (by omega) (by omega), keep2 77 q (by omega) (by omega)]
          exact d4 q hq
      · intro q hq
        by_cases z : q = p
        · subst z
          rw [up_s, ef, ed]
          exact ⟨hv, by simp [mst]⟩
        · rw [up_n z, keep2 79 q (by omega) (by omega)]
          exact hZ.2.1 q hq
      · rw [ef]
        simp [mst]
    · unfold w_X9_away w_X9_away_E
      refine prM1 h SmM.rf hp ?_
      repeat (first | refine ct (by assumption) ?_ | refine cf (by assumption) ?_ | refine dt (by assumption) ?_ | refine df (by assumption) ?_ | refine ct rfl ?_ | refine cf (by decide) ?_ | refine dt rfl ?_ | refine df (by decide) ?_)
      have d := h.2.2.2.1 p hp9
      rw [nI_c (by omega : p ≤ 1000000000), d.2]
      exact ⟨vin hp9 (by decide), dt z (hK _ A σ h)⟩
