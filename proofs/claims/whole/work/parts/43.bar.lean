/-! ===== bar, person ===== -/
def xR (X : XX) (p q : Nat) : XX := (X.1, xk X, xs X, xb X, va_up (va_up (xr X) p (xr X p ^^^ 2 ^ q)) q (xr X q ^^^ 2 ^ p), xn X)
theorem xR_p {X : XX} {p q : Nat} (h : p ≠ q) : xr (xR X p q) p = xr X p ^^^ 2 ^ q := by
  show va_up (va_up (xr X) p (xr X p ^^^ 2 ^ q)) q (xr X q ^^^ 2 ^ p) p = _
  rw [up_n h, up_s]
theorem xR_q {X : XX} {p q : Nat} : xr (xR X p q) q = xr X q ^^^ 2 ^ p := by
  show va_up (va_up (xr X) p (xr X p ^^^ 2 ^ q)) q (xr X q ^^^ 2 ^ p) q = _
  rw [up_s]
theorem xR_n {X : XX} {p q r : Nat} (h1 : r ≠ p) (h2 : r ≠ q) : xr (xR X p q) r = xr X r := by
  show va_up (va_up (xr X) p (xr X p ^^^ 2 ^ q)) q (xr X q ^^^ 2 ^ p) r = _
  rw [up_n h2, up_n h1]
theorem xor_off {a q S : Nat} (h : S.testBit q = false) : (a ^^^ 2 ^ q) &&& S = a &&& S := by
  apply Nat.eq_of_testBit_eq
  intro i
  rw [Nat.testBit_and, Nat.testBit_and, Nat.testBit_xor, Nat.testBit_two_pow]
  by_cases e : q = i
  · subst e
    simp [h]
  · simp [e]
theorem barC {A : AA} {σ σ' : MS} (c : CS A σ) {p q : Nat} (hp : p < 9) (hq : q < 9) (hpq : p ≠ q) (hk : ∀ k j, k < 66 → k ≠ 28 → ¬ ((k = 37 + p ∨ k = 37 + q) ∧ j = 9) → σ' k j = σ k j) (h1 : σ' (37 + p) 9 = nI (xr (aX A) p ^^^ 2 ^ q)) (h2 : σ' (37 + q) 9 = nI (xr (aX A) q ^^^ 2 ^ p)) (h28 : ∀ S, S < 512 → σ' 28 S = if S &&& (2 ^ p ||| 2 ^ q) = (2 ^ p ||| 2 ^ q) then -1 else σ 28 S) : CS (xR (aX A) p q, A.2) σ' := by
  refine CS.x (A := A) (aw' := aW A) (σ := σ) c ?_ ?_ ?_ (fun k j h1 h2 => hk k j h1 (by omega) (by omega))
  · obtain ⟨d1, d2, d3⟩ := c.1
    refine ⟨by rw [hk 4 1 (by omega) (by omega) (by omega)]; exact d1, fun r hr => ?_, fun a b ha hb => by rw [hk _ _ (by omega) (by omega) (by omega)]; exact d3 a b ha hb⟩
    have d := d2 r hr
    rw [hk (37 + r) 0 (by omega) (by omega) (by omega), hk (37 + r) 1 (by omega) (by omega) (by omega), hk (37 + r) 2 (by omega) (by omega) (by omega), hk (37 + r) 3 (by omega) (by omega) (by omega), hk (37 + r) 4 (by omega) (by omega) (by omega), hk (37 + r) 5 (by omega) (by omega) (by omega), hk (37 + r) 6 (by omega) (by omega) (by omega), hk (37 + r) 8 (by omega) (by omega) (by omega)]
    refine ⟨d.1, d.2.1, d.2.2.1, d.2.2.2.1, d.2.2.2.2.1, d.2.2.2.2.2.1, d.2.2.2.2.2.2.1, d.2.2.2.2.2.2.2.1, ?_⟩
    by_cases z : r = p
    · subst z
      rw [h1, xR_p hpq]
    · by_cases y : r = q
      · subst y
        rw [h2, xR_q]
      · rw [xR_n z y, hk (37 + r) 9 (by omega) (by omega) (by omega)]
        exact d.2.2.2.2.2.2.2.2
  · exact c.2.1.fr (fun q _ => hk _ _ (by omega) (by omega) (by omega))
  · refine CK_f c.2.2.1 h28 (fun S => hk _ _ (by omega) (by omega) (by omega)) rfl (fun S hS hm => ?_)
    refine ⟨⟨rfl, fun q hq => ⟨rfl, rfl, rfl, rfl, rfl⟩⟩, fun r hr hb => ⟨rfl, rfl, rfl, ?_⟩⟩
    have nb : ¬ (S.testBit p = true ∧ S.testBit q = true) := by
      rintro ⟨g1, g2⟩
      apply hm
      apply Nat.eq_of_testBit_eq
      intro i
      rw [Nat.testBit_and, Nat.testBit_or, Nat.testBit_two_pow, Nat.testBit_two_pow]
      by_cases e : p = i
      · subst e
        simp [g1]
      · by_cases e2 : q = i
        · subst e2
          simp [g2]
        · simp [e, e2]
    by_cases z : r = p
    · subst z
      rw [xR_p hpq, xor_off]
      cases hbq : S.testBit q
      · rfl
      · exact absurd ⟨hb, hbq⟩ nb
    · by_cases y : r = q
      · subst y
        rw [xR_q, xor_off]
        cases hbp : S.testBit p
        · rfl
        · exact absurd ⟨hbp, hb⟩ nb
      · rw [xR_n z y]
theorem barM {A : AA} {σ σ' : MS} (c : ZS A σ) {p q : Nat} (hp : p < 9) (hq : q < 9) (hpq : p ≠ q) (hk : ∀ k j, 66 ≤ k → ¬ (k = 66 ∧ j = 27) → ¬ (k = 77 ∧ (j = p ∨ j = q)) → σ' k j = σ k j) (h1 : σ' 77 p = nI (xr (aX A) p ^^^ 2 ^ q)) (h2 : σ' 77 q = nI (xr (aX A) q ^^^ 2 ^ p)) (h27 : σ' 66 27 = 0) : ZS (xR (aX A) p q, A.2) σ' := by
  refine ZS.x (A := A) (aw' := aW A) (σ := σ) c ?_ ?_ h27 (fun k j h1 h2 => hk k j h1 (by omega) (by omega))
  · obtain ⟨⟨d0, d1, d2, d3⟩, d4⟩ := c.1
    refine ⟨⟨d0, by rw [hk 66 3 (by omega) (by omega) (by omega)]; exact d1, fun q hq => ?_, fun a b ha hb => by rw [hk _ _ (by omega) (by omega) (by omega)]; exact d3 a b ha hb⟩, fun r hr => ?_⟩
    · have d := d2 q hq
      rw [hk 71 q (by omega) (by omega) (by omega), hk 72 q (by omega) (by omega) (by omega), hk 73 q (by omega) (by omega) (by omega), hk 74 q (by omega) (by omega) (by omega), hk 75 q (by omega) (by omega) (by omega)]
      exact d
    · have d := d4 r hr
      rw [hk 70 r (by omega) (by omega) (by omega), hk 76 r (by omega) (by omega) (by omega), hk 80 r (by omega) (by omega) (by omega)]
      refine ⟨d.1, d.2.1, d.2.2.1, ?_⟩
      by_cases z : r = p
      · subst z
        rw [h1, xR_p hpq]
      · by_cases y : r = q
        · subst y
          rw [h2, xR_q]
        · rw [xR_n z y, hk 77 r (by omega) (by omega) (by omega)]
          exact d.2.2.2
  · exact c.2.1.fr (fun q _ => hk _ _ (by omega) (by omega) (by omega))
theorem okR {A : AA} (h : okA A) {p q : Nat} (hp : p < 9) (hq : q < 9) (hpq : p ≠ q) : okA (xR (aX A) p q, A.2) := by
  obtain ⟨⟨h1, h3, h4⟩, h5⟩ := h
  refine ⟨⟨h1, h3, fun r hr => ?_⟩, h5⟩
  have d := h4 r hr
  refine ⟨d.1, d.2.1, d.2.2.1, ?_⟩
  by_cases z : r = p
  · subst z
    rw [xR_p hpq]
    exact Nat.xor_lt_two_pow (n := 9) d.2.2.2 (pw9 hq)
  · by_cases y : r = q
    · subst y
      rw [xR_q]
      exact Nat.xor_lt_two_pow (n := 9) d.2.2.2 (pw9 hp)
    · rw [xR_n z y]
      exact d.2.2.2
theorem L_bar {A : AA} {σ : MS} (h : Rel A σ) (x1 x2 x3 : Int32) (hz : zb x3) {K : Int32 → Int32 → MS → Prop} (hK : ∀ r A' σ', Rel A' σ' → K r r σ') : w_X8_bar x1 x2 x3 σ (fun r1 σ1 => w_X9_bar x1 x2 x3 σ1 (fun r2 σ2 => K r1 r2 σ2)) := by
  unfold w_X8_bar w_X8_bar_E
  refine prC h x1 (fun a => ?_) (fun p hp hp9 e => ?_)
  · repeat (first | refine ct (by assumption) ?_ | refine cf (by assumption) ?_ | refine dt (by assumption) ?_ | refine df (by assumption) ?_ | refine ct rfl ?_ | refine cf (by decide) ?_ | refine dt rfl ?_ | refine df (by decide) ?_)
    unfold w_X8_bar_J27
    refine rfG em1 (by decide) h hK (fun σ1 hm q => ?_)
    unfold w_X9_bar w_X9_bar_E
    refine prM0 h hm a ?_
    repeat (first | refine ct (by assumption) ?_ | refine cf (by assumption) ?_ | refine dt (by assumption) ?_ | refine df (by assumption) ?_ | refine ct rfl ?_ | refine cf (by decide) ?_ | refine dt rfl ?_ | refine df (by decide) ?_)
    exact q
  · subst e
    repeat (first | refine ct (by assumption) ?_ | refine cf (by assumption) ?_ | refine dt (by assumption) ?_ | refine df (by assumption) ?_ | refine ct rfl ?_ | refine cf (by decide) ?_ | refine dt rfl ?_ | refine df (by decide) ?_)
    refine prC h x2 (fun a => ?_) (fun q hq hq9 e => ?_)
    · repeat (first | refine ct (by assumption) ?_ | refine cf (by assumption) ?_ | refine dt (by assumption) ?_ | refine df (by assumption) ?_ | refine ct rfl ?_ | refine cf (by decide) ?_ | refine dt rfl ?_ | refine df (by decide) ?_)
      unfold w_X8_bar_J27
      refine rfG em1 (by decide) h hK (fun σ1 hm q => ?_)
      unfold w_X9_bar w_X9_bar_E
      refine prM1 h hm hp ?_
      repeat (first | refine ct (by assumption) ?_ | refine cf (by assumption) ?_ | refine dt (by assumption) ?_ | refine df (by assumption) ?_ | refine ct rfl ?_ | refine cf (by decide) ?_ | refine dt rfl ?_ | refine df (by decide) ?_)
      refine prM0 h hm a ?_
      repeat (first | refine ct (by assumption) ?_ | refine cf (by assumption) ?_ | refine dt (by assumption) ?_ | refine df (by assumption) ?_ | refine ct rfl ?_ | refine cf (by decide) ?_ | refine dt rfl ?_ | refine df (by decide) ?_)
      exact q
    · subst e
      repeat (first | refine ct (by assumption) ?_ | refine cf (by assumption) ?_ | refine dt (by assumption) ?_ | refine df (by assumption) ?_ | refine ct rfl ?_ | refine cf (by decide) ?_ | refine dt rfl ?_ | refine df (by decide) ?_)
      refine ⟨fun hne => ?_, fun he => ?_⟩
      · have hpq : p ≠ q := fun e => hne (by rw [e])
        have d := (h.2.1.1.2.1 p hp9).2.2.2.2.2.2.2.2
        have dq := (h.2.1.1.2.1 q hq9).2.2.2.2.2.2.2.2
        have o := (h.1.1.2.2 p hp9).2.2.2
        have oq := (h.1.1.2.2 q hq9).2.2.2
        unfold w_X2_at w_X2_at_E
        rw [nI_c (by omega : p ≤ 1000000000), nI_c (by omega : q ≤ 1000000000)]
        refine ⟨vin hp9 (by decide), by omega, ?_⟩
        rw [d]
        have same : ∀ v, nI v = x3 → v = (if (xr (aX A) p).testBit q then 1 else 0) → w_X9_bar (nI p) (nI q) x3 σ (fun r2 σ2 => K 0 r2 σ2) := by
          intro v hv ev
          unfold w_X9_bar w_X9_bar_E
          refine prM1 h SmM.rf hp ?_
          repeat (first | refine ct (by assumption) ?_ | refine cf (by assumption) ?_ | refine dt (by assumption) ?_ | refine df (by assumption) ?_ | refine ct rfl ?_ | refine cf (by decide) ?_ | refine dt rfl ?_ | refine df (by decide) ?_)
          refine prM1 h SmM.rf hq ?_
          repeat (first | refine ct (by assumption) ?_ | refine cf (by assumption) ?_ | refine dt (by assumption) ?_ | refine df (by assumption) ?_ | refine ct rfl ?_ | refine cf (by decide) ?_ | refine dt rfl ?_ | refine df (by decide) ?_)
          have dm := (h.2.2.1.2 p hp9).2.2.2
          rw [nI_c (by omega : p ≤ 1000000000), dm]
          refine ⟨vin hp9 (by decide), fun z => ?_, fun z => ?_⟩
          · rw [nI_bit1 (by omega) (by omega)] at z
            rw [if_neg z] at ev
            subst ev
            exact dt hv (hK _ A σ h)
          · rw [nI_bit1 (by omega) (by omega)] at z
            rw [if_pos z] at ev
            subst ev
            exact dt hv (hK _ A σ h)
        have diff : ∀ v, ¬ nI v = x3 → v = (if (xr (aX A) p).testBit q then 1 else 0) → ∀ σc, CS (xR (aX A) p q, A.2) σc → SmM σ σc → w_X9_bar (nI p) (nI q) x3 σc (fun r2 σ2 => K 1 r2 σ2) := by
          intro v hv ev σc hC hm
          have hZ := h.2.2.m hm
          unfold w_X9_bar w_X9_bar_E
          refine prM1 h hm hp ?_
          repeat (first | refine ct (by assumption) ?_ | refine cf (by assumption) ?_ | refine dt (by assumption) ?_ | refine df (by assumption) ?_ | refine ct rfl ?_ | refine cf (by decide) ?_ | refine dt rfl ?_ | refine df (by decide) ?_)
          refine prM1 h hm hq ?_
          repeat (first | refine ct (by assumption) ?_ | refine cf (by assumption) ?_ | refine dt (by assumption) ?_ | refine df (by assumption) ?_ | refine ct rfl ?_ | refine cf (by decide) ?_ | refine dt rfl ?_ | refine df (by decide) ?_)
          have dm := (hZ.1.2 p hp9).2.2.2
          have dmq := (hZ.1.2 q hq9).2.2.2
          have fin : w_X9_bar_J46 (fun r2 σ2 => K 1 r2 σ2) (nI p) (nI q) x3 (nI v) σc := by
            unfold w_X9_bar_J46
            refine df hv ?_
            rw [nI_c (by omega : p ≤ 1000000000), nI_c (by omega : q ≤ 1000000000), dm, nI_sh (by omega), nI_sh (by omega), nI_xor]
            refine ⟨vin hp9 (by decide), fun σd ed => ⟨vin hq9 (by decide), fun σe ee σf ef => ?_⟩⟩
            have rd : σd 77 q = nI (xr (aX A) q) := by
              rw [ed]
              simp only [mst]
              rw [if_neg (by omega)]
              exact dmq
            rw [rd, nI_xor] at ee
            have keep2 : ∀ k j, ¬ (k = 66 ∧ j = 27) → ¬ (k = 77 ∧ (j = p ∨ j = q)) → σf k j = σc k j := fun k j h1 h2 => by
              rw [ef, ee, ed]
              simp only [mst]
              rw [if_neg (by omega), if_neg (by omega), if_neg (by omega)]
            refine hK _ (xR (aX A) p q, A.2) σf ⟨okR h.1 hp9 hq9 hpq, hC.m (fun k j hk => keep2 k j (by omega) (by omega)), barM hZ hp9 hq9 hpq (fun k j _ h1 h2 => keep2 k j h1 h2) ?_ ?_ ?_⟩
            · rw [ef, ee, ed]
              simp [mst, hpq]
            · rw [ef, ee, ed]
              simp [mst]
            · rw [ef]
              simp [mst]
          rw [nI_c (by omega : p ≤ 1000000000), dm]
          refine ⟨vin hp9 (by decide), fun z => ?_, fun z => ?_⟩
          · rw [nI_bit1 (by omega) (by omega)] at z
            rw [if_neg z] at ev
            subst ev
            exact fin
          · rw [nI_bit1 (by omega) (by omega)] at z
            rw [if_pos z] at ev
            subst ev
            exact fin
        have cls : ∀ v, v = (if (xr (aX A) p).testBit q then 1 else 0) → ∀ σb, σb = mst (mst σ (37 + p) 9 (nI (xr (aX A) p ^^^ 2 ^ q))) (37 + q) 9 (nI (xr (aX A) q ^^^ 2 ^ p)) → ¬ nI v = x3 → w_X0_forgetWith (nI (2 ^ p ||| 2 ^ q)) σb (fun σ103 => w_X9_bar (nI p) (nI q) x3 σ103 (fun r2 σ2 => K 1 r2 σ2)) := by
          intro v ev σb eb hv
          refine forget_ok (Nat.or_lt_two_pow (n := 9) (pw9 hp9) (pw9 hq9)) (fun σc ec1 ec2 => ?_)
          have keep : ∀ k j, k ≠ 28 → ¬ ((k = 37 + p ∨ k = 37 + q) ∧ j = 9) → σc k j = σ k j := fun k j h1 h2 => by
            rw [ec1 k j h1, eb]
            simp only [mst]
            rw [if_neg (by omega), if_neg (by omega)]
          refine diff v hv ev σc (barC h.2.1 hp9 hq9 hpq (fun k j _ h1 h2 => keep k j h1 h2) ?_ ?_ ?_) (fun k j hk => keep k j (by omega) (by omega))
          · rw [ec1 _ _ (by omega), eb]
            simp only [mst]
            rw [if_neg (by omega)]
            simp
          · rw [ec1 _ _ (by omega), eb]
            simp [mst]
          · intro S hS
            rw [ec2 S hS, eb]
            simp only [mst]
            rw [if_neg (show ¬ (28 = 37 + q ∧ S = 9) by omega), if_neg (show ¬ (28 = 37 + p ∧ S = 9) by omega)]
        have step : ∀ v, v = (if (xr (aX A) p).testBit q then 1 else 0) → ((¬ nI v = x3 → (vp_in (nI p) 9 ∧ (37 ≤ 37 + p ∧ 37 + p < 46) ∧ ∀ σ70, σ70 = mst σ (37 + p) 9 ((σ (37 + p) 9) ^^^ ((1 : Int32) <<< (nI q &&& 31))) → (vp_in (nI q) 9 ∧ (37 ≤ 37 + q ∧ 37 + q < 46) ∧ ∀ σ89, σ89 = mst σ70 (37 + q) 9 ((σ70 (37 + q) 9) ^^^ ((1 : Int32) <<< (nI p &&& 31))) → w_X0_forgetWith (((1 : Int32) <<< (nI p &&& 31)) ||| ((1 : Int32) <<< (nI q &&& 31))) σ89 (fun σ103 => w_X9_bar (nI p) (nI q) x3 σ103 (fun r2 σ2 => K 1 r2 σ2))))) ∧ (nI v = x3 → w_X9_bar (nI p) (nI q) x3 σ (fun r2 σ2 => K 0 r2 σ2))) := by
          intro v ev
          refine ⟨fun hv => ⟨vin hp9 (by decide), by omega, fun σa ea => ⟨vin hq9 (by decide), by omega, fun σb eb => ?_⟩⟩, fun hv => same v hv ev⟩
          rw [d, nI_sh (by omega), nI_xor] at ea
          have rd : σa (37 + q) 9 = nI (xr (aX A) q) := by
            rw [ea]
            simp only [mst]
            rw [if_neg (by omega)]
            exact dq
          rw [rd, nI_sh (by omega), nI_xor, ea] at eb
          rw [nI_sh (by omega), nI_sh (by omega), nI_or]
          exact cls v ev σb eb hv
        exact w_con (by omega) (by omega) (fun hb => step 0 (by rw [if_neg (by rw [hb]; decide)])) (fun hb => step 1 (by rw [if_pos hb]))
      · unfold w_X8_bar_J27
        refine rfG em1 (by decide) h hK (fun σ1 hm z => ?_)
        unfold w_X9_bar w_X9_bar_E
        refine prM1 h hm hp ?_
        repeat (first | refine ct (by assumption) ?_ | refine cf (by assumption) ?_ | refine dt (by assumption) ?_ | refine df (by assumption) ?_ | refine ct rfl ?_ | refine cf (by decide) ?_ | refine dt rfl ?_ | refine df (by decide) ?_)
        refine prM1 h hm hq ?_
        repeat (first | refine ct (by assumption) ?_ | refine cf (by assumption) ?_ | refine dt (by assumption) ?_ | refine df (by assumption) ?_ | refine ct rfl ?_ | refine cf (by decide) ?_ | refine dt rfl ?_ | refine df (by decide) ?_)
        exact z
