/-! ===== fail: the steps ===== -/
noncomputable def fndS (A : AA) (q : Nat) : Nat → Option Nat
  | 0 => none
  | n + 1 => match fndS A q n with
    | some p => some p
    | none => if ldb (aPl A) n = true ∧ dif (aPl A n) (pres (aW A) (xn (aX A))) = 0 ∧ popc (aPl A n) < 4 ∧ whyS (aX A) (aPl A n ||| 2 ^ q) (aDv A n) = 0 then some n else none
noncomputable def joinS (A : AA) (q : Nat) : Option AA := if aW A q ≠ 0 then none else match fndS A q 9 with
  | some p => some (aPut A (aPl A p ||| 2 ^ q) (aDv A p))
  | none => if whyS (aX A) (2 ^ q) q = 0 then some (aPut A (2 ^ q) q) else none
theorem fnd_some {A : AA} {q p : Nat} : ∀ {n : Nat}, fndS A q n = some p → p < n ∧ ldb (aPl A) p = true ∧ dif (aPl A p) (pres (aW A) (xn (aX A))) = 0 ∧ popc (aPl A p) < 4 ∧ whyS (aX A) (aPl A p ||| 2 ^ q) (aDv A p) = 0
  | 0, h => by cases h
  | n + 1, h => by
    unfold fndS at h
    cases hc : fndS A q n with
    | some r =>
      rw [hc] at h
      have e : r = p := Option.some.inj h
      subst e
      have ih := fnd_some hc
      exact ⟨by omega, ih.2⟩
    | none =>
      rw [hc] at h
      dsimp only at h
      by_cases z : ldb (aPl A) n = true ∧ dif (aPl A n) (pres (aW A) (xn (aX A))) = 0 ∧ popc (aPl A n) < 4 ∧ whyS (aX A) (aPl A n ||| 2 ^ q) (aDv A n) = 0
      · rw [if_pos z] at h
        have e : n = p := Option.some.inj h
        subst e
        exact ⟨by omega, z⟩
      · rw [if_neg z] at h
        cases h
theorem fnd_up {A : AA} {q p : Nat} {n : Nat} (h : fndS A q n = some p) : ∀ k, fndS A q (n + k) = some p
  | 0 => h
  | k + 1 => by
    show (match fndS A q (n + k) with
      | some p => some p
      | none => _) = some p
    rw [fnd_up h k]
theorem fnd_n {A : AA} (ok : okA A) {q : Nat} : ∀ k, xn (aX A) + k ≤ 9 → fndS A q (xn (aX A) + k) = fndS A q (xn (aX A))
  | 0, _ => rfl
  | k + 1, h => by
    have ih := fnd_n ok (q := q) k (by omega)
    show (match fndS A q (xn (aX A) + k) with
      | some p => some p
      | none => _) = _
    rw [ih]
    cases fndS A q (xn (aX A)) with
    | some p => rfl
    | none =>
      have z := pl_n ok (p := xn (aX A) + k) (by omega) (by omega)
      exact if_neg (fun y => absurd ((ldb0 z).symm.trans y.1) (by decide))
theorem fnd9 {A : AA} (ok : okA A) {q : Nat} : fndS A q 9 = fndS A q (xn (aX A)) := by
  have hn9 := ok.1.2.1
  have := fnd_n ok (q := q) (9 - xn (aX A)) (by omega)
  rw [← this]
  congr 1
  omega
theorem nb {A : AA} (ok : okA A) {p q : Nat} (hp : p < 9) (h0 : aPl A q = 0) (hne : aPl A p ≠ 0) : (aPl A p).testBit q = false := by
  cases h : (aPl A p).testBit q
  · rfl
  · have := ((ok.2.2.2.1.2.1 p hp hne).2.2.2.2.2 q h).1
    rw [h0] at this
    exact absurd this.symm hne
theorem jset {A : AA} (ok : okA A) {p q : Nat} (hp : p < 9) (hq : q < xn (aX A)) (h0 : aPl A q = 0) (hne : aPl A p ≠ 0) (h4 : popc (aPl A p) < 4) : okS (aX A) (aPl A p ||| 2 ^ q) ∧ (aPl A p ||| 2 ^ q).testBit (aDv A p) = true := by
  have hn9 := ok.1.2.1
  have d := ok.2.2.2.1.2.1 p hp hne
  have e := popc_or1 (pl_lt ok hp) (by omega : q < 9) (nb ok hp h0 hne)
  refine ⟨⟨Nat.or_lt_two_pow d.1 (Nat.pow_lt_pow_right (by decide) hq), by omega, by omega⟩, ?_⟩
  rw [Nat.testBit_or, d.2.2.2.1]
  rfl
theorem one_s {A : AA} (ok : okA A) {q : Nat} (hq : q < xn (aX A)) : okS (aX A) (2 ^ q) ∧ (2 ^ q).testBit q = true := by
  have hn9 := ok.1.2.1
  have e := popc_or1 (S := 0) (by decide) (by omega : q < 9) (Nat.zero_testBit q)
  rw [Nat.zero_or, popc0] at e
  exact ⟨⟨Nat.pow_lt_pow_right (by decide) hq, by omega, by omega⟩, Nat.testBit_two_pow_self⟩
theorem lfb {A : AA} (ok : okA A) {z : Nat} (h : aPl A z ≠ 0) : (aLf A).testBit z = false := by
  cases hb : (aLf A).testBit z
  · rfl
  · exact absurd (ok.2.2.2.1.2.2 z hb).2 h
theorem join_ok {A B : AA} (ok : okA A) {q : Nat} (hq : q < xn (aX A)) (h0 : aPl A q = 0) (hL : (aLf A).testBit q = false) (h : joinS A q = some B) : okA B ∧ aX B = aX A ∧ aW B = aW A ∧ aLf B = aLf A ∧ aMb B = aMb A ∧ ∀ z, z ≠ q → aPl A z = 0 → aPl B z = 0 := by
  have hn9 := ok.1.2.1
  have mb : ∀ S d, aMb (aPut A S d) = aMb A := fun S d => by
    unfold aPut
    split <;> rfl
  have pz : ∀ S d z, S.testBit z = false → aPl A z = 0 → aPl (aPut A S d) z = 0 := fun S d z h1 h2 => by
    unfold aPut
    split
    · exact h2
    · show (if S.testBit z then S else aPl A z) = 0
      rw [h1]
      exact h2
  unfold joinS at h
  by_cases ha : aW A q ≠ 0
  · rw [if_pos ha] at h
    cases h
  · rw [if_neg ha] at h
    cases hf : fndS A q 9 with
    | some p =>
      rw [hf] at h
      have e : aPut A (aPl A p ||| 2 ^ q) (aDv A p) = B := Option.some.inj h
      subst e
      have g := fnd_some hf
      have hne := ldb_ne g.2.1
      have d := ok.2.2.2.1.2.1 p g.1 hne
      have js := jset ok g.1 hq h0 hne g.2.2.2.1
      refine ⟨ok_put ok js.1 js.2 (fun z hz => ?_) (fun z hz => ?_), aPut_X, aPut_W, aPut_L, mb _ _, fun z hz hz0 => pz _ _ z ?_ hz0⟩
      · rw [Nat.testBit_or, Nat.testBit_two_pow] at hz
        by_cases e : q = z
        · subst e
          exact Or.inl h0
        · rw [decide_eq_false e, Bool.or_false] at hz
          refine Or.inr (dif_0.mpr (fun i hi => ?_))
          rw [(d.2.2.2.2.2 z hz).1] at hi
          rw [Nat.testBit_or, hi]
          rfl
      · rw [Nat.testBit_or, Nat.testBit_two_pow] at hz
        by_cases e : q = z
        · subst e
          exact hL
        · rw [decide_eq_false e, Bool.or_false] at hz
          refine lfb ok ?_
          rw [(d.2.2.2.2.2 z hz).1]
          exact hne
      · rw [Nat.testBit_or, Nat.testBit_two_pow, decide_eq_false (fun e => hz e.symm), Bool.or_false]
        exact nb ok g.1 hz0 hne
    | none =>
      rw [hf] at h
      dsimp only at h
      by_cases hw : whyS (aX A) (2 ^ q) q = 0
      · rw [if_pos hw] at h
        have e : aPut A (2 ^ q) q = B := Option.some.inj h
        subst e
        have os := one_s ok hq
        refine ⟨ok_put ok os.1 os.2 (fun z hz => ?_) (fun z hz => ?_), aPut_X, aPut_W, aPut_L, mb _ _, fun z hz hz0 => pz _ _ z ?_ hz0⟩
        · rw [Nat.testBit_two_pow] at hz
          have e : q = z := of_decide_eq_true hz
          subst e
          exact Or.inl h0
        · rw [Nat.testBit_two_pow] at hz
          have e : q = z := of_decide_eq_true hz
          subst e
          exact hL
        · rw [Nat.testBit_two_pow, decide_eq_false (fun e => hz e.symm)]
      · rw [if_neg hw] at h
        cases h
theorem joinC {A : AA} {σ : MS} (ok : okA A) (c : CS A σ) {q : Nat} (hq : q < xn (aX A)) (h0 : aPl A q = 0) {Q : Int32 → MS → Prop} (hQ0 : joinS A q = none → ∀ σ', CS A σ' → SmM σ σ' → Q 0 σ') (hQ1 : ∀ B, joinS A q = some B → ∀ σ', CS B σ' → SmM σ σ' → Q 1 σ') : w_X8_findPlace (nI q) σ Q := by
  have hn9 := ok.1.2.1
  have aw := c.2.1 q (by omega)
  unfold w_X8_findPlace w_X8_findPlace_E w_X2_at w_X2_at_E
  rw [nI_c (by omega : q ≤ 1000000000)]
  dsimp only
  rw [aw.2]
  refine ⟨vin (by omega) (by decide), by omega, fun z => ?_, fun z => hQ0 ?_ σ c SmM.rf⟩
  · have a0 : aW A q = 0 := (nI_eq (b := 0) (by omega) (by omega)).mp z
    have loop : ∀ (k i n : Nat) (s : MS), i + k = 9 → k < n → fndS A q i = none → CS A s → SmM σ s → w_X8_findPlace_H18 Q n (nI q) (nI i) s := by
      intro k
      induction k with
      | zero =>
        intro i n s hi hn hf cs hm
        obtain ⟨n, rfl⟩ : ∃ z, n = z + 1 := ⟨n - 1, by omega⟩
        have e : i = 9 := by omega
        subst e
        unfold w_X8_findPlace_H18
        refine ⟨fun _ => ?_, fun z => absurd (by decide) z⟩
        unfold w_X8_findPlace_J67
        rw [nI_sh (by omega)]
        have os := one_s ok hq
        refine putC ok cs os.1 os.2 (fun hw s2 c2 hF2 => ⟨Or.inl rfl, hQ0 ?_ s2 c2 (hm.tr hF2.m)⟩) (fun hw s2 c2 hF2 => ⟨Or.inr rfl, hQ1 _ ?_ s2 c2 (hm.tr hF2.m)⟩)
        · unfold joinS
          rw [if_neg (fun y => y a0), hf]
          exact if_neg hw
        · unfold joinS
          rw [if_neg (fun y => y a0), hf]
          exact if_pos hw
      | succ k ih =>
        intro i n s hi hn hf cs hm
        obtain ⟨n, rfl⟩ : ∃ z, n = z + 1 := ⟨n - 1, by omega⟩
        have cc := cs.2.2.2.2.2.2.2.2.2 i (by omega)
        have hl := pl_lt ok (p := i) (by omega)
        have hpc := popc_le (aPl A i)
        have no : ¬ (ldb (aPl A) i = true ∧ dif (aPl A i) (pres (aW A) (xn (aX A))) = 0 ∧ popc (aPl A i) < 4 ∧ whyS (aX A) (aPl A i ||| 2 ^ q) (aDv A i) = 0) → ∀ s2, CS A s2 → SmM s s2 → w_X8_findPlace_H18 Q n (nI q) (nI (i + 1)) s2 := by
          intro hno s2 c2 hm2
          refine ih (i + 1) n s2 (by omega) (by omega) ?_ c2 (hm.tr hm2)
          show (match fndS A q i with
            | some p => some p
            | none => _) = none
          rw [hf]
          exact if_neg hno
        unfold w_X8_findPlace_H18
        rw [nI_1]
        refine ⟨fun z => absurd z (nI_ge (b := 9) (by omega) (by omega)), fun _ => ?_⟩
        unfold w_X8_isOpen w_X8_isOpen_E w_X4_poolAt w_X4_poolAt_E
        rw [nI_c (by omega : i ≤ 1000000000), cc.1]
        refine ⟨vin (by omega) (by decide), ?_⟩
        refine w_lead (by omega) hl cc.1 (fun hb => ?_) (fun hb => ?_)
        · refine ct rfl (ct rfl (no (fun y => by rw [hb] at y; cases y.1) s cs SmM.rf))
        · refine cf (by decide) ?_
          have hne := ldb_ne hb
          refine w_someA ok.1 cs.1 cs.2.1 hl (fun g => ?_) (fun g => ?_)
          · refine dt rfl (w_bc hl ⟨fun y => ?_, fun y => ?_⟩)
            · have y := (nI_leI (a := 4) (by omega) (by omega)).mp y
              exact ct rfl (no (fun w => by omega) s cs SmM.rf)
            · have h4 : popc (aPl A i) < 4 := by
                rcases Nat.lt_or_ge (popc (aPl A i)) 4 with w | w
                · exact w
                · exact absurd (nI_le (a := 4) w (by omega)) y
              refine cf (by decide) ⟨vin (by omega) (by decide), ?_⟩
              unfold w_X4_driverAt w_X4_driverAt_E
              rw [nI_c (by omega : i ≤ 1000000000), cc.1]
              dsimp only
              rw [(cc.2 hne).1]
              refine ⟨vin (by omega) (by decide), ?_⟩
              rw [nI_sh (by omega), nI_or]
              have js := jset ok (by omega : i < 9) hq h0 hne h4
              refine putC ok cs js.1 js.2 (fun hw s2 c2 hF2 => ct rfl (no (fun w => hw w.2.2.2) s2 c2 hF2.m)) (fun hw s2 c2 hF2 => cf (by decide) (hQ1 _ ?_ s2 c2 (hm.tr hF2.m)))
              have hs : fndS A q (i + 1) = some i := by
                show (match fndS A q i with
                  | some p => some p
                  | none => _) = some i
                rw [hf]
                exact if_pos ⟨hb, g, h4, hw⟩
              have h9 := fnd_up hs (9 - (i + 1))
              rw [show i + 1 + (9 - (i + 1)) = 9 by omega] at h9
              unfold joinS
              rw [if_neg (fun y => y a0), h9]
          · exact df (by decide) (ct rfl (no (fun w => g w.2.1) s cs SmM.rf))
    exact ⟨10, loop 9 0 10 σ (by omega) (by omega) rfl c SmM.rf⟩
  · unfold joinS
    exact if_pos (fun y => z (by rw [y]; rfl))
theorem joinM {A : AA} {m L : Nat} {σ : MS} (ok : okA A) (c : ZS (wL A m L) σ) {q : Nat} (hq : q < xn (aX A)) (h0 : aPl A q = 0) {Q : Int32 → MS → Prop} (hQ0 : joinS A q = none → ∀ σ', ZS (wL A m L) σ' → SmC σ σ' → Q 0 σ') (hQ1 : ∀ B, joinS A q = some B → ∀ σ', ZS (wL B m L) σ' → SmC σ σ' → Q 1 σ') : w_X9_joins (nI q) σ Q := by
  have hn9 := ok.1.2.1
  have aw := c.2.1 q (by omega)
  have aw2 : aW A q ≤ 1 ∧ σ 79 q = nI (aW A q) := aw
  unfold w_X9_joins w_X9_joins_E
  rw [nI_c (by omega : q ≤ 1000000000), aw2.2]
  refine ⟨vin (by omega) (by decide), fun z => ?_, fun z => hQ0 ?_ σ c SmC.rf⟩
  · have a0 : aW A q = 0 := (nI_eq (b := 0) (by omega) (by omega)).mp z
    have loop : ∀ (k i n : Nat) (s : MS), i + k = xn (aX A) → k < n → fndS A q i = none → ZS (wL A m L) s → SmC σ s → w_X9_joins_H13 Q n (nI q) (nI i) s := by
      intro k
      induction k with
      | zero =>
        intro i n s hi hn hf cs hm
        obtain ⟨n, rfl⟩ : ∃ z, n = z + 1 := ⟨n - 1, by omega⟩
        have e : i = xn (aX A) := by omega
        subst e
        have en : s 66 3 = nI (xn (aX A)) := cs.1.1.2.1
        unfold w_X9_joins_H13
        rw [en]
        refine ⟨fun _ => ?_, fun z => absurd (nI_le (Nat.le_refl _) (by omega)) z⟩
        have hf9 : fndS A q 9 = none := by rw [fnd9 ok]; exact hf
        unfold w_X9_joins_J95
        rw [nI_sh (by omega)]
        have os := one_s ok hq
        refine whyNot_ok ok.1 cs.1 os.1 os.2 (fun s2 hF2 _ => ?_)
        have c2 := cs.frM hF2
        refine ⟨fun y => ?_, fun y => hQ0 ?_ s2 c2 (hm.tr hF2.c)⟩
        · have hw := w0 y
          refine layM (A := wL A m L) ok.1 c2 os.1 os.2 hw (fun s3 c3 hF3 => hQ1 (aPut A (2 ^ q) q) ?_ s3 (by rw [← aPut_wL]; exact c3) ((hm.tr hF2.c).tr hF3.c))
          unfold joinS
          rw [if_neg (fun y => y a0), hf9]
          exact if_pos hw
        · unfold joinS
          rw [if_neg (fun y => y a0), hf9]
          exact if_neg (w1 y)
      | succ k ih =>
        intro i n s hi hn hf cs hm
        obtain ⟨n, rfl⟩ : ∃ z, n = z + 1 := ⟨n - 1, by omega⟩
        have cc : s 97 i = nI (aPl A i) ∧ (aPl A i ≠ 0 → s 98 i = nI (aDv A i) ∧ _) := cs.2.2.2.2.2.2.2.2.2 i (by omega)
        have hl := pl_lt ok (p := i) (by omega)
        have hpc := popc_le (aPl A i)
        have en : s 66 3 = nI (xn (aX A)) := cs.1.1.2.1
        have no : ¬ (ldb (aPl A) i = true ∧ dif (aPl A i) (pres (aW A) (xn (aX A))) = 0 ∧ popc (aPl A i) < 4 ∧ whyS (aX A) (aPl A i ||| 2 ^ q) (aDv A i) = 0) → ∀ s2, ZS (wL A m L) s2 → SmC s s2 → w_X9_joins_H13 Q n (nI q) (nI (i + 1)) s2 := by
          intro hno s2 c2 hm2
          refine ih (i + 1) n s2 (by omega) (by omega) ?_ c2 (hm.tr hm2)
          show (match fndS A q i with
            | some p => some p
            | none => _) = none
          rw [hf]
          exact if_neg hno
        unfold w_X9_joins_H13
        rw [en, nI_1]
        refine ⟨fun z => absurd z (nI_ge (by omega) (by omega)), fun _ => ?_⟩
        refine w_first (by omega) hl cc.1 (fun hb => ?_) (fun hb => ?_)
        · exact dt rfl (no (fun y => by rw [hb] at y; cases y.1) s cs SmC.rf)
        · have hne := ldb_ne hb
          refine df (by decide) ?_
          rw [nI_c (by omega : i ≤ 1000000000), cc.1]
          refine ⟨vin (by omega) (by decide), fun x ex => ?_⟩
          rw [nI_sh (by omega), nI_or] at ex
          rw [ex]
          have hnb := nb ok (by omega : i < 9) h0 hne
          have epc := popc_or1 hl (by omega : q < 9) hnb
          have d := ok.2.2.2.1.2.1 i (by omega) hne
          refine w_isSet (X := aX A) ok.1 cs.1 _ (fun hs => ?_) (fun T hT eT => ?_)
          · refine ct rfl (no (fun w => ?_) s cs SmC.rf)
            exact hs _ (jset ok (by omega : i < 9) hq h0 hne w.2.2.1).1 rfl
          · have hT9 := okS_9 ok.1 hT.1
            have hor : aPl A i ||| 2 ^ q < 512 := Nat.or_lt_two_pow (n := 9) hl (pw9 (by omega))
            have e2 : aPl A i ||| 2 ^ q = T := (nI_eq (by omega) (by omega)).mp eT
            have h4 : popc (aPl A i) < 4 := by
              have := hT.2.2
              rw [← e2, epc] at this
              omega
            have js := jset ok (by omega : i < 9) hq h0 hne h4
            have hdd : dif (aPl A i ||| 2 ^ q) (pres (aW A) (xn (aX A))) = 0 ↔ dif (aPl A i) (pres (aW A) (xn (aX A))) = 0 := by
              rw [dif_0, dif_0]
              refine ⟨fun w j hj => w j (by rw [Nat.testBit_or, hj]; rfl), fun w j hj => ?_⟩
              rw [Nat.testBit_or, Nat.testBit_two_pow] at hj
              by_cases e : q = j
              · subst e
                rw [pres_b, decide_eq_true hq, decide_eq_true a0]
                rfl
              · rw [decide_eq_false e, Bool.or_false] at hj
                exact w j hj
            refine cf (by decide) ?_
            refine w_hasA (X := aX A) (aw := aW A) ok.1 cs.1 cs.2.1 js.1.1 (fun g => ?_) (fun g => ?_)
            · refine dt rfl ?_
              rw [(cc.2 hne).1]
              refine whyNot_ok ok.1 cs.1 js.1 js.2 (fun s2 hF2 _ => ?_)
              have c2 := cs.frM hF2
              have cc2 : s2 98 i = nI (aDv A i) := by rw [hF2 98 i (by omega)]; exact (cc.2 hne).1
              refine ⟨fun y => ?_, fun y => no (fun w => w1 y w.2.2.2) s2 c2 hF2.c⟩
              have hw := w0 y
              unfold w_X9_joins_J76
              rw [nI_c (by omega : i ≤ 1000000000), cc2]
              refine ⟨vin (by omega) (by decide), layM (A := wL A m L) ok.1 c2 js.1 js.2 hw (fun s3 c3 hF3 => hQ1 (aPut A (aPl A i ||| 2 ^ q) (aDv A i)) ?_ s3 (by rw [← aPut_wL]; exact c3) ((hm.tr hF2.c).tr hF3.c))⟩
              have hs : fndS A q (i + 1) = some i := by
                show (match fndS A q i with
                  | some p => some p
                  | none => _) = some i
                rw [hf]
                exact if_pos ⟨hb, hdd.mp g, h4, hw⟩
              have h9 := fnd_up hs (9 - (i + 1))
              rw [show i + 1 + (9 - (i + 1)) = 9 by omega] at h9
              unfold joinS
              rw [if_neg (fun y => y a0), h9]
            · exact df (by decide) (no (fun w => g (hdd.mpr w.2.1)) s cs SmC.rf)
    exact ⟨xn (aX A) + 1, loop (xn (aX A)) 0 (xn (aX A) + 1) σ (by omega) (by omega) rfl c SmC.rf⟩
  · unfold joinS
    exact if_pos (fun y => z (by rw [y]; rfl))
