/-! ===== the class: COSTS kept ===== -/
def crep (a b : Int32) (c : Option (Int × Nat)) : Prop := match c with
  | none => a = -9 ∧ b = -9
  | some r => a = iI r.1 ∧ b = nI r.2
/-- every COST that is kept is right -/
def CK (X : XX) (σ : MS) : Prop := ∀ S, S < 512 → σ 28 S = -1 ∨ (okS X S ∧ crep (σ 28 S) (σ 29 S) (costS X S))
def FrN (σ σ' : MS) : Prop := ∀ k j, ¬ (k = 7 ∨ k = 8 ∨ (13 ≤ k ∧ k ≤ 29)) → σ' k j = σ k j
theorem FrC.n {σ σ' : MS} (h : FrC σ σ') : FrN σ σ' := fun k j hk => h k j (by omega)
theorem FrN.rf {σ : MS} : FrN σ σ := fun _ _ _ => rfl
theorem FrN.tr {a b c : MS} (h : FrN a b) (g : FrN b c) : FrN a c := fun k j hk => (g k j hk).trans (h k j hk)
theorem CX.frn {X : XX} {σ σ' : MS} (h : FrN σ σ') (c : CX X σ) : CX X σ' := by
  obtain ⟨c1, c2, c3⟩ := c
  refine ⟨by rw [h 4 1 (by omega)]; exact c1, fun p hp => ?_, fun a b ha hb => by rw [h (56 + a) b (by omega)]; exact c3 a b ha hb⟩
  rw [h (37 + p) 0 (by omega), h (37 + p) 1 (by omega), h (37 + p) 2 (by omega), h (37 + p) 3 (by omega), h (37 + p) 4 (by omega), h (37 + p) 5 (by omega), h (37 + p) 6 (by omega), h (37 + p) 8 (by omega), h (37 + p) 9 (by omega)]
  exact c2 p hp
theorem crep_ne {X : XX} {S : Nat} {a b : Int32} {c : Option (Int × Nat)} (hc : okc X S c) (h : crep a b c) : a ≠ -1 := by
  cases c with
  | none => rw [h.1]; decide
  | some r =>
    have := hc r rfl
    rw [h.1, show (-1 : Int32) = iI (-1) from rfl]
    intro e
    have := (iI_eq (smi (by omega) (by omega)) (smi (by omega) (by omega))).mp e
    omega
theorem learn_ok {X : XX} (hX : okX X) {σ : MS} (hC : CX X σ) (hK : CK X σ) {S : Nat} (hS : okS X S) {Q : MS → Prop} (hQ : ∀ σ', FrN σ σ' → CK X σ' → crep (σ' 28 S) (σ' 29 S) (costS X S) → (∀ T, T ≠ S → σ' 28 T = σ 28 T ∧ σ' 29 T = σ 29 T) → Q σ') : w_X0_learn (nI S) σ Q := by
  have hS9 := okS_9 hX hS.1
  unfold w_X0_learn w_X0_learn_E
  rw [nI_c (by omega : S ≤ 1000000000)]
  refine ⟨vin hS9 (by omega), fun h => ?_, fun h => ?_⟩
  · intro σa ea σb eb
    have loop : ∀ (k n i : Nat) (σ1 : MS) (c : Option (Int × Nat)), i + k = 9 → k < n → FrN σ σ1 → (∀ T, T ≠ S → σ1 28 T = σ 28 T ∧ σ1 29 T = σ 29 T) → okc X S c → crep (σ1 28 S) (σ1 29 S) c → (rmD S i k).foldl (cstep X S) c = costS X S → w_X0_learn_H29 Q n (nI S) (nI i) σ1 := by
      intro k
      induction k with
      | zero =>
        intro n i σ1 c hi hn hF hT hc hr he
        obtain ⟨n, rfl⟩ : ∃ z, n = z + 1 := ⟨n - 1, by omega⟩
        unfold w_X0_learn_H29
        have e : i = 9 := by omega
        subst e
        refine ⟨fun _ => ?_, fun z => absurd (by decide) z⟩
        have he : c = costS X S := he
        rw [he] at hr
        refine hQ σ1 hF (fun T hT9 => ?_) hr hT
        by_cases eT : T = S
        · subst eT
          exact Or.inr ⟨hS, hr⟩
        · rw [(hT T eT).1, (hT T eT).2]
          exact hK T hT9
      | succ k ih =>
        intro n i σ1 c hi hn hF hT hc hr he
        obtain ⟨n, rfl⟩ : ∃ z, n = z + 1 := ⟨n - 1, by omega⟩
        unfold w_X0_learn_H29
        refine ⟨fun z => absurd ((nI_leI (a := 9) (by omega) (by omega)).mp z) (by omega), fun _ => w_con (by omega) (by omega) (fun hb => ?_) (fun hb => ?_)⟩
        · refine ⟨fun _ => ?_, fun z => absurd rfl z⟩
          rw [nI_1]
          rw [rmD_f hb] at he
          exact ih n (i + 1) σ1 c (by omega) (by omega) hF hT hc hr he
        · refine ⟨fun z => absurd z (by decide), fun _ => ?_⟩
          rw [rmD_t hb, List.foldl_cons] at he
          refine reason_ok hX (hC.frn hF) hS hb (fun σ2 hF2 hB => ?_)
          have hT2 : ∀ T, T ≠ S → σ2 28 T = σ 28 T ∧ σ2 29 T = σ 29 T := fun T hne => by
            rw [hF2 28 T (by omega), hF2 29 T (by omega)]
            exact hT T hne
          have hr2 : crep (σ2 28 S) (σ2 29 S) c := by
            rw [hF2 28 S (by omega), hF2 29 S (by omega)]
            exact hr
          have hF2n := hF.tr hF2.n
          have hw5 : whyS X S i ≤ 4 := by
            unfold whyS
            split
            · omega
            · split
              · omega
              · split
                · omega
                · split <;> omega
          refine ⟨fun z => ?_, fun z => ?_⟩
          · have hne : whyS X S i ≠ 0 := fun e => z (by rw [e]; rfl)
            have e : cstep X S c i = c := if_neg hne
            rw [e] at he
            rw [nI_1]
            exact ih n (i + 1) σ2 c (by omega) (by omega) hF2n hT2 hc hr2 he
          · have hw0 : whyS X S i = 0 := (nI_eq (b := 0) (by omega) (by omega)).mp z
            have hB := hB hw0
            have ht := (tb_ok hX (by omega : i < 9) hw0).1
            unfold w_X7_found w_X7_found_E
            refine ⟨rfl, ?_⟩
            have h86 : σ2 8 6 = iI (tb X S i) := hB.2.1
            rw [h86]
            have hcs := okc_step hX (by omega : i < 9) hb hc
            have put : cstep X S c i = some (tb X S i, i) → w_X0_takeIfFewer_J21 (fun σ68 => w_X0_learn_H29 Q n (nI S) (nI i + 1) σ68) (nI S) (nI i) (iI (tb X S i)) σ2 := by
              intro hcs2
              rw [hcs2] at he hcs
              unfold w_X0_takeIfFewer_J21
              rw [nI_c (by omega : S ≤ 1000000000)]
              refine ⟨vin hS9 (by omega), fun σd ed σe ee => ?_⟩
              rw [nI_1]
              refine ih n (i + 1) σe _ (by omega) (by omega) ?_ ?_ hcs ?_ he
              · intro k j hk
                rw [← hF2n k j hk]
                subst ed ee
                simp only [mst]
                rw [if_neg (by omega), if_neg (by omega)]
              · intro T hne
                rw [← (hT2 T hne).1, ← (hT2 T hne).2]
                subst ed ee
                simp [mst, hne]
              · subst ed ee
                refine ⟨?_, ?_⟩ <;> simp [mst]
            unfold w_X0_takeIfFewer w_X0_takeIfFewer_E
            rw [nI_c (by omega : S ≤ 1000000000)]
            refine ⟨vin hS9 (by omega), fun g => put ?_, fun g => ⟨fun g2 => ?_, fun g2 => put ?_⟩⟩
            · unfold cstep
              rw [if_pos hw0]
              cases c with
              | none => rfl
              | some r =>
                have h1 := hc r rfl
                rw [hr2.1, show (-9 : Int32) = iI (-9) from rfl] at g
                have := (iI_eq (smi (by omega) (by omega)) (smi (by omega) (by omega))).mp g
                omega
            · cases c with
              | none => exact absurd hr2.1 g
              | some r =>
                have h1 := hc r rfl
                rw [hr2.1] at g2
                have g2 := (iI_le (smi (by omega) (by omega)) (smi (by omega) (by omega))).mp g2
                have e : cstep X S (some r) i = some r := by
                  unfold cstep
                  rw [if_pos hw0]
                  exact if_neg (by omega)
                rw [e] at he
                rw [nI_1]
                exact ih n (i + 1) σ2 _ (by omega) (by omega) hF2n hT2 hc hr2 he
            · cases c with
              | none => exact absurd hr2.1 g
              | some r =>
                have h1 := hc r rfl
                rw [hr2.1] at g2
                have g2 : ¬ r.1 ≤ tb X S i := fun z => g2 ((iI_le (smi (by omega) (by omega)) (smi (by omega) (by omega))).mpr z)
                unfold cstep
                rw [if_pos hw0]
                exact if_pos (by omega)
    refine ⟨10, ?_⟩
    have := loop 9 10 0 σb none (by omega) (by omega) ?_ ?_ (fun r hr => by cases hr) ?_ rfl
    · exact this
    · intro k j hk
      subst ea eb
      simp only [mst]
      rw [if_neg (by omega), if_neg (by omega)]
    · intro T hne
      subst ea eb
      simp [mst, hne]
    · subst ea eb
      refine ⟨?_, ?_⟩ <;> simp [mst]
  · rcases hK S hS9 with g | g
    · exact absurd g h
    · exact hQ σ FrN.rf hK g.2 (fun T _ => ⟨rfl, rfl⟩)
/-- all sets of 1 to 4 of these PERSONS are known -/
def KnA (P : Nat) (σ : MS) : Prop := ∀ S, 0 < S → S < 512 → dif S P = 0 → popc S ≤ 4 → σ 28 S ≠ -1
theorem popc_pos {S : Nat} (h : S < 512) (h0 : 0 < S) : 0 < popc S := by
  rcases Nat.eq_zero_or_pos (popc S) with z | z
  · have := (rmD_0 (S := S) (n := 9) h).mp (List.length_eq_zero_iff.mp z)
    omega
  · exact z
theorem sub_lt {S P n : Nat} (h : dif S P = 0) (hP : P < 2 ^ n) : S < 2 ^ n := lt_bits (fun i hi => bits_lt hP (dif_0.mp h i hi))
theorem sub_le {S P : Nat} (h : dif S P = 0) : S ≤ P := by
  have : S = S &&& P := by
    apply Nat.eq_of_testBit_eq
    intro i
    rw [Nat.testBit_and]
    cases hb : S.testBit i
    · rfl
    · rw [dif_0.mp h i hb]; rfl
  rw [this]
  exact Nat.and_le_right
theorem learnAll_ok {X : XX} (hX : okX X) {σ : MS} (hC : CX X σ) (hK : CK X σ) {P : Nat} (hP : P < 2 ^ (xn X)) {Q : MS → Prop} (hQ : ∀ σ', FrN σ σ' → CK X σ' → KnA P σ' → Q σ') : w_X0_learnAll (nI P) σ Q := by
  have hP9 := okS_9 hX hP
  unfold w_X0_learnAll w_X0_learnAll_E
  have loop : ∀ (k n i : Nat) (σ1 : MS), i + k = P + 1 → k < n → 0 < i → FrN σ σ1 → CK X σ1 → (∀ S, 0 < S → S < i → dif S P = 0 → popc S ≤ 4 → σ1 28 S ≠ -1) → w_X0_learnAll_H2 Q n (nI P) (nI i) σ1 := by
    intro k
    induction k with
    | zero =>
      intro n i σ1 hi hn h0 hF hK1 hA
      obtain ⟨n, rfl⟩ : ∃ z, n = z + 1 := ⟨n - 1, by omega⟩
      unfold w_X0_learnAll_H2
      refine ⟨fun _ => hQ σ1 hF hK1 (fun S g0 g1 g2 g3 => hA S g0 (by have := sub_le g2; omega) g2 g3), fun z => absurd (nI_lt (by omega) (by omega)) z⟩
    | succ k ih =>
      intro n i σ1 hi hn h0 hF hK1 hA
      obtain ⟨n, rfl⟩ : ∃ z, n = z + 1 := ⟨n - 1, by omega⟩
      unfold w_X0_learnAll_H2
      rw [nI_dif, nI_1]
      have hdl := dif_lt (a := i) (b := P) (n := 9) (by omega)
      refine ⟨fun z => absurd ((nI_ltI (by omega) (by omega)).mp z) (by omega), fun _ => ⟨fun h => ?_, fun h => ?_⟩⟩
      · refine ih n (i + 1) σ1 (by omega) (by omega) (by omega) hF hK1 (fun S g0 g1 g2 g3 => ?_)
        rcases Nat.lt_or_ge S i with q | q
        · exact hA S g0 q g2 g3
        · have e : S = i := by omega
          subst e
          exact absurd (by rw [g2]; rfl) h
      · have hd0 : dif i P = 0 := (nI_eq (b := 0) (by omega) (by omega)).mp h
        have hpl := popc_le i
        refine w_bc (by omega) ⟨fun h => ?_, fun h => ?_⟩
        · have h := (nI_ltI (a := 4) (by omega) (by omega)).mp h
          refine ih n (i + 1) σ1 (by omega) (by omega) (by omega) hF hK1 (fun S g0 g1 g2 g3 => ?_)
          rcases Nat.lt_or_ge S i with q | q
          · exact hA S g0 q g2 g3
          · have e : S = i := by omega
            subst e
            omega
        · have h4 : popc i ≤ 4 := by
            rcases Nat.lt_or_ge 4 (popc i) with q | q
            · exact absurd (nI_lt q (by omega)) h
            · exact q
          have hS : okS X i := ⟨sub_lt hd0 hP, popc_pos (by omega) h0, h4⟩
          refine learn_ok hX (hC.frn hF) hK1 hS (fun σ2 hF2 hK2 hr2 hT2 => ?_)
          refine ih n (i + 1) σ2 (by omega) (by omega) (by omega) (hF.tr hF2) hK2 (fun S g0 g1 g2 g3 => ?_)
          rcases Nat.lt_or_ge S i with q | q
          · rw [(hT2 S (by omega)).1]
            exact hA S g0 q g2 g3
          · have e : S = i := by omega
            subst e
            exact crep_ne (costS_ok hX) hr2
  refine ⟨P + 1, ?_⟩
  have := loop P (P + 1) 1 σ (by omega) (by omega) (by omega) FrN.rf hK (fun S g0 g1 => absurd g1 (by omega))
  exact this
theorem forget_ok {σ : MS} {m : Nat} (hm : m < 512) {Q : MS → Prop} (hQ : ∀ σ', (∀ k j, k ≠ 28 → σ' k j = σ k j) → (∀ S, S < 512 → σ' 28 S = if S &&& m = m then -1 else σ 28 S) → Q σ') : w_X0_forgetWith (nI m) σ Q := by
  unfold w_X0_forgetWith w_X0_forgetWith_E
  have loop : ∀ (k n i : Nat) (σ1 : MS), i + k = 512 → k < n → (∀ k j, k ≠ 28 → σ1 k j = σ k j) → (∀ S, S < 512 → σ1 28 S = if S < i ∧ S &&& m = m then -1 else σ 28 S) → w_X0_forgetWith_H2 Q n (nI m) (nI i) σ1 := by
    intro k
    induction k with
    | zero =>
      intro n i σ1 hi hn h1 h2
      obtain ⟨n, rfl⟩ : ∃ z, n = z + 1 := ⟨n - 1, by omega⟩
      unfold w_X0_forgetWith_H2
      have e : i = 512 := by omega
      subst e
      refine ⟨fun _ => hQ σ1 h1 (fun S hS => ?_), fun z => absurd (by decide) z⟩
      rw [h2 S hS]
      by_cases hb : S &&& m = m
      · rw [if_pos ⟨hS, hb⟩, if_pos hb]
      · rw [if_neg (fun z => hb z.2), if_neg hb]
    | succ k ih =>
      intro n i σ1 hi hn h1 h2
      obtain ⟨n, rfl⟩ : ∃ z, n = z + 1 := ⟨n - 1, by omega⟩
      unfold w_X0_forgetWith_H2
      rw [nI_and, nI_1]
      have hle : i &&& m ≤ i := Nat.and_le_left
      have heq := nI_eq (a := i &&& m) (b := m) (by omega) (by omega)
      refine ⟨fun z => absurd ((nI_leI (a := 512) (by omega) (by omega)).mp z) (by omega), fun _ => ⟨fun h => ?_, fun h => ?_⟩⟩
      · refine ih n (i + 1) σ1 (by omega) (by omega) h1 (fun S hS => ?_)
        rw [h2 S hS]
        by_cases e : S = i
        · subst e
          rw [if_neg (by omega), if_neg (fun z => h (heq.mpr z.2))]
        · by_cases hb : S < i ∧ S &&& m = m
          · rw [if_pos hb, if_pos ⟨by omega, hb.2⟩]
          · rw [if_neg hb, if_neg (fun z => hb ⟨by omega, z.2⟩)]
      · have h := heq.mp h
        rw [nI_c (by omega : i ≤ 1000000000)]
        refine ⟨vin (by omega) (by omega), fun σ2 e2 => ?_⟩
        refine ih n (i + 1) σ2 (by omega) (by omega) (fun k j hk => ?_) (fun S hS => ?_)
        · rw [← h1 k j hk]
          subst e2
          simp [mst, hk]
        · by_cases e : S = i
          · subst e
            rw [if_pos ⟨by omega, h⟩]
            subst e2
            simp [mst]
          · have : σ2 28 S = σ1 28 S := by
              subst e2
              simp [mst, e]
            rw [this, h2 S hS]
            by_cases hb : S < i ∧ S &&& m = m
            · rw [if_pos hb, if_pos ⟨by omega, hb.2⟩]
            · rw [if_neg hb, if_neg (fun z => hb ⟨by omega, z.2⟩)]
  refine ⟨513, ?_⟩
  have := loop 512 513 0 σ (by omega) (by omega) (fun _ _ _ => rfl) (fun S hS => by rw [if_neg (fun z => absurd z.1 (by omega))])
  exact this
