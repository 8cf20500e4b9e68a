/-! ===== the reference: its tables of costs ===== -/
noncomputable def fstep (X : XX) (S o d : Nat) : Nat := if whyS X S d = 0 then o ||| 2 ^ d else o
noncomputable def fitS (X : XX) (S : Nat) : Nat := (rmD S 0 9).foldl (fstep X S) 0
theorem fit_fold {X : XX} {S p : Nat} : ∀ (l : List Nat) (o : Nat), (l.foldl (fstep X S) o).testBit p = true ↔ (o.testBit p = true ∨ (p ∈ l ∧ whyS X S p = 0))
  | [], o => by simp
  | a :: l, o => by
    rw [List.foldl_cons, fit_fold l]
    unfold fstep
    by_cases hw : whyS X S a = 0
    · rw [if_pos hw, Nat.testBit_or, Nat.testBit_two_pow]
      simp only [Bool.or_eq_true, decide_eq_true_eq, List.mem_cons]
      constructor
      · rintro ((h | rfl) | h)
        · exact Or.inl h
        · exact Or.inr ⟨Or.inl rfl, hw⟩
        · exact Or.inr ⟨Or.inr h.1, h.2⟩
      · rintro (h | ⟨rfl | h, h2⟩)
        · exact Or.inl (Or.inl h)
        · exact Or.inl (Or.inr rfl)
        · exact Or.inr ⟨h, h2⟩
    · rw [if_neg hw]
      simp only [List.mem_cons]
      constructor
      · rintro (h | h)
        · exact Or.inl h
        · exact Or.inr ⟨Or.inr h.1, h.2⟩
      · rintro (h | ⟨rfl | h, h2⟩)
        · exact Or.inl h
        · exact absurd h2 hw
        · exact Or.inr ⟨h, h2⟩
theorem fit_b {X : XX} {S p : Nat} (hS : S < 512) : (fitS X S).testBit p = true ↔ (S.testBit p = true ∧ whyS X S p = 0) := by
  unfold fitS
  rw [fit_fold, Nat.zero_testBit, rmD_mem]
  constructor
  · rintro (h | ⟨⟨_, h⟩, h2⟩)
    · cases h
    · exact ⟨h, h2⟩
  · rintro ⟨h, h2⟩
    exact Or.inr ⟨⟨bits_lt (n := 9) hS h, h⟩, h2⟩
theorem fit_lt {X : XX} {S : Nat} (hS : S < 512) : fitS X S < 512 := lt_bits (n := 9) (fun i hi => bits_lt (n := 9) hS ((fit_b hS).mp hi).1)
def mrp (a b : Int32) (c : Option (Int × Nat)) : Prop := match c with
  | none => a = 1000000 ∧ b = -9
  | some r => a = iI r.1 ∧ b = nI r.2
def mrow (X : XX) (P S : Nat) (σ : MS) : Prop := (okS X S ∧ dif S P = 0 → mrp (σ 89 S) (σ 90 S) (costS X S) ∧ σ 91 S = nI (fitS X S)) ∧ (¬ (okS X S ∧ dif S P = 0) → σ 90 S = -9 ∧ σ 91 S = 0)
def KT (X : XX) (P : Nat) (σ : MS) : Prop := ∀ S, 0 < S → S < 2 ^ (xn X) → mrow X P S σ
def MK (X : XX) (aw : Nat → Nat) (σ : MS) : Prop := σ 66 27 = 0 ∨ (σ 66 27 = 1 ∧ KT X (pres aw (xn X)) σ)
def FrW (σ σ' : MS) : Prop := ∀ k j, ¬ ((81 ≤ k ∧ k ≤ 91) ∨ (k = 66 ∧ (24 ≤ j ∧ j ≤ 27))) → σ' k j = σ k j
theorem FrW.rf {σ : MS} : FrW σ σ := fun _ _ _ => rfl
theorem FrW.tr {a b c : MS} (h : FrW a b) (g : FrW b c) : FrW a c := fun k j hk => (g k j hk).trans (h k j hk)
theorem FrM.w {σ σ' : MS} (h : FrM σ σ') : FrW σ σ' := fun k j hk => h k j (by omega)
theorem MX.frw {X : XX} {σ σ' : MS} (h : FrW σ σ') (c : MX X σ) : MX X σ' := c.fr (fun k j hk => h k j (by omega))
theorem MA.frw {aw : Nat → Nat} {σ σ' : MS} (h : FrW σ σ') (c : MA aw σ) : MA aw σ' := c.fr (fun p _ => h 79 p (by omega))
theorem know_ok {X : XX} (hX : okX X) {aw : Nat → Nat} {σ : MS} (hC : MX X σ) (hA : MA aw σ) (hK : MK X aw σ) {Q : MS → Prop} (hQ : ∀ σ', FrW σ σ' → σ' 66 27 = 1 → KT X (pres aw (xn X)) σ' → Q σ') : w_X9_know σ Q := by
  have hn := hX.2.1
  have hp9 : 2 ^ (xn X) ≤ 2 ^ 9 := Nat.pow_le_pow_right (by decide) hn
  unfold w_X9_know w_X9_know_E
  refine ⟨fun h => ?_, fun h => ?_⟩
  · intro σa ea
    have hFa : FrW σ σa := fun k j hk => by
      subst ea
      simp only [mst]
      rw [if_neg (by omega)]
    have loop : ∀ (k n i : Nat) (σ1 : MS), i + k = 2 ^ (xn X) → k < n → 0 < i → FrW σ σ1 → σ1 66 27 = 1 → (∀ S, 0 < S → S < i → mrow X (pres aw (xn X)) S σ1) → w_X9_know_H15 Q n (nI i) σ1 := by
      intro k
      induction k with
      | zero =>
        intro n i σ1 hi hn2 h0 hF h27 hR
        obtain ⟨n, rfl⟩ : ∃ z, n = z + 1 := ⟨n - 1, by omega⟩
        unfold w_X9_know_H15
        rw [(hC.frw hF).1.2.1, nI_sh (by omega)]
        refine ⟨fun _ => hQ σ1 hF h27 (fun S g0 g1 => hR S g0 (by omega)), fun z => absurd (nI_le (by omega) (by omega)) z⟩
      | succ k ih =>
        intro n i σ1 hi hn2 h0 hF h27 hR
        obtain ⟨n, rfl⟩ : ∃ z, n = z + 1 := ⟨n - 1, by omega⟩
        have hi9 : i < 512 := by omega
        have hil : i < 2 ^ (xn X) := by omega
        unfold w_X9_know_H15
        rw [(hC.frw hF).1.2.1, nI_sh (by omega), nI_c (by omega : i ≤ 1000000000)]
        refine ⟨fun z => absurd ((nI_leI (by omega) (by omega)).mp z) (by omega), fun _ => ⟨vin hi9 (by omega), fun σb eb σc ec σd ed => ?_⟩⟩
        have hFd : FrW σ1 σd := fun k j hk => by
          subst eb ec ed
          simp only [mst]
          rw [if_neg (by omega), if_neg (by omega), if_neg (by omega)]
        have hFd2 := hF.tr hFd
        have hRd : ∀ S, 0 < S → S < i → mrow X (pres aw (xn X)) S σd := fun S g0 g1 => by
          have hne : S ≠ i := by omega
          have := hR S g0 g1
          unfold mrow at this ⊢
          subst eb ec ed
          simpa [mst, hne] using this
        have h27d : σd 66 27 = 1 := by
          subst eb ec ed
          simp [mst, h27]
        have d3 : σd 89 i = 1000000 ∧ σd 90 i = -9 ∧ σd 91 i = 0 := by
          subst eb ec ed
          simp [mst]
        have skip : ¬ (okS X i ∧ dif i (pres aw (xn X)) = 0) → w_X9_know_H15 Q n (nI i + 1) σd := fun hno => by
          rw [nI_1]
          refine ih n (i + 1) σd (by omega) (by omega) (by omega) hFd2 h27d (fun S g0 g1 => ?_)
          rcases Nat.lt_or_ge S i with q | q
          · exact hRd S g0 q
          · have e : S = i := by omega
            subst e
            exact ⟨fun z => absurd z hno, fun _ => d3.2⟩
        refine w_isSet hX (hC.frw hFd2) (nI i) (fun hns => ⟨fun _ => skip (fun z => hns i z.1 rfl), fun z => absurd rfl z⟩) (fun S hS eS => ⟨fun z => absurd z (by decide), fun _ => ?_⟩)
        have hS9 := okS_9 hX hS.1
        have e : i = S := (nI_eq (by omega) (by omega)).mp eS
        subst e
        refine w_hasA hX (hC.frw hFd2) (hA.frw hFd2) hil (fun hd0 => ⟨fun _ => ?_, fun z => absurd rfl z⟩) (fun hd1 => ⟨fun z => absurd z (by decide), fun _ => skip (fun z => hd1 z.2)⟩)
        have inner : ∀ (k2 n2 d : Nat) (σ2 : MS) (c : Option (Int × Nat)) (o : Nat), d + k2 = xn X → k2 < n2 → FrW σ σ2 → σ2 66 27 = 1 → (∀ S, 0 < S → S < i → mrow X (pres aw (xn X)) S σ2) → okc X i c → mrp (σ2 89 i) (σ2 90 i) c → o < 512 → σ2 91 i = nI o → (rmD i d k2).foldl (cstep X i) c = costS X i → (rmD i d k2).foldl (fstep X i) o = fitS X i → w_X9_know_H69 (fun x1 σ => w_X9_know_H15 Q n x1 σ) Q n2 (nI i) (nI d) σ2 := by
          intro k2
          induction k2 with
          | zero =>
            intro n2 d σ2 c o hd hn3 hF2 h272 hR2 hc hm ho h91 he1 he2
            obtain ⟨n2, rfl⟩ : ∃ z, n2 = z + 1 := ⟨n2 - 1, by omega⟩
            unfold w_X9_know_H69
            rw [(hC.frw hF2).1.2.1, nI_1]
            refine ⟨fun _ => ?_, fun z => absurd (nI_le (by omega) (by omega)) z⟩
            refine ih n (i + 1) σ2 (by omega) (by omega) (by omega) hF2 h272 (fun S g0 g1 => ?_)
            rcases Nat.lt_or_ge S i with q | q
            · exact hR2 S g0 q
            · have e : S = i := by omega
              subst e
              have he1 : c = costS X S := he1
              have he2 : o = fitS X S := he2
              refine ⟨fun _ => ⟨by rw [← he1]; exact hm, by rw [← he2]; exact h91⟩, fun z => absurd ⟨hS, hd0⟩ z⟩
          | succ k2 ih2 =>
            intro n2 d σ2 c o hd hn3 hF2 h272 hR2 hc hm ho h91 he1 he2
            obtain ⟨n2, rfl⟩ : ∃ z, n2 = z + 1 := ⟨n2 - 1, by omega⟩
            unfold w_X9_know_H69
            rw [(hC.frw hF2).1.2.1, nI_1 i, nI_1 d]
            refine ⟨fun z => absurd z (nI_ge (by omega) (by omega)), fun _ => ⟨fun z => ?_, fun z => ?_⟩⟩
            · have hb := (nI_bit0 (by omega) (by omega)).mp z
              rw [rmD_f hb] at he1 he2
              exact ih2 n2 (d + 1) σ2 c o (by omega) (by omega) hF2 h272 hR2 hc hm ho h91 he1 he2
            · have hb := nb0 (by omega) (by omega) z
              rw [rmD_t hb, List.foldl_cons] at he1 he2
              refine whyNot_ok hX (hC.frw hF2) hS hb (fun σ3 hF3 hB => ?_)
              have hR3 : ∀ S, 0 < S → S < i → mrow X (pres aw (xn X)) S σ3 := fun S g0 g1 => by
                have := hR2 S g0 g1
                unfold mrow at this ⊢
                rw [hF3 89 S (by omega), hF3 90 S (by omega), hF3 91 S (by omega)]
                exact this
              have hm3 : mrp (σ3 89 i) (σ3 90 i) c := by
                rw [hF3 89 i (by omega), hF3 90 i (by omega)]
                exact hm
              have h913 : σ3 91 i = nI o := by
                rw [hF3 91 i (by omega)]
                exact h91
              have h273 : σ3 66 27 = 1 := by
                rw [hF3 66 27 (by omega)]
                exact h272
              have hF3n := hF2.tr hF3.w
              have hw5 : whyS X i d ≤ 4 := by
                unfold whyS
                split
                · omega
                · split
                  · omega
                  · split
                    · omega
                    · split <;> omega
              refine ⟨fun z => ?_, fun z => ?_⟩
              · have hw0 : whyS X i d = 0 := (nI_eq (b := 0) (by omega) (by omega)).mp z
                have hB := hB hw0
                obtain ⟨ht, r, hr1, hr2⟩ := tb_ok hX (by omega : d < 9) hw0
                have h25 : σ3 66 25 = iI (tb X i d) := by
                  have := hB.1.2.1
                  rw [hr1] at this
                  rw [← hr2]
                  exact this
                have hcs := okc_step hX (by omega : d < 9) hb hc
                have ef : fstep X i o d = o ||| 2 ^ d := if_pos hw0
                rw [ef] at he2
                have ho2 : o ||| 2 ^ d < 512 := Nat.or_lt_two_pow (n := 9) ho (Nat.pow_lt_pow_right (by decide) (by omega))
                rw [nI_c (by omega : i ≤ 1000000000)]
                refine ⟨vin hi9 (by omega), fun σe ee => ?_⟩
                rw [h913, nI_sh (by omega), nI_or] at ee
                have e25 : σe 66 25 = iI (tb X i d) := by
                  subst ee
                  simp [mst, h25]
                have e89 : σe 89 i = σ3 89 i ∧ σe 90 i = σ3 90 i ∧ σe 91 i = nI (o ||| 2 ^ d) := by
                  subst ee
                  simp [mst]
                have hFe : FrW σ3 σe := fun k j hk => by
                  subst ee
                  simp only [mst]
                  rw [if_neg (by omega)]
                have hRe : ∀ S, 0 < S → S < i → mrow X (pres aw (xn X)) S σe := fun S g0 g1 => by
                  have hne : S ≠ i := by omega
                  have := hR3 S g0 g1
                  unfold mrow at this ⊢
                  subst ee
                  simpa [mst, hne] using this
                have h27e : σe 66 27 = 1 := by
                  subst ee
                  simp [mst, h273]
                have hme : mrp (σe 89 i) (σe 90 i) c := by
                  rw [e89.1, e89.2.1]
                  exact hm3
                rw [e25]
                refine ⟨fun g => ?_, fun g => ?_⟩
                · have hcs2 : cstep X i c d = some (tb X i d, d) := by
                    unfold cstep
                    rw [if_pos hw0]
                    cases c with
                    | none => rfl
                    | some q =>
                      have h1 := hc q rfl
                      rw [hme.1] at g
                      have g := (iI_lt (smi (by omega) (by omega)) (smi (by omega) (by omega))).mp g
                      exact if_pos g
                  rw [hcs2] at he1 hcs
                  intro σf ef2 σg eg
                  refine ih2 n2 (d + 1) σg _ (o ||| 2 ^ d) (by omega) (by omega) ?_ ?_ ?_ hcs ?_ ho2 ?_ he1 he2
                  · intro k j hk
                    rw [← hF3n k j hk, ← hFe k j hk]
                    subst ef2 eg
                    simp only [mst]
                    rw [if_neg (by omega), if_neg (by omega)]
                  · subst ef2 eg
                    simp [mst, h27e]
                  · intro S g0 g1
                    have hne : S ≠ i := by omega
                    have := hRe S g0 g1
                    unfold mrow at this ⊢
                    subst ef2 eg
                    simpa [mst, hne] using this
                  · subst ef2 eg
                    refine ⟨?_, ?_⟩ <;> simp [mst]
                  · have := e89.2.2
                    subst ef2 eg
                    simp [mst, this]
                · have hcs2 : cstep X i c d = c := by
                    unfold cstep
                    rw [if_pos hw0]
                    cases c with
                    | none =>
                      rw [hme.1, show (1000000 : Int32) = iI 1000000 from rfl] at g
                      exact absurd ((iI_lt (smi (by omega) (by omega)) (smi (by omega) (by omega))).mpr (by omega)) g
                    | some q =>
                      have h1 := hc q rfl
                      rw [hme.1] at g
                      exact if_neg (fun z => g ((iI_lt (smi (by omega) (by omega)) (smi (by omega) (by omega))).mpr z))
                  rw [hcs2] at he1
                  exact ih2 n2 (d + 1) σe c (o ||| 2 ^ d) (by omega) (by omega) (hF3n.tr hFe) h27e hRe hc hme ho2 e89.2.2 he1 he2
              · have hne : whyS X i d ≠ 0 := fun e => z (by rw [e]; rfl)
                have e1 : cstep X i c d = c := if_neg hne
                have e2 : fstep X i o d = o := if_neg hne
                rw [e1] at he1
                rw [e2] at he2
                exact ih2 n2 (d + 1) σ3 c o (by omega) (by omega) hF3n h273 hR3 hc hm3 ho h913 he1 he2
        refine ⟨xn X + 1, ?_⟩
        have := inner (xn X) (xn X + 1) 0 σd none 0 (by omega) (by omega) hFd2 h27d hRd (fun r hr => by cases hr) ⟨d3.1, d3.2.1⟩ (by omega) d3.2.2 (by rw [rmD_ext hn hil]; rfl) (by rw [rmD_ext hn hil]; rfl)
        exact this
    refine ⟨2 ^ (xn X), ?_⟩
    have hpos : 0 < 2 ^ (xn X) := Nat.two_pow_pos _
    have := loop (2 ^ (xn X) - 1) (2 ^ (xn X)) 1 σa (by omega) (by omega) (by omega) hFa (by subst ea; simp [mst]) (fun S g0 g1 => absurd g1 (by omega))
    exact this
  · rcases hK with g | g
    · exact absurd g h
    · exact hQ σ FrW.rf g.1 g.2
