/-! ===== same, few ===== -/
theorem L_same {A : AA} {σ : MS} (h : Rel A σ) {K : Int32 → Int32 → MS → Prop} (hK : ∀ r A' σ', Rel A' σ' → K r r σ') : w_X8_same σ (fun r1 σ1 => w_X9_same σ1 (fun r2 σ2 => K r1 r2 σ2)) := by
  have mm : ∀ s, SmM σ s → s 66 36 = nI (aMb A) := fun s hm => (h.2.2.m hm).2.2.2.2.2.2.2.1
  unfold w_X8_same w_X8_same_E
  refine made0 h.1 h.2.1 ?_
  by_cases m0 : nI (aMb A) = 0
  · repeat (first | refine ct (by assumption) ?_ | refine cf (by assumption) ?_ | refine dt (by assumption) ?_ | refine df (by assumption) ?_ | refine ct rfl ?_ | refine cf (by decide) ?_ | refine dt rfl ?_ | refine df (by decide) ?_)
    refine rfG em3 (by decide) h hK (fun σ1 hm q => ?_)
    have m1 : σ1 66 36 = 0 := by rw [mm σ1 hm]; exact m0
    unfold w_X9_same w_X9_same_E
    repeat (first | refine ct (by assumption) ?_ | refine cf (by assumption) ?_ | refine dt (by assumption) ?_ | refine df (by assumption) ?_ | refine ct rfl ?_ | refine cf (by decide) ?_ | refine dt rfl ?_ | refine df (by decide) ?_)
    exact q
  refine df m0 ?_
  have ok := h.1
  have c := h.2.1
  have hP : pres (aW A) (xn (aX A)) < 2 ^ (xn (aX A)) := pres_lt
  have hP9 := okS_9 ok.1 hP
  refine w_here ok.1 c.1 c.2.1 ?_
  refine learnAll_ok ok.1 c.1 c.2.2.1 hP (fun s1 hF1 hK1 hA1 => ?_)
  have c1 := c.frN hF1 hK1
  unfold w_X1_findBest w_X1_findBest_E
  refine findAll_ok (k := 10) ok.1 hP (Nat.le_refl _) hK1 hA1 (fun s2 hF2 hT2 => ?_)
  have c2 := c1.frT hF2
  have hm : SmM σ s2 := hF1.m.tr (fun k j hk => hF2 k j (by omega) (by omega))
  unfold w_X4_leftCount w_X4_leftCount_E
  dsimp only
  rw [c2.2.2.2.2.2.2.2.2.1]
  refine w_bc ok.2.2.2.1.1 ?_
  refine w_minT ok c2 (w_pools ok c2 ?_)
  unfold w_X1_worthOf w_X1_worthOf_E
  have hsP := sumP_le (A := A)
  have hsM := sumM_le ok
  have hpL := popc_le (aLf A)
  have hpP := popc_le (pres (aW A) (xn (aX A)))
  have hW := WS_le ok.1 (k := 10) (Nat.le_refl _) _ (pres (aW A) (xn (aX A))) (Nat.le_refl _) hP9
  have ew : nI (popc (aLf A)) * 1000000 + nI (sumN (fM A) 9) * 10 + nI (sumN (fP A) 9) = nI (cnt A) := by
    show nI (popc (aLf A)) * nI 1000000 + nI (sumN (fM A) 9) * nI 10 + nI (sumN (fP A) 9) = nI (cnt A)
    rw [pk_mul, pk_mul, nI_add, nI_add]
    rfl
  rw [ew]
  have hcn : cnt A ≤ 100000000 := by
    unfold cnt
    omega
  have hZ := h.2.2.m hm
  have m2 : ¬ s2 66 36 = 0 := by rw [mm s2 hm]; exact m0
  have mod : ∀ (r : Int32), ((WS (aX A) 10 (pres (aW A) (xn (aX A)))).1 = cnt A → r = 1) → ((WS (aX A) 10 (pres (aW A) (xn (aX A)))).1 ≠ cnt A → r = 0) → w_X9_same s2 (fun r2 σ2 => K r r2 σ2) := by
    intro r r1 r0
    unfold w_X9_same w_X9_same_E
    refine df m2 ?_
    refine best_ok ok.1 hZ.1 hZ.2.1 hZ.2.2.1 (fun s3 sm hF3 hF4 h27 hKT hMT => ?_)
    have c3 : ZS A s3 := hZ.frX hF3 hF4 h27 hKT
    have hm3 : SmC s2 s3 := hF3.c.tr hF4.c
    have hR : Rel A s3 := ⟨ok, c2.m hm3, c3⟩
    obtain ⟨l, mi, cc, t1, t2, t3, t4, ⟨t5, t6, t7⟩, t8, t9⟩ := hMT (pres (aW A) (xn (aX A))) (by omega) (dif_self _)
    have he := enc (a := l) (b := mi) (c := cc) (a2 := popc (aLf A)) (b2 := sumN (fM A) 9) (c2 := sumN (fP A) 9) (by omega) (by omega) hsM hsP
    rw [t4] at he
    have he : (WS (aX A) 10 (pres (aW A) (xn (aX A)))).1 = cnt A ↔ _ := he
    refine w_pres (X := aX A) (aw := aW A) ok.1 c3.1 c3.2.1 ?_
    rw [nI_c (by omega : pres (aW A) (xn (aX A)) ≤ 1000000000), t1, c3.2.2.2.2.2.2.2.2.1]
    refine ⟨vin hP9 (by decide), fun z => ?_, fun z => ?_⟩
    · rw [r0 (fun y => z (by rw [(he.mp y).1]))]
      exact hK _ A s3 hR
    · have z := (nI_eq (by omega) (by omega)).mp z
      refine w_planned (x := 2) (f := fM A) ok c3 (by decide) (by decide) rfl ?_
      rw [t2]
      refine ⟨fun y => ?_, fun y => ?_⟩
      · rw [r0 (fun q => y (by rw [(he.mp q).2.1]))]
        exact hK _ A s3 hR
      · have y := (nI_eq (by omega) (by omega)).mp y
        refine w_planned (x := 0) (f := fP A) ok c3 (by decide) (by decide) (if_pos rfl).symm ?_
        rw [t3]
        refine ⟨fun q => ?_, fun q => ?_⟩
        · rw [r0 (fun w => q (by rw [(he.mp w).2.2]))]
          exact hK _ A s3 hR
        · have q := (nI_eq (by omega) (by omega)).mp q
          rw [r1 (he.mpr ⟨z.symm, y.symm, q.symm⟩)]
          exact hK _ A s3 hR
  refine ⟨fun z => mod 0 (fun e => absurd (by rw [e]) z) (fun _ => rfl), fun z => mod 1 (fun _ => rfl) (fun e => absurd ((nI_eq (by omega) (by omega)).mp z) e)⟩
theorem L_few {A : AA} {σ : MS} (h : Rel A σ) {K : Int32 → Int32 → MS → Prop} (hK : ∀ r A' σ', Rel A' σ' → K r r σ') : w_X8_few σ (fun r1 σ1 => w_X9_few σ1 (fun r2 σ2 => K r1 r2 σ2)) := by
  have ok := h.1
  have c := h.2.1
  have hP : pres (aW A) (xn (aX A)) < 2 ^ (xn (aX A)) := pres_lt
  have hP9 := okS_9 ok.1 hP
  have hpP := popc_le (pres (aW A) (xn (aX A)))
  have hW := WS_le ok.1 (k := 0) (by omega) _ (pres (aW A) (xn (aX A))) (Nat.le_refl _) hP9
  unfold w_X8_few w_X8_few_E
  refine w_here ok.1 c.1 c.2.1 ?_
  refine learnAll_ok ok.1 c.1 c.2.2.1 hP (fun s1 hF1 hK1 hA1 => ?_)
  have c1 := c.frN hF1 hK1
  unfold w_X1_fewestPools w_X1_fewestPools_E
  refine findAll_ok (k := 0) ok.1 hP (by omega) hK1 hA1 (fun s2 hF2 hT2 => ?_)
  have c2 := c1.frT hF2
  have hm : SmM σ s2 := hF1.m.tr (fun k j hk => hF2 k j (by omega) (by omega))
  have hZ := h.2.2.m hm
  have mod : ∀ (r : Int32), ((WS (aX A) 0 (pres (aW A) (xn (aX A)))).1 < 1000000 → r = nI (WS (aX A) 0 (pres (aW A) (xn (aX A)))).1) → (¬ (WS (aX A) 0 (pres (aW A) (xn (aX A)))).1 < 1000000 → r = -9) → w_X9_few s2 (fun r2 σ2 => K r r2 σ2) := by
    intro r r1 r0
    unfold w_X9_few w_X9_few_E
    refine best_ok ok.1 hZ.1 hZ.2.1 hZ.2.2.1 (fun s3 sm hF3 hF4 h27 hKT hMT => ?_)
    have c3 : ZS A s3 := hZ.frX hF3 hF4 h27 hKT
    have hm3 : SmC s2 s3 := hF3.c.tr hF4.c
    have hR : Rel A s3 := ⟨ok, c2.m hm3, c3⟩
    obtain ⟨l, mi, cc, t1, t2, t3, t4, t5, t8, t9⟩ := hMT (pres (aW A) (xn (aX A))) (by omega) (dif_self _)
    refine w_pres (X := aX A) (aw := aW A) ok.1 c3.1 c3.2.1 ?_
    rw [nI_c (by omega : pres (aW A) (xn (aX A)) ≤ 1000000000), t9]
    refine ⟨vin hP9 (by decide), fun x ex => ?_⟩
    rw [ex]
    unfold fw
    by_cases q : (WS (aX A) 0 (pres (aW A) (xn (aX A)))).1 < 1000000
    · rw [if_pos q, r1 q]
      exact ct (nI_lt (b := 1000000) q (by omega)) (hK _ A s3 hR)
    · rw [if_neg q, r0 q]
      exact cf (by decide) (hK _ A s3 hR)
  refine ⟨fun z => mod _ (fun q => ?_) (fun _ => rfl), fun z => mod _ (fun _ => rfl) (fun q => ?_)⟩
  · have := (nI_leI (a := 1000000) (by omega) (by omega)).mp z
    omega
  · exact absurd (nI_le (a := 1000000) (by omega) (by omega)) z
