/-! ===== the class's search: pickNext ===== -/
def FrP (pl W : Nat) (σ σ' : MS) : Prop := (∀ k j, ¬ (k = 14 ∨ k = 16 ∨ k = 15 ∨ k = 17 ∨ k = 8 ∨ (18 ≤ k ∧ k ≤ 22) ∨ (k = 7 ∧ (j = 6 ∨ j = 7))) → σ' k j = σ k j) ∧ (∀ j, j < pl → σ' 14 j = σ 14 j) ∧ ∀ i, W.testBit i = false → σ' 16 i = σ 16 i
theorem FrP.rf {pl R : Nat} {σ : MS} : FrP pl R σ σ := ⟨fun _ _ _ => rfl, fun _ _ => rfl, fun _ _ => rfl⟩
theorem FrP.tr {pl R : Nat} {a b c : MS} (h : FrP pl R a b) (g : FrP pl R b c) : FrP pl R a c := ⟨fun k j hk => (g.1 k j hk).trans (h.1 k j hk), fun j hj => (g.2.1 j hj).trans (h.2.1 j hj), fun i hi => (g.2.2 i hi).trans (h.2.2 i hi)⟩
theorem FrB.p {a b pl W : Nat} {σ σ' : MS} (h : FrB a b σ σ') : FrP pl W σ σ' := ⟨fun k j hk => h.1 k j (by omega), fun j _ => h.1 14 j (by omega), fun i _ => h.1 16 i (by omega)⟩
theorem CE.frp {D : DD} {M : List Nat} {pl R : Nat} {σ σ' : MS} (h : FrP pl R σ σ') (c : CE D M σ) : CE D M σ' := by
  obtain ⟨c1, c2, c3⟩ := c
  refine ⟨by rw [h.1 7 0 (by omega)]; exact c1, fun i hi => ?_, fun a b ha hb => by rw [h.1 (56 + a) b (by omega)]; exact c3 a b ha hb⟩
  rw [h.1 13 i (by omega), h.1 23 i (by omega), h.1 24 i (by omega), h.1 25 i (by omega), h.1 26 i (by omega), h.1 27 i (by omega)]
  exact c2 i hi
theorem rmC_all {M : List Nat} {R : Nat} (h : ∀ i, i < M.length → R.testBit i = true) : rmC M R 0 M.length = M := by
  unfold rmC
  rw [List.filter_eq_self.mpr (fun j hj => h j (by have := (List.mem_range'_1.mp hj).2; omega))]
  apply List.ext_getElem?
  intro i
  rw [List.getElem?_map]
  by_cases hi : i < M.length
  · rw [List.getElem?_range' hi, List.getElem?_eq_getElem hi]
    simp [hi]
  · rw [List.getElem?_eq_none (by simpa using hi), List.getElem?_eq_none (by omega)]
    rfl
def SP (D : DD) (M : List Nat) (E : Int) (f W : Nat) (U : List Nat) (ua : Nat → Int) (at_ : Int) (cur : Nat) : Prop :=
  W < 16 ∧ (rmC M W 0 M.length).length = f ∧ U.length + f = M.length ∧ 0 < U.length ∧ (∀ p ∈ U, p ∈ M) ∧ (∀ i, i < M.length → (M.getD i 0 ∈ U ↔ W.testBit i = false)) ∧ (0 ≤ at_ ∧ at_ ≤ 300 * (U.length : Int)) ∧ (∀ p ∈ U, 0 ≤ ua p ∧ ua p ≤ at_) ∧ ((∀ p ∈ U, de D p - ua p ≤ E) ∧ 0 ≤ E) ∧ (∃ p ∈ U, E = de D p - ua p) ∧ U.getD (U.length - 1) 0 = cur
theorem pm1 : ∀ n, n ≤ 4 → ((1 : Int32) <<< (nI n &&& 31)) - 1 = nI (2 ^ n - 1) := by decide +kernel
theorem pm1b : ∀ n, n ≤ 4 → ∀ i, i < n → (2 ^ n - 1).testBit i = true := by decide +kernel
theorem pick_ok {D : DD} (hD : okD D) {M : List Nat} (hM : okM M) :
    ∀ (f d W : Nat) (U : List Nat) (ua : Nat → Int) (at_ E : Int) (cur : Nat) (b : BB) (σ : MS) (Q : MS → Prop), f < d → SP D M E f W U ua at_ cur → at_ < tot b → CE D M σ → PU M U ua σ → CB M σ b →
      (∀ σ', FrP U.length W σ σ' → CB M σ' (pickS D M f (rmC M W 0 M.length) U ua at_ cur b) → Q σ') → w_X7_pickNext d (nI U.length) (nI W) (iI at_) (iI E) σ Q := by
  have hM4 := hM.2.2.1
  intro f
  induction f with
  | zero =>
    intro d W U ua at_ E cur b σ Q hd hS hat hC hPU hB hQ
    obtain ⟨d, rfl⟩ : ∃ z, d = z + 1 := ⟨d - 1, by omega⟩
    obtain ⟨s1, s2, s3, s4, s5, s6, s7, s8, s9, s10, s11⟩ := hS
    have hlen : U.length = M.length := by omega
    unfold w_X7_pickNext w_X7_pickNext_E
    obtain ⟨j, hj, hj1, hj2⟩ := hPU.1 (U.length - 1) (by omega)
    rw [s11] at hj2
    have e1 : nI U.length - 1 = nI (U.length - 1) := by
      have := nI_pred (U.length - 1)
      rw [Nat.sub_add_cancel s4] at this
      exact this
    rw [e1, nI_c (by omega : U.length - 1 ≤ 1000000000), hj1, nI_c (by omega : j ≤ 1000000000), (hC.2.1 j hj).2.1, hj2]
    refine ⟨vin (by omega) (by omega), vin (by omega) (by omega), fun x5 e5 => ⟨fun h => ?_, fun _ => ?_⟩⟩
    · rw [hC.1, hlen] at h
      exact absurd h (nI_nlt (Nat.le_refl _) (by omega))
    · subst e5
      unfold w_X7_allPlaces w_X7_allPlaces_E
      rw [hC.1, pm1 _ hM4]
      have hcu : cur ∈ M := hj2 ▸ getD_mem hj
      have hz : rmC M W 0 M.length = [] := List.length_eq_zero_iff.mp s2
      have hall : ∀ p, p ∈ U ↔ p ∈ M := by
        intro p
        refine ⟨s5 p, fun hp => ?_⟩
        obtain ⟨i, hi, rfl⟩ := mem_getD hp
        refine (s6 i hi).mpr ?_
        cases hb2 : W.testBit i
        · rfl
        · have : M.getD i 0 ∈ rmC M W 0 M.length := rmC_mem.mpr ⟨i, hi, hb2, rfl⟩
          rw [hz] at this
          cases this
      have hfull : rmC M (2 ^ M.length - 1) 0 M.length = M := rmC_all (fun i hi => pm1b _ hM4 i hi)
      have key := bring_ok hD hM ⟨hlen, hall⟩ (ua := ua) (fun p hp => by have := s8 p hp; omega) s9 s10 M.length 6 (2 ^ M.length - 1) [] (fun _ => 0) at_ (dh D cur) 1440 b σ (fun σ43 => Q σ43) (by omega) (hD.2 cur (hM.2.1 cur hcu)).1 ?_ hat hC hPU ⟨fun k hk => absurd hk (by simp), fun i _ h => by cases h⟩ hB (fun σ' g1 g2 => hQ σ' g1.p ?_)
      · exact key
      · refine ⟨?_, by rw [hfull], Nat.zero_add _, fun p hp => absurd hp List.not_mem_nil, fun i hi => ?_, ⟨s7.1, by show at_ ≤ 300 * (4 + ((0 : Nat) : Int)); omega⟩, fun p hp => absurd hp List.not_mem_nil, fun p hp => absurd hp List.not_mem_nil, by omega, fun p hp => absurd hp List.not_mem_nil, Or.inl rfl, fun h => absurd rfl h⟩
        · have : 2 ^ M.length ≤ 2 ^ 4 := Nat.pow_le_pow_right (by decide) hM4
          omega
        · rw [pm1b _ hM4 i hi]
          simp
      · unfold pickS
        rw [hfull] at g2
        exact g2
  | succ f ihf =>
    intro d W U ua at_ E cur b σ Q hd hS hat hC hPU hB hQ
    obtain ⟨d, rfl⟩ : ∃ z, d = z + 1 := ⟨d - 1, by omega⟩
    obtain ⟨s1, s2, s3, s4, s5, s6, s7, s8, s9, s10, s11⟩ := hS
    have hlen : U.length < M.length := by omega
    unfold w_X7_pickNext w_X7_pickNext_E
    obtain ⟨j, hj, hj1, hj2⟩ := hPU.1 (U.length - 1) (by omega)
    rw [s11] at hj2
    have e1 : nI U.length - 1 = nI (U.length - 1) := by
      have := nI_pred (U.length - 1)
      rw [Nat.sub_add_cancel s4] at this
      exact this
    rw [e1, nI_c (by omega : U.length - 1 ≤ 1000000000), hj1, nI_c (by omega : j ≤ 1000000000), (hC.2.1 j hj).2.1, hj2]
    refine ⟨vin (by omega) (by omega), vin (by omega) (by omega), fun x5 e5 => ⟨fun _ => ?_, fun h => absurd (by rw [hC.1]; exact nI_lt hlen (by omega)) h⟩⟩
    subst e5
    have hcu : cur ∈ M := hj2 ▸ getD_mem hj
    have hdc := (hD.2 cur (hM.2.1 cur hcu)).1
    have hE3 : E ≤ 1440 := by
      obtain ⟨p, hp, e⟩ := s10
      have h1 := (hD.2 p (hM.2.1 p (s5 p hp))).2.2.1
      have h2 := (s8 p hp).1
      omega
    unfold pickS at hQ
    have loop : ∀ (k n i : Nat) (σ1 : MS) (b1 : BB), i + k = M.length → k < n → FrP U.length W σ σ1 → CB M σ1 b1 →
        (∀ σ', FrP U.length W σ σ' → CB M σ' ((rmC M W i k).foldl (fun b p => pickS D M f ((rmC M W 0 M.length).erase p) (U ++ [p]) (va_up ua p (at_ + dl D (dh D cur) (dh D p))) (at_ + dl D (dh D cur) (dh D p)) p b) b1) → Q σ') →
        w_X7_pickNext_H50 (w_X7_pickNext d) Q n (nI U.length) (nI W) (iI at_) (iI E) (nI (dh D cur)) (nI i) σ1 := by
      intro k
      induction k with
      | zero =>
        intro n i σ1 b1 hi hn hF hB1 hQ1
        obtain ⟨n, rfl⟩ : ∃ z, n = z + 1 := ⟨n - 1, by omega⟩
        unfold w_X7_pickNext_H50
        refine ⟨fun _ => hQ1 σ1 hF hB1, fun h => ?_⟩
        rw [(hC.frp hF).1] at h
        exact absurd (nI_le (by omega) (by omega)) h
      | succ k ihk =>
        intro n i σ1 b1 hi hn hF hB1 hQ1
        obtain ⟨n, rfl⟩ : ∃ z, n = z + 1 := ⟨n - 1, by omega⟩
        have hC1 := hC.frp hF
        have hil : i < M.length := by omega
        unfold w_X7_pickNext_H50
        refine ⟨fun h => ?_, fun _ => ?_⟩
        · rw [hC1.1] at h
          exact absurd h (nI_ge hil (by omega))
        · refine w_con (by omega) (by omega) (fun hbit => ?_) (fun hbit => ?_)
          · refine ⟨fun _ => ?_, fun h => absurd rfl h⟩
            rw [nI_1]
            refine ihk n (i + 1) σ1 b1 (by omega) (by omega) hF hB1 (fun σ' h1 h2 => hQ1 σ' h1 ?_)
            rw [rmC_f hbit]
            exact h2
          · refine ⟨fun h => absurd h (by decide), fun _ => ?_⟩
            have hp9 : M.getD i 0 < 9 := hM.2.1 _ (getD_mem hil)
            generalize hp : M.getD i 0 = p at hp9
            have hdp := hD.2 p hp9
            have hci := hC1.2.1 i hil
            rw [hp] at hci
            obtain ⟨c13, c23, c24, c25, c26, c27⟩ := hci
            have hl := hD.1 (dh D cur) (dh D p) hdc hdp.1
            have hpU : p ∉ U := fun q => by
              have := (s6 i hil).mp (hp ▸ q)
              rw [this] at hbit
              cases hbit
            rw [nI_c (by omega : i ≤ 1000000000), c23]
            refine ⟨vin (by omega) (by omega), w_sho hC1.2.2 hdc hdp.1 (fun x7 e7 => ?_)⟩
            rw [iI_add] at e7
            subst e7
            obtain ⟨tt, htt⟩ : ∃ z, z = at_ + dl D (dh D cur) (dh D p) := ⟨_, rfl⟩
            rw [← htt]
            have hb1 := hB1.1
            rw [hB1.2.1]
            refine ⟨fun h => ?_, fun h => ?_⟩
            · have h := (iI_le (smi (by omega) (by omega)) (smi (by omega) (by omega))).mp h
              rw [nI_1]
              refine ihk n (i + 1) σ1 b1 (by omega) (by omega) hF hB1 (fun σ2 h3 h4 => hQ1 σ2 h3 ?_)
              rw [rmC_t hbit, List.foldl_cons, hp, ← htt]
              rw [pick_dead hD hM.2.1 hM.1 f _ _ _ _ _ _ hp9 (fun q hq => ?_) h]
              · exact h4
              · obtain ⟨j2, hj2, -, rfl⟩ := rmC_mem.mp (List.mem_of_mem_erase hq)
                exact hM.2.1 _ (getD_mem hj2)
            · have h : ¬ tot b1 ≤ tt := fun z => h ((iI_le (smi (by omega) (by omega)) (smi (by omega) (by omega))).mpr z)
              rw [nI_c (by omega : U.length ≤ 1000000000)]
              refine ⟨vin (by omega) (by omega), fun σa ea σc ec => ?_⟩
              have hFc : FrP U.length W σ1 σc := by
                subst ea ec
                refine ⟨fun k j hk => ?_, fun j hj => ?_, fun j hj => ?_⟩
                · simp only [mst]
                  rw [if_neg (by omega), if_neg (by omega)]
                · have : j ≠ U.length := by omega
                  simp [mst, this]
                · have : j ≠ i := fun z => by rw [z, hbit] at hj; cases hj
                  simp [mst, this]
              have hCc := hC1.frp hFc
              have hc25 : σc 25 i = iI (de D p) := by
                have := (hCc.2.1 i hil).2.2.2.1
                rw [hp] at this
                exact this
              rw [hc25, iI_sub]
              have hmax : (if iI E < iI (de D p - tt) then iI (de D p - tt) else iI E) = iI (if E < de D p - tt then de D p - tt else E) := by
                have hlt := iI_lt (a := E) (b := de D p - tt) (smi (by omega) (by omega)) (smi (by omega) (by omega))
                by_cases hq : E < de D p - tt
                · rw [if_pos (hlt.mpr hq), if_pos hq]
                · rw [if_neg (fun z => hq (hlt.mp z)), if_neg hq]
              rw [hmax]
              obtain ⟨E2, hE2⟩ : ∃ z, z = if E < de D p - tt then de D p - tt else E := ⟨_, rfl⟩
              rw [← hE2]
              have hE2a : E ≤ E2 ∧ de D p - tt ≤ E2 ∧ (E2 = E ∨ E2 = de D p - tt) := by
                rw [hE2]
                split <;> omega
              rw [nI_1, nI_sh (by omega), nI_dif]
              have hl1 : U.length + 1 = (U ++ [p]).length := by rw [List.length_append]; rfl
              rw [hl1]
              have her : (rmC M W 0 M.length).erase p = rmC M (dif W (2 ^ i)) 0 M.length := by
                rw [← hp]
                exact rmC_er hM.1 hil hbit
              have hmem : p ∈ rmC M W 0 M.length := rmC_mem.mpr ⟨i, hil, hbit, hp⟩
              refine ihf d (dif W (2 ^ i)) (U ++ [p]) (va_up ua p tt) tt E2 p b1 σc _ (by omega) ?_ (by omega) hCc ?_ ?_ (fun σ' g1 g2 => ?_)
              · have hmt : ∀ q, q ∈ U → va_up ua p tt q = ua q := fun q hq => up_n (fun z => hpU (z ▸ hq))
                refine ⟨Nat.lt_of_lt_of_le (dif_lt (n := 4) s1) (by decide), ?_, ?_, by rw [← hl1]; omega, ?_, fun j hj => ?_, ?_, ?_, ⟨?_, by omega⟩, ?_, ?_⟩
                · rw [← her, List.length_erase_of_mem hmem, s2]
                  rfl
                · rw [← hl1]
                  omega
                · intro q hq
                  rcases List.mem_append.mp hq with g | g
                  · exact s5 q g
                  · rw [List.mem_singleton.mp g, ← hp]
                    exact getD_mem hil
                · rw [dif_b, Nat.testBit_two_pow, List.mem_append, List.mem_singleton, s6 j hj]
                  by_cases e : i = j
                  · subst e
                    exact ⟨fun _ => by simp, fun _ => Or.inr hp⟩
                  · have : M.getD j 0 ≠ p := fun z => e (getD_inj hM.1 hil hj (hp.trans z.symm))
                    rw [decide_eq_false e, Bool.not_false, Bool.and_true]
                    exact ⟨fun g => g.elim id (fun q => absurd q this), Or.inl⟩
                · rw [← hl1]
                  omega
                · intro q hq
                  rcases List.mem_append.mp hq with g | g
                  · rw [hmt q g]
                    have := s8 q g
                    omega
                  · rw [List.mem_singleton.mp g, up_s]
                    omega
                · intro q hq
                  rcases List.mem_append.mp hq with g | g
                  · rw [hmt q g]
                    have := s9.1 q g
                    omega
                  · rw [List.mem_singleton.mp g, up_s]
                    omega
                · rcases hE2a.2.2 with g | g
                  · obtain ⟨r, hr, g2⟩ := s10
                    exact ⟨r, List.mem_append_left _ hr, by rw [hmt r hr]; omega⟩
                  · exact ⟨p, List.mem_append_right _ List.mem_cons_self, by rw [up_s]; omega⟩
                · rw [← hl1, Nat.add_sub_cancel, List.getD_eq_getElem?_getD, List.getElem?_append_right (Nat.le_refl _), Nat.sub_self]
                  rfl
              · have hPU1 : PU M U ua σ1 := by
                  refine ⟨fun k hk => ?_, fun j hj hjd => ?_⟩
                  · rw [hF.2.1 k hk]
                    exact hPU.1 k hk
                  · rw [hF.2.2 j ((s6 j hj).mp hjd)]
                    exact hPU.2 j hj hjd
                subst ea ec
                refine ⟨fun k hk => ?_, fun j hj hjd => ?_⟩
                · rw [← hl1] at hk
                  by_cases hkl : k < U.length
                  · obtain ⟨j, hj, g1, g2⟩ := hPU1.1 k hkl
                    refine ⟨j, hj, ?_, ?_⟩
                    · have : k ≠ U.length := by omega
                      simp [mst, this, g1]
                    · rw [g2, List.getD_eq_getElem?_getD, List.getD_eq_getElem?_getD, List.getElem?_append_left hkl]
                  · have e : k = U.length := by omega
                    subst e
                    refine ⟨i, hil, by simp [mst], ?_⟩
                    rw [hp, List.getD_eq_getElem?_getD, List.getElem?_append_right (Nat.le_refl _), Nat.sub_self]
                    rfl
                · by_cases e : j = i
                  · subst e
                    rw [hp, up_s]
                    simp [mst]
                  · have hne : M.getD j 0 ≠ p := fun z => e (getD_inj hM.1 hj hil (z.trans hp.symm))
                    rw [up_n hne]
                    have hjd2 : M.getD j 0 ∈ U := by
                      rcases List.mem_append.mp hjd with g | g
                      · exact g
                      · exact absurd (List.mem_singleton.mp g) hne
                    have := hPU1.2 j hj hjd2
                    simp [mst, e, this]
              · subst ea ec
                refine ⟨hb1, ?_, fun r hr => ?_⟩
                · have := hB1.2.1
                  simp [mst, this]
                · have := hB1.2.2 r hr
                  simpa [mst] using this
              · have hF2 : FrP U.length W σ σ' := hF.tr (hFc.tr ⟨g1.1, fun j hj => g1.2.1 j (by rw [← hl1]; omega), fun j hj => g1.2.2 j (by rw [dif_b, hj]; rfl)⟩)
                rw [nI_1]
                refine ihk n (i + 1) σ' _ (by omega) (by omega) hF2 g2 (fun σ2 h3 h4 => hQ1 σ2 h3 ?_)
                rw [rmC_t hbit, List.foldl_cons, hp, ← htt, her]
                exact h4
    exact ⟨M.length + 1, loop M.length (M.length + 1) 0 σ b (by omega) (by omega) FrP.rf hB hQ⟩
