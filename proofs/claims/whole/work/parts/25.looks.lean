/-! ===== the reference's search: looks ===== -/
def ME (D : DD) (np : Nat) (σ : MS) : Prop := np ≤ 9 ∧ σ 66 3 = nI np ∧ (∀ p, p < 9 → σ 71 p = nI (dh D p) ∧ σ 72 p = nI (dw D p) ∧ σ 73 p = iI (de D p) ∧ σ 74 p = iI (da D p) ∧ σ 75 p = iI (dg D p - dl D (dh D p) (dw D p))) ∧ ∀ a b, a < 10 → b < 10 → σ 69 (10 * a + b) = iI (dl D a b)
def mtot (b : BB) : Int := match b with
  | none => 1000000
  | some r => r.1
def MB (M : List Nat) (σ : MS) (b : BB) : Prop := (0 ≤ tot b ∧ tot b ≤ 1441) ∧ σ 66 25 = iI (mtot b) ∧ ∀ r, b = some r → r.1 ≤ 1440 ∧ σ 66 26 = iI r.2.1 ∧ (∀ k, k < M.length → σ 85 k = nI (r.2.2.1.getD k 0) ∧ σ 86 k = nI (r.2.2.2.1.getD k 0)) ∧ ∀ p ∈ M, σ 87 p = iI (r.2.2.2.2.1 p) ∧ σ 88 p = iI (r.2.2.2.2.2 p)
def FrL (σ σ' : MS) : Prop := ∀ k j, ¬ ((85 ≤ k ∧ k ≤ 88) ∨ (k = 66 ∧ (j = 25 ∨ j = 26))) → σ' k j = σ k j
theorem mtot_lt {b : BB} {all : Int} (hb : tot b ≤ 1441) (h : all < tot b) : all < mtot b := by
  cases b with
  | none => show all < 1000000; have : tot none = 1441 := rfl; omega
  | some r => exact h
theorem ME.fr {D : DD} {np : Nat} {σ σ' : MS} (h : ∀ k j, (69 ≤ k ∧ k ≤ 75) ∨ (k = 66 ∧ j = 3) → σ' k j = σ k j) (c : ME D np σ) : ME D np σ' := by
  obtain ⟨c0, c1, c2, c3⟩ := c
  refine ⟨c0, by rw [h 66 3 (by omega)]; exact c1, fun p hp => ?_, fun a b ha hb => by rw [h 69 _ (by omega)]; exact c3 a b ha hb⟩
  rw [h 71 p (by omega), h 72 p (by omega), h 73 p (by omega), h 74 p (by omega), h 75 p (by omega)]
  exact c2 p hp
theorem w_lea {D : DD} {σ : MS} {a b : Nat} (h : ∀ a b, a < 10 → b < 10 → σ 69 (10 * a + b) = iI (dl D a b)) (ha : a < 10) (hb : b < 10) {Q : Int32 → MS → Prop} (hQ : Q (iI (dl D a b)) σ) : w_X9_leastOf (nI a) (nI b) σ Q := by
  unfold w_X9_leastOf w_X9_leastOf_E
  have e : (10 : Int32) * nI a + nI b = nI (10 * a + b) := by
    rw [show (10 : Int32) = nI 10 from rfl, pk_mul, nI_add]
  rw [e, nI_c (by omega : 10 * a + b ≤ 1000000000), h a b ha hb]
  exact ⟨vin (by omega) (by omega), hQ⟩
theorem drop_getD {U : List Nat} {k : Nat} (h : k < U.length) : U.drop k = U.getD k 0 :: U.drop (k + 1) := by
  rw [List.getD_eq_getElem?_getD, List.getElem?_eq_getElem h, Option.getD_some]
  exact List.drop_eq_getElem_cons h
def LA (D : DD) (M U Dl : List Nat) (ua t : Nat → Int) (σ : MS) : Prop := σ 66 24 = nI M.length ∧ U.length = M.length ∧ (∀ p, p ∈ U ↔ p ∈ M) ∧ (∀ k, k < U.length → σ 81 k = nI (U.getD k 0)) ∧ (∀ k, k < M.length → σ 82 k = nI (Dl.getD k 0)) ∧ (∀ p ∈ U, σ 83 p = iI (ua p) ∧ (0 ≤ ua p ∧ ua p ≤ 3000)) ∧ ∀ p ∈ U, σ 84 p = iI (t p) ∧ (0 ≤ t p ∧ t p ≤ 3000)
theorem looks_copy {D : DD} {M U Dl : List Nat} (hM : okM M) {ua t : Nat → Int} {σ0 : MS} (hL : LA D M U Dl ua t σ0) {Q : MS → Prop} (hQ : ∀ σ', (∀ k j, ¬ (85 ≤ k ∧ k ≤ 88) → σ' k j = σ0 k j) → (∀ k, k < M.length → σ' 85 k = nI (U.getD k 0) ∧ σ' 86 k = nI (Dl.getD k 0)) → (∀ p ∈ M, σ' 87 p = iI (ua p) ∧ σ' 88 p = iI (t p)) → Q σ') :
    ∀ (n i : Nat) (σ : MS), i ≤ M.length → M.length - i < n → (∀ k j, ¬ (85 ≤ k ∧ k ≤ 88) → σ k j = σ0 k j) → (∀ k, k < i → σ 85 k = nI (U.getD k 0) ∧ σ 86 k = nI (Dl.getD k 0)) → (∀ k, k < i → σ 87 (U.getD k 0) = iI (ua (U.getD k 0)) ∧ σ 88 (U.getD k 0) = iI (t (U.getD k 0))) → w_X9_looks_H148 Q n (nI i) σ := by
  obtain ⟨l1, l2, l3, l4, l5, l6, l7⟩ := hL
  have hM4 := hM.2.2.1
  intro n
  induction n with
  | zero => intro i σ _ h; omega
  | succ n ih =>
    intro i σ hi hn h1 h2 h3
    unfold w_X9_looks_H148
    rw [h1 66 24 (by omega), l1]
    refine ⟨fun h => ?_, fun h => ?_⟩
    · have := (nI_leI (by omega) (by omega)).mp h
      have e : i = M.length := by omega
      subst e
      refine hQ σ h1 h2 (fun p hp => ?_)
      obtain ⟨k, hk, rfl⟩ := mem_getD ((l3 p).mpr hp)
      exact h3 k (by omega)
    · have hil : i < M.length := by
        rcases Nat.lt_or_ge i M.length with q | q
        · exact q
        · exact absurd (nI_le q (by omega)) h
      have hu : U.getD i 0 ∈ U := getD_mem (by omega)
      have hu9 : U.getD i 0 < 9 := hM.2.1 _ ((l3 _).mp hu)
      rw [nI_c (by omega : i ≤ 1000000000)]
      refine ⟨vin (by omega) (by omega), fun σa ea σb eb => ?_⟩
      have k81 : σb 81 i = nI (U.getD i 0) := by
        subst ea eb
        have := h1 81 i (by omega)
        simp only [mst]
        rw [if_neg (by omega), if_neg (by omega), this]
        exact l4 i (by omega)
      rw [k81, nI_c (by omega : U.getD i 0 ≤ 1000000000)]
      refine ⟨vin hu9 (by omega), fun σc ec => ?_⟩
      have k81c : σc 81 i = nI (U.getD i 0) := by
        subst ec
        simp only [mst]
        rw [if_neg (by omega)]
        exact k81
      rw [k81c, nI_c (by omega : U.getD i 0 ≤ 1000000000)]
      refine ⟨vin hu9 (by omega), fun σd ed => ?_⟩
      rw [nI_1]
      have r81 : σ 81 i = nI (U.getD i 0) := (h1 81 i (by omega)).trans (l4 i (by omega))
      have r82 : σ 82 i = nI (Dl.getD i 0) := (h1 82 i (by omega)).trans (l5 i (by omega))
      have r83 : σ 83 (U.getD i 0) = iI (ua (U.getD i 0)) := (h1 83 _ (by omega)).trans (l6 _ hu).1
      have r84 : σ 84 (U.getD i 0) = iI (t (U.getD i 0)) := (h1 84 _ (by omega)).trans (l7 _ hu).1
      refine ih (i + 1) σd (by omega) (by omega) (fun k j hk => ?_) (fun k hk => ?_) (fun k hk => ?_)
      · subst ea eb ec ed
        simp only [mst]
        rw [if_neg (by omega), if_neg (by omega), if_neg (by omega), if_neg (by omega)]
        exact h1 k j hk
      · by_cases e : k = i
        · subst e
          subst ea eb ec ed
          simp [mst, r81, r82]
        · have := h2 k (by omega)
          subst ea eb ec ed
          simp [mst, e, this]
      · by_cases e : U.getD k 0 = U.getD i 0
        · rw [e]
          subst ea eb ec ed
          generalize U.getD i 0 = u at r83 r84
          simp [mst, r83, r84]
        · have hk2 : k ≠ i := fun z => e (by rw [z])
          have := h3 k (by omega)
          subst ea eb ec ed
          generalize U.getD i 0 = u at e r83 r84
          generalize U.getD k 0 = v at e this
          simp [mst, e, this]
theorem looks_ok {D : DD} (hD : okD D) {M U Dl : List Nat} (hM : okM M) {np : Nat} {ua t : Nat → Int} {σ : MS} (hE : ME D np σ) (hL : LA D M U Dl ua t σ) {b : BB} (hB : MB M σ b) {all : Int} (ha : 0 ≤ all ∧ all ≤ 3000) {Q : MS → Prop} (hQ : ∀ σ', FrL σ σ' → MB M σ' (leafS D U Dl ua t all b) → Q σ') : w_X9_looks (iI all) σ Q := by
  have hM4 := hM.2.2.1
  unfold w_X9_looks w_X9_looks_E
  rw [hB.2.1]
  have hmt : sm (mtot b) := by
    cases b with
    | none => exact smi (by show (-1000000000 : Int) ≤ 1000000; omega) (by show (1000000 : Int) ≤ 1000000000; omega)
    | some r => exact smi (by show (-1000000000 : Int) ≤ r.1; have := hB.1.1; have e : tot (some r) = r.1 := rfl; omega) (by show r.1 ≤ (1000000000 : Int); have := hB.1.2; have e : tot (some r) = r.1 := rfl; omega)
  have hlt := iI_lt (a := all) (b := mtot b) (smi (by omega) (by omega)) hmt
  refine ⟨fun h => ?_, fun h => ?_⟩
  · have h := hlt.mp h
    have hL0 := hL
    obtain ⟨l1, l2, l3, l4, l5, l6, l7⟩ := hL
    intro x3 e3
    rw [show (1440 : Int32) = iI 1440 from rfl, iI_sub] at e3
    subst e3
    have loop : ∀ (j n k : Nat) (F Lm : Int), k + j = U.length → j < n → (∀ p ∈ U.take k, t p - ua p ≤ dg D p) → (-5000 ≤ F ∧ F ≤ 5000) → (-5000 ≤ Lm ∧ Lm ≤ 5000) → fsts D ua U = (U.drop k).foldl (fun x p => if x < de D p - ua p then de D p - ua p else x) F → lsts D t U all = (U.drop k).foldl (fun x p => if da D p - t p < x then da D p - t p else x) Lm → w_X9_looks_H20 Q n (iI all) (iI F) (iI Lm) (nI k) σ := by
      intro j
      induction j with
      | zero =>
        intro n k F Lm hk hn hg hF hLm e1 e2
        obtain ⟨n, rfl⟩ : ∃ z, n = z + 1 := ⟨n - 1, by omega⟩
        unfold w_X9_looks_H20
        rw [l1]
        refine ⟨fun _ => ?_, fun h2 => absurd (nI_le (by omega) (by omega)) h2⟩
        rw [List.drop_eq_nil_of_le (by omega), List.foldl_nil] at e1 e2
        rw [List.take_of_length_le (by omega)] at hg
        unfold w_X9_looks_J129
        refine ⟨fun h2 => ?_, fun h2 => ?_⟩
        · have h2 := (iI_le (smi (by omega) (by omega)) (smi (by omega) (by omega))).mp h2
          intro σa ea σb eb
          have old : ∀ k j, k ≠ 66 → σb k j = σ k j := fun k j hk => by
            subst ea eb
            simp [mst, hk]
          have o66 : ∀ j, j ≠ 25 → j ≠ 26 → σb 66 j = σ 66 j := fun j h1 h2 => by
            subst ea eb
            simp [mst, h1, h2]
          have hLb : LA D M U Dl ua t σb := ⟨by rw [o66 24 (by omega) (by omega)]; exact l1, l2, l3, fun k hk => by rw [old 81 k (by omega)]; exact l4 k hk, fun k hk => by rw [old 82 k (by omega)]; exact l5 k hk, fun p hp => by rw [old 83 p (by omega)]; exact l6 p hp, fun p hp => by rw [old 84 p (by omega)]; exact l7 p hp⟩
          refine ⟨M.length + 1, looks_copy hM hLb (fun σ' g1 g2 g3 => ?_) (M.length + 1) 0 σb (by omega) (by omega) (fun _ _ _ => rfl) (fun k hk => absurd hk (by omega)) (fun k hk => absurd hk (by omega))⟩
          have hall : all ≤ 1440 := by
            have h0 := (le_lsts.mp (Int.le_refl (lsts D t U all))).1
            have h3 := (fsts_le.mp (Int.le_refl (fsts D ua U))).1
            omega
          have hgood : all < tot b ∧ goodW D U ua t all := ⟨by
            cases b with
            | none => show all < 1441; omega
            | some r => exact h, hg, by omega⟩
          refine hQ σ' (fun k j hk => ?_) ?_
          · rw [g1 k j (by omega)]
            subst ea eb
            simp only [mst]
            rw [if_neg (by omega), if_neg (by omega)]
          · rw [leafS_y hgood]
            refine ⟨⟨ha.1, ?_⟩, ?_, fun r hr => ?_⟩
            · show all ≤ 1441
              omega
            · rw [g1 66 25 (by omega)]
              subst ea eb
              simp [mst]
              rfl
            · cases hr
              refine ⟨hall, ?_, g2, g3⟩
              rw [g1 66 26 (by omega), e2]
              subst ea eb
              simp [mst]
        · have h2 : ¬ F ≤ Lm := fun z => h2 ((iI_le (smi (by omega) (by omega)) (smi (by omega) (by omega))).mpr z)
          refine hQ σ (fun _ _ _ => rfl) ?_
          rw [leafS_n (fun hg2 => h2 (by have := hg2.2.2; omega))]
          exact hB
      | succ j ihj =>
        intro n k F Lm hk hn hg hF hLm e1 e2
        obtain ⟨n, rfl⟩ : ∃ z, n = z + 1 := ⟨n - 1, by omega⟩
        have hkl : k < U.length := by omega
        unfold w_X9_looks_H20
        rw [l1]
        refine ⟨fun h2 => absurd h2 (nI_ge (by omega) (by omega)), fun _ => ?_⟩
        have hu : U.getD k 0 ∈ U := getD_mem hkl
        have hu9 : U.getD k 0 < 9 := hM.2.1 _ ((l3 _).mp hu)
        rw [nI_c (by omega : k ≤ 1000000000)]
        refine ⟨vin (by omega) (by omega), fun x5 e5 => ?_⟩
        rw [l4 k hkl] at e5
        rw [drop_getD hkl, List.foldl_cons] at e1 e2
        have htk : U.take (k + 1) = U.take k ++ [U.getD k 0] := by
          rw [List.take_add_one, List.getElem?_eq_getElem hkl, List.getD_eq_getElem?_getD, List.getElem?_eq_getElem hkl]
          rfl
        generalize U.getD k 0 = p at hu hu9 e5 e1 e2 htk
        subst e5
        have hm := hE.2.2.1 p hu9
        have h83 := l6 p hu
        have h84 := l7 p hu
        have hdp := hD.2 p hu9
        have hll := hD.1 (dh D p) (dw D p) hdp.1 hdp.2.1
        rw [nI_c (by omega : p ≤ 1000000000), hm.1, hm.2.1]
        refine ⟨vin hu9 (by omega), w_lea hE.2.2.2 hdp.1 hdp.2.1 ?_⟩
        rw [hm.2.2.1, hm.2.2.2.1, hm.2.2.2.2, h83.1, h84.1]
        simp only [iI_sub, iI_add]
        rw [show dl D (dh D p) (dw D p) + (dg D p - dl D (dh D p) (dw D p)) = dg D p by omega]
        refine ⟨fun h2 x2 ex2 x3 ex3 => ?_, fun h2 => ?_⟩
        · have h2 := (iI_le (smi (by omega) (by omega)) (smi (by omega) (by omega))).mp h2
          have q2 : x2 = iI (if F < de D p - ua p then de D p - ua p else F) := by
            rw [ex2]
            have hq := iI_lt (a := F) (b := de D p - ua p) (smi (by omega) (by omega)) (smi (by omega) (by omega))
            by_cases z : F < de D p - ua p
            · rw [if_pos (hq.mpr z), if_pos z]
            · rw [if_neg (fun y => z (hq.mp y)), if_neg z]
          have q3 : x3 = iI (if da D p - t p < Lm then da D p - t p else Lm) := by
            rw [ex3]
            have hq := iI_lt (a := da D p - t p) (b := Lm) (smi (by omega) (by omega)) (smi (by omega) (by omega))
            by_cases z : da D p - t p < Lm
            · rw [if_pos (hq.mpr z), if_pos z]
            · rw [if_neg (fun y => z (hq.mp y)), if_neg z]
          rw [q2, q3, nI_1]
          refine ihj n (k + 1) _ _ (by omega) (by omega) ?_ ?_ ?_ e1 e2
          · intro q hq
            rw [htk] at hq
            rcases List.mem_append.mp hq with g | g
            · exact hg q g
            · rw [List.mem_singleton.mp g]
              exact h2
          · split <;> omega
          · split <;> omega
        · have h2 : ¬ t p - ua p ≤ dg D p := fun z => h2 ((iI_le (smi (by omega) (by omega)) (smi (by omega) (by omega))).mpr z)
          refine hQ σ (fun _ _ _ => rfl) ?_
          rw [leafS_n (fun hg2 => h2 (hg2.2.1 p hu))]
          exact hB
    refine ⟨U.length + 1, ?_⟩
    have := loop U.length (U.length + 1) 0 0 (1440 - all) (by omega) (by omega) (by simp) (by omega) (by omega) (by rw [List.drop_zero]; rfl) (by rw [List.drop_zero]; rfl)
    exact this
  · have h : ¬ all < mtot b := fun z => h (hlt.mpr z)
    refine hQ σ (fun _ _ _ => rfl) ?_
    rw [leafS_n (fun hg => h (mtot_lt hB.1.2 hg.1))]
    exact hB
