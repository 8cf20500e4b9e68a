/-! ===== the reference's search: drops, picks ===== -/
def rmD (S i k : Nat) : List Nat := (List.range' i k).filter (fun j => S.testBit j)
theorem rmD_t {S i k : Nat} (h : S.testBit i = true) : rmD S i (k + 1) = i :: rmD S (i + 1) k := by
  unfold rmD
  rw [List.range'_succ, List.filter_cons_of_pos (by simpa using h)]
theorem rmD_f {S i k : Nat} (h : S.testBit i = false) : rmD S i (k + 1) = rmD S (i + 1) k := by
  unfold rmD
  rw [List.range'_succ, List.filter_cons_of_neg (by simp [h])]
theorem rmD_mem {S n p : Nat} : p ∈ rmD S 0 n ↔ p < n ∧ S.testBit p = true := by
  unfold rmD
  rw [List.mem_filter, List.mem_range'_1]
  constructor
  · rintro ⟨h1, h2⟩
    exact ⟨by omega, h2⟩
  · rintro ⟨h1, h2⟩
    exact ⟨⟨Nat.zero_le _, by omega⟩, h2⟩
theorem rmD_nd {S n : Nat} : (rmD S 0 n).Nodup := List.Pairwise.filter _ List.nodup_range'
theorem rmD_er {S n i : Nat} (hi : i < n) (hS : S.testBit i = true) : (rmD S 0 n).erase i = rmD (dif S (2 ^ i)) 0 n := by
  have h := er_fm (f := id) (P := fun j => S.testBit j) (P2 := fun j => (dif S (2 ^ i)).testBit j) (i := i) (List.range' 0 n) List.nodup_range' (List.mem_range'_1.mpr ⟨Nat.zero_le _, by omega⟩) hS (fun j => by
    rw [dif_b, Nat.testBit_two_pow]
    by_cases e : i = j
    · subst e
      simp
    · have : ¬ j = i := fun q => e q.symm
      simp [e, this]) (fun a _ b _ h => h)
  rw [List.map_id, List.map_id] at h
  exact h
theorem rmD_0 {S n : Nat} (hS : S < 2 ^ n) : rmD S 0 n = [] ↔ S = 0 := by
  constructor
  · intro h
    apply Nat.eq_of_testBit_eq
    intro i
    rw [Nat.zero_testBit]
    cases hb : S.testBit i
    · rfl
    · have : i ∈ rmD S 0 n := rmD_mem.mpr ⟨bits_lt hS hb, hb⟩
      rw [h] at this
      cases this
  · intro h
    subst h
    unfold rmD
    rw [List.filter_eq_nil_iff]
    intro a _
    simp
def FrD (n S : Nat) (σ σ' : MS) : Prop := (∀ k j, ¬ (k = 82 ∨ k = 84 ∨ (85 ≤ k ∧ k ≤ 88) ∨ (k = 66 ∧ (j = 25 ∨ j = 26))) → σ' k j = σ k j) ∧ (∀ j, j < n → σ' 82 j = σ 82 j) ∧ ∀ i, S.testBit i = false → σ' 84 i = σ 84 i
theorem FrD.rf {pl R : Nat} {σ : MS} : FrD pl R σ σ := ⟨fun _ _ _ => rfl, fun _ _ => rfl, fun _ _ => rfl⟩
theorem FrD.tr {pl R : Nat} {a b c : MS} (h : FrD pl R a b) (g : FrD pl R b c) : FrD pl R a c := ⟨fun k j hk => (g.1 k j hk).trans (h.1 k j hk), fun j hj => (g.2.1 j hj).trans (h.2.1 j hj), fun i hi => (g.2.2 i hi).trans (h.2.2 i hi)⟩
/-- the reference's arrays while it brings to WORK -/
def LD (M U Dl : List Nat) (ua t : Nat → Int) (at_ : Int) (σ : MS) : Prop := σ 66 24 = nI M.length ∧ U.length = M.length ∧ (∀ p, p ∈ U ↔ p ∈ M) ∧ (∀ k, k < U.length → σ 81 k = nI (U.getD k 0)) ∧ (∀ k, k < Dl.length → σ 82 k = nI (Dl.getD k 0)) ∧ (∀ p ∈ U, σ 83 p = iI (ua p) ∧ (0 ≤ ua p ∧ ua p ≤ 3000)) ∧ ∀ p ∈ Dl, σ 84 p = iI (t p) ∧ (0 ≤ t p ∧ t p ≤ at_)
theorem nb0 {S p : Nat} (hS : S < 2 ^ 31) (hp : p < 31) (h : ¬ (nI S >>> (nI p &&& 31)) &&& 1 = 0) : S.testBit p = true := by
  cases hb : S.testBit p
  · exact absurd ((nI_bit0 hS hp).mpr hb) h
  · rfl
theorem drops_ok {D : DD} (hD : okD D) {M U : List Nat} (hM : okM M) {np : Nat} (hMn : ∀ p ∈ M, p < np) {ua : Nat → Int} :
    ∀ (f d S : Nat) (Dl : List Nat) (t : Nat → Int) (at_ : Int) (stop : Nat) (b : BB) (σ : MS) (Q : MS → Prop), f < d → stop < 10 → S < 2 ^ np → (rmD S 0 np).length = f → Dl.length + f = M.length → (∀ p ∈ Dl, p ∈ M) → (∀ p, p ∈ M → (p ∈ Dl ↔ S.testBit p = false)) → (∀ p, S.testBit p = true → p ∈ M) → (0 ≤ at_ ∧ at_ ≤ 300 * (4 + (Dl.length : Int))) → ME D np σ → LD M U Dl ua t at_ σ → MB M σ b →
      (∀ σ', FrD Dl.length S σ σ' → MB M σ' (dropS D U ua f (rmD S 0 np) Dl t at_ stop b) → Q σ') → w_X9_drops d (nI S) (nI Dl.length) (iI at_) (nI stop) σ Q := by
  have hM4 := hM.2.2.1
  intro f
  induction f with
  | zero =>
    intro d S Dl t at_ stop b σ Q hd hs hS hl hD1 hD2 hD3 hD4 hat hE hL hB hQ
    obtain ⟨d, rfl⟩ : ∃ z, d = z + 1 := ⟨d - 1, by omega⟩
    have hS0 : S = 0 := (rmD_0 hS).mp (List.length_eq_zero_iff.mp hl)
    subst hS0
    unfold w_X9_drops w_X9_drops_E
    refine ⟨fun h => absurd rfl h, fun _ => ?_⟩
    obtain ⟨l1, l2, l3, l4, l5, l6, l7⟩ := hL
    have hall : ∀ p, p ∈ U → p ∈ Dl := fun p hp => (hD3 p ((l3 p).mp hp)).mpr (Nat.zero_testBit p)
    refine looks_ok hD hM (U := U) (Dl := Dl) (ua := ua) (t := t) hE ⟨l1, l2, l3, l4, fun k hk => l5 k (by omega), l6, fun p hp => ⟨(l7 p (hall p hp)).1, by have := (l7 p (hall p hp)).2; omega⟩⟩ hB (by omega) (fun σ' g1 g2 => hQ σ' ?_ ?_)
    · exact ⟨fun k j hk => g1 k j (by omega), fun j _ => g1 82 j (by omega), fun i _ => g1 84 i (by omega)⟩
    · unfold dropS
      exact g2
  | succ f ihf =>
    intro d S Dl t at_ stop b σ Q hd hs hS hl hD1 hD2 hD3 hD4 hat hE hL hB hQ
    obtain ⟨d, rfl⟩ : ∃ z, d = z + 1 := ⟨d - 1, by omega⟩
    have hnp := hE.1
    have hS9 : S < 512 := Nat.lt_of_lt_of_le hS (Nat.pow_le_pow_right (n := 2) (by decide) hnp)
    have hSne : S ≠ 0 := fun e => by
      rw [(rmD_0 hS).mpr e] at hl
      cases hl
    unfold w_X9_drops w_X9_drops_E
    refine ⟨fun _ => ?_, fun h => absurd ((nI_eq (b := 0) (by omega) (by omega)).mp h) hSne⟩
    unfold dropS at hQ
    obtain ⟨l1, l2, l3, l4, l5, l6, l7⟩ := hL
    have loop : ∀ (k n i : Nat) (σ1 : MS) (b1 : BB), i + k = np → k < n → FrD Dl.length S σ σ1 → MB M σ1 b1 →
        (∀ σ', FrD Dl.length S σ σ' → MB M σ' ((rmD S i k).foldl (fun b p => dropS D U ua f ((rmD S 0 np).erase p) (Dl ++ [p]) (va_up t p (at_ + dl D stop (dw D p))) (at_ + dl D stop (dw D p)) (dw D p) b) b1) → Q σ') →
        w_X9_drops_H13 (w_X9_drops d) Q n (nI S) (nI Dl.length) (iI at_) (nI stop) (nI i) σ1 := by
      intro k
      induction k with
      | zero =>
        intro n i σ1 b1 hi hn hF hB1 hQ1
        obtain ⟨n, rfl⟩ : ∃ z, n = z + 1 := ⟨n - 1, by omega⟩
        unfold w_X9_drops_H13
        have hE1 : ME D np σ1 := hE.fr (fun k j hk => hF.1 k j (by omega))
        rw [hE1.2.1]
        exact ⟨fun _ => hQ1 σ1 hF hB1, fun h => absurd (nI_le (by omega) (by omega)) h⟩
      | succ k ihk =>
        intro n i σ1 b1 hi hn hF hB1 hQ1
        obtain ⟨n, rfl⟩ : ∃ z, n = z + 1 := ⟨n - 1, by omega⟩
        have hE1 : ME D np σ1 := hE.fr (fun k j hk => hF.1 k j (by omega))
        unfold w_X9_drops_H13
        rw [hE1.2.1]
        refine ⟨fun h => absurd h (nI_ge (by omega) (by omega)), fun _ => ⟨fun h => ?_, fun h => ?_⟩⟩
        · have hbit := nb0 (by omega) (by omega) h
          have hp9 : i < 9 := by omega
          have hdp := hD.2 i hp9
          have hll := hD.1 stop (dw D i) hs hdp.2.1
          have hiM : i ∈ M := hD4 i hbit
          have hiD : i ∉ Dl := fun q => by
            rw [(hD3 i hiM).mp q] at hbit
            cases hbit
          rw [nI_c (by omega : Dl.length ≤ 1000000000)]
          refine ⟨vin (by omega) (by omega), fun σa ea => ?_⟩
          rw [nI_c (by omega : i ≤ 1000000000)]
          have hEa : ME D np σa := hE1.fr (fun k j hk => by
            subst ea
            simp only [mst]
            rw [if_neg (by omega)])
          rw [(hEa.2.2.1 i hp9).2.1]
          refine ⟨vin hp9 (by omega), w_lea hEa.2.2.2 hs hdp.2.1 (fun σc ec => ?_)⟩
          rw [iI_add] at ec
          obtain ⟨tt, htt⟩ : ∃ z, z = at_ + dl D stop (dw D i) := ⟨_, rfl⟩
          rw [← htt] at ec
          have hFc : FrD Dl.length S σ1 σc := by
            subst ea ec
            refine ⟨fun k j hk => ?_, fun j hj => ?_, fun j hj => ?_⟩
            · simp only [mst]
              rw [if_neg (by omega), if_neg (by omega)]
            · have : j ≠ Dl.length := by omega
              simp [mst, this]
            · have : j ≠ i := fun z => by rw [z, hbit] at hj; cases hj
              simp [mst, this]
          have hEc : ME D np σc := hE1.fr (fun k j hk => hFc.1 k j (by omega))
          have h84 : σc 84 i = iI tt := by
            subst ec
            simp [mst]
          rw [h84, (hEc.2.2.1 i hp9).2.1, nI_1, nI_sh (by omega), nI_dif]
          have hl1 : Dl.length + 1 = (Dl ++ [i]).length := by rw [List.length_append]; rfl
          rw [hl1]
          have her := rmD_er (S := S) (n := np) (i := i) (by omega) hbit
          have hmem : i ∈ rmD S 0 np := rmD_mem.mpr ⟨by omega, hbit⟩
          refine ihf d (dif S (2 ^ i)) (Dl ++ [i]) (va_up t i tt) tt (dw D i) b1 σc _ (by omega) hdp.2.1 (dif_lt hS) ?_ ?_ ?_ (fun p hp => ?_) (fun p hp => ?_) ?_ hEc ?_ ?_ (fun σ' g1 g2 => ?_)
          · rw [← her, List.length_erase_of_mem hmem, hl]
            rfl
          · rw [← hl1]
            omega
          · intro q hq
            rcases List.mem_append.mp hq with g | g
            · exact hD2 q g
            · rw [List.mem_singleton.mp g]
              exact hiM
          · rw [dif_b, Nat.testBit_two_pow, List.mem_append, List.mem_singleton, hD3 p hp]
            by_cases e : i = p
            · subst e
              exact ⟨fun _ => by simp, fun _ => Or.inr rfl⟩
            · rw [decide_eq_false e, Bool.not_false, Bool.and_true]
              exact ⟨fun g => g.elim id (fun q => absurd q.symm e), Or.inl⟩
          · rw [dif_b] at hp
            simp only [Bool.and_eq_true] at hp
            exact hD4 p hp.1
          · rw [← hl1]
            omega
          · have hmt : ∀ q, q ∈ Dl → va_up t i tt q = t q := fun q hq => up_n (fun z => hiD (z ▸ hq))
            have o1 : ∀ k j, k ≠ 82 → k ≠ 84 → σc k j = σ1 k j := fun k j h1 h2 => by
              subst ea ec
              simp [mst, h1, h2]
            refine ⟨?_, l2, l3, fun k hk => ?_, fun k hk => ?_, fun p hp => ?_, fun p hp => ?_⟩
            · rw [o1 66 24 (by omega) (by omega), hF.1 66 24 (by omega)]
              exact l1
            · rw [o1 81 k (by omega) (by omega), hF.1 81 k (by omega)]
              exact l4 k hk
            · rw [← hl1] at hk
              by_cases hkl : k < Dl.length
              · have e1 : σc 82 k = σ1 82 k := hFc.2.1 k hkl
                rw [e1, hF.2.1 k hkl, l5 k hkl, List.getD_eq_getElem?_getD, List.getD_eq_getElem?_getD, List.getElem?_append_left hkl]
              · have e : k = Dl.length := by omega
                subst e
                rw [List.getD_eq_getElem?_getD, List.getElem?_append_right (Nat.le_refl _), Nat.sub_self]
                subst ea ec
                simp [mst]
            · rw [o1 83 p (by omega) (by omega), hF.1 83 p (by omega)]
              exact l6 p hp
            · rcases List.mem_append.mp hp with g | g
              · have hpb := (hD3 p (hD2 p g)).mp g
                rw [hmt p g, hFc.2.2 p hpb, hF.2.2 p hpb]
                have := l7 p g
                exact ⟨this.1, by omega⟩
              · rw [List.mem_singleton.mp g, up_s]
                exact ⟨h84, by omega⟩
          · subst ea ec
            refine ⟨hB1.1, ?_, fun r hr => ?_⟩
            · have := hB1.2.1
              simp [mst, this]
            · have := hB1.2.2 r hr
              simpa [mst] using this
          · have hF2 : FrD Dl.length S σ σ' := hF.tr (hFc.tr ⟨g1.1, fun j hj => g1.2.1 j (by rw [← hl1]; omega), fun j hj => g1.2.2 j (by rw [dif_b, hj]; rfl)⟩)
            rw [nI_1]
            refine ihk n (i + 1) σ' _ (by omega) (by omega) hF2 g2 (fun σ2 h3 h4 => hQ1 σ2 h3 ?_)
            rw [rmD_t hbit, List.foldl_cons, ← htt, her]
            exact h4
        · have hbit := (nI_bit0 (by omega) (by omega)).mp h
          rw [nI_1]
          refine ihk n (i + 1) σ1 b1 (by omega) (by omega) hF hB1 (fun σ' h1 h2 => hQ1 σ' h1 ?_)
          rw [rmD_f hbit]
          exact h2
    exact ⟨np + 1, loop np (np + 1) 0 σ b (by omega) (by omega) FrD.rf hB hQ⟩
def FrK (n S : Nat) (σ σ' : MS) : Prop := (∀ k j, ¬ (k = 81 ∨ k = 83 ∨ k = 82 ∨ k = 84 ∨ (85 ≤ k ∧ k ≤ 88) ∨ (k = 66 ∧ (j = 25 ∨ j = 26))) → σ' k j = σ k j) ∧ (∀ j, j < n → σ' 81 j = σ 81 j) ∧ ∀ i, S.testBit i = false → σ' 83 i = σ 83 i
theorem FrK.rf {pl R : Nat} {σ : MS} : FrK pl R σ σ := ⟨fun _ _ _ => rfl, fun _ _ => rfl, fun _ _ => rfl⟩
theorem FrK.tr {pl R : Nat} {a b c : MS} (h : FrK pl R a b) (g : FrK pl R b c) : FrK pl R a c := ⟨fun k j hk => (g.1 k j hk).trans (h.1 k j hk), fun j hj => (g.2.1 j hj).trans (h.2.1 j hj), fun i hi => (g.2.2 i hi).trans (h.2.2 i hi)⟩
def LK (M U : List Nat) (ua : Nat → Int) (at_ : Int) (σ : MS) : Prop := σ 66 24 = nI M.length ∧ (∀ k, k < U.length → σ 81 k = nI (U.getD k 0)) ∧ ∀ p ∈ U, σ 83 p = iI (ua p) ∧ (0 ≤ ua p ∧ ua p ≤ at_)
theorem picks_ok {D : DD} (hD : okD D) {M : List Nat} (hM : okM M) {np SM : Nat} (hSM : SM < 2 ^ np) (hMS : M = rmD SM 0 np) :
    ∀ (f d S : Nat) (U : List Nat) (ua : Nat → Int) (at_ : Int) (cur : Nat) (b : BB) (σ : MS) (Q : MS → Prop), f < d → S < 2 ^ np → (rmD S 0 np).length = f → U.length + f = M.length → 0 < U.length → (∀ p ∈ U, p ∈ M) → (∀ p, p ∈ M → (p ∈ U ↔ S.testBit p = false)) → (∀ p, S.testBit p = true → p ∈ M) → (0 ≤ at_ ∧ at_ ≤ 300 * (U.length : Int)) → U.getD (U.length - 1) 0 = cur → ME D np σ → LK M U ua at_ σ → MB M σ b →
      (∀ σ', FrK U.length S σ σ' → MB M σ' (pickS D M f (rmD S 0 np) U ua at_ cur b) → Q σ') → w_X9_picks d (nI SM) (nI S) (nI U.length) (iI at_) σ Q := by
  have hM4 := hM.2.2.1
  have hMn : ∀ p ∈ M, p < np := fun p hp => by
    rw [hMS] at hp
    exact (rmD_mem.mp hp).1
  intro f
  induction f with
  | zero =>
    intro d S U ua at_ cur b σ Q hd hS hl h1 h2 h3 h4 h5 hat hcur hE hL hB hQ
    obtain ⟨d, rfl⟩ : ∃ z, d = z + 1 := ⟨d - 1, by omega⟩
    have hS0 : S = 0 := (rmD_0 hS).mp (List.length_eq_zero_iff.mp hl)
    subst hS0
    unfold w_X9_picks w_X9_picks_E
    refine ⟨fun h => absurd rfl h, fun _ => ?_⟩
    have e1 : nI U.length - 1 = nI (U.length - 1) := by
      have := nI_pred (U.length - 1)
      rw [Nat.sub_add_cancel h2] at this
      exact this
    have hcU : cur ∈ U := hcur ▸ getD_mem (by omega)
    have hc9 := hM.2.1 cur (h3 cur hcU)
    rw [e1, nI_c (by omega : U.length - 1 ≤ 1000000000), hL.2.1 _ (by omega), hcur, nI_c (by omega : cur ≤ 1000000000), (hE.2.2.1 cur hc9).1]
    refine ⟨vin (by omega) (by omega), vin hc9 (by omega), ?_⟩
    have hall : ∀ p, p ∈ U ↔ p ∈ M := fun p => ⟨h3 p, fun hp => (h4 p hp).mpr (Nat.zero_testBit p)⟩
    have key := drops_ok hD hM hMn (U := U) (ua := ua) M.length 6 SM [] (fun _ => 0) at_ (dh D cur) b σ (fun σ22 => Q σ22) (by omega) (hD.2 cur hc9).1 hSM (by rw [← hMS]) (Nat.zero_add _) (fun p hp => absurd hp List.not_mem_nil) (fun p hp => ?_) (fun p hp => by rw [hMS]; exact rmD_mem.mpr ⟨bits_lt hSM hp, hp⟩) ⟨hat.1, by show at_ ≤ 300 * (4 + ((0 : Nat) : Int)); omega⟩ hE ⟨hL.1, by omega, hall, hL.2.1, fun k hk => absurd hk (by simp), fun p hp => ⟨(hL.2.2 p hp).1, by have := (hL.2.2 p hp).2; omega⟩, fun p hp => absurd hp List.not_mem_nil⟩ hB (fun σ' g1 g2 => hQ σ' ?_ ?_)
    · exact key
    · rw [hMS] at hp
      rw [(rmD_mem.mp hp).2]
      simp
    · exact ⟨fun k j hk => g1.1 k j (by omega), fun j _ => g1.1 81 j (by omega), fun i _ => g1.1 83 i (by omega)⟩
    · unfold pickS
      rw [← hMS] at g2
      exact g2
  | succ f ihf =>
    intro d S U ua at_ cur b σ Q hd hS hl h1 h2 h3 h4 h5 hat hcur hE hL hB hQ
    obtain ⟨d, rfl⟩ : ∃ z, d = z + 1 := ⟨d - 1, by omega⟩
    have hnp := hE.1
    have hS9 : S < 512 := Nat.lt_of_lt_of_le hS (Nat.pow_le_pow_right (n := 2) (by decide) hnp)
    have hSne : S ≠ 0 := fun e => by
      rw [(rmD_0 hS).mpr e] at hl
      cases hl
    unfold w_X9_picks w_X9_picks_E
    refine ⟨fun _ => ?_, fun h => absurd ((nI_eq (b := 0) (by omega) (by omega)).mp h) hSne⟩
    unfold pickS at hQ
    have e1 : nI U.length - 1 = nI (U.length - 1) := by
      have := nI_pred (U.length - 1)
      rw [Nat.sub_add_cancel h2] at this
      exact this
    have hcU : cur ∈ U := hcur ▸ getD_mem (by omega)
    have hc9 := hM.2.1 cur (h3 cur hcU)
    have hdc := (hD.2 cur hc9).1
    have loop : ∀ (k n i : Nat) (σ1 : MS) (b1 : BB), i + k = np → k < n → FrK U.length S σ σ1 → MB M σ1 b1 →
        (∀ σ', FrK U.length S σ σ' → MB M σ' ((rmD S i k).foldl (fun b p => pickS D M f ((rmD S 0 np).erase p) (U ++ [p]) (va_up ua p (at_ + dl D (dh D cur) (dh D p))) (at_ + dl D (dh D cur) (dh D p)) p b) b1) → Q σ') →
        w_X9_picks_H29 (w_X9_picks d) Q n (nI SM) (nI S) (nI U.length) (iI at_) (nI i) σ1 := by
      intro k
      induction k with
      | zero =>
        intro n i σ1 b1 hi hn hF hB1 hQ1
        obtain ⟨n, rfl⟩ : ∃ z, n = z + 1 := ⟨n - 1, by omega⟩
        unfold w_X9_picks_H29
        have hE1 : ME D np σ1 := hE.fr (fun k j hk => hF.1 k j (by omega))
        rw [hE1.2.1]
        exact ⟨fun _ => hQ1 σ1 hF hB1, fun h => absurd (nI_le (by omega) (by omega)) h⟩
      | succ k ihk =>
        intro n i σ1 b1 hi hn hF hB1 hQ1
        obtain ⟨n, rfl⟩ : ∃ z, n = z + 1 := ⟨n - 1, by omega⟩
        have hE1 : ME D np σ1 := hE.fr (fun k j hk => hF.1 k j (by omega))
        unfold w_X9_picks_H29
        rw [hE1.2.1]
        refine ⟨fun h => absurd h (nI_ge (by omega) (by omega)), fun _ => ⟨fun h => ?_, fun h => ?_⟩⟩
        · have hbit := nb0 (by omega) (by omega) h
          have hp9 : i < 9 := by omega
          have hdp := hD.2 i hp9
          have hll := hD.1 (dh D cur) (dh D i) hdc hdp.1
          have hiM : i ∈ M := h5 i hbit
          have hiD : i ∉ U := fun q => by
            rw [(h4 i hiM).mp q] at hbit
            cases hbit
          rw [nI_c (by omega : U.length ≤ 1000000000)]
          refine ⟨vin (by omega) (by omega), fun σa ea => ?_⟩
          have hEa : ME D np σa := hE1.fr (fun k j hk => by
            subst ea
            simp only [mst]
            rw [if_neg (by omega)])
          have k81 : σa 81 (U.length - 1) = nI cur := by
            have e2 : σa 81 (U.length - 1) = σ1 81 (U.length - 1) := by
              subst ea
              simp only [mst]
              rw [if_neg (by omega)]
            rw [e2, hF.2.1 _ (by omega), hL.2.1 _ (by omega), hcur]
          rw [e1, nI_c (by omega : U.length - 1 ≤ 1000000000), k81, nI_c (by omega : cur ≤ 1000000000), nI_c (by omega : i ≤ 1000000000), (hEa.2.2.1 cur hc9).1, (hEa.2.2.1 i hp9).1]
          refine ⟨vin (by omega) (by omega), vin hc9 (by omega), vin hp9 (by omega), w_lea hEa.2.2.2 hdc hdp.1 (fun σc ec => ?_)⟩
          rw [iI_add] at ec
          obtain ⟨tt, htt⟩ : ∃ z, z = at_ + dl D (dh D cur) (dh D i) := ⟨_, rfl⟩
          rw [← htt] at ec
          have hFc : FrK U.length S σ1 σc := by
            subst ea ec
            refine ⟨fun k j hk => ?_, fun j hj => ?_, fun j hj => ?_⟩
            · simp only [mst]
              rw [if_neg (by omega), if_neg (by omega)]
            · have : j ≠ U.length := by omega
              simp [mst, this]
            · have : j ≠ i := fun z => by rw [z, hbit] at hj; cases hj
              simp [mst, this]
          have hEc : ME D np σc := hE1.fr (fun k j hk => hFc.1 k j (by omega))
          have h83 : σc 83 i = iI tt := by
            subst ec
            simp [mst]
          rw [h83, nI_1, nI_sh (by omega), nI_dif]
          have hl1 : U.length + 1 = (U ++ [i]).length := by rw [List.length_append]; rfl
          rw [hl1]
          have her := rmD_er (S := S) (n := np) (i := i) (by omega) hbit
          have hmem : i ∈ rmD S 0 np := rmD_mem.mpr ⟨by omega, hbit⟩
          refine ihf d (dif S (2 ^ i)) (U ++ [i]) (va_up ua i tt) tt i b1 σc _ (by omega) (dif_lt hS) ?_ ?_ (by rw [← hl1]; omega) ?_ (fun p hp => ?_) (fun p hp => ?_) ?_ ?_ hEc ?_ ?_ (fun σ' g1 g2 => ?_)
          · rw [← her, List.length_erase_of_mem hmem, hl]
            rfl
          · rw [← hl1]
            omega
          · intro q hq
            rcases List.mem_append.mp hq with g | g
            · exact h3 q g
            · rw [List.mem_singleton.mp g]
              exact hiM
          · rw [dif_b, Nat.testBit_two_pow, List.mem_append, List.mem_singleton, h4 p hp]
            by_cases e : i = p
            · subst e
              exact ⟨fun _ => by simp, fun _ => Or.inr rfl⟩
            · rw [decide_eq_false e, Bool.not_false, Bool.and_true]
              exact ⟨fun g => g.elim id (fun q => absurd q.symm e), Or.inl⟩
          · rw [dif_b] at hp
            simp only [Bool.and_eq_true] at hp
            exact h5 p hp.1
          · rw [← hl1]
            omega
          · rw [← hl1, Nat.add_sub_cancel, List.getD_eq_getElem?_getD, List.getElem?_append_right (Nat.le_refl _), Nat.sub_self]
            rfl
          · have hmt : ∀ q, q ∈ U → va_up ua i tt q = ua q := fun q hq => up_n (fun z => hiD (z ▸ hq))
            refine ⟨?_, fun k hk => ?_, fun p hp => ?_⟩
            · rw [hFc.1 66 24 (by omega), hF.1 66 24 (by omega)]
              exact hL.1
            · rw [← hl1] at hk
              by_cases hkl : k < U.length
              · rw [hFc.2.1 k hkl, hF.2.1 k hkl, hL.2.1 k hkl, List.getD_eq_getElem?_getD, List.getD_eq_getElem?_getD, List.getElem?_append_left hkl]
              · have e : k = U.length := by omega
                subst e
                rw [List.getD_eq_getElem?_getD, List.getElem?_append_right (Nat.le_refl _), Nat.sub_self]
                subst ea ec
                simp [mst]
            · rcases List.mem_append.mp hp with g | g
              · have hpb := (h4 p (h3 p g)).mp g
                rw [hmt p g, hFc.2.2 p hpb, hF.2.2 p hpb]
                have := hL.2.2 p g
                exact ⟨this.1, by omega⟩
              · rw [List.mem_singleton.mp g, up_s]
                exact ⟨h83, by omega⟩
          · subst ea ec
            refine ⟨hB1.1, ?_, fun r hr => ?_⟩
            · have := hB1.2.1
              simp [mst, this]
            · have := hB1.2.2 r hr
              simpa [mst] using this
          · have hF2 : FrK U.length S σ σ' := hF.tr (hFc.tr ⟨g1.1, fun j hj => g1.2.1 j (by rw [← hl1]; omega), fun j hj => g1.2.2 j (by rw [dif_b, hj]; rfl)⟩)
            rw [nI_1]
            refine ihk n (i + 1) σ' _ (by omega) (by omega) hF2 g2 (fun σ2 h3 h4 => hQ1 σ2 h3 ?_)
            rw [rmD_t hbit, List.foldl_cons, ← htt, her]
            exact h4
        · have hbit := (nI_bit0 (by omega) (by omega)).mp h
          rw [nI_1]
          refine ihk n (i + 1) σ1 b1 (by omega) (by omega) hF hB1 (fun σ' h1 h2 => hQ1 σ' h1 ?_)
          rw [rmD_f hbit]
          exact h2
    exact ⟨np + 1, loop np (np + 1) 0 σ b (by omega) (by omega) FrK.rf hB hQ⟩
