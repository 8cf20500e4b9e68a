/-! ===== the class's search: bringNext ===== -/
def CE (D : DD) (M : List Nat) (σ : MS) : Prop := σ 7 0 = nI M.length ∧ (∀ i, i < M.length → σ 13 i = nI (M.getD i 0) ∧ σ 23 i = nI (dh D (M.getD i 0)) ∧ σ 24 i = nI (dw D (M.getD i 0)) ∧ σ 25 i = iI (de D (M.getD i 0)) ∧ σ 26 i = iI (da D (M.getD i 0)) ∧ σ 27 i = iI (dg D (M.getD i 0))) ∧ ∀ a b, a < 10 → b < 10 → σ (56 + a) b = iI (dl D a b)
def PU (M U : List Nat) (ua : Nat → Int) (σ : MS) : Prop := (∀ k, k < U.length → ∃ j, j < M.length ∧ σ 14 k = nI j ∧ M.getD j 0 = U.getD k 0) ∧ ∀ i, i < M.length → M.getD i 0 ∈ U → σ 16 i = iI (ua (M.getD i 0))
def PD (M Dl : List Nat) (t : Nat → Int) (σ : MS) : Prop := (∀ k, k < Dl.length → ∃ j, j < M.length ∧ σ 15 k = nI j ∧ M.getD j 0 = Dl.getD k 0) ∧ ∀ i, i < M.length → M.getD i 0 ∈ Dl → σ 17 i = iI (t (M.getD i 0))
/-- found holds the best way, by members -/
def CB (M : List Nat) (σ : MS) (b : BB) : Prop := (0 ≤ tot b ∧ tot b ≤ 1441) ∧ σ 8 6 = iI (tot b) ∧ ∀ r, b = some r → r.1 ≤ 1440 ∧ σ 8 7 = iI r.2.1 ∧ σ 8 0 = nI M.length ∧ (∀ k, k < M.length → (∃ j, j < M.length ∧ σ 19 k = nI j ∧ M.getD j 0 = r.2.2.1.getD k 0) ∧ ∃ j, j < M.length ∧ σ 20 k = nI j ∧ M.getD j 0 = r.2.2.2.1.getD k 0) ∧ ∀ i, i < M.length → σ 18 i = nI (M.getD i 0) ∧ σ 21 i = iI (r.2.2.2.2.1 (M.getD i 0)) ∧ σ 22 i = iI (r.2.2.2.2.2 (M.getD i 0))
def FrB (pl R : Nat) (σ σ' : MS) : Prop := (∀ k j, ¬ (k = 15 ∨ k = 17 ∨ k = 8 ∨ (18 ≤ k ∧ k ≤ 22) ∨ (k = 7 ∧ (j = 6 ∨ j = 7))) → σ' k j = σ k j) ∧ (∀ j, j < pl → σ' 15 j = σ 15 j) ∧ ∀ i, R.testBit i = false → σ' 17 i = σ 17 i
theorem FrB.rf {pl R : Nat} {σ : MS} : FrB pl R σ σ := ⟨fun _ _ _ => rfl, fun _ _ => rfl, fun _ _ => rfl⟩
theorem FrB.tr {pl R : Nat} {a b c : MS} (h : FrB pl R a b) (g : FrB pl R b c) : FrB pl R a c := ⟨fun k j hk => (g.1 k j hk).trans (h.1 k j hk), fun j hj => (g.2.1 j hj).trans (h.2.1 j hj), fun i hi => (g.2.2 i hi).trans (h.2.2 i hi)⟩
theorem CE.fr {D : DD} {M : List Nat} {pl R : Nat} {σ σ' : MS} (h : FrB pl R σ σ') (c : CE D M σ) : CE D M σ' := by
  obtain ⟨c1, c2, c3⟩ := c
  refine ⟨by rw [h.1 7 0 (by omega)]; exact c1, fun i hi => ?_, fun a b ha hb => by rw [h.1 (56 + a) b (by omega)]; exact c3 a b ha hb⟩
  rw [h.1 13 i (by omega), h.1 23 i (by omega), h.1 24 i (by omega), h.1 25 i (by omega), h.1 26 i (by omega), h.1 27 i (by omega)]
  exact c2 i hi
theorem PU.fr {M U : List Nat} {ua : Nat → Int} {pl R : Nat} {σ σ' : MS} (h : FrB pl R σ σ') (c : PU M U ua σ) : PU M U ua σ' := by
  refine ⟨fun k hk => ?_, fun i hi hu => ?_⟩
  · rw [h.1 14 k (by omega)]
    exact c.1 k hk
  · rw [h.1 16 i (by omega)]
    exact c.2 i hi hu
theorem w_sho {D : DD} {σ : MS} {a b : Nat} (h : ∀ a b, a < 10 → b < 10 → σ (56 + a) b = iI (dl D a b)) (ha : a < 10) (hb : b < 10) {Q : Int32 → MS → Prop} (hQ : Q (iI (dl D a b)) σ) : w_X5_shortest (nI a) (nI b) σ Q := by
  unfold w_X5_shortest w_X5_shortest_E
  rw [nI_c (by omega : a ≤ 1000000000), nI_c (by omega : b ≤ 1000000000), h a b ha hb]
  exact ⟨vin ha (by omega), ⟨by omega, by omega⟩, vin hb (by omega), hQ⟩
def okM (M : List Nat) : Prop := M.Nodup ∧ (∀ p ∈ M, p < 9) ∧ M.length ≤ 4 ∧ 0 < M.length
def SB (D : DD) (M : List Nat) (ua : Nat → Int) (E : Int) (f R : Nat) (Dl : List Nat) (t : Nat → Int) (at_ Lt : Int) : Prop :=
  R < 16 ∧ (rmC M R 0 M.length).length = f ∧ Dl.length + f = M.length ∧ (∀ p ∈ Dl, p ∈ M) ∧ (∀ i, i < M.length → (M.getD i 0 ∈ Dl ↔ R.testBit i = false)) ∧ (0 ≤ at_ ∧ at_ ≤ 300 * (4 + (Dl.length : Int))) ∧ (∀ p ∈ Dl, 0 ≤ t p ∧ t p ≤ at_) ∧ (∀ p ∈ Dl, t p - ua p ≤ dg D p) ∧ (Lt ≤ 1440 ∧ -4000 ≤ Lt) ∧ (∀ q ∈ Dl, Lt ≤ da D q - t q) ∧ (Lt = 1440 ∨ ∃ q ∈ Dl, Lt = da D q - t q) ∧ (Dl ≠ [] → E ≤ Lt ∧ ∃ q ∈ Dl, t q = at_)
theorem smi {a : Int} (h1 : -1000000000 ≤ a) (h2 : a ≤ 1000000000) : sm a := ⟨h1, h2⟩
theorem bring_leaf {D : DD} {M U : List Nat} {ua : Nat → Int} {E : Int} (hM : okM M) (hD : okD D) (hU : U.length = M.length ∧ ∀ p, p ∈ U ↔ p ∈ M) (hE : (∀ p ∈ U, de D p - ua p ≤ E) ∧ 0 ≤ E) {R : Nat} {Dl : List Nat} {t : Nat → Int} {at_ Lt : Int} (h : SB D M ua E 0 R Dl t at_ Lt) {b : BB} (hb : at_ < tot b) : leafS D U Dl ua t at_ b = some (at_, Lt, U, Dl, ua, t) := by
  obtain ⟨h1, h2, h3, h4, h5, h6, h7, h8, h9, h10, h11, h12⟩ := h
  have hz : rmC M R 0 M.length = [] := List.length_eq_zero_iff.mp h2
  have hall : ∀ p, p ∈ M → p ∈ Dl := by
    intro p hp
    obtain ⟨i, hi, rfl⟩ := mem_getD hp
    refine (h5 i hi).mpr ?_
    cases hb2 : R.testBit i
    · rfl
    · have : M.getD i 0 ∈ rmC M R 0 M.length := rmC_mem.mpr ⟨i, hi, hb2, rfl⟩
      rw [hz] at this
      cases this
  have hne : Dl ≠ [] := fun e => by
    rw [e] at h3
    simp at h3
    have := hM.2.2.2
    omega
  obtain ⟨h13, q, hq, hqt⟩ := h12 hne
  have hq9 := hM.2.1 q (h4 q hq)
  have hqd := (hD.2 q hq9).2.2.2.1
  have hqL := h10 q hq
  have e1 : Lt ≤ lsts D t U at_ := le_lsts.mpr ⟨by omega, fun p hp => h10 p (hall p ((hU.2 p).mp hp))⟩
  have e2 : lsts D t U at_ ≤ Lt := by
    have h0 := le_lsts.mp (Int.le_refl (lsts D t U at_))
    rcases h11 with h11 | ⟨r, hr, h11⟩
    · omega
    · have := h0.2 r ((hU.2 r).mpr (h4 r hr))
      omega
  have e3 : fsts D ua U ≤ E := fsts_le.mpr ⟨hE.2, hE.1⟩
  rw [leafS_y ⟨hb, fun p hp => h8 p (hall p ((hU.2 p).mp hp)), by omega⟩]
  have : lsts D t U at_ = Lt := by omega
  rw [this]
theorem bring_ok {D : DD} (hD : okD D) {M U : List Nat} (hM : okM M) {ua : Nat → Int} (hU : U.length = M.length ∧ ∀ p, p ∈ U ↔ p ∈ M) (hua : ∀ p ∈ U, 0 ≤ ua p ∧ ua p ≤ 2000) {E : Int} (hE : (∀ p ∈ U, de D p - ua p ≤ E) ∧ 0 ≤ E) (hE2 : ∃ p ∈ U, E = de D p - ua p) :
    ∀ (f d R : Nat) (Dl : List Nat) (t : Nat → Int) (at_ : Int) (stop : Nat) (Lt : Int) (b : BB) (σ : MS) (Q : MS → Prop), f < d → stop < 10 → SB D M ua E f R Dl t at_ Lt → at_ < tot b → CE D M σ → PU M U ua σ → PD M Dl t σ → CB M σ b →
      (∀ σ', FrB Dl.length R σ σ' → CB M σ' (dropS D U ua f (rmC M R 0 M.length) Dl t at_ stop b) → Q σ') → w_X7_bringNext d (nI Dl.length) (nI R) (nI stop) (iI at_) (iI E) (iI Lt) σ Q := by
  have hE3 : E ≤ 1440 := by
    obtain ⟨p, hp, e⟩ := hE2
    have h1 := (hD.2 p (hM.2.1 p ((hU.2 p).mp hp))).2.2.1
    have h2 := (hua p hp).1
    omega
  intro f
  induction f with
  | zero =>
    intro d R Dl t at_ stop Lt b σ Q hd hs hS hat hC hPU hPD hB hQ
    obtain ⟨d, rfl⟩ : ∃ z, d = z + 1 := ⟨d - 1, by omega⟩
    have hlen : Dl.length = M.length := by have := hS.2.2.1; omega
    unfold w_X7_bringNext w_X7_bringNext_E
    refine ⟨fun h => ?_, fun _ => ?_⟩
    · rw [hC.1, hlen] at h
      exact absurd h (nI_nlt (Nat.le_refl _) (by have := hM.2.2.1; omega))
    · intro σ17 e1 σ26 e2
      refine copy_ok (fun σ' hc => hQ σ' ?_ ?_)
      · refine ⟨fun k j hk => ?_, fun j _ => ?_, fun i _ => ?_⟩
        · rw [hc.1 k j (by omega)]
          subst e1 e2
          simp only [mst]
          rw [if_neg (by omega), if_neg (by omega)]
        · rw [hc.1 15 j (by omega)]
          subst e1 e2
          simp [mst]
        · rw [hc.1 17 i (by omega)]
          subst e1 e2
          simp [mst]
      · have hl := bring_leaf hM hD hU hE hS hat
        unfold dropS
        rw [hl]
        have hat0 := hS.2.2.2.2.2.1
        have hb := hB.1
        have old : ∀ k j, k ≠ 7 → σ26 k j = σ k j := fun k j hk => by
          subst e1 e2
          simp [mst, hk]
        have o7 : σ26 7 0 = σ 7 0 ∧ σ26 7 6 = iI at_ ∧ σ26 7 7 = iI Lt := by
          subst e1 e2
          simp [mst]
        refine ⟨⟨hat0.1, ?_⟩, ?_, fun r hr => ?_⟩
        · show at_ ≤ 1441
          omega
        · rw [hc.2.1.2.1, o7.2.1]
          rfl
        · cases hr
          refine ⟨?_, ?_, ?_, fun k hk => ⟨?_, ?_⟩, fun i hi => ⟨?_, ?_, ?_⟩⟩
          · show at_ ≤ 1440
            omega
          · rw [hc.2.1.2.2, o7.2.2]
          · rw [hc.2.1.1, o7.1]
            exact hC.1
          · rw [hc.2.2 1 k (by omega) (by have := hM.2.2.1; omega), old 14 k (by omega)]
            exact hPU.1 k (by rw [hU.1]; exact hk)
          · rw [hc.2.2 2 k (by omega) (by have := hM.2.2.1; omega), old 15 k (by omega)]
            exact hPD.1 k (by omega)
          · rw [hc.2.2 0 i (by omega) (by have := hM.2.2.1; omega), old 13 i (by omega)]
            exact (hC.2.1 i hi).1
          · rw [hc.2.2 3 i (by omega) (by have := hM.2.2.1; omega), old 16 i (by omega)]
            exact hPU.2 i hi ((hU.2 _).mpr (getD_mem hi))
          · rw [hc.2.2 4 i (by omega) (by have := hM.2.2.1; omega), old 17 i (by omega)]
            refine hPD.2 i hi ((hS.2.2.2.2.1 i hi).mpr ?_)
            cases hb2 : R.testBit i
            · rfl
            · have h1 : M.getD i 0 ∈ rmC M R 0 M.length := rmC_mem.mpr ⟨i, hi, hb2, rfl⟩
              rw [List.length_eq_zero_iff.mp hS.2.1] at h1
              cases h1
  | succ f ihf =>
    intro d R Dl t at_ stop Lt b σ Q hd hs hS hat hC hPU hPD hB hQ
    obtain ⟨d, rfl⟩ : ∃ z, d = z + 1 := ⟨d - 1, by omega⟩
    have hlen : Dl.length < M.length := by have := hS.2.2.1; omega
    have hM4 := hM.2.2.1
    unfold w_X7_bringNext w_X7_bringNext_E
    refine ⟨fun _ => ?_, fun h => absurd (by rw [hC.1]; exact nI_lt hlen (by omega)) h⟩
    · have hS0 := hS
      obtain ⟨s1, s2, s3, s4, s5, s6, s7, s8, s9, s10, s11, s12⟩ := hS
      unfold dropS at hQ
      have loop : ∀ (k n i : Nat) (σ1 : MS) (b1 : BB), i + k = M.length → k < n → FrB Dl.length R σ σ1 → CB M σ1 b1 →
          (∀ σ', FrB Dl.length R σ σ' → CB M σ' ((rmC M R i k).foldl (fun b p => dropS D U ua f ((rmC M R 0 M.length).erase p) (Dl ++ [p]) (va_up t p (at_ + dl D stop (dw D p))) (at_ + dl D stop (dw D p)) (dw D p) b) b1) → Q σ') →
          w_X7_bringNext_H44 (w_X7_bringNext d) Q n (nI Dl.length) (nI R) (nI stop) (iI at_) (iI E) (iI Lt) (nI i) σ1 := by
        intro k
        induction k with
        | zero =>
          intro n i σ1 b1 hi hn hF hB1 hQ1
          obtain ⟨n, rfl⟩ : ∃ z, n = z + 1 := ⟨n - 1, by omega⟩
          unfold w_X7_bringNext_H44
          refine ⟨fun _ => hQ1 σ1 hF hB1, fun h => ?_⟩
          rw [(hC.fr hF).1] at h
          exact absurd (nI_le (by omega) (by omega)) h
        | succ k ihk =>
          intro n i σ1 b1 hi hn hF hB1 hQ1
          obtain ⟨n, rfl⟩ : ∃ z, n = z + 1 := ⟨n - 1, by omega⟩
          have hC1 := hC.fr hF
          have hPU1 := hPU.fr hF
          have hil : i < M.length := by omega
          unfold w_X7_bringNext_H44
          refine ⟨fun h => ?_, fun _ => ?_⟩
          · rw [hC1.1] at h
            exact absurd h (nI_ge hil (by omega))
          · refine w_con (by omega) (by omega) (fun hbit => ?_) (fun hbit => ?_)
            · refine ⟨fun _ => ?_, fun h => absurd rfl h⟩
              rw [nI_1]
              refine ihk n (i + 1) σ1 b1 (by omega) (by omega) hF hB1 (fun σ' h1 h2 => hQ1 σ' h1 ?_)
              rw [rmC_f hbit]
              exact h2
            · refine ⟨fun h => absurd h (by decide), fun _ => ?_⟩
              have hp9 : M.getD i 0 < 9 := hM.2.1 _ (getD_mem hil)
              generalize hp : M.getD i 0 = p at hp9
              have hdp := hD.2 p hp9
              have hci := hC1.2.1 i hil
              rw [hp] at hci
              obtain ⟨c13, c23, c24, c25, c26, c27⟩ := hci
              have hl := hD.1 stop (dw D p) hs hdp.2.1
              have hpU : p ∈ U := (hU.2 p).mpr (hp ▸ getD_mem hil)
              have hup := hua p hpU
              have hc16 : σ1 16 i = iI (ua p) := by
                have := hPU1.2 i hil (hp ▸ hpU)
                rw [hp] at this
                exact this
              have hpD : p ∉ Dl := fun q => by
                have := (s5 i hil).mp (hp ▸ q)
                rw [this] at hbit
                cases hbit
              have hDl4 : (Dl.length : Int) ≤ 3 := by omega
              rw [nI_c (by omega : i ≤ 1000000000), c24]
              refine ⟨vin (by omega) (by omega), w_sho hC1.2.2 hs hdp.2.1 (fun x8 e8 x9 e9 => ?_)⟩
              rw [c26] at e9
              rw [c27, hc16]
              rw [iI_add] at e8
              subst e8
              obtain ⟨tt, htt⟩ : ∃ z, z = at_ + dl D stop (dw D p) := ⟨_, rfl⟩
              rw [← htt] at e9 ⊢
              have hrest : ∀ σ', FrB Dl.length R σ σ' → CB M σ' b1 → deadS D U ua (Dl ++ [p]) (va_up t p tt) tt b1 → w_X7_bringNext_H44 (w_X7_bringNext d) Q n (nI Dl.length) (nI R) (nI stop) (iI at_) (iI E) (iI Lt) (nI i + 1) σ' := by
                intro σ' h1 h2 hdead
                rw [nI_1]
                refine ihk n (i + 1) σ' b1 (by omega) (by omega) h1 h2 (fun σ2 h3 h4 => hQ1 σ2 h3 ?_)
                rw [rmC_t hbit, List.foldl_cons, hp, ← htt]
                rw [drop_dead hD f _ _ _ _ _ _ hdp.2.1 (fun q hq => ?_) (fun q hq hq2 => ?_) ((rmC_nd hM.1).erase p) hdead]
                · exact h4
                · obtain ⟨j, hj, -, rfl⟩ := rmC_mem.mp (List.mem_of_mem_erase hq)
                  exact hM.2.1 _ (getD_mem hj)
                · rcases List.mem_append.mp hq with g | g
                  · obtain ⟨j, hj, hjb, rfl⟩ := rmC_mem.mp (List.mem_of_mem_erase hq2)
                    rw [(s5 j hj).mp g] at hjb
                    cases hjb
                  · rw [List.mem_singleton.mp g] at hq2
                    exact (rmC_nd hM.1).not_mem_erase hq2
              have h9 : x9 = iI (if da D p - tt < Lt then da D p - tt else Lt) := by
                rw [e9, iI_sub]
                have hlt := iI_lt (a := da D p - tt) (b := Lt) (smi (by omega) (by omega)) (smi (by omega) (by omega))
                by_cases hq : da D p - tt < Lt
                · rw [if_pos (hlt.mpr hq), if_pos hq]
                · rw [if_neg (fun z => hq (hlt.mp z)), if_neg hq]
              subst h9
              obtain ⟨L2, hL2⟩ : ∃ z, z = if da D p - tt < Lt then da D p - tt else Lt := ⟨_, rfl⟩
              rw [← hL2]
              have hL2a : L2 ≤ Lt ∧ L2 ≤ da D p - tt ∧ (L2 = Lt ∨ L2 = da D p - tt) := by
                rw [hL2]
                split <;> omega
              have hb1 := hB1.1
              refine ⟨fun hng => ?_, fun hg => ?_⟩
              · unfold w_X7_bringNext_J130
                refine ⟨fun _ => ?_, fun h => absurd rfl h⟩
                rw [iI_sub] at hng
                have hng := (iI_lt (smi (by omega) (by omega)) (smi (by omega) (by omega))).mp hng
                exact hrest σ1 hF hB1 (Or.inr (Or.inl ⟨p, List.mem_append_right _ List.mem_cons_self, hpU, by rw [up_s]; exact hng⟩))
              · rw [iI_sub] at hg
                have hg : ¬ dg D p < tt - ua p := fun z => hg ((iI_lt (smi (by omega) (by omega)) (smi (by omega) (by omega))).mpr z)
                unfold w_X7_bringNext_J130
                refine ⟨fun h => absurd h (by decide), fun _ => ⟨fun h => ?_, fun h => ⟨fun h2 => ?_, fun h2 => ?_⟩⟩⟩
                · rw [hB1.2.1] at h
                  have h := (iI_le (smi (by omega) (by omega)) (smi (by omega) (by omega))).mp h
                  exact hrest σ1 hF hB1 (Or.inl h)
                · have h2 := (iI_lt (smi (by omega) (by omega)) (smi (by omega) (by omega))).mp h2
                  refine hrest σ1 hF hB1 (Or.inr (Or.inr ?_))
                  obtain ⟨q, hq, hqe⟩ := hE2
                  rcases hL2a.2.2 with g | g
                  · rcases s11 with g2 | ⟨r, hr, g2⟩
                    · omega
                    · refine ⟨q, r, hq, List.mem_append_left _ hr, (hU.2 r).mpr (s4 r hr), ?_⟩
                      rw [up_n (fun z : r = p => hpD (z ▸ hr))]
                      omega
                  · refine ⟨q, p, hq, List.mem_append_right _ List.mem_cons_self, hpU, ?_⟩
                    rw [up_s]
                    omega
                · rw [hB1.2.1] at h
                  have h : ¬ tot b1 ≤ tt := fun z => h ((iI_le (smi (by omega) (by omega)) (smi (by omega) (by omega))).mpr z)
                  have h2 : ¬ L2 < E := fun z => h2 ((iI_lt (smi (by omega) (by omega)) (smi (by omega) (by omega))).mpr z)
                  rw [nI_c (by omega : Dl.length ≤ 1000000000)]
                  refine ⟨vin (by omega) (by omega), fun σa ea => ?_⟩
                  rw [nI_c (by omega : i ≤ 1000000000)]
                  refine ⟨vin (by omega) (by omega), fun σc ec => ?_⟩
                  have hFc : FrB Dl.length R σ1 σc := by
                    subst ea ec
                    refine ⟨fun k j hk => ?_, fun j hj => ?_, fun j hj => ?_⟩
                    · simp only [mst]
                      rw [if_neg (by omega), if_neg (by omega)]
                    · have : j ≠ Dl.length := by omega
                      simp [mst, this]
                    · have : j ≠ i := fun z => by rw [z, hbit] at hj; cases hj
                      simp [mst, this]
                  have hCc := hC1.fr hFc
                  have hc24 : σc 24 i = nI (dw D p) := by
                    have := (hCc.2.1 i hil).2.2.1
                    rw [hp] at this
                    exact this
                  rw [hc24, nI_1, nI_sh (by omega), nI_dif]
                  have hl1 : Dl.length + 1 = (Dl ++ [p]).length := by rw [List.length_append]; rfl
                  rw [hl1]
                  have her : (rmC M R 0 M.length).erase p = rmC M (dif R (2 ^ i)) 0 M.length := by
                    rw [← hp]
                    exact rmC_er hM.1 hil hbit
                  have hmem : p ∈ rmC M R 0 M.length := rmC_mem.mpr ⟨i, hil, hbit, hp⟩
                  refine ihf d (dif R (2 ^ i)) (Dl ++ [p]) (va_up t p tt) tt (dw D p) L2 b1 σc _ (by omega) hdp.2.1 ?_ (by omega) hCc (hPU1.fr hFc) ?_ ?_ (fun σ' g1 g2 => ?_)
                  · have hmt : ∀ q, q ∈ Dl → va_up t p tt q = t q := fun q hq => up_n (fun z => hpD (z ▸ hq))
                    refine ⟨Nat.lt_of_lt_of_le (dif_lt (n := 4) s1) (by decide), ?_, ?_, ?_, fun j hj => ?_, ?_, ?_, ?_, ?_, ?_, ?_, fun _ => ⟨by omega, p, List.mem_append_right _ List.mem_cons_self, up_s⟩⟩
                    · rw [← her, List.length_erase_of_mem hmem, s2]
                      rfl
                    · rw [← hl1]
                      omega
                    · intro q hq
                      rcases List.mem_append.mp hq with g | g
                      · exact s4 q g
                      · rw [List.mem_singleton.mp g, ← hp]
                        exact getD_mem hil
                    · rw [dif_b, Nat.testBit_two_pow, List.mem_append, List.mem_singleton, s5 j hj]
                      by_cases e : i = j
                      · subst e
                        exact ⟨fun _ => by simp, fun _ => Or.inr hp⟩
                      · have : M.getD j 0 ≠ p := fun z => e (getD_inj hM.1 hil hj (hp.trans z.symm))
                        rw [decide_eq_false e, Bool.not_false, Bool.and_true]
                        exact ⟨fun g => g.elim id (fun q => absurd q this), Or.inl⟩
                    · rw [← hl1]
                      omega
                    · intro q hq
                      rcases List.mem_append.mp hq with g | g
                      · rw [hmt q g]
                        have := s7 q g
                        omega
                      · rw [List.mem_singleton.mp g, up_s]
                        omega
                    · intro q hq
                      rcases List.mem_append.mp hq with g | g
                      · rw [hmt q g]
                        exact s8 q g
                      · rw [List.mem_singleton.mp g, up_s]
                        omega
                    · omega
                    · intro q hq
                      rcases List.mem_append.mp hq with g | g
                      · rw [hmt q g]
                        have := s10 q g
                        omega
                      · rw [List.mem_singleton.mp g, up_s]
                        omega
                    · rcases hL2a.2.2 with g | g
                      · rcases s11 with g2 | ⟨r, hr, g2⟩
                        · exact Or.inl (by omega)
                        · exact Or.inr ⟨r, List.mem_append_left _ hr, by rw [hmt r hr]; omega⟩
                      · exact Or.inr ⟨p, List.mem_append_right _ List.mem_cons_self, by rw [up_s]; omega⟩
                  · have hPD1 : PD M Dl t σ1 := by
                      refine ⟨fun k hk => ?_, fun j hj hjd => ?_⟩
                      · rw [hF.2.1 k hk]
                        exact hPD.1 k hk
                      · rw [hF.2.2 j ((s5 j hj).mp hjd)]
                        exact hPD.2 j hj hjd
                    subst ea ec
                    refine ⟨fun k hk => ?_, fun j hj hjd => ?_⟩
                    · rw [← hl1] at hk
                      by_cases hkl : k < Dl.length
                      · obtain ⟨j, hj, g1, g2⟩ := hPD1.1 k hkl
                        refine ⟨j, hj, ?_, ?_⟩
                        · have : k ≠ Dl.length := by omega
                          simp [mst, this, g1]
                        · rw [g2, List.getD_eq_getElem?_getD, List.getD_eq_getElem?_getD, List.getElem?_append_left hkl]
                      · have e : k = Dl.length := by omega
                        subst e
                        refine ⟨i, hil, by simp [mst], ?_⟩
                        rw [hp, List.getD_eq_getElem?_getD, List.getElem?_append_right (Nat.le_refl _), Nat.sub_self]
                        rfl
                    · by_cases e : j = i
                      · subst e
                        rw [hp, up_s]
                        simp [mst]
                      · have hne : M.getD j 0 ≠ p := fun z => e (getD_inj hM.1 hj hil (z.trans hp.symm))
                        rw [up_n hne]
                        have hjd2 : M.getD j 0 ∈ Dl := by
                          rcases List.mem_append.mp hjd with g | g
                          · exact g
                          · exact absurd (List.mem_singleton.mp g) hne
                        have := hPD1.2 j hj hjd2
                        simp [mst, e, this]
                  · subst ea ec
                    refine ⟨hb1, ?_, fun r hr => ?_⟩
                    · have := hB1.2.1
                      simp [mst, this]
                    · have := hB1.2.2 r hr
                      simpa [mst] using this
                  · have hF2 : FrB Dl.length R σ σ' := hF.tr (hFc.tr ⟨g1.1, fun j hj => g1.2.1 j (by rw [← hl1]; omega), fun j hj => g1.2.2 j (by rw [dif_b, hj]; rfl)⟩)
                    rw [nI_1]
                    refine ihk n (i + 1) σ' _ (by omega) (by omega) hF2 g2 (fun σ2 h3 h4 => hQ1 σ2 h3 ?_)
                    rw [rmC_t hbit, List.foldl_cons, hp, ← htt, her]
                    exact h4
      exact ⟨M.length + 1, loop M.length (M.length + 1) 0 σ b (by omega) (by omega) FrB.rf hB hQ⟩
