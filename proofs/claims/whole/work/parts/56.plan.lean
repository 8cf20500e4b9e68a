/-! ===== plan ===== -/
theorem fill_ok {dm : Nat → Prop} {k0 n : Nat} (hd : dm k0) (hk : knd k0 = 1) (hl : alen k0 = n) (hn : n ≤ 1000000) {x : Int32} {σ : MS} {Q : MS → Prop} (hQ : ∀ σ', (∀ k j, k ≠ k0 → σ' k j = σ k j) → (∀ j, j < n → σ' k0 j = x) → Q σ') : w_J7_fill_53178 dm k0 x σ Q := by
  unfold w_J7_fill_53178 w_J7_fill_53178_E
  refine ⟨⟨hd, hk⟩, fun x3 e3 => ⟨n + 1, ?_⟩⟩
  rw [hl] at e3
  have loop : ∀ (k i f : Nat) (s : MS), i + k = n → k < f → (∀ k j, k ≠ k0 → s k j = σ k j) → (∀ j, j < i → s k0 j = x) → w_J7_fill_53178_H5 dm Q f k0 x (nI i) x3 s := by
    intro k
    induction k with
    | zero =>
      intro i f s hi hf hF hP
      obtain ⟨f, rfl⟩ : ∃ z, f = z + 1 := ⟨f - 1, by omega⟩
      have e : i = n := by omega
      subst e
      unfold w_J7_fill_53178_H5
      rw [e3]
      exact ⟨fun _ => hQ s hF hP, fun z => absurd (nI_le (Nat.le_refl _) (by omega)) z⟩
    | succ k ih =>
      intro i f s hi hf hF hP
      obtain ⟨f, rfl⟩ : ∃ z, f = z + 1 := ⟨f - 1, by omega⟩
      unfold w_J7_fill_53178_H5
      rw [hl, nI_c (by omega : i ≤ 1000000000), nI_1]
      refine ⟨fun z => ?_, fun _ => ⟨⟨hd, hk⟩, vin (by omega) (by omega), fun s2 e2 => ih (i + 1) f s2 (by omega) (by omega) (fun k j hk => ?_) (fun j hj => ?_)⟩⟩
      · rw [e3] at z
        exact absurd z (nI_ge (by omega) (by omega))
      · rw [e2]
        unfold mst
        rw [if_neg (fun y => hk y.1)]
        exact hF k j hk
      · rw [e2]
        unfold mst
        by_cases z : j = i
        · rw [if_pos ⟨rfl, z⟩]
        · rw [if_neg (fun y => z y.2)]
          exact hP j (by omega)
  exact loop n 0 (n + 1) σ (by omega) (by omega) (fun _ _ _ => rfl) (fun j hj => absurd hj (by omega))
def aZ (A : AA) : AA := (A.1, A.2.1, aPo A, aRf A, aMo A, aMi A, aMb A, aLf A, (fun _ => 0), A.2.2.2.2.2.2.2.2.2)
def aB (A : AA) : AA := wL (aZ A) 1 0
theorem ok_aB {A : AA} (ok : okA A) : okA (aB A) := by
  refine ⟨ok.1, ok.2.1, Nat.le_refl 1, ⟨(by decide : 0 < 512), fun p _ h => absurd rfl h, fun p hp => ?_⟩, ok.2.2.2.2⟩
  rw [show aLf (aB A) = 0 from rfl, Nat.zero_testBit] at hp
  cases hp
theorem opn_aB {A : AA} : opn (aB A) (pres (aW A) (xn (aX A))) := ⟨pres_lt, fun q _ => ⟨rfl, Nat.zero_testBit q⟩⟩
theorem sum0 {f : Nat → Nat} (h : ∀ p, f p = 0) : ∀ n, sumN f n = 0
  | 0 => rfl
  | n + 1 => by
    show sumN f n + f n = 0
    rw [sum0 h n, h n]
theorem cnt_aB {A : AA} : cnt (aB A) = 0 := by
  unfold cnt
  have e1 : sumN (fM (aB A)) 9 = 0 := sum0 (fun p => by
    unfold fM
    rw [ldb0 (show aPl (aB A) p = 0 from rfl)]
    rfl) 9
  have e2 : sumN (fP (aB A)) 9 = 0 := sum0 (fun p => by
    unfold fP
    rw [ldb0 (show aPl (aB A) p = 0 from rfl)]
    rfl) 9
  rw [e1, e2, show aLf (aB A) = 0 from rfl, popc0]
theorem run_mb : ∀ (m S : Nat) (A : AA), aMb (runP m S A) = aMb A
  | 0, _, _ => rfl
  | m + 1, S, A => by
    show aMb (if S = 0 then A else if (WS (aX A) 10 S).2 = 0 then _ else _) = _
    split
    · rfl
    · split
      · rw [run_mb m]
        rfl
      · rw [run_mb m]
        unfold aPut
        split <;> rfl
noncomputable def plF (A : AA) : AA := runP (pres (aW A) (xn (aX A))) (pres (aW A) (xn (aX A))) (aB A)
theorem plF_ok {A : AA} (ok : okA A) : okA (plF A) ∧ aMb (plF A) = 1 ∧ cnt (plF A) = (WS (aX A) 10 (pres (aW A) (xn (aX A)))).1 := by
  have h := run_ok _ _ (aB A) (ok_aB ok) (opn_aB (A := A)) (Nat.le_refl _)
  refine ⟨h.1, run_mb _ _ _, ?_⟩
  have := h.2.2
  rw [cnt_aB, Nat.zero_add] at this
  exact this
theorem sumP_le {A : AA} : sumN (fP A) 9 ≤ 9 := by
  have := sumN_le (f := fP A) (B := 1) 9 (fun p _ => by unfold fP; split <;> omega)
  omega
theorem sumM_le {A : AA} (ok : okA A) : sumN (fM A) 9 ≤ 12960 := by
  have := sumN_le (f := fM A) (B := 1440) 9 (fun p hp => by
    unfold fM
    cases h : ldb (aPl A) p
    · exact Nat.zero_le _
    · exact (tkN ok hp (ldb_ne h)).2)
  omega
theorem enc {a b c a2 b2 c2 : Nat} (hb : b ≤ 12960) (hc : c ≤ 9) (hb2 : b2 ≤ 12960) (hc2 : c2 ≤ 9) : a * 1000000 + b * 10 + c = a2 * 1000000 + b2 * 10 + c2 ↔ a = a2 ∧ b = b2 ∧ c = c2 := by omega
theorem lv_ok {A : AA} {σ : MS} (ok : okA A) (c : CS A σ) {p : Nat} (hp : p < 9) {Q : MS → Prop} (hQ : ∀ σ', CS (aLv A p) σ' → (∀ k j, k ≠ 32 → k ≠ 11 → σ' k j = σ k j) → Q σ') : w_X4_leave (nI p) σ Q := by
  unfold w_X4_leave w_X4_leave_E
  rw [nI_c (by omega : p ≤ 1000000000), nI_sh (by omega)]
  refine ⟨vin hp (by decide), fun s1 e1 s2 e2 => ?_⟩
  have v : s1 11 1 = nI (aLf A) := by
    rw [e1]
    unfold mst
    rw [if_neg (by omega)]
    exact c.2.2.2.2.2.2.2.2.1
  rw [v, nI_or] at e2
  have keep : ∀ k j, ¬ (k = 32 ∧ j = p) → ¬ (k = 11 ∧ j = 1) → s2 k j = σ k j := fun k j h1 h2 => by
    rw [e2, e1]
    unfold mst
    rw [if_neg h2, if_neg h1]
  refine hQ s2 ?_ (fun k j h1 h2 => keep k j (fun y => h1 y.1) (fun y => h2 y.1))
  obtain ⟨c1, c2, c3, c4, c5, c6, c7, c8, c9, c10⟩ := c
  refine ⟨?_, c2.fr (fun p _ => keep _ _ (by omega) (by omega)), fun S hS => by rw [keep 28 S (by omega) (by omega), keep 29 S (by omega) (by omega)]; exact c3 S hS, fun p hp => by rw [keep _ _ (by omega) (by omega)]; exact c4 p hp, fun k hk => by rw [keep _ _ (by omega) (by omega)]; exact c5 k hk, by rw [keep _ _ (by omega) (by omega)]; exact c6, fun a b ha hb => by rw [keep _ _ (by omega) (by omega)]; exact c7 a b ha hb, by rw [keep _ _ (by omega) (by omega)]; exact c8, ?_, fun q hq => ?_⟩
  · obtain ⟨d1, d2, d3⟩ := c1
    refine ⟨by rw [keep 4 1 (by omega) (by omega)]; exact d1, fun q hq => ?_, fun a b ha hb => by rw [keep (56 + a) b (by omega) (by omega)]; exact d3 a b ha hb⟩
    rw [keep (37 + q) 0 (by omega) (by omega), keep (37 + q) 1 (by omega) (by omega), keep (37 + q) 2 (by omega) (by omega), keep (37 + q) 3 (by omega) (by omega), keep (37 + q) 4 (by omega) (by omega), keep (37 + q) 5 (by omega) (by omega), keep (37 + q) 6 (by omega) (by omega), keep (37 + q) 8 (by omega) (by omega), keep (37 + q) 9 (by omega) (by omega)]
    exact d2 q hq
  · rw [e2]
    simp [mst]
    rfl
  · show s2 32 q = nI (va_up (aPl A) p 0 q) ∧ (va_up (aPl A) p 0 q ≠ 0 → _)
    by_cases z : q = p
    · subst z
      rw [up_s]
      refine ⟨?_, fun y => absurd rfl y⟩
      rw [e2, e1]
      simp [mst]
      rfl
    · rw [up_n z, keep 32 q (by omega) (by omega), keep 33 q (by omega) (by omega), keep 34 q (by omega) (by omega), keep 35 q (by omega) (by omega), keep 36 q (by omega) (by omega)]
      exact c10 q hq
theorem CS.frT {A : AA} {σ σ' : MS} (h : FrT σ σ') (c : CS A σ) : CS A σ' := c.fr (fun k j _ hk => h k j (by omega) (by omega)) (c.2.2.1.frt h)
theorem begin_ok {A : AA} {σ : MS} (c : CS A σ) {Q : MS → Prop} (hQ : ∀ σ', CS (aB A) σ' → (∀ k j, k ≠ 32 → k ≠ 11 → σ' k j = σ k j) → Q σ') : w_X4_begin σ Q := by
  unfold w_X4_begin w_X4_begin_E
  intro s1 e1 s2 e2
  refine fill_ok (n := 9) (by decide) (by decide) (by decide) (by decide) (fun s3 h1 h2 => ?_)
  have keep : ∀ k j, k ≠ 32 → k ≠ 11 → s3 k j = σ k j := fun k j a1 a2 => by
    rw [h1 k j a1, e2, e1]
    unfold mst
    rw [if_neg (fun y => a2 y.1), if_neg (fun y => a2 y.1)]
  refine hQ s3 ?_ keep
  obtain ⟨c1, c2, c3, c4, c5, c6, c7, c8, c9, c10⟩ := c
  refine ⟨?_, c2.fr (fun p _ => keep _ _ (by omega) (by omega)), fun S hS => by rw [keep 28 S (by omega) (by omega), keep 29 S (by omega) (by omega)]; exact c3 S hS, fun p hp => by rw [keep _ _ (by omega) (by omega)]; exact c4 p hp, fun k hk => by rw [keep _ _ (by omega) (by omega)]; exact c5 k hk, by rw [keep _ _ (by omega) (by omega)]; exact c6, fun a b ha hb => by rw [keep _ _ (by omega) (by omega)]; exact c7 a b ha hb, ?_, ?_, fun q hq => ⟨h2 q hq, fun y => absurd rfl y⟩⟩
  · obtain ⟨d1, d2, d3⟩ := c1
    refine ⟨by rw [keep 4 1 (by omega) (by omega)]; exact d1, fun q hq => ?_, fun a b ha hb => by rw [keep (56 + a) b (by omega) (by omega)]; exact d3 a b ha hb⟩
    rw [keep (37 + q) 0 (by omega) (by omega), keep (37 + q) 1 (by omega) (by omega), keep (37 + q) 2 (by omega) (by omega), keep (37 + q) 3 (by omega) (by omega), keep (37 + q) 4 (by omega) (by omega), keep (37 + q) 5 (by omega) (by omega), keep (37 + q) 6 (by omega) (by omega), keep (37 + q) 8 (by omega) (by omega), keep (37 + q) 9 (by omega) (by omega)]
    exact d2 q hq
  · rw [h1 _ _ (by omega), e2, e1]
    simp [mst]
    rfl
  · rw [h1 _ _ (by omega), e2]
    simp [mst]
    rfl
theorem or_in {q p : Nat} (h : q.testBit p = true) : q ||| 2 ^ p = q := by
  apply Nat.eq_of_testBit_eq
  intro i
  rw [Nat.testBit_or, Nat.testBit_two_pow]
  by_cases e : p = i
  · subst e
    rw [h]
    rfl
  · rw [decide_eq_false e, Bool.or_false]
theorem dif_tr {a b c : Nat} (h : dif a c = 0) : dif (dif a b) c = 0 := dif_0.mpr (fun i hi => by
  rw [dif_b] at hi
  simp only [Bool.and_eq_true] at hi
  exact dif_0.mp h i hi.1)
theorem planC_ok {A : AA} {σ : MS} (ok : okA A) (c : CS A σ) {Q : Int32 → MS → Prop} (hQ : ∀ σ', CS (plF A) σ' → SmM σ σ' → Q (nI (sumN (fP (plF A)) 9)) σ') : w_X8_plan σ Q := by
  have hP : pres (aW A) (xn (aX A)) < 2 ^ (xn (aX A)) := pres_lt
  have hP9 := okS_9 ok.1 hP
  unfold w_X8_plan w_X8_plan_E
  refine w_here ok.1 c.1 c.2.1 ?_
  refine learnAll_ok ok.1 c.1 c.2.2.1 hP (fun s1 hF1 hK1 hA1 => ?_)
  have c1 := c.frN hF1 hK1
  unfold w_X1_findBest w_X1_findBest_E
  refine findAll_ok (k := 10) ok.1 hP (Nat.le_refl _) hK1 hA1 (fun s2 hF2 hT2 => ?_)
  have c2 := c1.frT hF2
  refine begin_ok c2 (fun s3 c3 hF3 => ?_)
  have hA3 : KnA (pres (aW A) (xn (aX A))) s3 := fun S a1 a2 a3 a4 => by
    rw [hF3 28 S (by omega) (by omega)]
    exact hA1.frt hF2 S a1 a2 a3 a4
  have hT3 : WT (aX A) 10 (pres (aW A) (xn (aX A))) (pres (aW A) (xn (aX A)) + 1) s3 := fun S a1 a2 => by
    rw [hF3 30 S (by omega) (by omega), hF3 31 S (by omega) (by omega), hF3 30 0 (by omega) (by omega)]
    exact hT2 S a1 a2
  have hm3 : SmM σ s3 := (hF1.m.tr (fun k j hk => hF2 k j (by omega) (by omega))).tr (fun k j hk => hF3 k j (by omega) (by omega))
  have loop : ∀ (k i n m S : Nat) (B : AA) (s : MS), i + k = 9 → k < n → okA B → aX B = aX A → opn B S → S ≤ m → runP m S B = plF A → (∀ j, j < i → S.testBit j = false) → dif S (pres (aW A) (xn (aX A))) = 0 → CS B s → KnA (pres (aW A) (xn (aX A))) s → WT (aX A) 10 (pres (aW A) (xn (aX A))) (pres (aW A) (xn (aX A)) + 1) s → SmM σ s → w_X8_plan_H36 Q n (nI S) (nI i) s := by
    intro k
    induction k with
    | zero =>
      intro i n m S B s hi hn oB eX hO hSm hR hlow hSP cB hA hT hm
      obtain ⟨n, rfl⟩ : ∃ z, n = z + 1 := ⟨n - 1, by omega⟩
      have e : i = 9 := by omega
      subst e
      have hS9 := okS_9 oB.1 hO.1
      have e0 : S = 0 := by
        apply Nat.eq_of_testBit_eq
        intro j
        rw [Nat.zero_testBit]
        rcases Nat.lt_or_ge j 9 with q | q
        · exact hlow j q
        · exact Nat.testBit_lt_two_pow (Nat.lt_of_lt_of_le (show S < 2 ^ 9 from hS9) (Nat.pow_le_pow_right (by decide) q))
      have eF : B = plF A := by
        rw [← hR, e0]
        cases m with
        | zero => rfl
        | succ m => exact (if_pos rfl).symm
      unfold w_X8_plan_H36
      refine ⟨fun _ => ?_, fun z => absurd (by decide) z⟩
      unfold w_X8_plan_J84
      rw [eF] at cB
      exact w_pools (plF_ok ok).1 cB (hQ s cB hm)
    | succ k ih =>
      intro i n m S B s hi hn oB eX hO hSm hR hlow hSP cB hA hT hm
      obtain ⟨n, rfl⟩ : ∃ z, n = z + 1 := ⟨n - 1, by omega⟩
      have hS9 := okS_9 oB.1 hO.1
      unfold w_X8_plan_H36
      rw [nI_1]
      refine ⟨fun z => absurd z (nI_ge (b := 9) (by omega) (by omega)), fun _ => ?_⟩
      refine w_con (by omega) (by omega) (fun hb => ?_) (fun hb => ?_)
      · refine ct rfl (ih (i + 1) n m S B s (by omega) (by omega) oB eX hO hSm hR (fun j hj => ?_) hSP cB hA hT hm)
        rcases (by omega : j < i ∨ j = i) with q | q
        · exact hlow j q
        · rw [q]
          exact hb
      · refine cf (by decide) ?_
        have hl := lx_eq hS9 hb hlow
        have h0 : 0 < S := by
          rcases Nat.eq_zero_or_pos S with e | e
          · subst e
            rw [Nat.zero_testBit] at hb
            cases hb
          · exact e
        have gl := lx1 h0 hS9
        rw [hl] at gl
        have w2 := WS_2 (X := aX A) (k := 10) hS9
        have hle := sub_le hSP
        have t31 : s 31 S = nI (WS (aX A) 10 S).2 := by
          rcases hT S (by omega) hSP with y | y
          · exact y.2
          · omega
        unfold w_X1_choiceFor w_X1_choiceFor_E
        rw [nI_c (by omega : S ≤ 1000000000), t31]
        refine ⟨vin hS9 (by decide), ?_⟩
        obtain ⟨m, rfl⟩ : ∃ z, m = z + 1 := ⟨m - 1, by omega⟩
        have low2 : ∀ T, T.testBit i = true → ∀ j, j < i + 1 → (dif S T).testBit j = false := fun T hT j hj => by
          rw [dif_b]
          rcases (by omega : j < i ∨ j = i) with q | q
          · rw [hlow j q]
            rfl
          · rw [q, hT]
            simp
        unfold w_X8_takeIntoPlan w_X8_takeIntoPlan_E
        rcases run_st oB h0 hO with ⟨v1, v2, v3, v4, v5, v6⟩ | ⟨v1, v2, v2b, v2c, v2d, v3, v4, v5, v6⟩
        · rw [eX] at v1
          have hR2 : runP m (dif S (lb S)) (aLv B (lx S)) = plF A := by
            rw [← hR]
            show _ = (if S = 0 then _ else if (WS (aX B) 10 S).2 = 0 then _ else _)
            rw [if_neg (by omega), eX, if_pos v1]
          rw [v1]
          refine dt rfl (lv_ok oB cB (by omega) (fun s4 c4 hF4 => fun x ex => ?_))
          rw [nI_sh (by omega), nI_or, Nat.zero_or, nI_dif] at ex
          rw [ex]
          rw [gl.1] at v4 v5 hR2
          rw [hl] at v3 v4 hR2
          refine ih (i + 1) n m (dif S (2 ^ i)) (aLv B i) s4 (by omega) (by omega) v3 eX v4 (by omega) hR2 (low2 _ (Nat.testBit_two_pow_self)) (dif_tr hSP) c4 ?_ ?_ (hm.tr (fun k j hk => hF4 k j (by omega) (by omega)))
          · intro T a1 a2 a3 a4
            rw [hF4 28 T (by omega) (by omega)]
            exact hA T a1 a2 a3 a4
          · intro T a1 a2
            rw [hF4 30 T (by omega) (by omega), hF4 31 T (by omega) (by omega), hF4 30 0 (by omega) (by omega)]
            exact hT T a1 a2
        · have p2 := pl2 h0 hS9 v2b
          rw [eX] at v1 v2 v2b v2c v2d v3 v4 v5 p2
          have hR2 : runP m (dif S (WS (aX A) 10 S).2) (aPut B (WS (aX A) 10 S).2 (drvS (aX A) (WS (aX A) 10 S).2)) = plF A := by
            rw [← hR]
            show _ = (if S = 0 then _ else if (WS (aX B) 10 S).2 = 0 then _ else _)
            rw [if_neg (by omega), eX, if_neg v1]
          have hqP : dif (WS (aX A) 10 S).2 (pres (aW A) (xn (aX A))) = 0 := dif_0.mpr (fun j hj => dif_0.mp hSP j (dif_0.mp p2.2.2.1 j hj))
          have hck := cB.2.2.1 (WS (aX A) 10 S).2 w2
          rw [eX] at hck
          have t29 : s 29 (WS (aX A) 10 S).2 = nI (drvS (aX A) (WS (aX A) 10 S).2) := by
            rcases hck with y | ⟨-, y⟩
            · exact absurd y (hA _ p2.1 w2 hqP v2.2.2)
            · rcases WS_val (X := aX A) (k := 10) h0 hS9 with ⟨z1, z2⟩ | ⟨cc, z1, z2, z3⟩
              · exact absurd z1 v1
              · obtain ⟨-, r, k2, k3, -⟩ := cst_s ok.1 p2.1 v2.1 z2
                rw [k2] at y
                rw [← k3]
                exact y.2
          have hi2 : (WS (aX A) 10 S).2.testBit i = true := PL_lb v2b (by rw [gl.1]; exact Nat.testBit_two_pow_self)
          refine df (fun y => v1 ((nI_eq (b := 0) (by omega) (by omega)).mp y)) ?_
          unfold w_X0_driverFor w_X0_driverFor_E
          rw [nI_c (by omega : (WS (aX A) 10 S).2 ≤ 1000000000), t29]
          refine ⟨vin w2 (by decide), ?_⟩
          have v2' := v2
          have v2d' := v2d
          rw [← eX] at v2' v2d'
          refine putC oB cB (S := (WS (aX A) 10 S).2) (d := drvS (aX A) (WS (aX A) 10 S).2) (by rw [eX]; exact v2) v2c (fun y => absurd (by rw [eX]; exact v2d) y) (fun _ s4 c4 hF4 => fun x ex => ?_)
          rw [nI_sh (by omega), nI_or, or_in hi2, nI_dif] at ex
          rw [ex]
          refine ih (i + 1) n m (dif S (WS (aX A) 10 S).2) _ s4 (by omega) (by omega) v3 (aPut_X.trans eX) v4 (by omega) hR2 (low2 _ hi2) (dif_tr hSP) c4 ?_ ?_ (hm.tr hF4.m)
          · intro T a1 a2 a3 a4
            rw [hF4 28 T (by omega)]
            exact hA T a1 a2 a3 a4
          · intro T a1 a2
            rw [hF4 30 T (by omega), hF4 31 T (by omega), hF4 30 0 (by omega)]
            exact hT T a1 a2
  exact ⟨10, loop 9 0 10 _ _ (aB A) s3 (by omega) (by omega) (ok_aB ok) rfl opn_aB (Nat.le_refl _) rfl (fun j hj => absurd hj (by omega)) (dif_self _) c3 hA3 hT3 hm3⟩
theorem ZS.frX {A : AA} {σ σm σ' : MS} (h : FrW σ σm) (g : FrX σm σ') (h27 : σ' 66 27 = 1) (hK : KT (aX A) (pres (aW A) (xn (aX A))) σ') (c : ZS A σ) : ZS A σ' := c.fr (fun k j _ hk => (g k j (by omega)).trans (h k j (by omega))) (Or.inr ⟨h27, hK⟩)
theorem ZS.p {A B : AA} {σ σ' : MS} (c : ZS A σ) (hB : B.1 = A.1 ∧ B.2.1 = A.2.1 ∧ aPo B = aPo A ∧ aRf B = aRf A ∧ aMo B = aMo A ∧ aMi B = aMi A) (hF : ∀ k j, ¬ (97 ≤ k ∧ k ≤ 101) → ¬ (k = 66 ∧ (j = 36 ∨ j = 37)) → σ' k j = σ k j) (hp : planM B σ') : ZS B σ' := by
  obtain ⟨c1, c2, c3, c4, c5, c6, c7, c8, c9, c10⟩ := c
  obtain ⟨b1, b2, b3, b4, b5, b6⟩ := hB
  have b1 : aX B = aX A := b1
  have b2 : aW B = aW A := b2
  unfold ZS
  rw [b1, b2, b3, b4, b5, b6]
  refine ⟨c1.fr (fun k j hk => hF k j (by omega) (by omega)), c2.fr (fun p _ => hF _ _ (by omega) (by omega)), ?_, fun p hp => by rw [hF _ _ (by omega) (by omega)]; exact c4 p hp, fun k hk => by rw [hF _ _ (by omega) (by omega)]; exact c5 k hk, by rw [hF _ _ (by omega) (by omega)]; exact c6, fun a b ha hb => by rw [hF _ _ (by omega) (by omega)]; exact c7 a b ha hb, hp⟩
  rcases c3 with q | ⟨q1, q2⟩
  · exact Or.inl (by rw [hF 66 27 (by omega) (by omega)]; exact q)
  · refine Or.inr ⟨by rw [hF 66 27 (by omega) (by omega)]; exact q1, fun T a1 a2 => ?_⟩
    have := q2 T a1 a2
    unfold mrow at this ⊢
    rw [hF 89 T (by omega) (by omega), hF 90 T (by omega) (by omega), hF 91 T (by omega) (by omega)]
    exact this
theorem leaves_ok {σ : MS} {p : Nat} (hp : p < 9) {Q : MS → Prop} (hQ : ∀ σ', (∀ k j, ¬ ((97 ≤ k ∧ k ≤ 100) ∧ j = p) → σ' k j = σ k j) → σ' 97 p = 0 → Q σ') : w_X9_leaves (nI p) σ Q := by
  unfold w_X9_leaves w_X9_leaves_E
  rw [nI_c (by omega : p ≤ 1000000000)]
  refine ⟨vin hp (by decide), fun s1 e1 s2 e2 s3 e3 s4 e4 => hQ s4 (fun k j hk => ?_) ?_⟩
  · rw [e4, e3, e2, e1]
    unfold mst
    rw [if_neg (by omega), if_neg (by omega), if_neg (by omega), if_neg (by omega)]
  · rw [e4, e3, e2, e1]
    simp [mst]
theorem planM_ok {A : AA} {σ : MS} (ok : okA A) (c : ZS A σ) {Q : Int32 → MS → Prop} (hQ : ∀ σ', ZS (plF A) σ' → SmC σ σ' → Q (nI (sumN (fP (plF A)) 9)) σ') : w_X9_plan σ Q := by
  have hP : pres (aW A) (xn (aX A)) < 2 ^ (xn (aX A)) := pres_lt
  have hP9 := okS_9 ok.1 hP
  have oF := plF_ok ok
  unfold w_X9_plan w_X9_plan_E
  refine best_ok ok.1 c.1 c.2.1 c.2.2.1 (fun s1 sm hF1 hF2 h27 hKT hMT => ?_)
  have c1 : ZS A s1 := c.frX hF1 hF2 h27 hKT
  have hm1 : SmC σ s1 := hF1.c.tr hF2.c
  obtain ⟨l, mm, cc, t1, t2, t3, t4, ⟨t5, t6, t7⟩, t8, t9⟩ := hMT (pres (aW A) (xn (aX A))) (by omega) (dif_self _)
  have hpc := popc_le (pres (aW A) (xn (aX A)))
  have he := (enc (a := l) (b := mm) (c := cc) (a2 := popc (aLf (plF A))) (b2 := sumN (fM (plF A)) 9) (c2 := sumN (fP (plF A)) 9) (by omega) (by omega) (sumM_le oF.1) sumP_le).mp (by rw [t4]; exact oF.2.2.symm)
  have body : ∀ (k n m S : Nat) (B : AA) (s : MS), S ≤ k → k < n → okA B → aX B = aX A → opn B S → S ≤ m → runP m S B = plF A → dif S (pres (aW A) (xn (aX A))) = 0 → ZS (wL B (aMb A) (aLf (plF A))) s → (∀ k j, (89 ≤ k ∧ k ≤ 96) → s k j = s1 k j) → SmC σ s → w_X9_plan_H45 Q n (nI S) (nI (sumN (fP (plF A)) 9)) s := by
    intro k
    induction k with
    | zero =>
      intro n m S B s hSk hn oB eX hO hSm hR hSP cB hF hm
      obtain ⟨n, rfl⟩ : ∃ z, n = z + 1 := ⟨n - 1, by omega⟩
      have e0 : S = 0 := by omega
      have eF : B = plF A := by
        rw [← hR, e0]
        cases m with
        | zero => rfl
        | succ m => exact (if_pos rfl).symm
      unfold w_X9_plan_H45
      refine ct (by rw [e0]; rfl) ?_
      unfold w_X9_plan_J89
      intro s2 e2
      have kp : ∀ k j, ¬ (k = 66 ∧ j = 36) → s2 k j = s k j := fun k j hk => by
        rw [e2]
        unfold mst
        rw [if_neg hk]
      rw [eF] at cB
      refine hQ s2 (ZS.p cB ⟨rfl, rfl, rfl, rfl, rfl, rfl⟩ (fun k j h1 h2 => kp k j (by omega)) ⟨?_, by rw [kp 66 37 (by omega)]; exact cB.2.2.2.2.2.2.2.2.1, fun p hp => ?_⟩) (hm.tr (fun k j hk => kp k j (by omega)))
      · rw [oF.2.1, e2]
        simp [mst]
        rfl
      · rw [kp 97 p (by omega), kp 98 p (by omega), kp 99 p (by omega), kp 100 p (by omega), kp 101 p (by omega)]
        exact cB.2.2.2.2.2.2.2.2.2 p hp
    | succ k ih =>
      intro n m S B s hSk hn oB eX hO hSm hR hSP cB hF hm
      obtain ⟨n, rfl⟩ : ∃ z, n = z + 1 := ⟨n - 1, by omega⟩
      rcases Nat.eq_zero_or_pos S with e0 | h0
      · obtain ⟨n2, rfl⟩ : ∃ z, n = z := ⟨n, rfl⟩
        have eF : B = plF A := by
          rw [← hR, e0]
          cases m with
          | zero => rfl
          | succ m => exact (if_pos rfl).symm
        unfold w_X9_plan_H45
        refine ct (by rw [e0]; rfl) ?_
        unfold w_X9_plan_J89
        intro s2 e2
        have kp : ∀ k j, ¬ (k = 66 ∧ j = 36) → s2 k j = s k j := fun k j hk => by
          rw [e2]
          unfold mst
          rw [if_neg hk]
        rw [eF] at cB
        refine hQ s2 (ZS.p cB ⟨rfl, rfl, rfl, rfl, rfl, rfl⟩ (fun k j h1 h2 => kp k j (by omega)) ⟨?_, by rw [kp 66 37 (by omega)]; exact cB.2.2.2.2.2.2.2.2.1, fun p hp => ?_⟩) (hm.tr (fun k j hk => kp k j (by omega)))
        · rw [oF.2.1, e2]
          simp [mst]
          rfl
        · rw [kp 97 p (by omega), kp 98 p (by omega), kp 99 p (by omega), kp 100 p (by omega), kp 101 p (by omega)]
          exact cB.2.2.2.2.2.2.2.2.2 p hp
      · have hS9 := okS_9 oB.1 hO.1
        have w2 := WS_2 (X := aX A) (k := 10) hS9
        have hle := sub_le hSP
        have gl := lx1 h0 hS9
        obtain ⟨-, -, -, -, -, -, -, -, u8, -⟩ := hMT S (by omega) hSP
        have t95 : s 95 S = nI (WS (aX A) 10 S).2 := by
          rw [hF 95 S (by omega)]
          exact u8 (by omega)
        obtain ⟨m, rfl⟩ : ∃ z, m = z + 1 := ⟨m - 1, by omega⟩
        unfold w_X9_plan_H45
        refine cf (fun y => by have := (nI_eq (b := 0) (by omega) (by omega)).mp y; omega) ?_
        rw [nI_c (by omega : S ≤ 1000000000), t95]
        refine ⟨vin hS9 (by decide), fun x3 e3 => ?_⟩
        rw [e3]
        rcases run_st oB h0 hO with ⟨v1, v2, v3, v4, v5, v6⟩ | ⟨v1, v2, v2b, v2c, v2d, v3, v4, v5, v6⟩
        · rw [eX] at v1
          have hR2 : runP m (dif S (lb S)) (aLv B (lx S)) = plF A := by
            rw [← hR]
            show _ = (if S = 0 then _ else if (WS (aX B) 10 S).2 = 0 then _ else _)
            rw [if_neg (by omega), eX, if_pos v1]
          rw [v1]
          refine dt rfl (fun x ex => ?_)
          have e1 : nI S - 1 = nI (S - 1) := by
            have := nI_pred (S - 1)
            rw [Nat.sub_add_cancel (by omega)] at this
            exact this
          rw [e1, nI_and, ← gl.2.2.2.2] at ex
          rw [ex]
          have ew : wL (aLv B (lx S)) (aMb A) (aLf (plF A)) = wL B (aMb A) (aLf (plF A)) := by
            unfold wL aLv
            rw [up_same (hO.2 _ gl.2.2.1).1]
          refine ih n m (dif S (lb S)) (aLv B (lx S)) s (by omega) (by omega) v3 eX v4 (by omega) hR2 (dif_tr hSP) (by rw [ew]; exact cB) hF hm
        · have p2 := pl2 h0 hS9 v2b
          rw [eX] at v1 v2 v2b v2c v2d v3 v4 v5 p2
          have hR2 : runP m (dif S (WS (aX A) 10 S).2) (aPut B (WS (aX A) 10 S).2 (drvS (aX A) (WS (aX A) 10 S).2)) = plF A := by
            rw [← hR]
            show _ = (if S = 0 then _ else if (WS (aX B) 10 S).2 = 0 then _ else _)
            rw [if_neg (by omega), eX, if_neg v1]
          have hqP : dif (WS (aX A) 10 S).2 (pres (aW A) (xn (aX A))) = 0 := dif_0.mpr (fun j hj => dif_0.mp hSP j (dif_0.mp p2.2.2.1 j hj))
          have t90 : s 90 (WS (aX A) 10 S).2 = nI (drvS (aX A) (WS (aX A) 10 S).2) := by
            rw [hF 90 _ (by omega)]
            have y := ((hKT _ p2.1 v2.1).1 ⟨v2, hqP⟩).1
            rcases WS_val (X := aX A) (k := 10) h0 hS9 with ⟨z1, z2⟩ | ⟨cc, z1, z2, z3⟩
            · exact absurd z1 v1
            · obtain ⟨-, r, k2, k3, -⟩ := cst_s ok.1 p2.1 v2.1 z2
              rw [k2] at y
              rw [← k3]
              exact y.2
          refine df (fun y => v1 ((nI_eq (b := 0) (by omega) (by omega)).mp y)) ?_
          rw [nI_c (by omega : (WS (aX A) 10 S).2 ≤ 1000000000), t90]
          refine ⟨vin w2 (by decide), layM (A := wL B (aMb A) (aLf (plF A))) oB.1 cB (by show okS (aX B) _; rw [eX]; exact v2) v2c (by show whyS (aX B) _ _ = 0; rw [eX]; exact v2d) (fun s4 c4 hF4 => fun x ex => ?_)⟩
          rw [nI_dif] at ex
          rw [ex]
          rw [aPut_wL] at c4
          exact ih n m _ _ s4 (by omega) (by omega) v3 (aPut_X.trans eX) v4 (by omega) hR2 (dif_tr hSP) c4 (fun k j hk => (hF4 k j (by omega)).trans (hF k j hk)) (hm.tr hF4.c)
  have loop : ∀ (k i n : Nat) (s : MS), i + k = 9 → k < n → (∀ k j, ¬ (97 ≤ k ∧ k ≤ 100) → s k j = s1 k j) → (∀ p, p < i → s 97 p = 0) → w_X9_plan_H6 Q n (nI i) s := by
    intro k
    induction k with
    | zero =>
      intro i n s hi hn hF hz
      obtain ⟨n, rfl⟩ : ∃ z, n = z + 1 := ⟨n - 1, by omega⟩
      have e : i = 9 := by omega
      subst e
      unfold w_X9_plan_H6
      refine ⟨fun _ => ?_, fun z => absurd (by decide) z⟩
      have cz : ZS (aZ A) s := ZS.p c1 ⟨rfl, rfl, rfl, rfl, rfl, rfl⟩ (fun k j h1 h2 => hF k j (by omega)) ⟨by rw [hF _ _ (by omega)]; exact c1.2.2.2.2.2.2.2.1, by rw [hF _ _ (by omega)]; exact c1.2.2.2.2.2.2.2.2.1, fun p hp => ⟨hz p hp, fun y => absurd rfl y⟩⟩
      unfold w_X9_plan_J23
      refine w_pres (X := aX A) (aw := aW A) ok.1 cz.1 cz.2.1 ?_
      rw [nI_c (by omega : pres (aW A) (xn (aX A)) ≤ 1000000000), hF 92 _ (by omega), t1]
      refine ⟨vin hP9 (by decide), fun s2 e2 x ex => ?_⟩
      have kp : ∀ k j, ¬ (k = 66 ∧ j = 37) → s2 k j = s k j := fun k j hk => by
        rw [e2]
        unfold mst
        rw [if_neg hk]
      rw [kp 94 _ (by omega), hF 94 _ (by omega), t3, he.2.2] at ex
      rw [ex]
      refine ⟨513, body 512 513 _ _ (aB A) s2 (by omega) (by omega) (ok_aB ok) rfl opn_aB (Nat.le_refl _) rfl (dif_self _) ?_ (fun k j hk => (kp k j (by omega)).trans (hF k j (by omega))) ((hm1.tr (fun k j hk => hF k j (by omega))).tr (fun k j hk => kp k j (by omega)))⟩
      refine ZS.p cz ⟨rfl, rfl, rfl, rfl, rfl, rfl⟩ (fun k j h1 h2 => kp k j (by omega)) ⟨by rw [kp _ _ (by omega)]; exact cz.2.2.2.2.2.2.2.1, ?_, fun p hp => ⟨by rw [kp 97 p (by omega)]; exact hz p hp, fun y => absurd rfl y⟩⟩
      rw [e2]
      show (mst s 66 37 (nI l)) 66 37 = nI (popc (aLf (plF A)))
      rw [← he.1]
      simp [mst]
    | succ k ih =>
      intro i n s hi hn hF hz
      obtain ⟨n, rfl⟩ : ∃ z, n = z + 1 := ⟨n - 1, by omega⟩
      unfold w_X9_plan_H6
      rw [nI_1]
      refine ⟨fun z => absurd z (nI_ge (b := 9) (by omega) (by omega)), fun _ => leaves_ok (by omega) (fun s2 h1 h2 => ih (i + 1) n s2 (by omega) (by omega) (fun k j hk => (h1 k j (by omega)).trans (hF k j hk)) (fun p hp => ?_))⟩
      by_cases z : p = i
      · rw [z]
        exact h2
      · rw [h1 97 p (by omega)]
        exact hz p (by omega)
  exact ⟨10, loop 9 0 10 s1 (by omega) (by omega) (fun _ _ _ => rfl) (fun p hp => absurd hp (by omega))⟩
theorem L_plan {A : AA} {σ : MS} (h : Rel A σ) {K : Int32 → Int32 → MS → Prop} (hK : ∀ r A' σ', Rel A' σ' → K r r σ') : w_X8_plan σ (fun r1 σ1 => w_X9_plan σ1 (fun r2 σ2 => K r1 r2 σ2)) :=
  planC_ok h.1 h.2.1 (fun σ1 hC hm => planM_ok h.1 (h.2.2.m hm) (fun σ2 hZ hm2 => hK _ (plF A) σ2 ⟨(plF_ok h.1).1, hC.m hm2, hZ⟩))
