/-! ===== fail ===== -/
noncomputable def flT (S : Nat) (B : AA × Nat) (q : Nat) : AA × Nat := if S.testBit q = true then (match joinS B.1 q with
  | some A' => (A', B.2)
  | none => (aLv B.1 q, B.2 + 1)) else B
noncomputable def flS (S : Nat) (A : AA) : Nat → AA × Nat
  | 0 => (A, 0)
  | q + 1 => flT S (flS S A q) q
def aDs (A : AA) (S : Nat) : AA := (A.1, A.2.1, aPo A, aRf A, aMo A, aMi A, aMb A, aLf A, (fun q => if S.testBit q then 0 else aPl A q), A.2.2.2.2.2.2.2.2.2)
theorem ok_ds {A : AA} (ok : okA A) {p : Nat} (hp : p < 9) (hne : aPl A p ≠ 0) : okA (aDs A (aPl A p)) := by
  obtain ⟨o1, o2, o3, ⟨p1, p2, p3⟩, o5⟩ := ok
  have dp := p2 p hp hne
  have : okP (xn (aX A)) (aLf A) (fun q => if (aPl A p).testBit q then 0 else aPl A q) (aDv A) (aTk A) := by
    refine ⟨p1, fun r hr h0 => ?_, fun r hb => ⟨(p3 r hb).1, ?_⟩⟩
    · dsimp only at h0 ⊢
      by_cases e : (aPl A p).testBit r = true
      · rw [if_pos e] at h0
        exact absurd rfl h0
      · rw [if_neg e] at h0
        rw [if_neg e]
        obtain ⟨d1, d2, d3, d4, d5, d6⟩ := p2 r hr h0
        refine ⟨d1, d2, d3, d4, d5, fun q hq => ?_⟩
        have e2 : ¬ (aPl A p).testBit q = true := fun z => by
          have h1 := (d6 q hq).1
          have h2 := (dp.2.2.2.2.2 q z).1
          rw [h2] at h1
          rw [h1] at e
          exact e d3
        rw [if_neg e2]
        exact d6 q hq
    · dsimp only
      split
      · rfl
      · exact (p3 r hb).2
  exact ⟨o1, o2, o3, this, o5⟩
def flO (S : Nat) (B : AA) (i : Nat) : Prop := ∀ q, i ≤ q → S.testBit q = true → aPl B q = 0 ∧ (aLf B).testBit q = false
theorem fl_step {S : Nat} {B : AA × Nat} (ok : okA B.1) (hS : S < 2 ^ (xn (aX B.1))) {i : Nat} (hi : i < 9) (ho : flO S B.1 i) : okA (flT S B i).1 ∧ aX (flT S B i).1 = aX B.1 ∧ flO S (flT S B i).1 (i + 1) ∧ (flT S B i).2 + popc (aLf B.1) = B.2 + popc (aLf (flT S B i).1) ∧ aMb (flT S B i).1 = aMb B.1 ∧ (flT S B i).2 ≤ B.2 + 1 := by
  unfold flT
  by_cases hb : S.testBit i = true
  · rw [if_pos hb]
    have hq := bits_lt hS hb
    have o := ho i (Nat.le_refl _) hb
    cases hj : joinS B.1 i with
    | some A' =>
      have j := join_ok ok hq o.1 o.2 hj
      refine ⟨j.1, j.2.1, fun q h1 h2 => ?_, ?_, j.2.2.2.2.1, Nat.le_succ _⟩
      · have oq := ho q (by omega) h2
        exact ⟨j.2.2.2.2.2 q (by omega) oq.1, by show (aLf A').testBit q = false; rw [j.2.2.2.1]; exact oq.2⟩
      · show B.2 + popc (aLf B.1) = B.2 + popc (aLf A')
        rw [j.2.2.2.1]
    | none =>
      refine ⟨ok_lv ok hi o.1, rfl, fun q h1 h2 => ?_, ?_, rfl, Nat.le_refl _⟩
      · have oq := ho q (by omega) h2
        refine ⟨?_, ?_⟩
        · show va_up (aPl B.1) i 0 q = 0
          rw [up_n (by omega)]
          exact oq.1
        · show (aLf B.1 ||| 2 ^ i).testBit q = false
          rw [Nat.testBit_or, oq.2, Nat.testBit_two_pow, decide_eq_false (by omega)]
          rfl
      · show B.2 + 1 + popc (aLf B.1) = B.2 + popc (aLf B.1 ||| 2 ^ i)
        rw [popc_or1 ok.2.2.2.1.1 hi o.2]
        omega
  · rw [if_neg hb]
    exact ⟨ok, rfl, fun q h1 h2 => ho q (by omega) h2, rfl, rfl, Nat.le_succ _⟩
theorem fl_ok {S : Nat} {A : AA} (ok : okA A) (hS : S < 2 ^ (xn (aX A))) (ho : flO S A 0) : ∀ i, i ≤ 9 → okA (flS S A i).1 ∧ aX (flS S A i).1 = aX A ∧ flO S (flS S A i).1 i ∧ (flS S A i).2 + popc (aLf A) = popc (aLf (flS S A i).1) ∧ aMb (flS S A i).1 = aMb A ∧ (flS S A i).2 ≤ i
  | 0, _ => ⟨ok, rfl, ho, Nat.zero_add _, rfl, Nat.le_refl _⟩
  | i + 1, h => by
    have ih := fl_ok ok hS ho i (by omega)
    have s := fl_step ih.1 (by rw [ih.2.1]; exact hS) (i := i) (by omega) ih.2.2.1
    refine ⟨s.1, s.2.1.trans ih.2.1, s.2.2.1, ?_, s.2.2.2.2.1.trans ih.2.2.2.2.1, ?_⟩
    · have h1 := s.2.2.2.1
      have h2 := ih.2.2.2.1
      show (flT S (flS S A i) i).2 + _ = popc (aLf (flT S (flS S A i) i).1)
      omega
    · have h1 := s.2.2.2.2.2
      have h2 := ih.2.2.2.2.2
      show (flT S (flS S A i) i).2 ≤ _
      omega
theorem fl_n {S : Nat} {A : AA} (hS : S < 2 ^ (xn (aX A))) : ∀ k, flS S A (xn (aX A) + k) = flS S A (xn (aX A))
  | 0 => rfl
  | k + 1 => by
    have ih := fl_n (A := A) hS k
    show flT S (flS S A (xn (aX A) + k)) (xn (aX A) + k) = _
    unfold flT
    rw [if_neg (fun y => by have := bits_lt hS y; omega)]
    exact ih
theorem diss_ok {A : AA} {σ : MS} (c : CS A σ) {S : Nat} (hS : S < 512) {Q : MS → Prop} (hQ : ∀ σ', CS (aDs A S) σ' → SmM σ σ' → Q σ') : w_X4_dissolve (nI S) σ Q := by
  unfold w_X4_dissolve w_X4_dissolve_E
  have loop : ∀ (k i n : Nat) (s : MS), i + k = 9 → k < n → (∀ k j, k ≠ 32 → s k j = σ k j) → (∀ p, p < 9 → s 32 p = if p < i ∧ S.testBit p = true then 0 else σ 32 p) → w_X4_dissolve_H2 Q n (nI S) (nI i) s := by
    intro k
    induction k with
    | zero =>
      intro i n s hi hn hF hP
      obtain ⟨n, rfl⟩ : ∃ z, n = z + 1 := ⟨n - 1, by omega⟩
      have e : i = 9 := by omega
      subst e
      unfold w_X4_dissolve_H2
      refine ⟨fun _ => hQ s ?_ (fun k j hk => hF k j (by omega)), fun z => absurd (by decide) z⟩
      obtain ⟨c1, c2, c3, c4, c5, c6, c7, c8, c9, c10⟩ := c
      refine ⟨?_, c2.fr (fun p _ => hF _ _ (by omega)), fun T hT => by rw [hF 28 T (by omega), hF 29 T (by omega)]; exact c3 T hT, fun p hp => by rw [hF _ _ (by omega)]; exact c4 p hp, fun k hk => by rw [hF _ _ (by omega)]; exact c5 k hk, by rw [hF _ _ (by omega)]; exact c6, fun a b ha hb => by rw [hF _ _ (by omega)]; exact c7 a b ha hb, by rw [hF _ _ (by omega)]; exact c8, by rw [hF _ _ (by omega)]; exact c9, fun p hp => ?_⟩
      · obtain ⟨d1, d2, d3⟩ := c1
        refine ⟨by rw [hF 4 1 (by omega)]; exact d1, fun q hq => ?_, fun a b ha hb => by rw [hF (56 + a) b (by omega)]; exact d3 a b ha hb⟩
        rw [hF (37 + q) 0 (by omega), hF (37 + q) 1 (by omega), hF (37 + q) 2 (by omega), hF (37 + q) 3 (by omega), hF (37 + q) 4 (by omega), hF (37 + q) 5 (by omega), hF (37 + q) 6 (by omega), hF (37 + q) 8 (by omega), hF (37 + q) 9 (by omega)]
        exact d2 q hq
      · show s 32 p = nI (if S.testBit p then 0 else aPl A p) ∧ ((if S.testBit p then 0 else aPl A p) ≠ 0 → _)
        rw [hF 33 p (by omega), hF 34 p (by omega), hF 35 p (by omega), hF 36 p (by omega), hP p hp]
        by_cases e : S.testBit p = true
        · rw [if_pos e, if_pos ⟨hp, e⟩]
          exact ⟨rfl, fun y => absurd rfl y⟩
        · rw [if_neg e, if_neg (fun y => e y.2)]
          exact c10 p hp
    | succ k ih =>
      intro i n s hi hn hF hP
      obtain ⟨n, rfl⟩ : ∃ z, n = z + 1 := ⟨n - 1, by omega⟩
      unfold w_X4_dissolve_H2
      rw [nI_1]
      refine ⟨fun z => absurd z (nI_ge (b := 9) (by omega) (by omega)), fun _ => ?_⟩
      refine w_con (by omega) (by omega) (fun hb => ?_) (fun hb => ?_)
      · refine ct rfl (ih (i + 1) n s (by omega) (by omega) hF (fun p hp => ?_))
        rw [hP p hp]
        by_cases e : p < i ∧ S.testBit p = true
        · rw [if_pos e, if_pos ⟨by omega, e.2⟩]
        · rw [if_neg e, if_neg]
          rintro ⟨y1, y2⟩
          rcases (by omega : p < i ∨ p = i) with w | w
          · exact e ⟨w, y2⟩
          · subst w
            rw [hb] at y2
            cases y2
      · refine cf (by decide) ⟨vin (by omega) (by decide), fun s2 e2 => ?_⟩
        rw [nI_c (by omega : i ≤ 1000000000)] at e2
        refine ih (i + 1) n s2 (by omega) (by omega) (fun k j hk => ?_) (fun p hp => ?_)
        · rw [e2]
          unfold mst
          rw [if_neg (fun y => hk y.1)]
          exact hF k j hk
        · rw [e2]
          unfold mst
          by_cases z : p = i
          · subst z
            rw [if_pos ⟨rfl, rfl⟩, if_pos ⟨by omega, hb⟩]
          · rw [if_neg (fun y => z y.2), hP p hp]
            by_cases e : p < i ∧ S.testBit p = true
            · rw [if_pos e, if_pos ⟨by omega, e.2⟩]
            · rw [if_neg e, if_neg (fun y => e ⟨by omega, y.2⟩)]
  exact ⟨10, loop 9 0 10 σ (by omega) (by omega) (fun _ _ _ => rfl) (fun p hp => by rw [if_neg (fun y => absurd y.1 (by omega))])⟩
theorem failC {A : AA} {σ : MS} (ok : okA A) (c : CS A σ) {S : Nat} (hS : S < 2 ^ (xn (aX A))) (ho : flO S A 0) {Q : Int32 → MS → Prop} (hQ : ∀ σ', CS (flS S A 9).1 σ' → SmM σ σ' → Q (nI (flS S A 9).2) σ') : ∃ n76, w_X8_fail_H76 Q n76 (nI S) 0 0 σ := by
  have hS9 := okS_9 ok.1 hS
  have loop : ∀ (k i n : Nat) (s : MS), i + k = 9 → k < n → CS (flS S A i).1 s → SmM σ s → w_X8_fail_H76 Q n (nI S) (nI (flS S A i).2) (nI i) s := by
    intro k
    induction k with
    | zero =>
      intro i n s hi hn cs hm
      obtain ⟨n, rfl⟩ : ∃ z, n = z + 1 := ⟨n - 1, by omega⟩
      have e : i = 9 := by omega
      subst e
      unfold w_X8_fail_H76
      exact ⟨fun _ => hQ s cs hm, fun z => absurd (by decide) z⟩
    | succ k ih =>
      intro i n s hi hn cs hm
      obtain ⟨n, rfl⟩ : ∃ z, n = z + 1 := ⟨n - 1, by omega⟩
      have o := fl_ok ok hS ho i (by omega)
      have nx := fun (B : AA × Nat) (e : flT S (flS S A i) i = B) (s2 : MS) (h1 : CS B.1 s2) (h2 : SmM s s2) => ih (i + 1) n s2 (by omega) (by omega) (by show CS (flT S (flS S A i) i).1 s2; rw [e]; exact h1) (hm.tr h2)
      have ny : ∀ B, flT S (flS S A i) i = B → (flS S A (i + 1)).2 = B.2 := fun B e => by
        show (flT S (flS S A i) i).2 = _
        rw [e]
      unfold w_X8_fail_H76
      rw [nI_1, nI_1]
      refine ⟨fun z => absurd z (nI_ge (b := 9) (by omega) (by omega)), fun _ => ?_⟩
      refine w_con (by omega) (by omega) (fun hb => ?_) (fun hb => ?_)
      · have e : flT S (flS S A i) i = flS S A i := if_neg (by rw [hb]; decide)
        have := nx _ e s cs SmM.rf
        rw [ny _ e] at this
        exact ct rfl this
      · refine cf (by decide) ?_
        have oi := o.2.2.1 i (Nat.le_refl _) hb
        refine joinC o.1 cs (by rw [o.2.1]; exact bits_lt hS hb) oi.1 (fun hj s2 c2 hm2 => ?_) (fun B hj s2 c2 hm2 => ?_)
        · have e : flT S (flS S A i) i = (aLv (flS S A i).1 i, (flS S A i).2 + 1) := by
            unfold flT
            rw [if_pos hb, hj]
          refine dt rfl (lv_ok o.1 c2 (by omega) (fun s3 c3 hF3 => ?_))
          have := nx _ e s3 c3 (hm2.tr (fun k j hk => hF3 k j (by omega) (by omega)))
          rw [ny _ e] at this
          exact this
        · have e : flT S (flS S A i) i = (B, (flS S A i).2) := by
            unfold flT
            rw [if_pos hb, hj]
          have := nx _ e s2 c2 hm2
          rw [ny _ e] at this
          exact df (by decide) this
  exact ⟨10, loop 9 0 10 σ (by omega) (by omega) c SmM.rf⟩
theorem failM {A : AA} {σ : MS} (ok : okA A) (c : ZS A σ) {S : Nat} (hS : S < 2 ^ (xn (aX A))) (ho : flO S A 0) {Q : Int32 → MS → Prop} (hQ : ∀ σ', ZS (flS S A 9).1 σ' → SmC σ σ' → Q (nI (flS S A 9).2) σ') : ∃ n97, w_X9_fail_H97 Q n97 (nI S) 0 0 σ := by
  have hS9 := okS_9 ok.1 hS
  have hn9 := ok.1.2.1
  have e9 : flS S A 9 = flS S A (xn (aX A)) := by
    have := fl_n (A := A) hS (9 - xn (aX A))
    rw [← this]
    congr 1
    omega
  rw [e9] at hQ
  have loop : ∀ (k i n : Nat) (s : MS), i + k = xn (aX A) → k < n → ZS (wL (flS S A i).1 (aMb A) (aLf A)) s → SmC σ s → w_X9_fail_H97 Q n (nI S) (nI (flS S A i).2) (nI i) s := by
    intro k
    induction k with
    | zero =>
      intro i n s hi hn cs hm
      obtain ⟨n, rfl⟩ : ∃ z, n = z + 1 := ⟨n - 1, by omega⟩
      have e : i = xn (aX A) := by omega
      subst e
      have o := fl_ok ok hS ho (xn (aX A)) hn9
      have en : s 66 3 = nI (xn (aX A)) := by
        have : s 66 3 = nI (xn (aX (flS S A (xn (aX A))).1)) := cs.1.1.2.1
        rw [this, o.2.1]
      unfold w_X9_fail_H97
      rw [en]
      refine ⟨fun _ => ?_, fun z => absurd (nI_le (Nat.le_refl _) (by omega)) z⟩
      unfold w_X9_fail_J134
      intro s2 e2
      have ep : s 66 37 = nI (popc (aLf A)) := cs.2.2.2.2.2.2.2.2.1
      rw [ep, nI_add, Nat.add_comm, o.2.2.2.1] at e2
      have kp : ∀ k j, ¬ (k = 66 ∧ j = 37) → s2 k j = s k j := fun k j hk => by
        rw [e2]
        unfold mst
        rw [if_neg hk]
      refine hQ s2 (ZS.p cs ⟨rfl, rfl, rfl, rfl, rfl, rfl⟩ (fun k j h1 h2 => kp k j (by omega)) ⟨?_, ?_, fun p hp => ?_⟩) (hm.tr (fun k j hk => kp k j (by omega)))
      · rw [kp 66 36 (by omega), o.2.2.2.2.1]
        exact cs.2.2.2.2.2.2.2.1
      · rw [e2]
        simp [mst]
      · rw [kp 97 p (by omega), kp 98 p (by omega), kp 99 p (by omega), kp 100 p (by omega), kp 101 p (by omega)]
        exact cs.2.2.2.2.2.2.2.2.2 p hp
    | succ k ih =>
      intro i n s hi hn cs hm
      obtain ⟨n, rfl⟩ : ∃ z, n = z + 1 := ⟨n - 1, by omega⟩
      have o := fl_ok ok hS ho i (by omega)
      have en : s 66 3 = nI (xn (aX A)) := by
        have : s 66 3 = nI (xn (aX (flS S A i).1)) := cs.1.1.2.1
        rw [this, o.2.1]
      have nx := fun (B : AA × Nat) (e : flT S (flS S A i) i = B) (s2 : MS) (h1 : ZS (wL B.1 (aMb A) (aLf A)) s2) (h2 : SmC s s2) => ih (i + 1) n s2 (by omega) (by omega) (by show ZS (wL (flT S (flS S A i) i).1 _ _) s2; rw [e]; exact h1) (hm.tr h2)
      have ny : ∀ B, flT S (flS S A i) i = B → (flS S A (i + 1)).2 = B.2 := fun B e => by
        show (flT S (flS S A i) i).2 = _
        rw [e]
      unfold w_X9_fail_H97
      rw [en, nI_1, nI_1]
      refine ⟨fun z => absurd z (nI_ge (by omega) (by omega)), fun _ => ⟨fun z => ?_, fun z => ?_⟩⟩
      · rw [nI_bit1 (by omega) (by omega)] at z
        have e : flT S (flS S A i) i = flS S A i := if_neg z
        have := nx _ e s cs SmC.rf
        rw [ny _ e] at this
        exact this
      · have hb := (nI_bit1 (by omega) (by omega)).mp z
        have oi := o.2.2.1 i (Nat.le_refl _) hb
        refine joinM o.1 cs (by rw [o.2.1]; exact bits_lt hS hb) oi.1 (fun hj s2 c2 hm2 => ?_) (fun B hj s2 c2 hm2 => ?_)
        · have e : flT S (flS S A i) i = (aLv (flS S A i).1 i, (flS S A i).2 + 1) := by
            unfold flT
            rw [if_pos hb, hj]
          have ew : wL (aLv (flS S A i).1 i) (aMb A) (aLf A) = wL (flS S A i).1 (aMb A) (aLf A) := by
            unfold wL aLv
            rw [up_same oi.1]
          have := nx _ e s2 (by rw [ew]; exact c2) hm2
          rw [ny _ e] at this
          exact dt rfl this
        · have e : flT S (flS S A i) i = (B, (flS S A i).2) := by
            unfold flT
            rw [if_pos hb, hj]
          have := nx _ e s2 c2 hm2
          rw [ny _ e] at this
          exact df (by decide) this
  exact ⟨xn (aX A) + 1, loop (xn (aX A)) 0 (xn (aX A) + 1) σ (by omega) (by omega) c SmC.rf⟩
theorem dissM {A : AA} {σ : MS} (ok : okX (aX A)) (c : ZS A σ) {S : Nat} (hS : S < 2 ^ (xn (aX A))) {Q : Int32 → MS → Prop} (hQ : ∀ σ', ZS (aDs A S) σ' → SmC σ σ' → ∃ n97, w_X9_fail_H97 Q n97 (nI S) 0 0 σ') : ∃ n64, w_X9_fail_H64 Q n64 (nI S) 0 σ := by
  have hS9 := okS_9 ok hS
  have hn9 := ok.2.1
  have loop : ∀ (k i n : Nat) (s : MS), i + k = xn (aX A) → k < n → (∀ k j, ¬ ((97 ≤ k ∧ k ≤ 100) ∧ j < i ∧ S.testBit j = true) → s k j = σ k j) → (∀ p, p < 9 → p < i → S.testBit p = true → s 97 p = 0) → w_X9_fail_H64 Q n (nI S) (nI i) s := by
    intro k
    induction k with
    | zero =>
      intro i n s hi hn hF hP
      obtain ⟨n, rfl⟩ : ∃ z, n = z + 1 := ⟨n - 1, by omega⟩
      have e : i = xn (aX A) := by omega
      subst e
      unfold w_X9_fail_H64
      rw [hF 66 3 (by omega), c.1.1.2.1]
      refine ⟨fun _ => hQ s (ZS.p c ⟨rfl, rfl, rfl, rfl, rfl, rfl⟩ (fun k j h1 h2 => hF k j (by omega)) ⟨by rw [hF _ _ (by omega)]; exact c.2.2.2.2.2.2.2.1, by rw [hF _ _ (by omega)]; exact c.2.2.2.2.2.2.2.2.1, fun p hp => ?_⟩) (fun k j hk => hF k j (by omega)), fun z => absurd (nI_le (Nat.le_refl _) (by omega)) z⟩
      show s 97 p = nI (if S.testBit p then 0 else aPl A p) ∧ ((if S.testBit p then 0 else aPl A p) ≠ 0 → _)
      by_cases e : S.testBit p = true
      · rw [if_pos e]
        exact ⟨hP p hp (bits_lt hS e) e, fun y => absurd rfl y⟩
      · rw [if_neg e, hF 97 p (fun y => e y.2.2), hF 98 p (fun y => e y.2.2), hF 99 p (fun y => e y.2.2), hF 100 p (fun y => e y.2.2), hF 101 p (by omega)]
        exact c.2.2.2.2.2.2.2.2.2 p hp
    | succ k ih =>
      intro i n s hi hn hF hP
      obtain ⟨n, rfl⟩ : ∃ z, n = z + 1 := ⟨n - 1, by omega⟩
      unfold w_X9_fail_H64
      rw [hF 66 3 (by omega), c.1.1.2.1, nI_1]
      refine ⟨fun z => absurd z (nI_ge (by omega) (by omega)), fun _ => ⟨fun z => ?_, fun z => ?_⟩⟩
      · rw [nI_bit1 (by omega) (by omega)] at z
        refine ih (i + 1) n s (by omega) (by omega) (fun k j hk => hF k j (fun y => hk ⟨y.1, by omega, y.2.2⟩)) (fun p h1 h2 h3 => ?_)
        rcases (by omega : p < i ∨ p = i) with w | w
        · exact hP p h1 w h3
        · subst w
          exact absurd h3 z
      · have hb := (nI_bit1 (by omega) (by omega)).mp z
        refine leaves_ok (by omega) (fun s2 h1 h2 => ih (i + 1) n s2 (by omega) (by omega) (fun k j hk => ?_) (fun p g1 g2 g3 => ?_))
        · rw [h1 k j (fun y => hk ⟨y.1, by omega, by rw [y.2]; exact hb⟩)]
          exact hF k j (fun y => hk ⟨y.1, by omega, y.2.2⟩)
        · by_cases w : p = i
          · subst w
            exact h2
          · rw [h1 97 p (by omega)]
            exact hP p g1 (by omega) g3
  exact ⟨xn (aX A) + 1, loop (xn (aX A)) 0 (xn (aX A) + 1) σ (by omega) (by omega) (fun _ _ _ => rfl) (fun p _ h => absurd h (by omega))⟩
theorem L_fail {A : AA} {σ : MS} (h : Rel A σ) (x1 : Int32) {K : Int32 → Int32 → MS → Prop} (hK : ∀ r A' σ', Rel A' σ' → K r r σ') : w_X8_fail x1 σ (fun r1 σ1 => w_X9_fail x1 σ1 (fun r2 σ2 => K r1 r2 σ2)) := by
  have mm : ∀ s, SmM σ s → s 66 36 = nI (aMb A) := fun s hm => (h.2.2.m hm).2.2.2.2.2.2.2.1
  unfold w_X8_fail w_X8_fail_E
  refine made0 h.1 h.2.1 ?_
  by_cases m0 : nI (aMb A) = 0
  · repeat (first | refine ct (by assumption) ?_ | refine cf (by assumption) ?_ | refine dt (by assumption) ?_ | refine df (by assumption) ?_ | refine ct rfl ?_ | refine cf (by decide) ?_ | refine dt rfl ?_ | refine df (by decide) ?_)
    refine rfG em3 (by decide) h hK (fun σ1 hm q => ?_)
    have m1 : σ1 66 36 = 0 := by rw [mm σ1 hm]; exact m0
    unfold w_X9_fail w_X9_fail_E
    repeat (first | refine ct (by assumption) ?_ | refine cf (by assumption) ?_ | refine dt (by assumption) ?_ | refine df (by assumption) ?_ | refine ct rfl ?_ | refine cf (by decide) ?_ | refine dt rfl ?_ | refine df (by decide) ?_)
    exact q
  refine df m0 ?_
  refine prC h x1 (fun a => ?_) (fun p hp hp9 e => ?_)
  · repeat (first | refine ct (by assumption) ?_ | refine cf (by assumption) ?_ | refine dt (by assumption) ?_ | refine df (by assumption) ?_ | refine ct rfl ?_ | refine cf (by decide) ?_ | refine dt rfl ?_ | refine df (by decide) ?_)
    refine rfG em1 (by decide) h hK (fun σ1 hm q => ?_)
    have m2 : ¬ σ1 66 36 = 0 := by rw [mm σ1 hm]; exact m0
    unfold w_X9_fail w_X9_fail_E
    refine df m2 ?_
    refine prM0 h hm a ?_
    repeat (first | refine ct (by assumption) ?_ | refine cf (by assumption) ?_ | refine dt (by assumption) ?_ | refine df (by assumption) ?_ | refine ct rfl ?_ | refine cf (by decide) ?_ | refine dt rfl ?_ | refine df (by decide) ?_)
    exact q
  subst e
  refine df (by decide) ?_
  have okb := okB h.1 (p := p) (v := 1) (Nat.le_refl 1)
  have mod : ∀ (s : MS), SmM σ s → ∀ (Q : Int32 → MS → Prop), (∀ s2, ZS (xB (aX A) p 1, A.2) s2 → SmC s s2 → aPl A p = 0 ∨ aDv A p ≠ p → Q 0 s2) → (∀ s2, ZS (xB (aX A) p 1, A.2) s2 → SmC s s2 → aPl A p ≠ 0 → aDv A p = p → ∃ n64, w_X9_fail_H64 Q n64 (nI (aPl A p)) 0 s2) → w_X9_fail (nI p) s Q := by
    intro s hm Q q0 q1
    have m2 : ¬ s 66 36 = 0 := by rw [mm s hm]; exact m0
    have hZ := h.2.2.m hm
    have hl := pl_lt h.1 hp9
    unfold w_X9_fail w_X9_fail_E
    refine df m2 ?_
    refine prM1 h hm hp ?_
    refine df (by decide) ?_
    rw [nI_c (by omega : p ≤ 1000000000)]
    refine ⟨vin hp9 (by decide), fun sa ea sb eb => ?_⟩
    have keep2 : ∀ k j, ¬ (k = 66 ∧ j = 27) → ¬ (k = 80 ∧ j = p) → sb k j = s k j := fun k j h1 h2 => by
      rw [eb, ea]
      unfold mst
      rw [if_neg h1, if_neg h2]
    have cb : ZS (xB (aX A) p 1, A.2) sb := brokM hZ hp9 (fun k j _ h1 h2 => keep2 k j h1 h2) (by rw [eb, ea]; simp [mst]; rfl) (by rw [eb]; simp [mst])
    have cc : sb 97 p = nI (aPl A p) ∧ (aPl A p ≠ 0 → sb 98 p = nI (aDv A p) ∧ _) := cb.2.2.2.2.2.2.2.2.2 p hp9
    have hc2 : SmC s sb := fun k j hk => keep2 k j (by omega) (by omega)
    intro x ex
    rw [cc.1] at ex
    rw [ex]
    refine ⟨fun y => q0 sb cb hc2 (Or.inl ((nI_eq (b := 0) (by omega) (by omega)).mp y)), fun y => ?_⟩
    have hne : aPl A p ≠ 0 := fun w => y (by rw [w]; rfl)
    have hd := dv9 h.1 hp9 hne
    rw [(cc.2 hne).1]
    exact ⟨fun w => q1 sb cb hc2 hne ((nI_eq (by omega) (by omega)).mp w), fun w => q0 sb cb hc2 (Or.inr (fun v => w (by rw [v])))⟩
  have cls : ∀ (s : MS) (B : AA), B = (xB (aX A) p 1, A.2) → CS B s → SmM σ s → w_X4_drives (nI p) s (fun r46 σ46 => ((¬ r46 = 0 → w_X4_poolAt (nI p) σ46 (fun r59 σ59 => w_X4_dissolve r59 σ59 (fun σ68 => (∃ n76, w_X8_fail_H76 (fun r1 σ1 => w_X9_fail (nI p) σ1 (fun r2 σ2 => K r1 r2 σ2)) n76 r59 0 0 σ68)))) ∧ (r46 = 0 → w_X9_fail (nI p) σ46 (fun r2 σ2 => K 0 r2 σ2)))) := by
    intro s B eB cB hm
    subst eB
    have cc : s 32 p = nI (aPl A p) ∧ (aPl A p ≠ 0 → s 33 p = nI (aDv A p) ∧ _) := cB.2.2.2.2.2.2.2.2.2 p hp9
    have hl := pl_lt h.1 hp9
    unfold w_X4_drives w_X4_drives_E
    rw [nI_c (by omega : p ≤ 1000000000), cc.1]
    have zero : aPl A p = 0 ∨ aDv A p ≠ p → w_X9_fail (nI p) s (fun r2 σ2 => K 0 r2 σ2) := fun w =>
      mod s hm _ (fun s2 c2 h2 _ => hK _ (xB (aX A) p 1, A.2) s2 ⟨okb, cB.m h2, c2⟩) (fun s2 c2 h2 w1 w2 => absurd w (fun v => v.elim w1 (fun u => u w2)))
    refine ⟨vin hp9 (by decide), fun y => dt rfl (zero (Or.inl ((nI_eq (b := 0) (by omega) (by omega)).mp y))), fun y => ?_⟩
    have hne : aPl A p ≠ 0 := fun w => y (by rw [w]; rfl)
    have hd := dv9 h.1 hp9 hne
    rw [(cc.2 hne).1]
    refine ⟨fun w => dt rfl (zero (Or.inr (fun v => w (by rw [v])))), fun w => df (by decide) ?_⟩
    have hdp := (nI_eq (by omega) (by omega)).mp w
    unfold w_X4_poolAt w_X4_poolAt_E
    rw [nI_c (by omega : p ≤ 1000000000), cc.1]
    refine ⟨vin hp9 (by decide), diss_ok cB hl (fun s2 c2 hm2 => ?_)⟩
    have dd := h.1.2.2.2.1.2.1 p hp9 hne
    have od : okA (aDs (xB (aX A) p 1, A.2) (aPl A p)) := ok_ds okb hp9 hne
    have hS : aPl A p < 2 ^ (xn (aX (aDs (xB (aX A) p 1, A.2) (aPl A p)))) := dd.1
    have ho : flO (aPl A p) (aDs (xB (aX A) p 1, A.2) (aPl A p)) 0 := fun q _ hb => ⟨by show (if (aPl A p).testBit q then 0 else aPl A q) = 0; rw [if_pos hb], lfb h.1 (by rw [(dd.2.2.2.2.2 q hb).1]; exact hne)⟩
    refine failC od c2 hS ho (fun s3 c3 hm3 => ?_)
    refine mod s3 ((hm.tr hm2).tr hm3) _ (fun s4 c4 h4 w0 => absurd w0 (fun v => v.elim hne (fun u => u hdp))) (fun s4 c4 h4 _ _ => ?_)
    refine dissM okb.1 c4 hS (fun s5 c5 h5 => failM od c5 hS ho (fun s6 c6 h6 => ?_))
    exact hK _ (flS (aPl A p) (aDs (xB (aX A) p 1, A.2) (aPl A p)) 9).1 s6 ⟨(fl_ok od hS ho 9 (Nat.le_refl _)).1, c3.m ((h4.tr h5).tr h6), c6⟩
  refine setB_ok (v := 1) h.1 h.2.1 hp9 (Nat.le_refl 1) (fun e => ?_) (fun e σ1 hC hm => ?_)
  · exact cls σ A (by rw [xB_same e]) h.2.1 SmM.rf
  · exact cls σ1 _ rfl hC hm
