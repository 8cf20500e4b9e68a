/-! ===== THE PLAN as it is made: step by step ===== -/
def lx (S : Nat) : Nat := (rmD S 0 9).headD 0
set_option maxRecDepth 100000 in
theorem lx_all : (List.range 512).all (fun S => decide (S = 0 ∨ (lb S = 2 ^ (lx S) ∧ lx S < 9 ∧ S.testBit (lx S) = true ∧ (List.range (lx S)).all (fun j => !S.testBit j) = true ∧ dif S (lb S) = S &&& (S - 1)))) = true := by decide +kernel
theorem lx1 {S : Nat} (h0 : 0 < S) (h : S < 512) : lb S = 2 ^ (lx S) ∧ lx S < 9 ∧ S.testBit (lx S) = true ∧ (∀ j, j < lx S → S.testBit j = false) ∧ dif S (lb S) = S &&& (S - 1) := by
  rcases of_decide_eq_true (all_lt lx_all S h) with g | g
  · omega
  · refine ⟨g.1, g.2.1, g.2.2.1, fun j hj => ?_, g.2.2.2.2⟩
    have := all_lt g.2.2.2.1 j hj
    simpa using this
theorem lx_eq {S p : Nat} (h : S < 512) (hb : S.testBit p = true) (hlow : ∀ j, j < p → S.testBit j = false) : lx S = p := by
  have h0 : 0 < S := by
    rcases Nat.eq_zero_or_pos S with e | e
    · subst e
      rw [Nat.zero_testBit] at hb
      cases hb
    · exact e
  have g := lx1 h0 h
  rcases Nat.lt_trichotomy (lx S) p with q | q | q
  · have := hlow _ q
    rw [g.2.2.1] at this
    cases this
  · exact q
  · have := g.2.2.2.1 p q
    rw [hb] at this
    cases this
theorem popc_or : (List.range 512).all (fun S => (List.range 9).all (fun p => decide (S.testBit p = true ∨ popc (S ||| 2 ^ p) = popc S + 1))) = true := by decide +kernel
theorem popc_or1 {S p : Nat} (h : S < 512) (hp : p < 9) (hb : S.testBit p = false) : popc (S ||| 2 ^ p) = popc S + 1 := by
  rcases of_decide_eq_true (all_lt (all_lt popc_or S h) p hp) with g | g
  · rw [hb] at g
    cases g
  · exact g
theorem PL_lb {S q i : Nat} (hq : q ∈ PL S) (hi : (lb S).testBit i = true) : q.testBit i = true := by
  unfold PL at hq
  obtain ⟨o, -, e⟩ := List.mem_map.mp hq
  rw [← e, Nat.testBit_or, hi]
  rfl
theorem WS_val {X : XX} {k S : Nat} (h0 : 0 < S) (h : S < 512) : ((WS X k S).2 = 0 ∧ (WS X k S).1 = (WS X k (dif S (lb S))).1 + 1000000) ∨ ∃ c, (WS X k S).2 ∈ PL S ∧ cst X (WS X k S).2 = some c ∧ (WS X k S).1 = (WS X k (dif S (WS X k S).2)).1 + c * k + 1 := by
  rw [WS_eq h0 h]
  unfold went
  have key : ∀ (l : List Nat) (b : Nat × Nat), (∀ q ∈ l, q ∈ PL S) → ((b.2 = 0 ∧ b.1 = (WS X k (dif S (lb S))).1 + 1000000) ∨ ∃ c, b.2 ∈ PL S ∧ cst X b.2 = some c ∧ b.1 = (WS X k (dif S b.2)).1 + c * k + 1) → ((l.foldl (wstep X k (WS X k) S) b).2 = 0 ∧ (l.foldl (wstep X k (WS X k) S) b).1 = (WS X k (dif S (lb S))).1 + 1000000) ∨ ∃ c, (l.foldl (wstep X k (WS X k) S) b).2 ∈ PL S ∧ cst X (l.foldl (wstep X k (WS X k) S) b).2 = some c ∧ (l.foldl (wstep X k (WS X k) S) b).1 = (WS X k (dif S (l.foldl (wstep X k (WS X k) S) b).2)).1 + c * k + 1 := by
    intro l
    induction l with
    | nil => intro b _ hb; exact hb
    | cons a l ih =>
      intro b hl hb
      rw [List.foldl_cons]
      refine ih _ (fun q hq => hl q (List.mem_cons_of_mem _ hq)) ?_
      unfold wstep
      cases hc : cst X a with
      | none => exact hb
      | some c =>
        dsimp only
        by_cases hlt : (WS X k (dif S a)).1 + c * k + 1 < b.1
        · rw [if_pos hlt]
          exact Or.inr ⟨c, hl a List.mem_cons_self, hc, rfl⟩
        · rw [if_neg hlt]
          exact hb
  exact key _ _ (fun q hq => hq) (Or.inl ⟨rfl, rfl⟩)
noncomputable def drvS (X : XX) (q : Nat) : Nat := match costS X q with
  | none => 0
  | some r => r.2
def aLv (A : AA) (p : Nat) : AA := (A.1, A.2.1, aPo A, aRf A, aMo A, aMi A, aMb A, aLf A ||| 2 ^ p, va_up (aPl A) p 0, A.2.2.2.2.2.2.2.2.2)
noncomputable def runP : Nat → Nat → AA → AA
  | 0, _, A => A
  | n + 1, S, A => if S = 0 then A else if (WS (aX A) 10 S).2 = 0 then runP n (dif S (lb S)) (aLv A (lx S)) else runP n (dif S (WS (aX A) 10 S).2) (aPut A (WS (aX A) 10 S).2 (drvS (aX A) (WS (aX A) 10 S).2))
/-- what is open is in no POOL and not LEFT -/
def opn (A : AA) (S : Nat) : Prop := S < 2 ^ (xn (aX A)) ∧ ∀ q, S.testBit q = true → aPl A q = 0 ∧ (aLf A).testBit q = false
theorem cst_s {X : XX} (hX : okX X) {q c : Nat} (hq0 : 0 < q) (hq : q < 2 ^ (xn X)) (h : cst X q = some c) : okS X q ∧ ∃ r, costS X q = some r ∧ r.2 = drvS X q ∧ q.testBit (drvS X q) = true ∧ whyS X q (drvS X q) = 0 ∧ drvS X q < 9 ∧ ∃ b, bestS X.1 (rmD q 0 9) (drvS X q) = some b ∧ b.1 = (c : Int) := by
  obtain ⟨h1, h2, r, hr, hc⟩ := cst_le hX h
  have hq9 := okS_9 hX hq
  have hk := costS_ok hX r hr
  have e : drvS X q = r.2 := by
    unfold drvS
    rw [hr]
  refine ⟨⟨hq, popc_pos hq9 hq0, h2⟩, r, hr, e.symm, ?_⟩
  rw [e]
  refine ⟨hk.2.1, hk.2.2.1, hk.1, ?_⟩
  obtain ⟨-, b, hb, hb2⟩ := tb_ok hX hk.1 hk.2.2.1
  exact ⟨b, hb, by rw [hb2, ← hk.2.2.2.1, hc]⟩
theorem ok_lv {A : AA} (ok : okA A) {p : Nat} (hp : p < 9) (h0 : aPl A p = 0) : okA (aLv A p) := by
  obtain ⟨o1, o2, o3, ⟨p1, p2, p3⟩, o5⟩ := ok
  have e : va_up (aPl A) p 0 = aPl A := up_same h0
  have : okP (xn (aX A)) (aLf A ||| 2 ^ p) (va_up (aPl A) p 0) (aDv A) (aTk A) := by
    rw [e]
    refine ⟨Nat.or_lt_two_pow (n := 9) p1 (pw9 hp), p2, fun q hq => ?_⟩
    rw [Nat.testBit_or, Nat.testBit_two_pow] at hq
    by_cases z : p = q
    · subst z
      exact ⟨hp, h0⟩
    · rw [decide_eq_false z, Bool.or_false] at hq
      exact p3 q hq
  exact ⟨o1, o2, o3, this, o5⟩
def cnt (A : AA) : Nat := popc (aLf A) * 1000000 + sumN (fM A) 9 * 10 + sumN (fP A) 9
theorem cnt_lv {A : AA} (ok : okA A) {p : Nat} (hp : p < 9) (h0 : aPl A p = 0) (hL : (aLf A).testBit p = false) : cnt (aLv A p) = cnt A + 1000000 := by
  have e : va_up (aPl A) p 0 = aPl A := up_same h0
  have e1 : fM (aLv A p) = fM A := by
    funext q
    show (if ldb (va_up (aPl A) p 0) q then _ else 0) = _
    rw [e]
    rfl
  have e2 : fP (aLv A p) = fP A := by
    funext q
    show (if ldb (va_up (aPl A) p 0) q then _ else 0) = _
    rw [e]
    rfl
  unfold cnt
  rw [e1, e2]
  show popc (aLf A ||| 2 ^ p) * 1000000 + _ + _ = _
  rw [popc_or1 ok.2.2.2.1.1 hp hL, Nat.add_mul]
  omega
theorem cnt_put {A : AA} (ok : okA A) {S d c : Nat} (hS : okS (aX A) S) {b : RR} (hb : bestS (aX A).1 (rmD S 0 9) d = some b) (hc : b.1 = (c : Int)) (h0 : ∀ q, S.testBit q = true → aPl A q = 0) : cnt (aPut A S d) = cnt A + c * 10 + 1 := by
  have hS9 := okS_9 ok.1 hS.1
  have hS0 : 0 < S := by
    rcases Nat.eq_zero_or_pos S with z | z
    · subst z
      have h2 := hS.2.1
      rw [popc0] at h2
      omega
    · exact z
  have g := lx1 hS0 hS9
  rw [aPut_s hb]
  have ld : ∀ q, S.testBit q = true → q ≠ lx S → ldb (fun q => if S.testBit q then S else aPl A q) q = false := fun q hq hne => by
    unfold ldb
    refine decide_eq_false (fun z => hne ?_)
    have z := z.2
    dsimp only at z
    rw [if_pos hq, g.1] at z
    exact ((Nat.pow_right_inj (by decide)).mp z).symm
  have ld1 : ldb (fun q => if S.testBit q then S else aPl A q) (lx S) = true := by
    unfold ldb
    refine decide_eq_true ?_
    dsimp only
    rw [if_pos g.2.2.1]
    exact ⟨by omega, g.1⟩
  have ld2 : ∀ q, ¬ S.testBit q = true → ldb (fun q => if S.testBit q then S else aPl A q) q = ldb (aPl A) q := fun q hq => by
    unfold ldb
    refine decide_eq_decide.mpr ?_
    dsimp only
    rw [if_neg hq]
  have s1 : sumN (fP (sP A S d b)) 9 = sumN (fP A) 9 + 1 := by
    have := sumN_up (f := fP A) (g := fP (sP A S d b)) (x := lx S) (v := 1) (fun p hp => ?_) ?_ ?_ 9
    · rw [if_pos g.2.1] at this
      exact this
    · show (if ldb (aPl A) p then 1 else 0) = (if ldb (fun q => if S.testBit q then S else aPl A q) p then 1 else 0)
      by_cases e : S.testBit p = true
      · rw [ld p e hp, ldb0 (h0 p e)]
      · rw [ld2 p e]
    · show (if ldb (aPl A) (lx S) then 1 else 0) = 0
      rw [ldb0 (h0 _ g.2.2.1)]
      rfl
    · show (if ldb (fun q => if S.testBit q then S else aPl A q) (lx S) then 1 else 0) = 1
      rw [ld1]
      rfl
  have s2 : sumN (fM (sP A S d b)) 9 = sumN (fM A) 9 + c := by
    have := sumN_up (f := fM A) (g := fM (sP A S d b)) (x := lx S) (v := c) (fun p hp => ?_) ?_ ?_ 9
    · rw [if_pos g.2.1] at this
      exact this
    · show (if ldb (aPl A) p then (aTk A p).toNat else 0) = (if ldb (fun q => if S.testBit q then S else aPl A q) p then (if S.testBit p then b.1 else aTk A p).toNat else 0)
      by_cases e : S.testBit p = true
      · rw [ld p e hp, ldb0 (h0 p e)]
        rfl
      · rw [ld2 p e, if_neg e]
    · show (if ldb (aPl A) (lx S) then (aTk A (lx S)).toNat else 0) = 0
      rw [ldb0 (h0 _ g.2.2.1)]
      rfl
    · show (if ldb (fun q => if S.testBit q then S else aPl A q) (lx S) then (if S.testBit (lx S) then b.1 else aTk A (lx S)).toNat else 0) = c
      rw [ld1, if_pos rfl, if_pos g.2.2.1, hc]
      exact Int.toNat_natCast c
  unfold cnt
  rw [s1, s2]
  show popc (aLf A) * 1000000 + _ + _ = _
  omega
/-- one step: somebody LEFT, or a POOL -/
theorem run_st {A : AA} (ok : okA A) {S : Nat} (h0 : 0 < S) (ho : opn A S) : ((WS (aX A) 10 S).2 = 0 ∧ lx S < 9 ∧ okA (aLv A (lx S)) ∧ opn (aLv A (lx S)) (dif S (lb S)) ∧ dif S (lb S) < S ∧ cnt (aLv A (lx S)) + (WS (aX A) 10 (dif S (lb S))).1 = cnt A + (WS (aX A) 10 S).1) ∨ ((WS (aX A) 10 S).2 ≠ 0 ∧ okS (aX A) (WS (aX A) 10 S).2 ∧ (WS (aX A) 10 S).2 ∈ PL S ∧ (WS (aX A) 10 S).2.testBit (drvS (aX A) (WS (aX A) 10 S).2) = true ∧ whyS (aX A) (WS (aX A) 10 S).2 (drvS (aX A) (WS (aX A) 10 S).2) = 0 ∧ okA (aPut A (WS (aX A) 10 S).2 (drvS (aX A) (WS (aX A) 10 S).2)) ∧ opn (aPut A (WS (aX A) 10 S).2 (drvS (aX A) (WS (aX A) 10 S).2)) (dif S (WS (aX A) 10 S).2) ∧ dif S (WS (aX A) 10 S).2 < S ∧ cnt (aPut A (WS (aX A) 10 S).2 (drvS (aX A) (WS (aX A) 10 S).2)) + (WS (aX A) 10 (dif S (WS (aX A) 10 S).2)).1 = cnt A + (WS (aX A) 10 S).1) := by
  have hS9 := okS_9 ok.1 ho.1
  have g := lx1 h0 hS9
  have p1 := pl1 h0 hS9
  rcases WS_val (X := aX A) (k := 10) h0 hS9 with ⟨v1, v2⟩ | ⟨c, v1, v2, v3⟩
  · left
    have hq := ho.2 _ g.2.2.1
    refine ⟨v1, g.2.1, ok_lv ok g.2.1 hq.1, ⟨dif_lt ho.1, fun q hb => ?_⟩, p1.2.2.2.1, ?_⟩
    · rw [dif_b] at hb
      simp only [Bool.and_eq_true, Bool.not_eq_true'] at hb
      have hx := ho.2 q hb.1
      have hne : q ≠ lx S := fun e => by
        have h2 := hb.2
        rw [g.1, Nat.testBit_two_pow, e] at h2
        simp at h2
      refine ⟨?_, ?_⟩
      · show va_up (aPl A) (lx S) 0 q = 0
        rw [up_n hne]
        exact hx.1
      · show (aLf A ||| 2 ^ (lx S)).testBit q = false
        rw [Nat.testBit_or, hx.2, Nat.testBit_two_pow, decide_eq_false (fun e => hne e.symm)]
        rfl
    · rw [cnt_lv ok g.2.1 hq.1 hq.2, v2]
      omega
  · right
    have p2 := pl2 h0 hS9 v1
    have hsub : ∀ q, (WS (aX A) 10 S).2.testBit q = true → S.testBit q = true := fun q hq => dif_0.mp p2.2.2.1 q hq
    have hlt : (WS (aX A) 10 S).2 < 2 ^ (xn (aX A)) := lt_bits (fun i hi => bits_lt ho.1 (hsub i hi))
    obtain ⟨k1, r, k2, k3, k4, k5, k6, b, k7, k8⟩ := cst_s ok.1 p2.1 hlt v2
    refine ⟨by omega, k1, v1, k4, k5, ok_put ok k1 k4 (fun q hq => Or.inl (ho.2 q (hsub q hq)).1) (fun q hq => (ho.2 q (hsub q hq)).2), ⟨by rw [aPut_X]; exact dif_lt ho.1, fun q hb => ?_⟩, p2.2.2.2.1, ?_⟩
    · rw [dif_b] at hb
      simp only [Bool.and_eq_true, Bool.not_eq_true'] at hb
      have hx := ho.2 q hb.1
      rw [aPut_L, aPut_s k7]
      refine ⟨?_, hx.2⟩
      show (if (WS (aX A) 10 S).2.testBit q then (WS (aX A) 10 S).2 else aPl A q) = 0
      rw [if_neg (by rw [hb.2]; decide)]
      exact hx.1
    · rw [cnt_put ok k1 k7 k8 (fun q hq => (ho.2 q (hsub q hq)).1), v3]
      omega
theorem WS00 {X : XX} {k : Nat} : (WS X k 0).1 = 0 := rfl
theorem run_ok : ∀ (m S : Nat) (A : AA), okA A → opn A S → S ≤ m → okA (runP m S A) ∧ aX (runP m S A) = aX A ∧ cnt (runP m S A) = cnt A + (WS (aX A) 10 S).1
  | 0, S, A, ok, ho, hm => by
    have e : S = 0 := by omega
    subst e
    exact ⟨ok, rfl, by rw [WS00]; exact (Nat.add_zero _).symm⟩
  | m + 1, S, A, ok, ho, hm => by
    rcases Nat.eq_zero_or_pos S with e | h0
    · subst e
      have : runP (m + 1) 0 A = A := if_pos rfl
      rw [this]
      exact ⟨ok, rfl, by rw [WS00]; exact (Nat.add_zero _).symm⟩
    · have hne : S ≠ 0 := by omega
      rcases run_st ok h0 ho with ⟨v1, v2, v3, v4, v5, v6⟩ | ⟨v1, -, -, -, -, v3, v4, v5, v6⟩
      · have e : runP (m + 1) S A = runP m (dif S (lb S)) (aLv A (lx S)) := by
          show (if S = 0 then _ else if (WS (aX A) 10 S).2 = 0 then _ else _) = _
          rw [if_neg hne, if_pos v1]
        have ih := run_ok m (dif S (lb S)) (aLv A (lx S)) v3 v4 (by omega)
        rw [e]
        refine ⟨ih.1, ih.2.1, ?_⟩
        rw [ih.2.2]
        exact v6
      · have e : runP (m + 1) S A = runP m (dif S (WS (aX A) 10 S).2) (aPut A (WS (aX A) 10 S).2 (drvS (aX A) (WS (aX A) 10 S).2)) := by
          show (if S = 0 then _ else if (WS (aX A) 10 S).2 = 0 then _ else _) = _
          rw [if_neg hne, if_neg v1]
        have ih := run_ok m _ _ v3 v4 (by omega)
        rw [e]
        refine ⟨ih.1, ih.2.1.trans aPut_X, ?_⟩
        rw [ih.2.2, aPut_X]
        exact v6
