/-! ===== a POOL of THE PLAN is laid ===== -/
def wL (A : AA) (m L : Nat) : AA := (A.1, A.2.1, aPo A, aRf A, aMo A, aMi A, m, L, A.2.2.2.2.2.2.2.2)
abbrev RR : Type := Int × Int × List Nat × List Nat × (Nat → Int) × (Nat → Int)
def sP (A : AA) (S d : Nat) (r : RR) : AA := (A.1, A.2.1, aPo A, aRf A, aMo A, aMi A, aMb A, aLf A, fun q => if S.testBit q then S else aPl A q, fun q => if S.testBit q then d else aDv A q, fun q => if S.testBit q then r.1 else aTk A q, fun q => if S.testBit q then iI r.2.1 + iI (r.2.2.2.2.1 q) else aPa A q, fun q => if S.testBit q then iI r.2.1 + iI (r.2.2.2.2.2 q) else aBa A q)
noncomputable def aPut (A : AA) (S d : Nat) : AA := match bestS (aX A).1 (rmD S 0 9) d with
  | none => A
  | some r => sP A S d r
theorem aPut_s {A : AA} {S d : Nat} {r : RR} (h : bestS (aX A).1 (rmD S 0 9) d = some r) : aPut A S d = sP A S d r := by
  unfold aPut
  rw [h]
theorem aPut_wL {A : AA} {S d m L : Nat} : aPut (wL A m L) S d = wL (aPut A S d) m L := by
  unfold aPut
  show (match bestS (aX A).1 (rmD S 0 9) d with
    | none => wL A m L
    | some r => sP (wL A m L) S d r) = _
  cases bestS (aX A).1 (rmD S 0 9) d <;> rfl
theorem okP_put {n Lf S d : Nat} {pl dv : Nat → Nat} {tk : Nat → Int} {t : Int} (h : okP n Lf pl dv tk) (hS : S < 2 ^ n) (hn : n ≤ 9) (h4 : popc S ≤ 4) (hd : S.testBit d = true) (ht : 0 ≤ t ∧ t ≤ 1440) (hi : ∀ q, S.testBit q = true → pl q = 0 ∨ dif (pl q) S = 0) (hL : ∀ q, S.testBit q = true → Lf.testBit q = false) : okP n Lf (fun q => if S.testBit q then S else pl q) (fun q => if S.testBit q then d else dv q) (fun q => if S.testBit q then t else tk q) := by
  obtain ⟨h1, h2, h3⟩ := h
  refine ⟨h1, fun p hp h0 => ?_, fun p hb => ?_⟩
  · dsimp only at h0 ⊢
    by_cases e : S.testBit p = true
    · rw [if_pos e, if_pos e, if_pos e]
      refine ⟨hS, h4, e, hd, ht, fun q hq => ?_⟩
      rw [if_pos hq, if_pos hq, if_pos hq]
      exact ⟨rfl, rfl, rfl⟩
    · rw [if_neg e] at h0
      rw [if_neg e, if_neg e, if_neg e]
      obtain ⟨d1, d2, d3, d4, d5, d6⟩ := h2 p hp h0
      refine ⟨d1, d2, d3, d4, d5, fun q hq => ?_⟩
      have hq6 := d6 q hq
      have e2 : ¬ S.testBit q = true := fun z => by
        rcases hi q z with y | y
        · rw [hq6.1] at y
          exact h0 y
        · rw [hq6.1] at y
          exact e (dif_0.mp y p d3)
      rw [if_neg e2, if_neg e2, if_neg e2]
      exact hq6
  · have g := h3 p hb
    refine ⟨g.1, ?_⟩
    dsimp only
    have e : ¬ S.testBit p = true := fun z => by
      rw [hL p z] at hb
      cases hb
    rw [if_neg e]
    exact g.2
theorem ok_put {A : AA} (ok : okA A) {S d : Nat} (hS : okS (aX A) S) (hd : S.testBit d = true) (hi : ∀ q, S.testBit q = true → aPl A q = 0 ∨ dif (aPl A q) S = 0) (hL : ∀ q, S.testBit q = true → (aLf A).testBit q = false) : okA (aPut A S d) := by
  have hd9 := bits_lt (n := 9) (okS_9 ok.1 hS.1) hd
  cases hb : bestS (aX A).1 (rmD S 0 9) d with
  | none =>
    have e : aPut A S d = A := by
      unfold aPut
      rw [hb]
    rw [e]
    exact ok
  | some r =>
    rw [aPut_s hb]
    have hr := okb_best ok.1.1 (M := rmD S 0 9) (fun p hp => (rmD_mem.mp hp).1) hd9 r hb
    exact ⟨ok.1, ok.2.1, ok.2.2.1, okP_put ok.2.2.2.1 hS.1 ok.1.2.1 hS.2.2 hd hr hi hL, ok.2.2.2.2⟩
theorem gD_lt {l : List Nat} {j : Nat} (h : j < l.length) : l.getD j 0 = l[j] := by
  rw [List.getD_eq_getElem?_getD, List.getElem?_eq_getElem h]
  rfl
theorem put_ok {A : AA} {σ : MS} (c : CS A σ) {S d : Nat} (h4 : popc S ≤ 4) {r : RR} (hB : CB (rmD S 0 9) σ (some r)) {Q : MS → Prop} (hQ : ∀ σ', CS (sP A S d r) σ' → (∀ k j, ¬ (32 ≤ k ∧ k ≤ 36) → σ' k j = σ k j) → Q σ') : w_X4_put (nI S) (nI d) σ Q := by
  obtain ⟨ht, h86, hr⟩ := hB
  obtain ⟨g1, g2, g3, g4, g5⟩ := hr r rfl
  have hl : (rmD S 0 9).length = popc S := rfl
  rw [hl] at g3 g4 g5
  have m9 : ∀ j, j < popc S → (rmD S 0 9).getD j 0 ∈ rmD S 0 9 := fun j hj => by
    rw [gD_lt (l := rmD S 0 9) hj]
    exact List.getElem_mem hj
  unfold w_X4_put w_X4_put_E
  have loop : ∀ (k i n : Nat) (s : MS), i + k = popc S → k < n → (∀ k j, ¬ (32 ≤ k ∧ k ≤ 36) → s k j = σ k j) → (∀ p, p < 9 → ((∃ j, j < i ∧ (rmD S 0 9).getD j 0 = p) → s 32 p = nI S ∧ s 33 p = nI d ∧ s 34 p = iI r.1 ∧ s 35 p = iI r.2.1 + iI (r.2.2.2.2.1 p) ∧ s 36 p = iI r.2.1 + iI (r.2.2.2.2.2 p)) ∧ ((¬ ∃ j, j < i ∧ (rmD S 0 9).getD j 0 = p) → s 32 p = σ 32 p ∧ s 33 p = σ 33 p ∧ s 34 p = σ 34 p ∧ s 35 p = σ 35 p ∧ s 36 p = σ 36 p)) → w_X4_put_H3 Q n (nI S) (nI d) (nI i) s := by
    intro k
    induction k with
    | zero =>
      intro i n s hi hn hF hP
      obtain ⟨n, rfl⟩ : ∃ z, n = z + 1 := ⟨n - 1, by omega⟩
      have e : i = popc S := by omega
      subst e
      unfold w_X4_put_H3
      rw [hF 8 0 (by omega), g3]
      refine ⟨fun _ => hQ s ?_ hF, fun z => absurd (nI_le (Nat.le_refl _) (by omega)) z⟩
      obtain ⟨c1, c2, c3, c4, c5, c6, c7, c8, c9, c10⟩ := c
      refine ⟨?_, c2.fr (fun p _ => hF _ _ (by omega)), fun T hT => by rw [hF 28 T (by omega), hF 29 T (by omega)]; exact c3 T hT, fun p hp => by rw [hF _ _ (by omega)]; exact c4 p hp, fun k hk => by rw [hF _ _ (by omega)]; exact c5 k hk, by rw [hF _ _ (by omega)]; exact c6, fun a b ha hb => by rw [hF _ _ (by omega)]; exact c7 a b ha hb, by rw [hF _ _ (by omega)]; exact c8, by rw [hF _ _ (by omega)]; exact c9, fun p hp => ?_⟩
      · obtain ⟨d1, d2, d3⟩ := c1
        refine ⟨by rw [hF 4 1 (by omega)]; exact d1, fun q hq => ?_, fun a b ha hb => by rw [hF (56 + a) b (by omega)]; exact d3 a b ha hb⟩
        rw [hF (37 + q) 0 (by omega), hF (37 + q) 1 (by omega), hF (37 + q) 2 (by omega), hF (37 + q) 3 (by omega), hF (37 + q) 4 (by omega), hF (37 + q) 5 (by omega), hF (37 + q) 6 (by omega), hF (37 + q) 8 (by omega), hF (37 + q) 9 (by omega)]
        exact d2 q hq
      · show s 32 p = nI (if S.testBit p then S else aPl A p) ∧ ((if S.testBit p then S else aPl A p) ≠ 0 → s 33 p = nI (if S.testBit p then d else aDv A p) ∧ s 34 p = iI (if S.testBit p then r.1 else aTk A p) ∧ s 35 p = (if S.testBit p then iI r.2.1 + iI (r.2.2.2.2.1 p) else aPa A p) ∧ s 36 p = (if S.testBit p then iI r.2.1 + iI (r.2.2.2.2.2 p) else aBa A p))
        by_cases e : S.testBit p = true
        · rw [if_pos e, if_pos e, if_pos e, if_pos e, if_pos e]
          have hm : p ∈ rmD S 0 9 := rmD_mem.mpr ⟨hp, e⟩
          obtain ⟨j, hj, ej⟩ := List.mem_iff_getElem.mp hm
          have hx := (hP p hp).1 ⟨j, hj, by rw [gD_lt (l := rmD S 0 9) hj]; exact ej⟩
          exact ⟨hx.1, fun _ => hx.2⟩
        · rw [if_neg e, if_neg e, if_neg e, if_neg e, if_neg e]
          have hx := (hP p hp).2 (by
            rintro ⟨j, hj, ej⟩
            have := m9 j hj
            rw [ej] at this
            exact e (rmD_mem.mp this).2)
          rw [hx.1, hx.2.1, hx.2.2.1, hx.2.2.2.1, hx.2.2.2.2]
          exact c10 p hp
    | succ k ih =>
      intro i n s hi hn hF hP
      obtain ⟨n, rfl⟩ : ∃ z, n = z + 1 := ⟨n - 1, by omega⟩
      unfold w_X4_put_H3
      have g5i := g5 i (by omega)
      have mi := (rmD_mem.mp (m9 i (by omega))).1
      rw [hF 8 0 (by omega), g3, nI_c (by omega : i ≤ 1000000000), hF 18 i (by omega), g5i.1, nI_1]
      refine ⟨fun z => absurd z (nI_ge (by omega) (by omega)), fun _ => ⟨vin (by omega) (by decide), fun x ex => ?_⟩⟩
      rw [ex, nI_c (by omega : (rmD S 0 9).getD i 0 ≤ 1000000000)]
      refine ⟨vin mi (by decide), fun s1 e1 s2 e2 s3 e3 s4 e4 s5 e5 => ?_⟩
      have r1 : ∀ k j, ¬ (32 ≤ k ∧ k ≤ 36) → s2 k j = σ k j := fun k j hk => by
        rw [e2, e1]
        unfold mst
        rw [if_neg (by omega), if_neg (by omega)]
        exact hF k j hk
      have v3 : s2 8 6 = iI r.1 := by rw [r1 8 6 (by omega)]; exact h86
      rw [v3] at e3
      have r3 : ∀ k j, ¬ (32 ≤ k ∧ k ≤ 36) → s3 k j = σ k j := fun k j hk => by
        rw [e3]
        unfold mst
        rw [if_neg (by omega)]
        exact r1 k j hk
      rw [r3 8 7 (by omega), r3 21 i (by omega), g2, g5i.2.1] at e4
      have r4 : ∀ k j, ¬ (32 ≤ k ∧ k ≤ 36) → s4 k j = σ k j := fun k j hk => by
        rw [e4]
        unfold mst
        rw [if_neg (by omega)]
        exact r3 k j hk
      rw [r4 8 7 (by omega), r4 22 i (by omega), g2, g5i.2.2] at e5
      refine ih (i + 1) n s5 (by omega) (by omega) (fun k j hk => ?_) (fun p hp => ?_)
      · rw [e5]
        unfold mst
        rw [if_neg (by omega)]
        exact r4 k j hk
      · by_cases z : p = (rmD S 0 9).getD i 0
        · refine ⟨fun _ => ?_, fun y => absurd ⟨i, by omega, z.symm⟩ y⟩
          rw [e5, e4, e3, e2, e1, z]
          simp [mst]
        · have k5 : ∀ k, s5 k p = s k p := fun k => by
            rw [e5, e4, e3, e2, e1]
            unfold mst
            rw [if_neg (fun y => z y.2), if_neg (fun y => z y.2), if_neg (fun y => z y.2), if_neg (fun y => z y.2), if_neg (fun y => z y.2)]
          rw [k5 32, k5 33, k5 34, k5 35, k5 36]
          have hx := hP p hp
          refine ⟨fun ⟨j, hj, ej⟩ => hx.1 ⟨j, ?_, ej⟩, fun y => hx.2 (fun ⟨j, hj, ej⟩ => y ⟨j, by omega, ej⟩)⟩
          rcases (by omega : j < i ∨ j = i) with q | q
          · exact q
          · subst q
            exact absurd ej.symm z
  exact ⟨popc S + 1, loop (popc S) 0 (popc S + 1) σ (by omega) (by omega) (fun _ _ _ => rfl) (fun p hp => ⟨fun ⟨j, hj, _⟩ => absurd hj (by omega), fun _ => ⟨rfl, rfl, rfl, rfl, rfl⟩⟩)⟩
def FrU (σ σ' : MS) : Prop := ∀ k j, ¬ (k = 7 ∨ k = 8 ∨ (13 ≤ k ∧ k ≤ 27) ∨ (32 ≤ k ∧ k ≤ 36)) → σ' k j = σ k j
theorem FrU.m {σ σ' : MS} (h : FrU σ σ') : SmM σ σ' := fun k j hk => h k j (by omega)
theorem FrU.tr {a b c : MS} (h : FrU a b) (g : FrU b c) : FrU a c := fun k j hk => (g k j hk).trans (h k j hk)
theorem FrC.u {σ σ' : MS} (h : FrC σ σ') : FrU σ σ' := fun k j hk => h k j (by omega)
theorem putC {A : AA} {σ : MS} (ok : okA A) (c : CS A σ) {S d : Nat} (hS : okS (aX A) S) (hd : S.testBit d = true) {Q : Int32 → MS → Prop} (h0 : whyS (aX A) S d ≠ 0 → ∀ σ', CS A σ' → FrU σ σ' → Q 0 σ') (h1 : whyS (aX A) S d = 0 → ∀ σ', CS (aPut A S d) σ' → FrU σ σ' → Q 1 σ') : w_X8_putIntoPlan (nI S) (nI d) σ Q := by
  have hd9 := bits_lt (n := 9) (okS_9 ok.1 hS.1) hd
  unfold w_X8_putIntoPlan w_X8_putIntoPlan_E
  refine reason_ok ok.1 c.1 hS hd (fun σ1 hF hB => ⟨fun z => ?_, fun z => h0 (w1 z) σ1 (c.frC hF) hF.u⟩)
  have hw := w0 z
  obtain ⟨-, r, hr, -⟩ := tb_ok ok.1 hd9 hw
  have hB := hB hw
  rw [hr] at hB
  unfold w_X7_found w_X7_found_E
  refine ⟨rfl, put_ok (c.frC hF) hS.2.2 hB (fun σ2 g1 g2 => h1 hw σ2 ?_ (hF.u.tr (fun k j hk => g2 k j (by omega))))⟩
  rw [aPut_s hr]
  exact g1
def FrY (σ σ' : MS) : Prop := ∀ k j, ¬ ((81 ≤ k ∧ k ≤ 88) ∨ (k = 66 ∧ (j = 24 ∨ j = 25 ∨ j = 26)) ∨ (97 ≤ k ∧ k ≤ 101)) → σ' k j = σ k j
theorem FrY.c {σ σ' : MS} (h : FrY σ σ') : SmC σ σ' := fun k j hk => h k j (by omega)
theorem FrY.tr {a b c : MS} (h : FrY a b) (g : FrY b c) : FrY a c := fun k j hk => (g k j hk).trans (h k j hk)
theorem layM {A : AA} {σ : MS} (ok : okX (aX A)) (c : ZS A σ) {S d : Nat} (hS : okS (aX A) S) (hd : S.testBit d = true) (hw : whyS (aX A) S d = 0) {Q : MS → Prop} (hQ : ∀ σ', ZS (aPut A S d) σ' → FrY σ σ' → Q σ') : w_X9_lays (nI S) (nI d) σ Q := by
  have hS9 := okS_9 ok hS.1
  have hn9 := ok.2.1
  have hd9 := bits_lt (n := 9) hS9 hd
  obtain ⟨-, r, hr, -⟩ := tb_ok ok hd9 hw
  unfold w_X9_lays w_X9_lays_E
  refine whyNot_ok ok c.1 hS hd (fun σ0 hF0 hB0 => ?_)
  have hB := (hB0 hw).1
  rw [hr] at hB
  obtain ⟨ht, h25, hr2⟩ := hB
  obtain ⟨g1, g2, g4, g5⟩ := hr2 r rfl
  have h25 : σ0 66 25 = iI r.1 := h25
  have c0 := c.frM hF0
  have loop : ∀ (k i n : Nat) (s : MS), i + k = xn (aX A) → k < n → (∀ k j, ¬ (97 ≤ k ∧ k ≤ 101) → s k j = σ0 k j) → (∀ p, p < 9 → ((p < i ∧ S.testBit p = true) → s 97 p = nI S ∧ s 98 p = nI d ∧ s 101 p = iI r.1 ∧ s 99 p = iI r.2.1 + iI (r.2.2.2.2.1 p) ∧ s 100 p = iI r.2.1 + iI (r.2.2.2.2.2 p)) ∧ (¬ (p < i ∧ S.testBit p = true) → s 97 p = σ0 97 p ∧ s 98 p = σ0 98 p ∧ s 101 p = σ0 101 p ∧ s 99 p = σ0 99 p ∧ s 100 p = σ0 100 p)) → w_X9_lays_H10 Q n (nI S) (nI d) (nI i) s := by
    intro k
    induction k with
    | zero =>
      intro i n s hi hn hF hP
      obtain ⟨n, rfl⟩ : ∃ z, n = z + 1 := ⟨n - 1, by omega⟩
      have e : i = xn (aX A) := by omega
      subst e
      unfold w_X9_lays_H10
      rw [hF 66 3 (by omega), c0.1.1.2.1]
      refine ⟨fun _ => hQ s ?_ (fun k j hk => (hF k j (by omega)).trans (hF0 k j (by omega))), fun z => absurd (nI_le (Nat.le_refl _) (by omega)) z⟩
      rw [aPut_s hr]
      obtain ⟨c1, c2, c3, c4, c5, c6, c7, c8, c9, c10⟩ := c0
      refine ⟨c1.fr (fun k j hk => hF k j (by omega)), c2.fr (fun p _ => hF _ _ (by omega)), ?_, fun p hp => by rw [hF _ _ (by omega)]; exact c4 p hp, fun k hk => by rw [hF _ _ (by omega)]; exact c5 k hk, by rw [hF _ _ (by omega)]; exact c6, fun a b ha hb => by rw [hF _ _ (by omega)]; exact c7 a b ha hb, by rw [hF _ _ (by omega)]; exact c8, by rw [hF _ _ (by omega)]; exact c9, fun p hp => ?_⟩
      · rcases c3 with q | ⟨q1, q2⟩
        · exact Or.inl (by rw [hF 66 27 (by omega)]; exact q)
        · refine Or.inr ⟨by rw [hF 66 27 (by omega)]; exact q1, fun T a1 a2 => ?_⟩
          have := q2 T a1 a2
          unfold mrow at this ⊢
          rw [hF 89 T (by omega), hF 90 T (by omega), hF 91 T (by omega)]
          exact this
      · show s 97 p = nI (if S.testBit p then S else aPl A p) ∧ ((if S.testBit p then S else aPl A p) ≠ 0 → s 98 p = nI (if S.testBit p then d else aDv A p) ∧ s 101 p = iI (if S.testBit p then r.1 else aTk A p) ∧ s 99 p = (if S.testBit p then iI r.2.1 + iI (r.2.2.2.2.1 p) else aPa A p) ∧ s 100 p = (if S.testBit p then iI r.2.1 + iI (r.2.2.2.2.2 p) else aBa A p))
        by_cases e : S.testBit p = true
        · rw [if_pos e, if_pos e, if_pos e, if_pos e, if_pos e]
          have hx := (hP p hp).1 ⟨bits_lt hS.1 e, e⟩
          exact ⟨hx.1, fun _ => hx.2⟩
        · rw [if_neg e, if_neg e, if_neg e, if_neg e, if_neg e]
          have hx := (hP p hp).2 (fun y => e y.2)
          rw [hx.1, hx.2.1, hx.2.2.1, hx.2.2.2.1, hx.2.2.2.2]
          exact c10 p hp
    | succ k ih =>
      intro i n s hi hn hF hP
      obtain ⟨n, rfl⟩ : ∃ z, n = z + 1 := ⟨n - 1, by omega⟩
      unfold w_X9_lays_H10
      rw [hF 66 3 (by omega), c0.1.1.2.1, nI_c (by omega : i ≤ 1000000000), nI_1]
      refine ⟨fun z => absurd z (nI_ge (by omega) (by omega)), fun _ => ⟨fun z => ⟨vin (by omega) (by decide), fun s1 e1 s2 e2 s3 e3 s4 e4 s5 e5 => ?_⟩, fun z => ?_⟩⟩
      · have hb : S.testBit i = true := by
          cases q : S.testBit i
          · exact absurd ((nI_bit0 (by omega) (by omega)).mpr q) z
          · rfl
        have hm : i ∈ rmD S 0 9 := rmD_mem.mpr ⟨by omega, hb⟩
        have g5i := g5 i hm
        have r2 : ∀ k j, ¬ (97 ≤ k ∧ k ≤ 101) → s2 k j = σ0 k j := fun k j hk => by
          rw [e2, e1]
          unfold mst
          rw [if_neg (by omega), if_neg (by omega)]
          exact hF k j hk
        rw [r2 66 26 (by omega), r2 87 i (by omega), g2, g5i.1] at e3
        have r3 : ∀ k j, ¬ (97 ≤ k ∧ k ≤ 101) → s3 k j = σ0 k j := fun k j hk => by
          rw [e3]
          unfold mst
          rw [if_neg (by omega)]
          exact r2 k j hk
        rw [r3 66 26 (by omega), r3 88 i (by omega), g2, g5i.2] at e4
        have r4 : ∀ k j, ¬ (97 ≤ k ∧ k ≤ 101) → s4 k j = σ0 k j := fun k j hk => by
          rw [e4]
          unfold mst
          rw [if_neg (by omega)]
          exact r3 k j hk
        rw [r4 66 25 (by omega), h25] at e5
        refine ih (i + 1) n s5 (by omega) (by omega) (fun k j hk => ?_) (fun p hp => ?_)
        · rw [e5]
          unfold mst
          rw [if_neg (by omega)]
          exact r4 k j hk
        · by_cases y : p = i
          · subst y
            refine ⟨fun _ => ?_, fun q => absurd ⟨by omega, hb⟩ q⟩
            rw [e5, e4, e3, e2, e1]
            simp [mst]
          · have k5 : ∀ k, s5 k p = s k p := fun k => by
              rw [e5, e4, e3, e2, e1]
              unfold mst
              rw [if_neg (fun q => y q.2), if_neg (fun q => y q.2), if_neg (fun q => y q.2), if_neg (fun q => y q.2), if_neg (fun q => y q.2)]
            rw [k5 97, k5 98, k5 101, k5 99, k5 100]
            have hx := hP p hp
            exact ⟨fun q => hx.1 ⟨by omega, q.2⟩, fun q => hx.2 (fun q2 => q ⟨by omega, q2.2⟩)⟩
      · have hb := (nI_bit0 (by omega) (by omega)).mp z
        refine ih (i + 1) n s (by omega) (by omega) hF (fun p hp => ?_)
        have hx := hP p hp
        refine ⟨fun q => hx.1 ⟨?_, q.2⟩, fun q => hx.2 (fun q2 => q ⟨by omega, q2.2⟩)⟩
        rcases (by omega : p < i ∨ p = i) with y | y
        · exact y
        · subst y
          rw [hb] at q
          cases q.2
  exact ⟨xn (aX A) + 1, loop (xn (aX A)) 0 (xn (aX A) + 1) σ0 (by omega) (by omega) (fun _ _ _ => rfl) (fun p hp => ⟨fun y => absurd y.1 (by omega), fun _ => ⟨rfl, rfl, rfl, rfl, rfl⟩⟩)⟩
