/-! ===== the reference: whyNot ===== -/
def FrM (σ σ' : MS) : Prop := ∀ k j, ¬ ((81 ≤ k ∧ k ≤ 88) ∨ (k = 66 ∧ (j = 24 ∨ j = 25 ∨ j = 26))) → σ' k j = σ k j
theorem MX.fr {X : XX} {σ σ' : MS} (h : ∀ k j, (69 ≤ k ∧ k ≤ 80) ∨ (k = 66 ∧ j = 3) → σ' k j = σ k j) (c : MX X σ) : MX X σ' := by
  refine ⟨c.1.fr (fun k j hk => h k j (by omega)), fun p hp => ?_⟩
  rw [h 70 p (by omega), h 76 p (by omega), h 80 p (by omega), h 77 p (by omega)]
  exact c.2 p hp
def orL (X : XX) (l : List Nat) (o : Nat) : Nat := l.foldl (fun o p => o ||| xr X p) o
theorem orL_and {X : XX} {S : Nat} : ∀ (l : List Nat) (o : Nat), (orL X l o &&& S = 0) ↔ (o &&& S = 0 ∧ l.any (fun p => (xr X p &&& S) != 0) = false)
  | [], o => by simp [orL]
  | a :: l, o => by
    have ih := orL_and (X := X) (S := S) l (o ||| xr X a)
    unfold orL at ih ⊢
    rw [List.foldl_cons, ih, Nat.and_or_distrib_right, Nat.or_eq_zero_iff, List.any_cons, Bool.or_eq_false_iff]
    simp only [bne_eq_false_iff_eq]
    constructor
    · rintro ⟨⟨h1, h2⟩, h3⟩
      exact ⟨h1, h2, h3⟩
    · rintro ⟨h1, h2, h3⟩
      exact ⟨⟨h1, h2⟩, h3⟩
theorem orL_lt {X : XX} (hX : okX X) : ∀ (l : List Nat) (o : Nat), (∀ p ∈ l, p < 9) → o < 512 → orL X l o < 512
  | [], o, _, h => h
  | a :: l, o, hl, h => by
    have ih := orL_lt hX l (o ||| xr X a) (fun p hp => hl p (List.mem_cons_of_mem _ hp)) (Nat.or_lt_two_pow (n := 9) h (hX.2.2 a (hl a List.mem_cons_self)).2.2.2)
    unfold orL at ih ⊢
    rw [List.foldl_cons]
    exact ih
theorem whyNot_ok {X : XX} (hX : okX X) {σ : MS} (hC : MX X σ) {S d : Nat} (hS : okS X S) (hd : S.testBit d = true) {Q : Int32 → MS → Prop} (hQ : ∀ σ', FrM σ σ' → (whyS X S d = 0 → MB (rmD S 0 9) σ' (bestS X.1 (rmD S 0 9) d) ∧ σ' 66 24 = nI (popc S)) → Q (nI (whyS X S d)) σ') : w_X9_whyNot (nI S) (nI d) σ Q := by
  have hS9 := okS_9 hX hS.1
  have hdn : d < xn X := bits_lt hS.1 hd
  have hn := hX.2.1
  have hd9 : d < 9 := by omega
  have hM := okS_M hX hS
  have h4 := hS.2.2
  have hxd := hX.2.2 d hd9
  have hpos := hS.2.1
  unfold w_X9_whyNot w_X9_whyNot_E
  intro σ3 e3
  have hF3 : FrM σ σ3 := fun k j hk => by
    subst e3
    simp only [mst]
    rw [if_neg (by omega)]
  have hC3 : MX X σ3 := hC.fr (fun k j hk => hF3 k j (by omega))
  rw [nI_c (by omega : d ≤ 1000000000), (hC3.2 d hd9).2.1, (hC3.2 d hd9).2.2.1]
  have bad1 : (xs X d = 0 ∨ xb X d ≠ 0) → Q 1 σ3 := fun hcar => by
    have e : whyS X S d = 1 := if_pos hcar
    have := hQ σ3 hF3 (fun h => by rw [e] at h; cases h)
    rw [e] at this
    exact this
  refine ⟨vin hd9 (by omega), fun h => bad1 (Or.inl ((nI_eq (b := 0) (by omega) (by omega)).mp h)), fun h => ⟨fun h2 => ?_, fun h2 => bad1 (Or.inr (fun e => h2 (by rw [e]; rfl)))⟩⟩
  have hcar : ¬ (xs X d = 0 ∨ xb X d ≠ 0) := by
    rintro (g | g)
    · exact h (by rw [g]; rfl)
    · exact g ((nI_eq (b := 0) (by omega) (by omega)).mp h2)
  have htot := needS_le hX (rmD S 0 9) (fun p hp => (rmD_mem.mp hp).1)
  have hlen : (rmD S 0 9).length = popc S := rfl
  have loop : ∀ (k n i s o : Nat), i + k = xn X → k < n → s + needS X (rmD S i k) = needS X (rmD S 0 9) → o < 512 → orL X (rmD S i k) o = orL X (rmD S 0 9) 0 → w_X9_whyNot_H34 Q n (nI S) (nI d) (nI s) (nI o) (nI i) σ3 := by
    intro k
    induction k with
    | succ k ih =>
      intro n i s o hi hn2 hs ho hor
      obtain ⟨n, rfl⟩ : ∃ z, n = z + 1 := ⟨n - 1, by omega⟩
      unfold w_X9_whyNot_H34
      rw [hC3.1.2.1]
      refine ⟨fun h => absurd h (nI_ge (by omega) (by omega)), fun _ => ⟨fun h => ?_, fun h => ?_⟩⟩
      · have hb := nb0 (by omega) (by omega) h
        rw [nI_c (by omega : i ≤ 1000000000), (hC3.2 i (by omega)).1, (hC3.2 i (by omega)).2.2.2]
        refine ⟨vin (by omega) (by omega), fun x3 ex3 x4 ex4 => ?_⟩
        have hki := hX.2.2 i (by omega)
        rw [show (1 : Int32) = nI 1 from rfl, nI_add, nI_add] at ex3
        rw [nI_or] at ex4
        rw [ex3, ex4, nI_1]
        rw [rmD_t hb] at hs hor
        refine ih n (i + 1) _ _ (by omega) (by omega) ?_ (Nat.or_lt_two_pow (n := 9) ho hki.2.2.2) hor
        unfold needS at hs ⊢
        rw [List.map_cons, List.sum_cons] at hs
        omega
      · have hb := (nI_bit0 (by omega) (by omega)).mp h
        rw [rmD_f hb] at hs hor
        rw [nI_1]
        exact ih n (i + 1) s o (by omega) (by omega) hs ho hor
    | zero =>
      intro n i s o hi hn2 hs ho hor
      obtain ⟨n, rfl⟩ : ∃ z, n = z + 1 := ⟨n - 1, by omega⟩
      unfold w_X9_whyNot_H34
      rw [hC3.1.2.1]
      refine ⟨fun _ => ?_, fun h => absurd (nI_le (by omega) (by omega)) h⟩
      have es : s = needS X (rmD S 0 9) := hs
      have eo : o = orL X (rmD S 0 9) 0 := hor
      unfold w_X9_whyNot_J85
      rw [nI_c (by omega : d ≤ 1000000000), (hC3.2 d hd9).2.1, nI_and]
      refine ⟨vin hd9 (by omega), fun h3 => ⟨fun h5 => ?_, fun h5 => ?_⟩, fun h3 => ?_⟩
      · have hse : ¬ xs X d < needS X (rmD S 0 9) := by
          have := (nI_leI (by omega) (by omega)).mp h3
          omega
        have hle : o &&& S ≤ o := Nat.and_le_left
        have hba : (rmD S 0 9).any (fun p => (xr X p &&& S) != 0) = false := by
          have e : o &&& S = 0 := (nI_eq (b := 0) (by omega) (by omega)).mp h5
          rw [eo] at e
          exact (orL_and _ _).mp e |>.2
        refine w_many hS9 (fun σa ea σb eb σc ec => ?_)
        have hFc : FrM σ σc := fun k j hk => by
          rw [← hF3 k j hk]
          subst ea eb ec
          simp only [mst]
          rw [if_neg (by omega), if_neg (by omega), if_neg (by omega)]
        have hCc : MX X σc := hC.fr (fun k j hk => hFc k j (by omega))
        rw [nI_sh (by omega), nI_dif]
        have hdM : d ∈ rmD S 0 9 := rmD_mem.mpr ⟨hd9, hd⟩
        have hext : rmD S 0 9 = rmD S 0 (xn X) := (rmD_ext hn hS.1).symm
        have her : (rmD S 0 9).erase d = rmD (dif S (2 ^ d)) 0 (xn X) := by
          rw [hext]
          exact rmD_er hdn hd
        have k24 : σc 66 24 = nI (popc S) := by
          subst ea eb ec
          simp [mst]
        have key := picks_ok hX.1 hM hS.1 hext (popc S - 1) 6 (dif S (2 ^ d)) [d] (fun _ => 0) 0 d none σc (fun σ139 => ((¬ (σ139 66 25) = 1000000 → Q 0 σ139) ∧ ((σ139 66 25) = 1000000 → Q 4 σ139))) (by omega) (dif_lt hS.1) ?_ ?_ Nat.zero_lt_one ?_ (fun p hp => ?_) (fun p hp => ?_) ⟨Int.le_refl _, by show (0 : Int) ≤ 300 * ((1 : Nat) : Int); decide⟩ rfl hCc.1 ⟨by rw [k24, hlen], fun k hk => ?_, fun p hp => ?_⟩ ⟨by decide, ?_, fun r hr => by cases hr⟩ (fun σ' g1 g2 => ?_)
        · exact key
        · rw [← her, List.length_erase_of_mem hdM, hlen]
        · show 1 + (popc S - 1) = popc S
          omega
        · intro q hq
          rw [List.mem_singleton.mp hq]
          exact hdM
        · rw [dif_b, Nat.testBit_two_pow, (rmD_mem.mp hp).2, List.mem_singleton]
          by_cases e : d = p
          · subst e
            rw [decide_eq_true rfl]
            exact ⟨fun _ => rfl, fun _ => rfl⟩
          · rw [decide_eq_false e]
            simp only [Bool.not_false, Bool.and_true, Bool.true_eq_false, iff_false]
            exact fun q => e q.symm
        · rw [dif_b] at hp
          simp only [Bool.and_eq_true] at hp
          exact rmD_mem.mpr ⟨by have := bits_lt hS.1 hp.1; omega, hp.1⟩
        · have e : k = 0 := by simp at hk; omega
          subst e
          subst ea eb ec
          simp [mst]
        · rw [List.mem_singleton.mp hp]
          refine ⟨?_, Int.le_refl _, Int.le_refl _⟩
          subst ea eb ec
          simp [mst]
          rfl
        · subst e3 ea eb ec
          simp [mst]
          rfl
        · rw [← her] at g2
          have g2 : MB (rmD S 0 9) σ' (bestS X.1 (rmD S 0 9) d) := g2
          have hF' : FrM σ σ' := fun k j hk => by rw [g1.1 k j (by omega)]; exact hFc k j hk
          have k24' : σ' 66 24 = nI (popc S) := by rw [g1.1 66 24 (by omega)]; exact k24
          have hw0 : whyS X S d = match bestS X.1 (rmD S 0 9) d with | none => 4 | some _ => 0 := by
            unfold whyS
            rw [if_neg hcar, if_neg hse, hba]
            rfl
          rw [g2.2.1]
          cases hb : bestS X.1 (rmD S 0 9) d with
          | none =>
            rw [hb] at hw0
            refine ⟨fun h => absurd rfl h, fun _ => ?_⟩
            have := hQ σ' hF' (fun h => by rw [hw0] at h; cases h)
            rw [hw0] at this
            exact this
          | some r =>
            rw [hb] at hw0 g2
            have hr := g2.2.2 r rfl
            have h0 := g2.1
            have ht : tot (some r) = r.1 := rfl
            have hm : mtot (some r) = r.1 := rfl
            refine ⟨fun _ => ?_, fun h => ?_⟩
            · have := hQ σ' hF' (fun _ => ⟨by rw [hb]; exact g2, k24'⟩)
              rw [hw0] at this
              exact this
            · have := (iI_eq (a := mtot (some r)) (b := 1000000) (smi (by omega) (by omega)) (smi (by omega) (by omega))).mp h
              omega
      · have hse : ¬ xs X d < needS X (rmD S 0 9) := by
          have := (nI_leI (by omega) (by omega)).mp h3
          omega
        have hba : (rmD S 0 9).any (fun p => (xr X p &&& S) != 0) = true := by
          cases hb : (rmD S 0 9).any (fun p => (xr X p &&& S) != 0)
          · exact absurd (by rw [eo, (orL_and _ _).mpr ⟨Nat.zero_and _, hb⟩]; rfl) h5
          · rfl
        have e : whyS X S d = 3 := by
          unfold whyS
          rw [if_neg hcar, if_neg hse, if_pos hba]
        have := hQ σ3 hF3 (fun h => by rw [e] at h; cases h)
        rw [e] at this
        exact this
      · have hse : xs X d < needS X (rmD S 0 9) := by
          rcases Nat.lt_or_ge (xs X d) (needS X (rmD S 0 9)) with q | q
          · exact q
          · exact absurd (nI_le (by omega) (by omega)) h3
        have e : whyS X S d = 2 := by
          unfold whyS
          rw [if_neg hcar, if_pos hse]
        have := hQ σ3 hF3 (fun h => by rw [e] at h; cases h)
        rw [e] at this
        exact this
  refine ⟨xn X + 1, ?_⟩
  have := loop (xn X) (xn X + 1) 0 0 0 (by omega) (by omega) (by rw [Nat.zero_add, rmD_ext hn hS.1]) (by omega) (by rw [rmD_ext hn hS.1])
  exact this
