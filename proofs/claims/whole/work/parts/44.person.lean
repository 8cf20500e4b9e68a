/-! ===== person ===== -/
def xP (X : XX) (k h w : Nat) (e l g : Int) (s : Nat) : XX := ((dl X.1, va_up (dh X.1) (xn X) h, va_up (dw X.1) (xn X) w, va_up (de X.1) (xn X) e, va_up (da X.1) (xn X) l, va_up (dg X.1) (xn X) (g + dl X.1 h w)), va_up (xk X) (xn X) k, va_up (xs X) (xn X) s, xb X, xr X, xn X + 1)
theorem persC {A : AA} {σ σ' : MS} (c : CS A σ) {k h w e l g s : Nat} (hn : xn (aX A) < 9) (hk : ∀ k j, k < 66 → ¬ (k = 4 ∧ j = 1) → ¬ (k = 37 + xn (aX A) ∧ j ≤ 6) → σ' k j = σ k j) (h41 : σ' 4 1 = nI (xn (aX A) + 1)) (h0 : σ' (37 + xn (aX A)) 0 = nI k) (h1 : σ' (37 + xn (aX A)) 1 = nI h) (h2 : σ' (37 + xn (aX A)) 2 = nI w) (h3 : σ' (37 + xn (aX A)) 3 = nI e) (h4 : σ' (37 + xn (aX A)) 4 = nI l) (h5 : σ' (37 + xn (aX A)) 5 = nI g) (h6 : σ' (37 + xn (aX A)) 6 = nI s) : CS (xP (aX A) k h w e l g s, A.2) σ' := by
  refine CS.x (A := A) (aw' := aW A) (σ := σ) c ?_ ?_ ?_ (fun k j h1 h2 => hk k j h1 (by omega) (by omega))
  · obtain ⟨d1, d2, d3⟩ := c.1
    refine ⟨h41, fun q hq => ?_, fun a b ha hb => by rw [hk _ _ (by omega) (by omega) (by omega)]; exact d3 a b ha hb⟩
    have d := d2 q hq
    rw [hk (37 + q) 8 (by omega) (by omega) (by omega), hk (37 + q) 9 (by omega) (by omega) (by omega)]
    show _ = nI (va_up (xk (aX A)) (xn (aX A)) k q) ∧ _ = nI (va_up (dh (aX A).1) (xn (aX A)) h q) ∧ _ = nI (va_up (dw (aX A).1) (xn (aX A)) w q) ∧ _ = iI (va_up (de (aX A).1) (xn (aX A)) e q) ∧ _ = iI (va_up (da (aX A).1) (xn (aX A)) l q) ∧ _ = iI (va_up (dg (aX A).1) (xn (aX A)) (g + dl (aX A).1 h w) q - dl (aX A).1 (va_up (dh (aX A).1) (xn (aX A)) h q) (va_up (dw (aX A).1) (xn (aX A)) w q)) ∧ _ = nI (va_up (xs (aX A)) (xn (aX A)) s q) ∧ _
    by_cases z : q = xn (aX A)
    · subst z
      rw [up_s, up_s, up_s, up_s, up_s, up_s, up_s, h0, h1, h2, h3, h4, h5, h6]
      refine ⟨rfl, rfl, rfl, iI_n e, iI_n l, ?_, rfl, d.2.2.2.2.2.2.2.1, d.2.2.2.2.2.2.2.2⟩
      rw [iI_n]
      congr 1
      omega
    · rw [up_n z, up_n z, up_n z, up_n z, up_n z, up_n z, up_n z, hk (37 + q) 0 (by omega) (by omega) (by omega), hk (37 + q) 1 (by omega) (by omega) (by omega), hk (37 + q) 2 (by omega) (by omega) (by omega), hk (37 + q) 3 (by omega) (by omega) (by omega), hk (37 + q) 4 (by omega) (by omega) (by omega), hk (37 + q) 5 (by omega) (by omega) (by omega), hk (37 + q) 6 (by omega) (by omega) (by omega)]
      exact d
  · exact c.2.1.fr (fun q _ => hk _ _ (by omega) (by omega) (by omega))
  · intro S hS
    rw [hk 28 S (by omega) (by omega) (by omega), hk 29 S (by omega) (by omega) (by omega)]
    rcases c.2.2.1 S hS with g1 | ⟨g1, g2⟩
    · exact Or.inl g1
    · refine Or.inr ⟨⟨?_, g1.2⟩, ?_⟩
      · show S < 2 ^ (xn (aX A) + 1)
        exact Nat.lt_of_lt_of_le g1.1 (Nat.pow_le_pow_right (by decide) (by omega))
      · have hne : ∀ q, S.testBit q = true → q ≠ xn (aX A) := fun q hq e => by
          have := bits_lt g1.1 hq
          omega
        have ha : ag (aX A) (xP (aX A) k h w e l g s) S := ⟨⟨rfl, fun q hq => by
          have z := hne q (rmD_mem.mp hq).2
          exact ⟨(up_n z).symm, (up_n z).symm, (up_n z).symm, (up_n z).symm, (up_n z).symm⟩⟩, fun q _ hb => ⟨(up_n (hne q hb)).symm, (up_n (hne q hb)).symm, rfl, rfl⟩⟩
        rw [← cost_c ha]
        exact g2
theorem persM {A : AA} {σ σ' : MS} (c : ZS A σ) {k h w e l g s : Nat} (hn : xn (aX A) < 9) (hk : ∀ k j, 66 ≤ k → ¬ (k = 66 ∧ (j = 3 ∨ j = 27)) → ¬ ((70 ≤ k ∧ k ≤ 76) ∧ j = xn (aX A)) → σ' k j = σ k j) (h41 : σ' 66 3 = nI (xn (aX A) + 1)) (h0 : σ' 70 (xn (aX A)) = nI k) (h1 : σ' 71 (xn (aX A)) = nI h) (h2 : σ' 72 (xn (aX A)) = nI w) (h3 : σ' 73 (xn (aX A)) = nI e) (h4 : σ' 74 (xn (aX A)) = nI l) (h5 : σ' 75 (xn (aX A)) = nI g) (h6 : σ' 76 (xn (aX A)) = nI s) (h27 : σ' 66 27 = 0) : ZS (xP (aX A) k h w e l g s, A.2) σ' := by
  refine ZS.x (A := A) (aw' := aW A) (σ := σ) c ?_ ?_ h27 (fun k j h1 h2 => hk k j h1 (by omega) (by omega))
  · obtain ⟨⟨d0, d1, d2, d3⟩, d4⟩ := c.1
    refine ⟨⟨hn, h41, fun q hq => ?_, fun a b ha hb => by rw [hk _ _ (by omega) (by omega) (by omega)]; exact d3 a b ha hb⟩, fun q hq => ?_⟩
    · have d := d2 q hq
      show _ = nI (va_up (dh (aX A).1) (xn (aX A)) h q) ∧ _ = nI (va_up (dw (aX A).1) (xn (aX A)) w q) ∧ _ = iI (va_up (de (aX A).1) (xn (aX A)) e q) ∧ _ = iI (va_up (da (aX A).1) (xn (aX A)) l q) ∧ _ = iI (va_up (dg (aX A).1) (xn (aX A)) (g + dl (aX A).1 h w) q - dl (aX A).1 (va_up (dh (aX A).1) (xn (aX A)) h q) (va_up (dw (aX A).1) (xn (aX A)) w q))
      by_cases z : q = xn (aX A)
      · subst z
        rw [up_s, up_s, up_s, up_s, up_s, h1, h2, h3, h4, h5]
        refine ⟨rfl, rfl, iI_n e, iI_n l, ?_⟩
        rw [iI_n]
        congr 1
        omega
      · rw [up_n z, up_n z, up_n z, up_n z, up_n z, hk 71 q (by omega) (by omega) (by omega), hk 72 q (by omega) (by omega) (by omega), hk 73 q (by omega) (by omega) (by omega), hk 74 q (by omega) (by omega) (by omega), hk 75 q (by omega) (by omega) (by omega)]
        exact d
    · have d := d4 q hq
      rw [hk 80 q (by omega) (by omega) (by omega), hk 77 q (by omega) (by omega) (by omega)]
      show _ = nI (va_up (xk (aX A)) (xn (aX A)) k q) ∧ _ = nI (va_up (xs (aX A)) (xn (aX A)) s q) ∧ _
      by_cases z : q = xn (aX A)
      · subst z
        rw [up_s, up_s, h0, h6]
        exact ⟨rfl, rfl, d.2.2.1, d.2.2.2⟩
      · rw [up_n z, up_n z, hk 70 q (by omega) (by omega) (by omega), hk 76 q (by omega) (by omega) (by omega)]
        exact d
  · exact c.2.1.fr (fun q _ => hk _ _ (by omega) (by omega) (by omega))
theorem okPn {n m Lf : Nat} {pl dv : Nat → Nat} {tk : Nat → Int} (hnm : n ≤ m) (h : okP n Lf pl dv tk) : okP m Lf pl dv tk := by
  obtain ⟨h1, h2, h3⟩ := h
  refine ⟨h1, fun p hp h0 => ?_, h3⟩
  have d := h2 p hp h0
  exact ⟨Nat.lt_of_lt_of_le d.1 (Nat.pow_le_pow_right (by decide) hnm), d.2⟩
theorem okPe {A : AA} (ok : okA A) {k h w e l g s : Nat} (hn : xn (aX A) < 9) (hk : k ≤ 1) (hh : h < 10) (hw : w < 10) (he : e ≤ 1440) (hl : l ≤ 1440) (hg : g ≤ 300) (hs : s ≤ 5) : okA (xP (aX A) k h w e l g s, A.2) := by
  obtain ⟨⟨⟨h1, h2⟩, h3, h4⟩, h5, h6, h7, h8⟩ := ok
  refine ⟨⟨⟨h1, fun q hq => ?_⟩, hn, fun q hq => ?_⟩, h5, h6, okPn (Nat.le_succ _) h7, fun q hq => ?_⟩
  · have d := h2 q hq
    show va_up (dh (aX A).1) (xn (aX A)) h q < 10 ∧ va_up (dw (aX A).1) (xn (aX A)) w q < 10 ∧ (0 ≤ va_up (de (aX A).1) (xn (aX A)) e q ∧ va_up (de (aX A).1) (xn (aX A)) e q ≤ 1440) ∧ (0 ≤ va_up (da (aX A).1) (xn (aX A)) l q ∧ va_up (da (aX A).1) (xn (aX A)) l q ≤ 1440) ∧ (0 ≤ va_up (dg (aX A).1) (xn (aX A)) (g + dl (aX A).1 h w) q ∧ va_up (dg (aX A).1) (xn (aX A)) (g + dl (aX A).1 h w) q ≤ 600)
    have hd := h1 h w hh hw
    by_cases z : q = xn (aX A)
    · subst z
      rw [up_s, up_s, up_s, up_s, up_s]
      omega
    · rw [up_n z, up_n z, up_n z, up_n z, up_n z]
      exact d
  · have d := h4 q hq
    show va_up (xk (aX A)) (xn (aX A)) k q ≤ 1 ∧ va_up (xs (aX A)) (xn (aX A)) s q ≤ 5 ∧ _
    by_cases z : q = xn (aX A)
    · subst z
      rw [up_s, up_s]
      exact ⟨hk, hs, d.2.2⟩
    · rw [up_n z, up_n z]
      exact d
  · show 0 ≤ va_up (dg (aX A).1) (xn (aX A)) (g + dl (aX A).1 h w) q - dl (aX A).1 (va_up (dh (aX A).1) (xn (aX A)) h q) (va_up (dw (aX A).1) (xn (aX A)) w q) ∧ va_up (dg (aX A).1) (xn (aX A)) (g + dl (aX A).1 h w) q - dl (aX A).1 (va_up (dh (aX A).1) (xn (aX A)) h q) (va_up (dw (aX A).1) (xn (aX A)) w q) ≤ 300
    by_cases z : q = xn (aX A)
    · subst z
      rw [up_s, up_s, up_s]
      omega
    · rw [up_n z, up_n z, up_n z]
      exact h8 q hq
theorem upto {x : Int32} {m : Nat} (hm : m < 2 ^ 31) (h0 : ¬ x < 0) (h1 : ¬ nI m < x) : ∃ a : Nat, a ≤ m ∧ x = nI a := by
  obtain ⟨j, hj, rfl⟩ := nI_of h0
  refine ⟨j, ?_, rfl⟩
  rcases Nat.lt_or_ge m j with q | q
  · exact absurd (nI_lt q hj) h1
  · exact q
theorem two01 {x : Int32} : (¬ x < 0 ∧ ¬ 2 ≤ x) ↔ (x = 0 ∨ x = 1) := by
  constructor
  · intro h
    obtain ⟨j, hj, rfl⟩ := in_of (n := 2) (by decide) h
    rcases (by omega : j = 0 ∨ j = 1) with e | e
    · subst e
      exact Or.inl rfl
    · subst e
      exact Or.inr rfl
  · rintro (rfl | rfl) <;> exact ⟨by decide, by decide⟩
