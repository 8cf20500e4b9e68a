/-! ===== the law's loop ===== -/
theorem swp {P Q : Int32 → MS → Prop} {F : (Int32 → MS → Prop) → Prop} (h : F P) (e : ∀ r s, P r s ↔ Q r s) : F Q := by
  have : P = Q := funext (fun r => funext (fun s => propext (e r s)))
  rw [← this]
  exact h
theorem law_in {Ln i : Nat} (hLn : Ln ≤ 4096) (hi : i ≤ 8192) (h : ¬ (Int32.ofNat Ln) - 8 < nI i) : i + 8 ≤ Ln := by
  have e : (Int32.ofNat Ln) - 8 = iI ((Ln : Int) - 8) := by
    show nI Ln - nI 8 = _
    rw [iI_n, iI_n, iI_sub]
    rfl
  rw [e, iI_n, iI_lt (by unfold sm; omega) (by unfold sm; omega)] at h
  omega
theorem law_j {Ln i : Nat} (hLn : Ln ≤ 4096) (h : i + 8 ≤ Ln) {k : Nat} (hk : k < 8) {x : Int32} (hx : x = nI k) : vp_in (nI i + x) Ln := by
  rw [hx, nI_add]
  exact vin (by omega) (by omega)
theorem law_H18 {Ln : Nat} {xs : Nat → Int32} (hLn : Ln ≤ 4096) : ∀ (n i : Nat) (A : AA) (σ : MS), Ln - i < n → i ≤ Ln + 8 → Rel A σ → w_L_law_H18 Ln xs n (nI i) σ := by
  intro n
  induction n with
  | zero =>
    intro i A σ h
    omega
  | succ n ih =>
    intro i A σ hn hi h
    unfold w_L_law_H18
    refine ⟨fun _ => trivial, fun hge => ?_⟩
    have h8 := law_in hLn (by omega) hge
    have i8 : nI i + 8 = nI (i + 8) := nI_add i 8
    have hK : ∀ (r : Int32) (A' : AA) (σ' : MS), Rel A' σ' → ((r = r → w_L_law_H18 Ln xs n (nI i + 8) σ') ∧ (¬ r = r → False)) := fun r A' σ' h' => ⟨fun _ => by rw [i8]; exact ih (i + 8) A' σ' (by omega) (by omega) h', fun z => z rfl⟩
    have j1 : vp_in (nI i + 1) Ln := law_j hLn h8 (k := 1) (by decide) rfl
    have j2 : vp_in (nI i + 2) Ln := law_j hLn h8 (k := 2) (by decide) rfl
    have j3 : vp_in (nI i + 3) Ln := law_j hLn h8 (k := 3) (by decide) rfl
    have j4 : vp_in (nI i + 4) Ln := law_j hLn h8 (k := 4) (by decide) rfl
    have j5 : vp_in (nI i + 5) Ln := law_j hLn h8 (k := 5) (by decide) rfl
    have j6 : vp_in (nI i + 6) Ln := law_j hLn h8 (k := 6) (by decide) rfl
    have j7 : vp_in (nI i + 7) Ln := law_j hLn h8 (k := 7) (by decide) rfl
    refine ⟨vin (by omega) (by omega), fun z _ => ?_⟩
    refine ⟨fun _ => ?_, fun _ => ?_⟩
    · unfold w_L_law_J140
      exact ⟨j1, j2, j3, L_minutes h _ _ _ (K := fun r1 r2 σ2 => (r1 = r2 → w_L_law_H18 Ln xs n (nI i + 8) σ2) ∧ (¬ r1 = r2 → False)) hK⟩
    refine ⟨fun _ => ?_, fun _ => ?_⟩
    · unfold w_L_law_J183
      exact ⟨j1, j2, L_least h _ _ (K := fun r1 r2 σ2 => (r1 = r2 → w_L_law_H18 Ln xs n (nI i + 8) σ2) ∧ (¬ r1 = r2 → False)) hK⟩
    refine ⟨fun _ => ?_, fun _ => ?_⟩
    · unfold w_L_law_J216
      exact ⟨j1, j2, j3, j4, j5, j6, j7, L_person h _ _ _ _ _ _ _ (K := fun r1 r2 σ2 => (r1 = r2 → w_L_law_H18 Ln xs n (nI i + 8) σ2) ∧ (¬ r1 = r2 → False)) hK⟩
    refine ⟨fun _ => ?_, fun _ => ?_⟩
    · unfold w_L_law_J303
      exact ⟨j1, j2, j3, L_times h _ _ _ (K := fun r1 r2 σ2 => (r1 = r2 → w_L_law_H18 Ln xs n (nI i + 8) σ2) ∧ (¬ r1 = r2 → False)) hK⟩
    refine ⟨fun _ => ?_, fun _ => ?_⟩
    · unfold w_L_law_J346
      refine ⟨j1, j2, j3, fun b => ?_, fun b => ?_⟩
      · unfold w_L_law_J370
        exact swp (F := fun Q => w_X8_bar_E Q (xs (nI i + 1).toNatClampNeg) (xs (nI i + 2).toNatClampNeg) 0 σ) (L_bar h _ _ 0 (Or.inl rfl) (K := fun r1 r2 σ2 => (r1 = r2 → w_L_law_H18 Ln xs n (nI i + 8) σ2) ∧ (¬ r1 = r2 → False)) hK) (fun r s => ⟨fun q => ⟨j1, j2, j3, ct b q⟩, fun q => q.2.2.2.1 b⟩)
      · unfold w_L_law_J370
        exact swp (F := fun Q => w_X8_bar_E Q (xs (nI i + 1).toNatClampNeg) (xs (nI i + 2).toNatClampNeg) 1 σ) (L_bar h _ _ 1 (Or.inr rfl) (K := fun r1 r2 σ2 => (r1 = r2 → w_L_law_H18 Ln xs n (nI i + 8) σ2) ∧ (¬ r1 = r2 → False)) hK) (fun r s => ⟨fun q => ⟨j1, j2, j3, cf b q⟩, fun q => q.2.2.2.2 b⟩)
    refine ⟨fun _ => ?_, fun _ => ?_⟩
    · unfold w_L_law_J405
      refine ⟨j1, j2, fun b => ?_, fun b => ?_⟩
      · unfold w_L_law_J424
        exact swp (F := fun Q => w_X8_away_E Q (xs (nI i + 1).toNatClampNeg) 0 σ) (L_away h _ 0 (Or.inl rfl) (K := fun r1 r2 σ2 => (r1 = r2 → w_L_law_H18 Ln xs n (nI i + 8) σ2) ∧ (¬ r1 = r2 → False)) hK) (fun r s => ⟨fun q => ⟨j1, j2, ct b q⟩, fun q => q.2.2.1 b⟩)
      · unfold w_L_law_J424
        exact swp (F := fun Q => w_X8_away_E Q (xs (nI i + 1).toNatClampNeg) 1 σ) (L_away h _ 1 (Or.inr rfl) (K := fun r1 r2 σ2 => (r1 = r2 → w_L_law_H18 Ln xs n (nI i + 8) σ2) ∧ (¬ r1 = r2 → False)) hK) (fun r s => ⟨fun q => ⟨j1, j2, cf b q⟩, fun q => q.2.2.2 b⟩)
    refine ⟨fun _ => ?_, fun _ => ?_⟩
    · unfold w_L_law_J454
      refine ⟨j1, j2, fun b => ?_, fun b => ?_⟩
      · unfold w_L_law_J473
        exact swp (F := fun Q => w_X8_broken_E Q (xs (nI i + 1).toNatClampNeg) 0 σ) (L_broken h _ 0 (Or.inl rfl) (K := fun r1 r2 σ2 => (r1 = r2 → w_L_law_H18 Ln xs n (nI i + 8) σ2) ∧ (¬ r1 = r2 → False)) hK) (fun r s => ⟨fun q => ⟨j1, j2, ct b q⟩, fun q => q.2.2.1 b⟩)
      · unfold w_L_law_J473
        exact swp (F := fun Q => w_X8_broken_E Q (xs (nI i + 1).toNatClampNeg) 1 σ) (L_broken h _ 1 (Or.inr rfl) (K := fun r1 r2 σ2 => (r1 = r2 → w_L_law_H18 Ln xs n (nI i + 8) σ2) ∧ (¬ r1 = r2 → False)) hK) (fun r s => ⟨fun q => ⟨j1, j2, cf b q⟩, fun q => q.2.2.2 b⟩)
    refine ⟨fun _ => ?_, fun _ => ?_⟩
    · unfold w_L_law_J503
      exact ⟨j1, j2, L_fits h _ _ (K := fun r1 r2 σ2 => (r1 = r2 → w_L_law_H18 Ln xs n (nI i + 8) σ2) ∧ (¬ r1 = r2 → False)) hK⟩
    refine ⟨fun _ => ?_, fun _ => ?_⟩
    · unfold w_L_law_J536
      exact ⟨j1, j2, L_why h _ _ (K := fun r1 r2 σ2 => (r1 = r2 → w_L_law_H18 Ln xs n (nI i + 8) σ2) ∧ (¬ r1 = r2 → False)) hK⟩
    refine ⟨fun _ => ?_, fun _ => ?_⟩
    · unfold w_L_law_J569
      exact ⟨j1, j2, j3, L_way h _ _ _ (K := fun r1 r2 σ2 => (r1 = r2 → w_L_law_H18 Ln xs n (nI i + 8) σ2) ∧ (¬ r1 = r2 → False)) hK⟩
    refine ⟨fun _ => ?_, fun _ => ?_⟩
    · unfold w_L_law_J612
      exact ⟨j1, L_cost h _ (K := fun r1 r2 σ2 => (r1 = r2 → w_L_law_H18 Ln xs n (nI i + 8) σ2) ∧ (¬ r1 = r2 → False)) hK⟩
    refine ⟨fun _ => ?_, fun _ => ?_⟩
    · unfold w_L_law_J635
      exact ⟨j1, L_driver h _ (K := fun r1 r2 σ2 => (r1 = r2 → w_L_law_H18 Ln xs n (nI i + 8) σ2) ∧ (¬ r1 = r2 → False)) hK⟩
    refine ⟨fun _ => ?_, fun _ => ?_⟩
    · unfold w_L_law_J658
      exact ⟨j1, L_turn h _ (K := fun r1 r2 σ2 => (r1 = r2 → w_L_law_H18 Ln xs n (nI i + 8) σ2) ∧ (¬ r1 = r2 → False)) hK⟩
    refine ⟨fun _ => ?_, fun _ => ?_⟩
    · unfold w_L_law_J681
      exact L_plan h  (K := fun r1 r2 σ2 => (r1 = r2 → w_L_law_H18 Ln xs n (nI i + 8) σ2) ∧ (¬ r1 = r2 → False)) hK
    refine ⟨fun _ => ?_, fun _ => ?_⟩
    · unfold w_L_law_J694
      exact ⟨j1, L_planOf h _ (K := fun r1 r2 σ2 => (r1 = r2 → w_L_law_H18 Ln xs n (nI i + 8) σ2) ∧ (¬ r1 = r2 → False)) hK⟩
    refine ⟨fun _ => ?_, fun _ => ?_⟩
    · unfold w_L_law_J717
      exact ⟨j1, j2, L_poolOf h _ _ (K := fun r1 r2 σ2 => (r1 = r2 → w_L_law_H18 Ln xs n (nI i + 8) σ2) ∧ (¬ r1 = r2 → False)) hK⟩
    refine ⟨fun _ => ?_, fun _ => ?_⟩
    · unfold w_L_law_J750
      exact L_same h  (K := fun r1 r2 σ2 => (r1 = r2 → w_L_law_H18 Ln xs n (nI i + 8) σ2) ∧ (¬ r1 = r2 → False)) hK
    refine ⟨fun _ => ?_, fun _ => ?_⟩
    · unfold w_L_law_J763
      exact L_even h  (K := fun r1 r2 σ2 => (r1 = r2 → w_L_law_H18 Ln xs n (nI i + 8) σ2) ∧ (¬ r1 = r2 → False)) hK
    refine ⟨fun _ => ?_, fun _ => ?_⟩
    · unfold w_L_law_J776
      exact ⟨j1, L_mornings h _ (K := fun r1 r2 σ2 => (r1 = r2 → w_L_law_H18 Ln xs n (nI i + 8) σ2) ∧ (¬ r1 = r2 → False)) hK⟩
    refine ⟨fun _ => ?_, fun _ => ?_⟩
    · unfold w_L_law_J799
      exact ⟨j1, L_fail h _ (K := fun r1 r2 σ2 => (r1 = r2 → w_L_law_H18 Ln xs n (nI i + 8) σ2) ∧ (¬ r1 = r2 → False)) hK⟩
    refine ⟨fun _ => ?_, fun _ => ?_⟩
    · unfold w_L_law_J822
      exact L_few h  (K := fun r1 r2 σ2 => (r1 = r2 → w_L_law_H18 Ln xs n (nI i + 8) σ2) ∧ (¬ r1 = r2 → False)) hK
    refine ⟨fun _ => ?_, fun _ => ?_⟩
    · unfold w_L_law_J835
      exact ⟨j1, j2, L_personOf h _ _ (K := fun r1 r2 σ2 => (r1 = r2 → w_L_law_H18 Ln xs n (nI i + 8) σ2) ∧ (¬ r1 = r2 → False)) hK⟩
    refine ⟨fun _ => ?_, fun _ => ?_⟩
    · unfold w_L_law_J868
      exact ⟨j1, L_count h _ (K := fun r1 r2 σ2 => (r1 = r2 → w_L_law_H18 Ln xs n (nI i + 8) σ2) ∧ (¬ r1 = r2 → False)) hK⟩
    rw [i8]
    exact ih (i + 8) A σ (by omega) (by omega) h
