/-! ===== poolOf, mornings ===== -/
theorem L_poolOf {A : AA} {σ : MS} (h : Rel A σ) (x1 x2 : Int32) {K : Int32 → Int32 → MS → Prop} (hK : ∀ r A' σ', Rel A' σ' → K r r σ') : w_X8_poolOf x1 x2 σ (fun r1 σ1 => w_X9_poolOf x1 x2 σ1 (fun r2 σ2 => K r1 r2 σ2)) := by
  have mm : ∀ s, SmM σ s → s 66 36 = nI (aMb A) := fun s hm => (h.2.2.m hm).2.2.2.2.2.2.2.1
  unfold w_X8_poolOf w_X8_poolOf_E
  refine made0 h.1 h.2.1 ?_
  by_cases m0 : nI (aMb A) = 0
  · repeat (first | refine ct (by assumption) ?_ | refine cf (by assumption) ?_ | refine dt (by assumption) ?_ | refine df (by assumption) ?_ | refine ct rfl ?_ | refine cf (by decide) ?_ | refine dt rfl ?_ | refine df (by decide) ?_)
    refine rfG em3 (by decide) h hK (fun σ1 hm q => ?_)
    have m1 : σ1 66 36 = 0 := by rw [mm σ1 hm]; exact m0
    unfold w_X9_poolOf w_X9_poolOf_E
    repeat (first | refine ct (by assumption) ?_ | refine cf (by assumption) ?_ | refine dt (by assumption) ?_ | refine df (by assumption) ?_ | refine ct rfl ?_ | refine cf (by decide) ?_ | refine dt rfl ?_ | refine df (by decide) ?_)
    exact q
  have m1 : ¬ σ 66 36 = 0 := by rw [mm σ SmM.rf]; exact m0
  repeat (first | refine ct (by assumption) ?_ | refine cf (by assumption) ?_ | refine dt (by assumption) ?_ | refine df (by assumption) ?_ | refine ct rfl ?_ | refine cf (by decide) ?_ | refine dt rfl ?_ | refine df (by decide) ?_)
  refine prC h x1 (fun a => ?_) (fun p hp hp9 e => ?_)
  · repeat (first | refine ct (by assumption) ?_ | refine cf (by assumption) ?_ | refine dt (by assumption) ?_ | refine df (by assumption) ?_ | refine ct rfl ?_ | refine cf (by decide) ?_ | refine dt rfl ?_ | refine df (by decide) ?_)
    refine rfG em1 (by decide) h hK (fun σ1 hm q => ?_)
    have m2 : ¬ σ1 66 36 = 0 := by rw [mm σ1 hm]; exact m0
    unfold w_X9_poolOf w_X9_poolOf_E
    refine df m2 ?_
    refine prM0 h hm a ?_
    repeat (first | refine ct (by assumption) ?_ | refine cf (by assumption) ?_ | refine dt (by assumption) ?_ | refine df (by assumption) ?_ | refine ct rfl ?_ | refine cf (by decide) ?_ | refine dt rfl ?_ | refine df (by decide) ?_)
    exact q
  subst e
  repeat (first | refine ct (by assumption) ?_ | refine cf (by assumption) ?_ | refine dt (by assumption) ?_ | refine df (by assumption) ?_ | refine ct rfl ?_ | refine cf (by decide) ?_ | refine dt rfl ?_ | refine df (by decide) ?_)
  have cc := h.2.1.2.2.2.2.2.2.2.2.2 p hp9
  have mc := h.2.2.2.2.2.2.2.2.2.2.2 p hp9
  have hl := pl_lt h.1 hp9
  have hv9 : vp_in (nI p) 9 := vin hp9 (by decide)
  have bad : ¬ x2 = 0 → ¬ x2 = 1 → ¬ x2 = 2 → ¬ x2 = 3 → w_X8_poolOf_J43 (fun r1 σ1 => w_X9_poolOf (nI p) x2 σ1 (fun r2 σ2 => K r1 r2 σ2)) σ := by
    intro n0 n1 n2 n3
    unfold w_X8_poolOf_J43
    refine rfG em2 (by decide) h hK (fun σ1 hm q => ?_)
    have m2 : ¬ σ1 66 36 = 0 := by rw [mm σ1 hm]; exact m0
    unfold w_X9_poolOf w_X9_poolOf_E
    refine df m2 ?_
    refine prM1 h hm hp ?_
    repeat (first | refine ct (by assumption) ?_ | refine cf (by assumption) ?_ | refine dt (by assumption) ?_ | refine df (by assumption) ?_ | refine ct rfl ?_ | refine cf (by decide) ?_ | refine dt rfl ?_ | refine df (by decide) ?_)
    exact q
  have tell : ∀ (r : Int32) , (w_X9_poolOf (nI p) x2 σ (fun r2 σ2 => r2 = r ∧ σ2 = σ)) → w_X9_poolOf (nI p) x2 σ (fun r2 σ2 => r2 = r ∧ σ2 = σ) := fun r q => q
  refine ⟨fun z => ?_, fun z => ⟨fun z2 => ?_, fun z2 => ?_⟩⟩
  · refine bad ?_ ?_ ?_ ?_ <;> (intro e; rw [e] at z; exact absurd z (by decide))
  · obtain ⟨j, hj, rfl⟩ := upto (m := 3) (by decide) z (nltl z2)
    unfold w_X4_tell w_X4_tell_E
    rw [nI_c (by omega : p ≤ 1000000000), cc.1]
    by_cases pz : aPl A p = 0
    · have q0 : nI (aPl A p) = 0 := by rw [pz]; rfl
      have q1 : σ 97 (nI p).toNatClampNeg = 0 := by rw [nI_c (by omega : p ≤ 1000000000), mc.1]; exact q0
      rcases (by omega : j = 0 ∨ j = 1 ∨ j = 2 ∨ j = 3) with e | e | e | e
      · subst e
        refine dt rfl ⟨hv9, ?_⟩
        unfold w_X9_poolOf w_X9_poolOf_E
        refine df m1 (prM1 h SmM.rf hp ?_)
        refine df (by decide) (ct rfl ⟨hv9, ?_⟩)
        rw [nI_c (by omega : p ≤ 1000000000), mc.1]
        exact hK _ A σ h
      · subst e
        refine df (by decide) ⟨hv9, dt q0 ?_⟩
        unfold w_X9_poolOf w_X9_poolOf_E
        refine df m1 (prM1 h SmM.rf hp ?_)
        exact df (by decide) (cf (by decide) (ct rfl ⟨hv9, dt q1 (hK _ A σ h)⟩))
      · subst e
        refine df (by decide) ⟨hv9, dt q0 ?_⟩
        unfold w_X9_poolOf w_X9_poolOf_E
        refine df m1 (prM1 h SmM.rf hp ?_)
        exact df (by decide) (cf (by decide) (cf (by decide) (ct rfl ⟨hv9, dt q1 (hK _ A σ h)⟩)))
      · subst e
        refine df (by decide) ⟨hv9, dt q0 ?_⟩
        unfold w_X9_poolOf w_X9_poolOf_E
        refine df m1 (prM1 h SmM.rf hp ?_)
        exact df (by decide) (cf (by decide) (cf (by decide) (cf (by decide) (ct rfl ⟨hv9, dt q1 (hK _ A σ h)⟩))))
    · have q0 : ¬ nI (aPl A p) = 0 := fun y => pz ((nI_eq (b := 0) (by omega) (by omega)).mp y)
      have q1 : ¬ σ 97 (nI p).toNatClampNeg = 0 := by rw [nI_c (by omega : p ≤ 1000000000), mc.1]; exact q0
      have cp := cc.2 pz
      have mp := mc.2 pz
      rcases (by omega : j = 0 ∨ j = 1 ∨ j = 2 ∨ j = 3) with e | e | e | e
      · subst e
        refine dt rfl ⟨hv9, ?_⟩
        unfold w_X9_poolOf w_X9_poolOf_E
        refine df m1 (prM1 h SmM.rf hp ?_)
        refine df (by decide) (ct rfl ⟨hv9, ?_⟩)
        rw [nI_c (by omega : p ≤ 1000000000), mc.1]
        exact hK _ A σ h
      · subst e
        refine df (by decide) ⟨hv9, df q0 (ct rfl ?_)⟩
        unfold w_X9_poolOf w_X9_poolOf_E
        refine df m1 (prM1 h SmM.rf hp ?_)
        refine df (by decide) (cf (by decide) (ct rfl ⟨hv9, df q1 ?_⟩))
        rw [nI_c (by omega : p ≤ 1000000000), mp.1, cp.1]
        exact hK _ A σ h
      · subst e
        refine df (by decide) ⟨hv9, df q0 (cf (by decide) (ct rfl ?_))⟩
        unfold w_X9_poolOf w_X9_poolOf_E
        refine df m1 (prM1 h SmM.rf hp ?_)
        refine df (by decide) (cf (by decide) (cf (by decide) (ct rfl ⟨hv9, df q1 ?_⟩)))
        rw [nI_c (by omega : p ≤ 1000000000), mp.2.2.1, cp.2.2.1]
        exact hK _ A σ h
      · subst e
        refine df (by decide) ⟨hv9, df q0 (cf (by decide) (cf (by decide) (ct rfl ?_)))⟩
        unfold w_X9_poolOf w_X9_poolOf_E
        refine df m1 (prM1 h SmM.rf hp ?_)
        refine df (by decide) (cf (by decide) (cf (by decide) (cf (by decide) (ct rfl ⟨hv9, df q1 ?_⟩))))
        rw [nI_c (by omega : p ≤ 1000000000), mp.2.2.2, cp.2.2.2]
        exact hK _ A σ h
  · refine bad ?_ ?_ ?_ ?_ <;> (intro e; rw [e] at z2; exact absurd (by decide) z2)
