/-! ===== person, both ===== -/
theorem L_person {A : AA} {σ : MS} (h : Rel A σ) (x1 x2 x3 x4 x5 x6 x7 : Int32) {K : Int32 → Int32 → MS → Prop} (hK : ∀ r A' σ', Rel A' σ' → K r r σ') : w_X8_person x1 x2 x3 x4 x5 x6 x7 σ (fun r1 σ1 => w_X9_person x1 x2 x3 x4 x5 x6 x7 σ1 (fun r2 σ2 => K r1 r2 σ2)) := by
  by_cases a0 : x2 < 0
  · skip
    unfold w_X8_person w_X8_person_E
    repeat (first | refine ct (by assumption) ?_ | refine cf (by assumption) ?_ | refine dt (by assumption) ?_ | refine df (by assumption) ?_ | refine ct rfl ?_ | refine cf (by decide) ?_ | refine dt rfl ?_ | refine df (by decide) ?_)
    unfold w_X8_person_J19
    refine rfG em1 (by decide) h hK (fun σ1 hm q => ?_)
    unfold w_X9_person w_X9_person_E
    repeat (first | refine ct (by assumption) ?_ | refine cf (by assumption) ?_ | refine dt (by assumption) ?_ | refine df (by assumption) ?_ | refine ct rfl ?_ | refine cf (by decide) ?_ | refine dt rfl ?_ | refine df (by decide) ?_)
    exact q
  by_cases a1 : 10 ≤ x2
  · skip
    unfold w_X8_person w_X8_person_E
    repeat (first | refine ct (by assumption) ?_ | refine cf (by assumption) ?_ | refine dt (by assumption) ?_ | refine df (by assumption) ?_ | refine ct rfl ?_ | refine cf (by decide) ?_ | refine dt rfl ?_ | refine df (by decide) ?_)
    unfold w_X8_person_J19
    refine rfG em1 (by decide) h hK (fun σ1 hm q => ?_)
    unfold w_X9_person w_X9_person_E
    repeat (first | refine ct (by assumption) ?_ | refine cf (by assumption) ?_ | refine dt (by assumption) ?_ | refine df (by assumption) ?_ | refine ct rfl ?_ | refine cf (by decide) ?_ | refine dt rfl ?_ | refine df (by decide) ?_)
    exact q
  by_cases a2 : x3 < 0
  · skip
    unfold w_X8_person w_X8_person_E
    repeat (first | refine ct (by assumption) ?_ | refine cf (by assumption) ?_ | refine dt (by assumption) ?_ | refine df (by assumption) ?_ | refine ct rfl ?_ | refine cf (by decide) ?_ | refine dt rfl ?_ | refine df (by decide) ?_)
    unfold w_X8_person_J19
    refine rfG em1 (by decide) h hK (fun σ1 hm q => ?_)
    unfold w_X9_person w_X9_person_E
    repeat (first | refine ct (by assumption) ?_ | refine cf (by assumption) ?_ | refine dt (by assumption) ?_ | refine df (by assumption) ?_ | refine ct rfl ?_ | refine cf (by decide) ?_ | refine dt rfl ?_ | refine df (by decide) ?_)
    exact q
  by_cases a3 : 10 ≤ x3
  · skip
    unfold w_X8_person w_X8_person_E
    repeat (first | refine ct (by assumption) ?_ | refine cf (by assumption) ?_ | refine dt (by assumption) ?_ | refine df (by assumption) ?_ | refine ct rfl ?_ | refine cf (by decide) ?_ | refine dt rfl ?_ | refine df (by decide) ?_)
    unfold w_X8_person_J19
    refine rfG em1 (by decide) h hK (fun σ1 hm q => ?_)
    unfold w_X9_person w_X9_person_E
    repeat (first | refine ct (by assumption) ?_ | refine cf (by assumption) ?_ | refine dt (by assumption) ?_ | refine df (by assumption) ?_ | refine ct rfl ?_ | refine cf (by decide) ?_ | refine dt rfl ?_ | refine df (by decide) ?_)
    exact q
  by_cases a4 : x2 = x3
  · skip
    unfold w_X8_person w_X8_person_E
    repeat (first | refine ct (by assumption) ?_ | refine cf (by assumption) ?_ | refine dt (by assumption) ?_ | refine df (by assumption) ?_ | refine ct rfl ?_ | refine cf (by decide) ?_ | refine dt rfl ?_ | refine df (by decide) ?_)
    unfold w_X8_person_J19
    refine rfG em1 (by decide) h hK (fun σ1 hm q => ?_)
    unfold w_X9_person w_X9_person_E
    repeat (first | refine ct (by assumption) ?_ | refine cf (by assumption) ?_ | refine dt (by assumption) ?_ | refine df (by assumption) ?_ | refine ct rfl ?_ | refine cf (by decide) ?_ | refine dt rfl ?_ | refine df (by decide) ?_)
    exact q
  by_cases k0 : x1 = 0 ∨ x1 = 1
  rotate_left
  · have b0 : ¬ x1 = 0 := fun e => k0 (Or.inl e)
    have b1 : ¬ x1 = 1 := fun e => k0 (Or.inr e)
    by_cases b2 : x1 < 0
    · skip
      unfold w_X8_person w_X8_person_E
      repeat (first | refine ct (by assumption) ?_ | refine cf (by assumption) ?_ | refine dt (by assumption) ?_ | refine df (by assumption) ?_ | refine ct rfl ?_ | refine cf (by decide) ?_ | refine dt rfl ?_ | refine df (by decide) ?_)
      refine rfG em2 (by decide) h hK (fun σ1 hm q => ?_)
      unfold w_X9_person w_X9_person_E
      repeat (first | refine ct (by assumption) ?_ | refine cf (by assumption) ?_ | refine dt (by assumption) ?_ | refine df (by assumption) ?_ | refine ct rfl ?_ | refine cf (by decide) ?_ | refine dt rfl ?_ | refine df (by decide) ?_)
      exact q
    · have b3 : 2 ≤ x1 := Decidable.byContradiction (fun z => k0 (two01.mp ⟨b2, z⟩))
      unfold w_X8_person w_X8_person_E
      repeat (first | refine ct (by assumption) ?_ | refine cf (by assumption) ?_ | refine dt (by assumption) ?_ | refine df (by assumption) ?_ | refine ct rfl ?_ | refine cf (by decide) ?_ | refine dt rfl ?_ | refine df (by decide) ?_)
      refine rfG em2 (by decide) h hK (fun σ1 hm q => ?_)
      unfold w_X9_person w_X9_person_E
      repeat (first | refine ct (by assumption) ?_ | refine cf (by assumption) ?_ | refine dt (by assumption) ?_ | refine df (by assumption) ?_ | refine ct rfl ?_ | refine cf (by decide) ?_ | refine dt rfl ?_ | refine df (by decide) ?_)
      exact q
  have kd : ∀ (B C : Prop), B → ((x1 = 0 → B) ∧ (¬ x1 = 0 → ((x1 = 1 → B) ∧ (¬ x1 = 1 → C)))) := fun B C b => ⟨fun _ => b, fun e => ⟨fun _ => b, fun z => absurd k0 (fun y => y.elim e z)⟩⟩
  have k1 : ¬ x1 < 0 := (two01.mpr k0).1
  have k2 : ¬ 2 ≤ x1 := (two01.mpr k0).2
  by_cases c0 : x4 < 0
  · skip
    unfold w_X8_person w_X8_person_E
    repeat (first | refine ct (by assumption) ?_ | refine cf (by assumption) ?_ | refine dt (by assumption) ?_ | refine df (by assumption) ?_ | refine ct rfl ?_ | refine cf (by decide) ?_ | refine dt rfl ?_ | refine df (by decide) ?_)
    refine kd _ _ ?_
    repeat (first | refine ct (by assumption) ?_ | refine cf (by assumption) ?_ | refine dt (by assumption) ?_ | refine df (by assumption) ?_ | refine ct rfl ?_ | refine cf (by decide) ?_ | refine dt rfl ?_ | refine df (by decide) ?_)
    unfold w_X8_person_J61
    refine rfG em4 (by decide) h hK (fun σ1 hm q => ?_)
    unfold w_X9_person w_X9_person_E
    repeat (first | refine ct (by assumption) ?_ | refine cf (by assumption) ?_ | refine dt (by assumption) ?_ | refine df (by assumption) ?_ | refine ct rfl ?_ | refine cf (by decide) ?_ | refine dt rfl ?_ | refine df (by decide) ?_)
    exact q
  by_cases c1 : x5 < 0
  · skip
    unfold w_X8_person w_X8_person_E
    repeat (first | refine ct (by assumption) ?_ | refine cf (by assumption) ?_ | refine dt (by assumption) ?_ | refine df (by assumption) ?_ | refine ct rfl ?_ | refine cf (by decide) ?_ | refine dt rfl ?_ | refine df (by decide) ?_)
    refine kd _ _ ?_
    repeat (first | refine ct (by assumption) ?_ | refine cf (by assumption) ?_ | refine dt (by assumption) ?_ | refine df (by assumption) ?_ | refine ct rfl ?_ | refine cf (by decide) ?_ | refine dt rfl ?_ | refine df (by decide) ?_)
    unfold w_X8_person_J61
    refine rfG em4 (by decide) h hK (fun σ1 hm q => ?_)
    unfold w_X9_person w_X9_person_E
    repeat (first | refine ct (by assumption) ?_ | refine cf (by assumption) ?_ | refine dt (by assumption) ?_ | refine df (by assumption) ?_ | refine ct rfl ?_ | refine cf (by decide) ?_ | refine dt rfl ?_ | refine df (by decide) ?_)
    exact q
  by_cases c2 : x6 < 0
  · skip
    unfold w_X8_person w_X8_person_E
    repeat (first | refine ct (by assumption) ?_ | refine cf (by assumption) ?_ | refine dt (by assumption) ?_ | refine df (by assumption) ?_ | refine ct rfl ?_ | refine cf (by decide) ?_ | refine dt rfl ?_ | refine df (by decide) ?_)
    refine kd _ _ ?_
    repeat (first | refine ct (by assumption) ?_ | refine cf (by assumption) ?_ | refine dt (by assumption) ?_ | refine df (by assumption) ?_ | refine ct rfl ?_ | refine cf (by decide) ?_ | refine dt rfl ?_ | refine df (by decide) ?_)
    unfold w_X8_person_J61
    refine rfG em4 (by decide) h hK (fun σ1 hm q => ?_)
    unfold w_X9_person w_X9_person_E
    repeat (first | refine ct (by assumption) ?_ | refine cf (by assumption) ?_ | refine dt (by assumption) ?_ | refine df (by assumption) ?_ | refine ct rfl ?_ | refine cf (by decide) ?_ | refine dt rfl ?_ | refine df (by decide) ?_)
    exact q
  by_cases c3 : 0 ≤ x7
  rotate_left
  · skip
    unfold w_X8_person w_X8_person_E
    repeat (first | refine ct (by assumption) ?_ | refine cf (by assumption) ?_ | refine dt (by assumption) ?_ | refine df (by assumption) ?_ | refine ct rfl ?_ | refine cf (by decide) ?_ | refine dt rfl ?_ | refine df (by decide) ?_)
    refine kd _ _ ?_
    repeat (first | refine ct (by assumption) ?_ | refine cf (by assumption) ?_ | refine dt (by assumption) ?_ | refine df (by assumption) ?_ | refine ct rfl ?_ | refine cf (by decide) ?_ | refine dt rfl ?_ | refine df (by decide) ?_)
    unfold w_X8_person_J61
    refine rfG em4 (by decide) h hK (fun σ1 hm q => ?_)
    unfold w_X9_person w_X9_person_E
    repeat (first | refine ct (by assumption) ?_ | refine cf (by assumption) ?_ | refine dt (by assumption) ?_ | refine df (by assumption) ?_ | refine ct rfl ?_ | refine cf (by decide) ?_ | refine dt rfl ?_ | refine df (by decide) ?_)
    exact q
  by_cases d0 : 1440 < x4
  · skip
    unfold w_X8_person w_X8_person_E
    repeat (first | refine ct (by assumption) ?_ | refine cf (by assumption) ?_ | refine dt (by assumption) ?_ | refine df (by assumption) ?_ | refine ct rfl ?_ | refine cf (by decide) ?_ | refine dt rfl ?_ | refine df (by decide) ?_)
    refine kd _ _ ?_
    repeat (first | refine ct (by assumption) ?_ | refine cf (by assumption) ?_ | refine dt (by assumption) ?_ | refine df (by assumption) ?_ | refine ct rfl ?_ | refine cf (by decide) ?_ | refine dt rfl ?_ | refine df (by decide) ?_)
    unfold w_X8_person_J108
    refine rfG em6 (by decide) h hK (fun σ1 hm q => ?_)
    unfold w_X9_person w_X9_person_E
    repeat (first | refine ct (by assumption) ?_ | refine cf (by assumption) ?_ | refine dt (by assumption) ?_ | refine df (by assumption) ?_ | refine ct rfl ?_ | refine cf (by decide) ?_ | refine dt rfl ?_ | refine df (by decide) ?_)
    exact q
  by_cases d1 : 1440 < x5
  · skip
    unfold w_X8_person w_X8_person_E
    repeat (first | refine ct (by assumption) ?_ | refine cf (by assumption) ?_ | refine dt (by assumption) ?_ | refine df (by assumption) ?_ | refine ct rfl ?_ | refine cf (by decide) ?_ | refine dt rfl ?_ | refine df (by decide) ?_)
    refine kd _ _ ?_
    repeat (first | refine ct (by assumption) ?_ | refine cf (by assumption) ?_ | refine dt (by assumption) ?_ | refine df (by assumption) ?_ | refine ct rfl ?_ | refine cf (by decide) ?_ | refine dt rfl ?_ | refine df (by decide) ?_)
    unfold w_X8_person_J108
    refine rfG em6 (by decide) h hK (fun σ1 hm q => ?_)
    unfold w_X9_person w_X9_person_E
    repeat (first | refine ct (by assumption) ?_ | refine cf (by assumption) ?_ | refine dt (by assumption) ?_ | refine df (by assumption) ?_ | refine ct rfl ?_ | refine cf (by decide) ?_ | refine dt rfl ?_ | refine df (by decide) ?_)
    exact q
  by_cases d2 : 300 < x6
  · skip
    unfold w_X8_person w_X8_person_E
    repeat (first | refine ct (by assumption) ?_ | refine cf (by assumption) ?_ | refine dt (by assumption) ?_ | refine df (by assumption) ?_ | refine ct rfl ?_ | refine cf (by decide) ?_ | refine dt rfl ?_ | refine df (by decide) ?_)
    refine kd _ _ ?_
    repeat (first | refine ct (by assumption) ?_ | refine cf (by assumption) ?_ | refine dt (by assumption) ?_ | refine df (by assumption) ?_ | refine ct rfl ?_ | refine cf (by decide) ?_ | refine dt rfl ?_ | refine df (by decide) ?_)
    unfold w_X8_person_J108
    refine rfG em6 (by decide) h hK (fun σ1 hm q => ?_)
    unfold w_X9_person w_X9_person_E
    repeat (first | refine ct (by assumption) ?_ | refine cf (by assumption) ?_ | refine dt (by assumption) ?_ | refine df (by assumption) ?_ | refine ct rfl ?_ | refine cf (by decide) ?_ | refine dt rfl ?_ | refine df (by decide) ?_)
    exact q
  by_cases d3 : 5 < x7
  · skip
    unfold w_X8_person w_X8_person_E
    repeat (first | refine ct (by assumption) ?_ | refine cf (by assumption) ?_ | refine dt (by assumption) ?_ | refine df (by assumption) ?_ | refine ct rfl ?_ | refine cf (by decide) ?_ | refine dt rfl ?_ | refine df (by decide) ?_)
    refine kd _ _ ?_
    repeat (first | refine ct (by assumption) ?_ | refine cf (by assumption) ?_ | refine dt (by assumption) ?_ | refine df (by assumption) ?_ | refine ct rfl ?_ | refine cf (by decide) ?_ | refine dt rfl ?_ | refine df (by decide) ?_)
    unfold w_X8_person_J108
    refine rfG em6 (by decide) h hK (fun σ1 hm q => ?_)
    unfold w_X9_person w_X9_person_E
    repeat (first | refine ct (by assumption) ?_ | refine cf (by assumption) ?_ | refine dt (by assumption) ?_ | refine df (by assumption) ?_ | refine ct rfl ?_ | refine cf (by decide) ?_ | refine dt rfl ?_ | refine df (by decide) ?_)
    exact q
  have hn9 := h.1.1.2.1
  have e41 := h.2.1.1.1
  have e3 := h.2.2.1.1.2.1
  by_cases f0 : xn (aX A) = 9
  · unfold w_X8_person w_X8_person_E
    repeat (first | refine ct (by assumption) ?_ | refine cf (by assumption) ?_ | refine dt (by assumption) ?_ | refine df (by assumption) ?_ | refine ct rfl ?_ | refine cf (by decide) ?_ | refine dt rfl ?_ | refine df (by decide) ?_)
    refine kd _ _ ?_
    repeat (first | refine ct (by assumption) ?_ | refine cf (by assumption) ?_ | refine dt (by assumption) ?_ | refine df (by assumption) ?_ | refine ct rfl ?_ | refine cf (by decide) ?_ | refine dt rfl ?_ | refine df (by decide) ?_)
    unfold w_X2_isFull w_X2_isFull_E
    rw [e41, f0]
    repeat (first | refine ct (by assumption) ?_ | refine cf (by assumption) ?_ | refine dt (by assumption) ?_ | refine df (by assumption) ?_ | refine ct rfl ?_ | refine cf (by decide) ?_ | refine dt rfl ?_ | refine df (by decide) ?_)
    unfold w_X8_person_J108
    refine rfG em6 (by decide) h hK (fun σ1 hm q => ?_)
    unfold w_X9_person w_X9_person_E
    repeat (first | refine ct (by assumption) ?_ | refine cf (by assumption) ?_ | refine dt (by assumption) ?_ | refine df (by assumption) ?_ | refine ct rfl ?_ | refine cf (by decide) ?_ | refine dt rfl ?_ | refine df (by decide) ?_)
    have e3' : σ1 66 3 = 9 := by rw [(h.2.2.m hm).1.1.2.1, f0]; rfl
    repeat (first | refine ct (by assumption) ?_ | refine cf (by assumption) ?_ | refine dt (by assumption) ?_ | refine df (by assumption) ?_ | refine ct rfl ?_ | refine cf (by decide) ?_ | refine dt rfl ?_ | refine df (by decide) ?_)
    exact q
  · have hn : xn (aX A) < 9 := by omega
    have k1' := k1
    have k2' := k2
    obtain ⟨h', hh, rfl⟩ := s10 a0 a1
    obtain ⟨w', hw, rfl⟩ := s10 a2 a3
    obtain ⟨k', hk, rfl⟩ := in_of (n := 2) (by decide) ⟨k1, k2⟩
    obtain ⟨e', he, rfl⟩ := upto (m := 1440) (by decide) c0 d0
    obtain ⟨l', hl, rfl⟩ := upto (m := 1440) (by decide) c1 d1
    obtain ⟨g', hg, rfl⟩ := upto (m := 300) (by decide) c2 d2
    obtain ⟨s', hs, rfl⟩ := upto (m := 5) (by decide) (n0l c3) d3
    unfold w_X8_person w_X8_person_E
    repeat (first | refine ct (by assumption) ?_ | refine cf (by assumption) ?_ | refine dt (by assumption) ?_ | refine df (by assumption) ?_ | refine ct rfl ?_ | refine cf (by decide) ?_ | refine dt rfl ?_ | refine df (by decide) ?_)
    refine kd _ _ ?_
    repeat (first | refine ct (by assumption) ?_ | refine cf (by assumption) ?_ | refine dt (by assumption) ?_ | refine df (by assumption) ?_ | refine ct rfl ?_ | refine cf (by decide) ?_ | refine dt rfl ?_ | refine df (by decide) ?_)
    unfold w_X2_isFull w_X2_isFull_E
    rw [e41]
    refine ct (nI_lt hn (by decide)) ?_
    repeat (first | refine ct (by assumption) ?_ | refine cf (by assumption) ?_ | refine dt (by assumption) ?_ | refine df (by assumption) ?_ | refine ct rfl ?_ | refine cf (by decide) ?_ | refine dt rfl ?_ | refine df (by decide) ?_)
    intro σ7 e7
    have r7 : σ7 4 1 = nI (xn (aX A) + 1) := by rw [e7, e41, nI_1]; simp [mst]
    rw [r7, nI_pred]
    unfold w_X2_at w_X2_at_E
    rw [nI_c (by omega : xn (aX A) ≤ 1000000000)]
    refine ⟨vin hn (by decide), by omega, fun s1 t1 s2 t2 s3 t3 s4 t4 s5 t5 s6 t6 s7 t7 => ?_⟩
    have keep : ∀ k j, ¬ (k = 4 ∧ j = 1) → ¬ (k = 37 + xn (aX A) ∧ j ≤ 6) → s7 k j = σ k j := fun k j h1 h2 => by
      rw [t7, t6, t5, t4, t3, t2, t1, e7]
      simp only [mst]
      rw [if_neg (by omega), if_neg (by omega), if_neg (by omega), if_neg (by omega), if_neg (by omega), if_neg (by omega), if_neg (by omega), if_neg (by omega)]
    have hm : SmM σ s7 := fun k j hk => keep k j (by omega) (by omega)
    have hC : CS (xP (aX A) k' h' w' e' l' g' s', A.2) s7 := persC h.2.1 hn (fun k j _ h1 h2 => keep k j h1 h2) (by rw [t7, t6, t5, t4, t3, t2, t1, ← r7]; simp only [mst]; rw [if_neg (by omega), if_neg (by omega), if_neg (by omega), if_neg (by omega), if_neg (by omega), if_neg (by omega), if_neg (by omega)]) (by rw [t7, t6, t5, t4, t3, t2, t1]; simp [mst]) (by rw [t7, t6, t5, t4, t3, t2]; simp [mst]) (by rw [t7, t6, t5, t4, t3]; simp [mst]) (by rw [t7, t6, t5, t4]; simp [mst]) (by rw [t7, t6, t5]; simp [mst]) (by rw [t7, t6]; simp [mst]) (by rw [t7]; simp [mst])
    have hZ := h.2.2.m hm
    have e3 := hZ.1.1.2.1
    unfold w_X9_person w_X9_person_E
    repeat (first | refine ct (by assumption) ?_ | refine cf (by assumption) ?_ | refine dt (by assumption) ?_ | refine df (by assumption) ?_ | refine ct rfl ?_ | refine cf (by decide) ?_ | refine dt rfl ?_ | refine df (by decide) ?_)
    rw [e3]
    refine df (fun z => f0 ((nI_eq (b := 9) (by omega) (by omega)).mp z)) ?_
    intro x8 ex σ130 e130
    rw [ex, nI_c (by omega : xn (aX A) ≤ 1000000000)]
    refine ⟨vin hn (by decide), fun m1 u1 m2 u2 m3 u3 m4 u4 m5 u5 m6 u6 m7 u7 m8 u8 => ?_⟩
    rw [nI_1] at e130
    have keep2 : ∀ k j, ¬ (k = 66 ∧ (j = 3 ∨ j = 27)) → ¬ ((70 ≤ k ∧ k ≤ 76) ∧ j = xn (aX A)) → m8 k j = s7 k j := fun k j h1 h2 => by
      rw [u8, u7, u6, u5, u4, u3, u2, u1, e130]
      simp only [mst]
      rw [if_neg (by omega), if_neg (by omega), if_neg (by omega), if_neg (by omega), if_neg (by omega), if_neg (by omega), if_neg (by omega), if_neg (by omega), if_neg (by omega)]
    refine hK _ (xP (aX A) k' h' w' e' l' g' s', A.2) m8 ⟨okPe h.1 hn (by omega) hh hw he hl hg hs, hC.m (fun k j hk => keep2 k j (by omega) (by omega)), persM hZ hn (fun k j _ h1 h2 => keep2 k j h1 h2) ?_ ?_ ?_ ?_ ?_ ?_ ?_ ?_ ?_⟩
    · rw [u8, u7, u6, u5, u4, u3, u2, u1, e130]
      simp [mst]
    · rw [u8, u7, u6, u5, u4, u3, u2, u1]
      simp [mst]
    · rw [u8, u7, u6, u5, u4, u3, u2]
      simp [mst]
    · rw [u8, u7, u6, u5, u4, u3]
      simp [mst]
    · rw [u8, u7, u6, u5, u4]
      simp [mst]
    · rw [u8, u7, u6, u5]
      simp [mst]
    · rw [u8, u7, u6]
      simp [mst]
    · rw [u8, u7]
      simp [mst]
    · rw [u8]
      simp [mst]
