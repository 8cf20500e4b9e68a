/-! ===== least, minutes ===== -/
theorem ct {p A B : Prop} (h : p) (a : A) : (p → A) ∧ (¬ p → B) := ⟨fun _ => a, fun z => absurd h z⟩
theorem cf {p A B : Prop} (h : ¬ p) (b : B) : (p → A) ∧ (¬ p → B) := ⟨fun z => absurd z h, fun _ => b⟩
theorem dt {p A B : Prop} (h : p) (b : B) : (¬ p → A) ∧ (p → B) := ⟨fun z => absurd h z, fun _ => b⟩
theorem df {p A B : Prop} (h : ¬ p) (a : A) : (¬ p → A) ∧ (p → B) := ⟨fun _ => a, fun z => absurd z h⟩
/-- both refuse -/
theorem rfG {A : AA} {σ : MS} {c : Nat} {x : Int32} (e : x = iI (-(c : Int))) (hc : c < 7) (h : Rel A σ) {K : Int32 → Int32 → MS → Prop} (hK : ∀ r A' σ', Rel A' σ' → K r r σ') {W : Int32 → MS → Prop} (hW : ∀ σ1, SmM σ σ1 → w_X9_refuse x σ1 (fun r2 σ2 => K x r2 σ2) → W x σ1) : w_X8_refuse x σ W := by
  subst e
  exact refC hc h.2.1 (fun σ1 g1 g2 => hW σ1 g2 (both_ref hc h hK g1 g2))
theorem s10 {x : Int32} (h0 : ¬ x < 0) (h1 : ¬ 10 ≤ x) : ∃ a, a < 10 ∧ x = nI a := in_of (n := 10) (by decide) ⟨h0, h1⟩
theorem ten {a b : Nat} : (10 : Int32) * nI a + nI b = nI (10 * a + b) := by
  rw [show (10 : Int32) = nI 10 from rfl, pk_mul, nI_add]
theorem L_least {A : AA} {σ : MS} (h : Rel A σ) (x1 x2 : Int32) {K : Int32 → Int32 → MS → Prop} (hK : ∀ r A' σ', Rel A' σ' → K r r σ') : w_X8_least x1 x2 σ (fun r1 σ1 => w_X9_least x1 x2 σ1 (fun r2 σ2 => K r1 r2 σ2)) := by
  refine ⟨fun a1 => ?_, fun a1 => ⟨fun a2 => ?_, fun a2 => ?_⟩⟩
  · repeat (first | refine ct (by assumption) ?_ | refine cf (by assumption) ?_ | refine dt (by assumption) ?_ | refine df (by assumption) ?_ | refine ct rfl ?_ | refine cf (by decide) ?_ | refine dt rfl ?_ | refine df (by decide) ?_)
    unfold w_X8_least_J14; refine rfG em1 (by decide) h hK (fun σ1 hm q => ?_)
    repeat (first | refine ct (by assumption) ?_ | refine cf (by assumption) ?_ | refine dt (by assumption) ?_ | refine df (by assumption) ?_ | refine ct rfl ?_ | refine cf (by decide) ?_ | refine dt rfl ?_ | refine df (by decide) ?_)
    exact q
  · repeat (first | refine ct (by assumption) ?_ | refine cf (by assumption) ?_ | refine dt (by assumption) ?_ | refine df (by assumption) ?_ | refine ct rfl ?_ | refine cf (by decide) ?_ | refine dt rfl ?_ | refine df (by decide) ?_)
    unfold w_X8_least_J14; refine rfG em1 (by decide) h hK (fun σ1 hm q => ?_)
    repeat (first | refine ct (by assumption) ?_ | refine cf (by assumption) ?_ | refine dt (by assumption) ?_ | refine df (by assumption) ?_ | refine ct rfl ?_ | refine cf (by decide) ?_ | refine dt rfl ?_ | refine df (by decide) ?_)
    exact q
  · repeat (first | refine ct (by assumption) ?_ | refine cf (by assumption) ?_ | refine dt (by assumption) ?_ | refine df (by assumption) ?_ | refine ct rfl ?_ | refine cf (by decide) ?_ | refine dt rfl ?_ | refine df (by decide) ?_)
    refine ⟨fun a3 => ?_, fun a3 => ⟨fun a4 => ?_, fun a4 => ?_⟩⟩
    · repeat (first | refine ct (by assumption) ?_ | refine cf (by assumption) ?_ | refine dt (by assumption) ?_ | refine df (by assumption) ?_ | refine ct rfl ?_ | refine cf (by decide) ?_ | refine dt rfl ?_ | refine df (by decide) ?_)
      unfold w_X8_least_J14; refine rfG em1 (by decide) h hK (fun σ1 hm q => ?_)
      repeat (first | refine ct (by assumption) ?_ | refine cf (by assumption) ?_ | refine dt (by assumption) ?_ | refine df (by assumption) ?_ | refine ct rfl ?_ | refine cf (by decide) ?_ | refine dt rfl ?_ | refine df (by decide) ?_)
      exact q
    · repeat (first | refine ct (by assumption) ?_ | refine cf (by assumption) ?_ | refine dt (by assumption) ?_ | refine df (by assumption) ?_ | refine ct rfl ?_ | refine cf (by decide) ?_ | refine dt rfl ?_ | refine df (by decide) ?_)
      unfold w_X8_least_J14; refine rfG em1 (by decide) h hK (fun σ1 hm q => ?_)
      repeat (first | refine ct (by assumption) ?_ | refine cf (by assumption) ?_ | refine dt (by assumption) ?_ | refine df (by assumption) ?_ | refine ct rfl ?_ | refine cf (by decide) ?_ | refine dt rfl ?_ | refine df (by decide) ?_)
      exact q
    · repeat (first | refine ct (by assumption) ?_ | refine cf (by assumption) ?_ | refine dt (by assumption) ?_ | refine df (by assumption) ?_ | refine ct rfl ?_ | refine cf (by decide) ?_ | refine dt rfl ?_ | refine df (by decide) ?_)
      obtain ⟨a, ha, rfl⟩ := s10 a1 a2
      obtain ⟨b, hb, rfl⟩ := s10 a3 a4
      have e1 := h.2.1.1.2.2 a b ha hb
      have e2 := h.2.2.1.1.2.2.2 a b ha hb
      unfold w_X5_shortest w_X5_shortest_E
      rw [nI_c (by omega : a ≤ 1000000000), nI_c (by omega : b ≤ 1000000000), e1]
      refine ⟨vin ha (by decide), by omega, vin hb (by decide), ?_⟩
      repeat (first | refine ct (by assumption) ?_ | refine cf (by assumption) ?_ | refine dt (by assumption) ?_ | refine df (by assumption) ?_ | refine ct rfl ?_ | refine cf (by decide) ?_ | refine dt rfl ?_ | refine df (by decide) ?_)
      unfold w_X9_leastOf w_X9_leastOf_E
      rw [ten, nI_c (by omega : 10 * a + b ≤ 1000000000), e2]
      exact ⟨vin (by omega) (by decide), hK _ A σ h⟩
