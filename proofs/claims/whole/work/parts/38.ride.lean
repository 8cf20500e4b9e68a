/-! ===== fits, why, way, cost, driver ===== -/
def Rel (A : AA) (σ : MS) : Prop := okA A ∧ CS A σ ∧ ZS A σ
theorem em1 : (-1 : Int32) = iI (-((1 : Nat) : Int)) := by decide
theorem em2 : (-2 : Int32) = iI (-((2 : Nat) : Int)) := by decide
theorem em3 : (-3 : Int32) = iI (-((3 : Nat) : Int)) := by decide
theorem em4 : (-4 : Int32) = iI (-((4 : Nat) : Int)) := by decide
theorem em6 : (-6 : Int32) = iI (-((6 : Nat) : Int)) := by decide
/-- both refuse alike -/
theorem both_ref {A : AA} {σ : MS} {c : Nat} (hc : c < 7) (h : Rel A σ) {K : Int32 → Int32 → MS → Prop} (hK : ∀ r A' σ', Rel A' σ' → K r r σ') {σ1 : MS} (hC : CS (refA A c) σ1) (hm : SmM σ σ1) : w_X9_refuse (iI (-c)) σ1 (fun r2 σ2 => K (iI (-c)) r2 σ2) :=
  refM hc (h.2.2.m hm) (fun σ2 g1 g2 => hK _ (refA A c) σ2 ⟨okA_ref h.1, hC.m g2, g1⟩)
theorem w_isP {X : XX} (hX : okX X) {σ : MS} (hC : MX X σ) (x : Int32) {Q : Int32 → MS → Prop} (h0 : (¬ ∃ p, p < xn X ∧ x = nI p) → Q 0 σ) (h1 : ∀ p, p < xn X → x = nI p → Q 1 σ) : w_X9_isPerson x σ Q := by
  have hn := hX.2.1
  unfold w_X9_isPerson w_X9_isPerson_E w_X9_isIn w_X9_isIn_E
  rw [hC.1.2.1]
  refine ⟨fun h => ⟨Or.inl rfl, h0 ?_⟩, fun h => ⟨fun h2 => ⟨Or.inl rfl, h0 ?_⟩, fun h2 => ⟨Or.inr rfl, ?_⟩⟩⟩
  · rintro ⟨p, hp, rfl⟩
    exact nI_pos (by omega) h
  · rintro ⟨p, hp, rfl⟩
    exact absurd ((nI_leI (by omega) (by omega)).mp h2) (by omega)
  · obtain ⟨j, hj, rfl⟩ := nI_of h
    have : j < xn X := by
      rcases Nat.lt_or_ge j (xn X) with q | q
      · exact q
      · exact absurd (nI_le q hj) h2
    exact h1 j this rfl
def Gd (X : XX) (x1 x2 : Int32) : Prop := ∃ S d, okS X S ∧ S.testBit d = true ∧ x1 = nI S ∧ x2 = nI d
theorem w_wrC {X : XX} (hX : okX X) {aw : Nat → Nat} {σ : MS} (hC : CX X σ) (hA : CA aw σ) (x1 x2 : Int32) {Q : Int32 → MS → Prop} (h1 : ¬ Gd X x1 x2 → Q (-1) σ) (h3 : ∀ S d, okS X S → S.testBit d = true → x1 = nI S → x2 = nI d → dif S (pres aw (xn X)) ≠ 0 → Q (-3) σ) (h0 : ∀ S d, okS X S → S.testBit d = true → x1 = nI S → x2 = nI d → dif S (pres aw (xn X)) = 0 → Q 0 σ) : w_X8_wrongRide x1 x2 σ Q := by
  have hn := hX.2.1
  unfold w_X8_wrongRide w_X8_wrongRide_E
  refine w_has hX hC x2 (fun h => ⟨fun _ => h1 ?_, fun z => absurd rfl z⟩) (fun d hd e => ⟨fun z => absurd z (by decide), fun _ => ?_⟩)
  · rintro ⟨S, d, hS, hb, -, e⟩
    exact h ⟨d, bits_lt hS.1 hb, e⟩
  · subst e
    unfold w_X8_contains w_X8_contains_E
    refine ⟨fun hb => ⟨fun z => absurd rfl z, fun _ => h1 ?_⟩, fun hb => ⟨fun _ => ?_, fun z => absurd z (by decide)⟩⟩
    · rintro ⟨S, d2, hS, hb2, e1, e2⟩
      have h9 := okS_9 hX hS.1
      have hd2 := bits_lt hS.1 hb2
      have e3 : d = d2 := (nI_eq (by omega) (by omega)).mp e2
      subst e3
      rw [e1, nI_bit0 (by omega) (by omega), hb2] at hb
      cases hb
    · refine w_wsC hX hC hA x1 (fun h => h1 ?_) (fun S hS e g => ?_) (fun S hS e g => ?_)
      · rintro ⟨S, d2, hS, hb2, e1, e2⟩
        exact h S hS e1
      · have h9 := okS_9 hX hS.1
        rw [e] at hb
        exact h3 S d hS (nb0 (by omega) (by omega) hb) e rfl g
      · have h9 := okS_9 hX hS.1
        rw [e] at hb
        exact h0 S d hS (nb0 (by omega) (by omega) hb) e rfl g
theorem w_wrM {X : XX} (hX : okX X) {aw : Nat → Nat} {σ : MS} (hC : MX X σ) (hA : MA aw σ) (x1 x2 : Int32) {Q : Int32 → MS → Prop} (h1 : ¬ Gd X x1 x2 → Q (-1) σ) (h3 : ∀ S d, okS X S → S.testBit d = true → x1 = nI S → x2 = nI d → dif S (pres aw (xn X)) ≠ 0 → Q (-3) σ) (h0 : ∀ S d, okS X S → S.testBit d = true → x1 = nI S → x2 = nI d → dif S (pres aw (xn X)) = 0 → Q 0 σ) : w_X9_wrong x1 x2 σ Q := by
  have hn := hX.2.1
  unfold w_X9_wrong w_X9_wrong_E
  refine w_isSet hX hC x1 (fun h => ⟨fun _ => h1 ?_, fun z => absurd rfl z⟩) (fun S hS e => ⟨fun z => absurd z (by decide), fun _ => ?_⟩)
  · rintro ⟨S, d, hS, hb, e, -⟩
    exact h S hS e
  · have h9 := okS_9 hX hS.1
    subst e
    refine w_isP hX hC x2 (fun h => ⟨fun _ => h1 ?_, fun z => absurd rfl z⟩) (fun d hd e => ⟨fun z => absurd z (by decide), fun _ => ?_⟩)
    · rintro ⟨T, d, hT, hb, -, e⟩
      exact h ⟨d, bits_lt hT.1 hb, e⟩
    · subst e
      refine ⟨fun hb => ?_, fun hb => h1 ?_⟩
      · have hb := nb0 (by omega) (by omega) hb
        exact w_hasA hX hC hA hS.1 (fun g => ⟨fun _ => h0 S d hS hb rfl rfl g, fun z => absurd rfl z⟩) (fun g => ⟨fun z => absurd z (by decide), fun _ => h3 S d hS hb rfl rfl g⟩)
      · rintro ⟨T, d2, hT, hb2, e1, e2⟩
        have h9T := okS_9 hX hT.1
        have hd2 := bits_lt hT.1 hb2
        have e3 : d = d2 := (nI_eq (by omega) (by omega)).mp e2
        have e4 : S = T := (nI_eq (by omega) (by omega)).mp e1
        subst e3 e4
        rw [nI_bit0 (by omega) (by omega), hb2] at hb
        cases hb
theorem CS.frC {A : AA} {σ σ' : MS} (h : FrC σ σ') (c : CS A σ) : CS A σ' := c.fr (fun k j _ hk => h k j (by omega)) (fun S hS => by rw [h 28 S (by omega), h 29 S (by omega)]; exact c.2.2.1 S hS)
theorem MK.frM {X : XX} {aw : Nat → Nat} {σ σ' : MS} (h : FrM σ σ') (c : MK X aw σ) : MK X aw σ' := by
  rcases c with g | ⟨g1, g2⟩
  · exact Or.inl (by rw [h 66 27 (by omega)]; exact g)
  · refine Or.inr ⟨by rw [h 66 27 (by omega)]; exact g1, fun S a1 a2 => ?_⟩
    have := g2 S a1 a2
    unfold mrow at this ⊢
    rw [h 89 S (by omega), h 90 S (by omega), h 91 S (by omega)]
    exact this
theorem ZS.frM {A : AA} {σ σ' : MS} (h : FrM σ σ') (c : ZS A σ) : ZS A σ' := c.fr (fun k j _ hk => h k j (by omega)) (c.2.2.1.frM h)
theorem why5 (X : XX) (S d : Nat) : whyS X S d ≤ 4 := by
  unfold whyS
  split
  · omega
  · split
    · omega
    · split
      · omega
      · split <;> omega
theorem nsd {X : XX} (hX : okX X) {x1 x2 : Int32} {S d T e : Nat} (hS : okS X S) (hd : S.testBit d = true) (hT : okS X T) (he : T.testBit e = true) (e1 : x1 = nI S) (e2 : x2 = nI d) (e3 : x1 = nI T) (e4 : x2 = nI e) : T = S ∧ e = d := by
  have h1 := okS_9 hX hS.1
  have h2 := okS_9 hX hT.1
  have h3 := bits_lt (n := 9) h1 hd
  have h4 := bits_lt (n := 9) h2 he
  exact ⟨(nI_eq (by omega) (by omega)).mp (e3.symm.trans e1), (nI_eq (by omega) (by omega)).mp (e4.symm.trans e2)⟩
/-- a ride that is asked for: refused alike, or a set and a driver for both -/
theorem ride2 {A : AA} {σ : MS} (h : Rel A σ) (x1 x2 : Int32) {K : Int32 → Int32 → MS → Prop} (hK : ∀ r A' σ', Rel A' σ' → K r r σ') {QC : Int32 → MS → Prop} {QM : Int32 → Int32 → MS → Prop}
    (hC : ∀ S d, okS (aX A) S → S.testBit d = true → x1 = nI S → x2 = nI d → QC 0 σ)
    (hC1 : ∀ r, r = -1 ∨ r = -3 → (∀ r1 σ1, QM r r1 σ1 → QM r r1 σ1) → w_X8_refuse r σ (fun r1 σ1 => QM r r1 σ1) → QC r σ)
    (hM : ∀ r1 σ1, SmM σ σ1 → CS (refA A 1) σ1 → ¬ Gd (aX A) x1 x2 → r1 = -1 → QM (-1) r1 σ1)
    (hM3 : ∀ r1 σ1 S d, SmM σ σ1 → CS (refA A 3) σ1 → okS (aX A) S → S.testBit d = true → x1 = nI S → x2 = nI d → dif S (pres (aW A) (xn (aX A))) ≠ 0 → r1 = -3 → QM (-3) r1 σ1)
    (hC0 : ∀ S d, okS (aX A) S → S.testBit d = true → x1 = nI S → x2 = nI d → dif S (pres (aW A) (xn (aX A))) = 0 → QC 0 σ) : w_X8_wrongRide x1 x2 σ QC := by
  refine w_wrC h.1.1 h.2.1.1 h.2.1.2.1 x1 x2 (fun g => ?_) (fun S d hS hd e1 e2 g => ?_) (fun S d hS hd e1 e2 g => hC0 S d hS hd e1 e2 g)
  · refine hC1 (-1) (Or.inl rfl) (fun _ _ q => q) ?_
    rw [em1]
    exact refC (by decide) h.2.1 (fun σ1 g1 g2 => by rw [← em1]; exact hM _ σ1 g2 g1 g rfl)
  · refine hC1 (-3) (Or.inr rfl) (fun _ _ q => q) ?_
    rw [em3]
    exact refC (by decide) h.2.1 (fun σ1 g1 g2 => by rw [← em3]; exact hM3 _ σ1 S d g2 g1 hS hd e1 e2 g rfl)
theorem refM1 {A : AA} {σ : MS} (h : Rel A σ) {x1 x2 : Int32} (hG : ¬ Gd (aX A) x1 x2) {K : Int32 → Int32 → MS → Prop} (hK : ∀ r A' σ', Rel A' σ' → K r r σ') {σ1 : MS} (hm : SmM σ σ1) (hC : CS (refA A 1) σ1) {Q : Int32 → MS → Prop} (hQ : w_X9_refuse (-1) σ1 (fun r2 σ2 => K (-1) r2 σ2) → Q (-1) σ1) : w_X9_wrong x1 x2 σ1 Q := by
  have hZ := h.2.2.m hm
  refine w_wrM h.1.1 hZ.1 hZ.2.1 x1 x2 (fun _ => hQ ?_) (fun S d hS hd e1 e2 _ => absurd ⟨S, d, hS, hd, e1, e2⟩ hG) (fun S d hS hd e1 e2 _ => absurd ⟨S, d, hS, hd, e1, e2⟩ hG)
  have := both_ref (c := 1) (by decide) h hK hC hm
  rw [← em1] at this
  exact this
theorem refM3 {A : AA} {σ : MS} (h : Rel A σ) {x1 x2 : Int32} {S d : Nat} (hS : okS (aX A) S) (hd : S.testBit d = true) (e1 : x1 = nI S) (e2 : x2 = nI d) (hg : dif S (pres (aW A) (xn (aX A))) ≠ 0) {K : Int32 → Int32 → MS → Prop} (hK : ∀ r A' σ', Rel A' σ' → K r r σ') {σ1 : MS} (hm : SmM σ σ1) (hC : CS (refA A 3) σ1) {Q : Int32 → MS → Prop} (hQ : w_X9_refuse (-3) σ1 (fun r2 σ2 => K (-3) r2 σ2) → Q (-3) σ1) : w_X9_wrong x1 x2 σ1 Q := by
  have hZ := h.2.2.m hm
  refine w_wrM h.1.1 hZ.1 hZ.2.1 x1 x2 (fun z => absurd ⟨S, d, hS, hd, e1, e2⟩ z) (fun T e hT he f1 f2 g => hQ ?_) (fun T e hT he f1 f2 g => ?_)
  · have := both_ref (c := 3) (by decide) h hK hC hm
    rw [← em3] at this
    exact this
  · rw [(nsd h.1.1 hS hd hT he e1 e2 f1 f2).1] at g
    exact absurd g hg
theorem okM0 {A : AA} {σ : MS} (h : Rel A σ) {x1 x2 : Int32} {S d : Nat} (hS : okS (aX A) S) (hd : S.testBit d = true) (e1 : x1 = nI S) (e2 : x2 = nI d) (hg : dif S (pres (aW A) (xn (aX A))) = 0) {σ1 : MS} (hm : SmM σ σ1) {Q : Int32 → MS → Prop} (hQ : Q 0 σ1) : w_X9_wrong x1 x2 σ1 Q := by
  have hZ := h.2.2.m hm
  refine w_wrM h.1.1 hZ.1 hZ.2.1 x1 x2 (fun z => absurd ⟨S, d, hS, hd, e1, e2⟩ z) (fun T e hT he f1 f2 g => ?_) (fun T e hT he f1 f2 g => hQ)
  rw [(nsd h.1.1 hS hd hT he e1 e2 f1 f2).1] at g
  exact absurd hg g
theorem w0 {X : XX} {S d : Nat} (h : nI (whyS X S d) = 0) : whyS X S d = 0 := (nI_eq (b := 0) (by have := why5 X S d; omega) (by omega)).mp h
theorem w1 {X : XX} {S d : Nat} (h : ¬ nI (whyS X S d) = 0) : whyS X S d ≠ 0 := fun e => h (by rw [e]; rfl)
theorem L_why {A : AA} {σ : MS} (h : Rel A σ) (x1 x2 : Int32) {K : Int32 → Int32 → MS → Prop} (hK : ∀ r A' σ', Rel A' σ' → K r r σ') : w_X8_why x1 x2 σ (fun r1 σ1 => w_X9_why x1 x2 σ1 (fun r2 σ2 => K r1 r2 σ2)) := by
  unfold w_X8_why w_X8_why_E w_X9_why w_X9_why_E
  refine w_wrC h.1.1 h.2.1.1 h.2.1.2.1 x1 x2 (fun g => ⟨fun z => absurd z (by decide), fun _ => ?_⟩) (fun S d hS hd e1 e2 g => ⟨fun z => absurd z (by decide), fun _ => ?_⟩) (fun S d hS hd e1 e2 g => ⟨fun _ => ?_, fun z => absurd rfl z⟩)
  · rw [em1]
    refine refC (by decide) h.2.1 (fun σ1 g1 g2 => ?_)
    rw [← em1]
    exact refM1 h g hK g2 g1 (fun q => ⟨fun z => absurd z (by decide), fun _ => q⟩)
  · rw [em3]
    refine refC (by decide) h.2.1 (fun σ1 g1 g2 => ?_)
    rw [← em3]
    exact refM3 h hS hd e1 e2 g hK g2 g1 (fun q => ⟨fun z => absurd z (by decide), fun _ => q⟩)
  · subst e1 e2
    refine reason_ok h.1.1 h.2.1.1 hS hd (fun σ1 hF hB => ?_)
    refine okM0 h hS hd rfl rfl g hF.m ⟨fun _ => ?_, fun z => absurd rfl z⟩
    have hZ := h.2.2.m hF.m
    refine whyNot_ok h.1.1 hZ.1 hS hd (fun σ2 hF2 hB2 => hK _ A σ2 ⟨h.1, (h.2.1.frC hF).m hF2.c, hZ.frM hF2⟩)
theorem L_fits {A : AA} {σ : MS} (h : Rel A σ) (x1 x2 : Int32) {K : Int32 → Int32 → MS → Prop} (hK : ∀ r A' σ', Rel A' σ' → K r r σ') : w_X8_fits x1 x2 σ (fun r1 σ1 => w_X9_fits x1 x2 σ1 (fun r2 σ2 => K r1 r2 σ2)) := by
  unfold w_X8_fits w_X8_fits_E w_X9_fits w_X9_fits_E
  refine w_wrC h.1.1 h.2.1.1 h.2.1.2.1 x1 x2 (fun g => ⟨fun z => absurd z (by decide), fun _ => ?_⟩) (fun S d hS hd e1 e2 g => ⟨fun z => absurd z (by decide), fun _ => ?_⟩) (fun S d hS hd e1 e2 g => ⟨fun _ => ?_, fun z => absurd rfl z⟩)
  · rw [em1]
    refine refC (by decide) h.2.1 (fun σ1 g1 g2 => ?_)
    rw [← em1]
    exact refM1 h g hK g2 g1 (fun q => ⟨fun z => absurd z (by decide), fun _ => q⟩)
  · rw [em3]
    refine refC (by decide) h.2.1 (fun σ1 g1 g2 => ?_)
    rw [← em3]
    exact refM3 h hS hd e1 e2 g hK g2 g1 (fun q => ⟨fun z => absurd z (by decide), fun _ => q⟩)
  · subst e1 e2
    have hd9 := bits_lt (n := 9) (okS_9 h.1.1 hS.1) hd
    refine reason_ok h.1.1 h.2.1.1 hS hd (fun σ1 hF hB => ?_)
    have hZ := h.2.2.m hF.m
    have model : ∀ r, (whyS (aX A) S d ≠ 0 → r = -9) → (whyS (aX A) S d = 0 → r = iI (tb (aX A) S d)) → w_X9_wrong (nI S) (nI d) σ1 (fun r3 σ3 => ((r3 = 0 → w_X9_whyNot (nI S) (nI d) σ3 (fun r20 σ20 => ((¬ r20 = 0 → K r (-9) σ20) ∧ (r20 = 0 → K r (σ20 66 25) σ20)))) ∧ (¬ r3 = 0 → w_X9_refuse r3 σ3 (fun r13 σ13 => K r r13 σ13)))) := by
      intro r hr1 hr2
      refine okM0 h hS hd rfl rfl g hF.m ⟨fun _ => ?_, fun z => absurd rfl z⟩
      refine whyNot_ok h.1.1 hZ.1 hS hd (fun σ2 hF2 hB2 => ?_)
      have hR : Rel A σ2 := ⟨h.1, (h.2.1.frC hF).m hF2.c, hZ.frM hF2⟩
      refine ⟨fun z => ?_, fun z => ?_⟩
      · rw [hr1 (w1 z)]
        exact hK _ A σ2 hR
      · have hw := w0 z
        obtain ⟨ht, q, hq1, hq2⟩ := tb_ok h.1.1 hd9 hw
        have h25 := (hB2 hw).1.2.1
        rw [hq1] at h25
        have h25 : σ2 66 25 = iI (tb (aX A) S d) := by rw [← hq2]; exact h25
        rw [hr2 hw, h25]
        exact hK _ A σ2 hR
    refine ⟨fun z => ?_, fun z => ?_⟩
    · exact model (-9) (fun _ => rfl) (fun e => absurd e (w1 z))
    · unfold w_X7_found w_X7_found_E
      refine ⟨rfl, ?_⟩
      have hw := w0 z
      exact model _ (fun e => absurd hw e) (fun _ => (hB hw).2.1)
theorem w_in {x y : Int32} {σ : MS} {Q : Int32 → MS → Prop} (h0 : ¬ (¬ x < 0 ∧ ¬ y ≤ x) → Q 0 σ) (h1 : (¬ x < 0 ∧ ¬ y ≤ x) → Q 1 σ) : w_X9_isIn x y σ Q := by
  unfold w_X9_isIn w_X9_isIn_E
  exact ⟨fun h => h0 (fun z => z.1 h), fun h => ⟨fun h2 => h0 (fun z => z.2 h2), fun h2 => h1 ⟨h, h2⟩⟩⟩
theorem in_of {x : Int32} {n : Nat} (hn : n < 2 ^ 31) (h : ¬ x < 0 ∧ ¬ nI n ≤ x) : ∃ j, j < n ∧ x = nI j := by
  obtain ⟨j, hj, rfl⟩ := nI_of h.1
  refine ⟨j, ?_, rfl⟩
  rcases Nat.lt_or_ge j n with q | q
  · exact q
  · exact absurd (nI_le q hj) h.2
theorem xsub {x : Int32} {j k : Nat} (h : x - nI k = nI j) : x = nI (k + j) := by
  have : x = (x - nI k) + nI k := by rw [Int32.sub_add_cancel]
  rw [this, h, nI_add, Nat.add_comm]
