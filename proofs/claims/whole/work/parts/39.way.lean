/-! ===== way, cost, driver ===== -/
theorem ge2 {x : Int32} {k n : Nat} (hk : k ≤ 12) (hn : n ≤ 4) (h1 : ¬ x < nI k) (h2 : ¬ nI k + nI n ≤ x) : ∃ j, j < n ∧ x = nI (k + j) := by
  rw [nI_add] at h2
  have h0 : ¬ x < 0 := fun z => h1 (by
    rw [Int32.lt_iff_toInt_lt] at z ⊢
    rw [nI_toInt (by omega)]
    have : (0 : Int32).toInt = 0 := rfl
    omega)
  obtain ⟨m, hm, rfl⟩ := nI_of h0
  have g1 : k ≤ m := by
    rcases Nat.lt_or_ge m k with q | q
    · exact absurd (nI_lt q (by omega)) h1
    · exact q
  have g2 : m < k + n := by
    rcases Nat.lt_or_ge m (k + n) with q | q
    · exact q
    · exact absurd (nI_le q hm) h2
  exact ⟨m - k, by omega, by congr 1; omega⟩
theorem tellC {S : Nat} (h4 : popc S ≤ 4) {r : Int × Int × List Nat × List Nat × (Nat → Int) × (Nat → Int)} {σ1 : MS} (hB : CB (rmD S 0 9) σ1 (some r)) {x : Int32} {Q : Int32 → MS → Prop} (h0 : x = 0 → Q (iI r.2.1) σ1) (h1 : x = 1 → Q (iI r.2.1 + iI r.1) σ1) (h2 : ∀ j, j < popc S → x = nI (2 + j) → Q (nI (r.2.2.1.getD j 0)) σ1) (h3 : ∀ j, j < popc S → x = nI (12 + j) → Q (nI (r.2.2.2.1.getD j 0)) σ1) (h9 : x ≠ 0 → x ≠ 1 → (∀ j, j < popc S → x ≠ nI (2 + j)) → (∀ j, j < popc S → x ≠ nI (12 + j)) → Q (-9) σ1) : w_X6_tell x σ1 Q := by
  obtain ⟨ht, h86, hr⟩ := hB
  obtain ⟨g1, g2, g3, g4, g5⟩ := hr r rfl
  have hl : (rmD S 0 9).length = popc S := rfl
  rw [hl] at g3 g4 g5
  unfold w_X6_tell w_X6_tell_E
  rw [g2, h86, g3]
  have j53 : x ≠ 0 → x ≠ 1 → (∀ j, j < popc S → x ≠ nI (2 + j)) → w_X6_tell_J53 Q x σ1 := by
    intro a0 a1 a2
    unfold w_X6_tell_J53
    rw [g3]
    refine ⟨fun z => h9 a0 a1 a2 (fun j hj e => ?_), fun z => ⟨fun y => h9 a0 a1 a2 (fun j hj e => ?_), fun y => ?_⟩⟩
    · rw [e] at z
      have := (nI_ltI (b := 12) (by omega) (by omega)).mp z
      omega
    · rw [e, show (12 : Int32) = nI 12 from rfl, nI_add] at y
      have := (nI_leI (by omega) (by omega)).mp y
      omega
    · obtain ⟨j, hj, e⟩ := ge2 (k := 12) (by omega) h4 z y
      have ex : x - 12 = nI j := by
        rw [e, show (12 : Int32) = nI 12 from rfl, pk_sub (by omega)]
        congr 1
        omega
      obtain ⟨i, hi, b1, b2⟩ := (g4 j hj).2
      rw [ex, nI_c (by omega : j ≤ 1000000000), b1, nI_c (by omega : i ≤ 1000000000), (g5 i hi).1, b2]
      exact ⟨vin (by omega) (by omega), vin (by omega) (by omega), h3 j hj e⟩
  refine ⟨fun a0 => ⟨fun a1 => ⟨fun z => j53 a0 a1 (fun j hj e => ?_), fun z => ⟨fun y => j53 a0 a1 (fun j hj e => ?_), fun y => ?_⟩⟩, fun e => h1 e⟩, fun e => h0 e⟩
  · rw [e] at z
    have := (nI_ltI (b := 2) (by omega) (by omega)).mp z
    omega
  · rw [e, show (2 : Int32) = nI 2 from rfl, nI_add] at y
    have := (nI_leI (by omega) (by omega)).mp y
    omega
  · obtain ⟨j, hj, e⟩ := ge2 (k := 2) (by omega) h4 z y
    have ex : x - 2 = nI j := by
      rw [e, show (2 : Int32) = nI 2 from rfl, pk_sub (by omega)]
      congr 1
      omega
    obtain ⟨i, hi, b1, b2⟩ := (g4 j hj).1
    rw [ex, nI_c (by omega : j ≤ 1000000000), b1, nI_c (by omega : i ≤ 1000000000), (g5 i hi).1, b2]
    exact ⟨vin (by omega) (by omega), vin (by omega) (by omega), h2 j hj e⟩
theorem tellM {S : Nat} (h4 : popc S ≤ 4) {r : Int × Int × List Nat × List Nat × (Nat → Int) × (Nat → Int)} {σ2 : MS} (hB : MB (rmD S 0 9) σ2 (some r)) (h24 : σ2 66 24 = nI (popc S)) {x : Int32} {K : Int32 → MS → Prop} (h0 : x = 0 → K (iI r.2.1) σ2) (h1 : x = 1 → K (iI r.2.1 + iI r.1) σ2) (h2 : ∀ j, j < popc S → x = nI (2 + j) → K (nI (r.2.2.1.getD j 0)) σ2) (h3 : ∀ j, j < popc S → x = nI (12 + j) → K (nI (r.2.2.2.1.getD j 0)) σ2) (h9 : x ≠ 0 → x ≠ 1 → (∀ j, j < popc S → x ≠ nI (2 + j)) → (∀ j, j < popc S → x ≠ nI (12 + j)) → K (-9) σ2) :
    ((¬ x = 0 → ((¬ x = 1 → w_X9_isIn (x - 2) (σ2 66 24) σ2 (fun r63 σ63 => ((r63 = 0 → ((x ≤ 11 → K (-9) σ63) ∧ (¬ x ≤ 11 → w_X9_isIn (x - 12) (σ63 66 24) σ63 (fun r92 σ92 => ((r92 = 0 → K (-9) σ92) ∧ (¬ r92 = 0 → ((vp_in (x - 12) 5) ∧ K (σ92 86 (x - 12).toNatClampNeg) σ92))))))) ∧ (¬ r63 = 0 → ((vp_in (x - 2) 5) ∧ K (σ63 85 (x - 2).toNatClampNeg) σ63))))) ∧ (x = 1 → K ((σ2 66 26) + (σ2 66 25)) σ2))) ∧ (x = 0 → K (σ2 66 26) σ2)) := by
  obtain ⟨ht, h25, hr⟩ := hB
  obtain ⟨g1, g2, g4, g5⟩ := hr r rfl
  have hl : (rmD S 0 9).length = popc S := rfl
  rw [hl] at g4
  have h25 : σ2 66 25 = iI r.1 := h25
  rw [g2, h25, h24]
  have two : ∀ {k j : Nat}, k ≤ 12 → j < popc S → x = nI (k + j) → (¬ x - nI k < 0 ∧ ¬ nI (popc S) ≤ x - nI k) := fun hk hj e => by
    rw [e, pk_sub (by omega), Nat.add_sub_cancel_left]
    exact ⟨nI_pos (by omega), nI_ge hj (by omega)⟩
  refine ⟨fun a0 => ⟨fun a1 => ?_, fun e => h1 e⟩, fun e => h0 e⟩
  refine w_in (fun z => ⟨fun _ => ⟨fun y => h9 a0 a1 (fun j hj e => z (two (k := 2) (by omega) hj e)) (fun j hj e => ?_), fun y => ?_⟩, fun q => absurd rfl q⟩) (fun z => ⟨fun q => absurd q (by decide), fun _ => ?_⟩)
  · rw [e] at y
    have := (nI_leI (b := 11) (by omega) (by omega)).mp y
    omega
  · rw [h24]
    refine w_in (fun z2 => ⟨fun _ => h9 a0 a1 (fun j hj e => z (two (k := 2) (by omega) hj e)) (fun j hj e => z2 (two (k := 12) (by omega) hj e)), fun q => absurd rfl q⟩) (fun z2 => ⟨fun q => absurd q (by decide), fun _ => ?_⟩)
    obtain ⟨j, hj, e⟩ := in_of (by have := popc_le S; omega) z2
    rw [e, nI_c (by omega : j ≤ 1000000000), (g4 j hj).2]
    exact ⟨vin (by omega) (by omega), h3 j hj (xsub (k := 12) e)⟩
  · obtain ⟨j, hj, e⟩ := in_of (by have := popc_le S; omega) z
    rw [e, nI_c (by omega : j ≤ 1000000000), (g4 j hj).1]
    exact ⟨vin (by omega) (by omega), h2 j hj (xsub (k := 2) e)⟩
theorem L_way {A : AA} {σ : MS} (h : Rel A σ) (x1 x2 x3 : Int32) {K : Int32 → Int32 → MS → Prop} (hK : ∀ r A' σ', Rel A' σ' → K r r σ') : w_X8_way x1 x2 x3 σ (fun r1 σ1 => w_X9_way x1 x2 x3 σ1 (fun r2 σ2 => K r1 r2 σ2)) := by
  unfold w_X8_way w_X8_way_E w_X9_way w_X9_way_E
  refine w_wrC h.1.1 h.2.1.1 h.2.1.2.1 x1 x2 (fun g => ⟨fun z => absurd z (by decide), fun _ => ?_⟩) (fun S d hS hd e1 e2 g => ⟨fun z => absurd z (by decide), fun _ => ?_⟩) (fun S d hS hd e1 e2 g => ⟨fun _ => ?_, fun z => absurd rfl z⟩)
  · rw [em1]
    refine refC (by decide) h.2.1 (fun σ1 g1 g2 => ?_)
    rw [← em1]
    exact refM1 h g hK g2 g1 (fun q => ⟨fun z => absurd z (by decide), fun _ => q⟩)
  · rw [em3]
    refine refC (by decide) h.2.1 (fun σ1 g1 g2 => ?_)
    rw [← em3]
    exact refM3 h hS hd e1 e2 g hK g2 g1 (fun q => ⟨fun z => absurd z (by decide), fun _ => q⟩)
  · subst e1 e2
    have hd9 := bits_lt (n := 9) (okS_9 h.1.1 hS.1) hd
    have h4 := hS.2.2
    refine reason_ok h.1.1 h.2.1.1 hS hd (fun σ1 hF hB => ?_)
    have hZ := h.2.2.m hF.m
    refine ⟨fun z => ?_, fun z => ?_⟩
    · unfold w_X7_found w_X7_found_E
      refine ⟨rfl, ?_⟩
      have hw := w0 z
      obtain ⟨ht, q, hq1, hq2⟩ := tb_ok h.1.1 hd9 hw
      have hB := hB hw
      rw [hq1] at hB
      -- the reference, for the answer that is due
      have model : ∀ r, (∀ σ2, Rel A σ2 → MB (rmD S 0 9) σ2 (some q) → σ2 66 24 = nI (popc S) → ((¬ x3 = 0 → ((¬ x3 = 1 → w_X9_isIn (x3 - 2) (σ2 66 24) σ2 (fun r63 σ63 => ((r63 = 0 → ((x3 ≤ 11 → K r (-9) σ63) ∧ (¬ x3 ≤ 11 → w_X9_isIn (x3 - 12) (σ63 66 24) σ63 (fun r92 σ92 => ((r92 = 0 → K r (-9) σ92) ∧ (¬ r92 = 0 → ((vp_in (x3 - 12) 5) ∧ K r (σ92 86 (x3 - 12).toNatClampNeg) σ92))))))) ∧ (¬ r63 = 0 → ((vp_in (x3 - 2) 5) ∧ K r (σ63 85 (x3 - 2).toNatClampNeg) σ63))))) ∧ (x3 = 1 → K r ((σ2 66 26) + (σ2 66 25)) σ2))) ∧ (x3 = 0 → K r (σ2 66 26) σ2))) → w_X9_wrong (nI S) (nI d) σ1 (fun r3 σ3 => ((r3 = 0 → w_X9_whyNot (nI S) (nI d) σ3 (fun r23 σ23 => ((r23 = 0 → ((¬ x3 = 0 → ((¬ x3 = 1 → w_X9_isIn (x3 - 2) (σ23 66 24) σ23 (fun r63 σ63 => ((r63 = 0 → ((x3 ≤ 11 → K r (-9) σ63) ∧ (¬ x3 ≤ 11 → w_X9_isIn (x3 - 12) (σ63 66 24) σ63 (fun r92 σ92 => ((r92 = 0 → K r (-9) σ92) ∧ (¬ r92 = 0 → ((vp_in (x3 - 12) 5) ∧ K r (σ92 86 (x3 - 12).toNatClampNeg) σ92))))))) ∧ (¬ r63 = 0 → ((vp_in (x3 - 2) 5) ∧ K r (σ63 85 (x3 - 2).toNatClampNeg) σ63))))) ∧ (x3 = 1 → K r ((σ23 66 26) + (σ23 66 25)) σ23))) ∧ (x3 = 0 → K r (σ23 66 26) σ23))) ∧ (¬ r23 = 0 → K r (-9) σ23)))) ∧ (¬ r3 = 0 → w_X9_refuse r3 σ3 (fun r16 σ16 => K r r16 σ16)))) := by
        intro r hr
        refine okM0 h hS hd rfl rfl g hF.m ⟨fun _ => ?_, fun z => absurd rfl z⟩
        refine whyNot_ok h.1.1 hZ.1 hS hd (fun σ2 hF2 hB2 => ?_)
        have hB2 := hB2 hw
        rw [hq1] at hB2
        rw [hw]
        exact ⟨fun _ => hr σ2 ⟨h.1, (h.2.1.frC hF).m hF2.c, hZ.frM hF2⟩ hB2.1 hB2.2, fun q => absurd rfl q⟩
      refine tellC h4 hB (fun e => model _ (fun σ2 hR b1 b2 => ?_)) (fun e => model _ (fun σ2 hR b1 b2 => ?_)) (fun j hj e => model _ (fun σ2 hR b1 b2 => ?_)) (fun j hj e => model _ (fun σ2 hR b1 b2 => ?_)) (fun a0 a1 a2 a3 => model _ (fun σ2 hR b1 b2 => ?_))
      · refine tellM h4 b1 b2 (fun _ => hK _ A σ2 hR) (fun f => ?_) (fun i hi f => ?_) (fun i hi f => ?_) (fun f => absurd e f)
        · rw [e] at f; exact absurd f (by decide)
        · rw [e] at f; exact absurd ((nI_eq (a := 0) (by omega) (by omega)).mp f) (by omega)
        · rw [e] at f; exact absurd ((nI_eq (a := 0) (by omega) (by omega)).mp f) (by omega)
      · refine tellM h4 b1 b2 (fun f => ?_) (fun _ => hK _ A σ2 hR) (fun i hi f => ?_) (fun i hi f => ?_) (fun _ f => absurd e f)
        · rw [e] at f; exact absurd f (by decide)
        · rw [e] at f; exact absurd ((nI_eq (a := 1) (by omega) (by omega)).mp f) (by omega)
        · rw [e] at f; exact absurd ((nI_eq (a := 1) (by omega) (by omega)).mp f) (by omega)
      · refine tellM h4 b1 b2 (fun f => ?_) (fun f => ?_) (fun i hi f => ?_) (fun i hi f => ?_) (fun _ _ f => absurd e (f j hj))
        · rw [e] at f; exact absurd ((nI_eq (b := 0) (by omega) (by omega)).mp f) (by omega)
        · rw [e] at f; exact absurd ((nI_eq (b := 1) (by omega) (by omega)).mp f) (by omega)
        · rw [e] at f
          have : i = j := by have := (nI_eq (by omega) (by omega)).mp f; omega
          rw [this]
          exact hK _ A σ2 hR
        · rw [e] at f; exact absurd ((nI_eq (by omega) (by omega)).mp f) (by omega)
      · refine tellM h4 b1 b2 (fun f => ?_) (fun f => ?_) (fun i hi f => ?_) (fun i hi f => ?_) (fun _ _ _ f => absurd e (f j hj))
        · rw [e] at f; exact absurd ((nI_eq (b := 0) (by omega) (by omega)).mp f) (by omega)
        · rw [e] at f; exact absurd ((nI_eq (b := 1) (by omega) (by omega)).mp f) (by omega)
        · rw [e] at f; exact absurd ((nI_eq (by omega) (by omega)).mp f) (by omega)
        · rw [e] at f
          have : i = j := by have := (nI_eq (by omega) (by omega)).mp f; omega
          rw [this]
          exact hK _ A σ2 hR
      · exact tellM h4 b1 b2 (fun f => absurd f a0) (fun f => absurd f a1) (fun i hi f => absurd f (a2 i hi)) (fun i hi f => absurd f (a3 i hi)) (fun _ _ _ _ => hK _ A σ2 hR)
    · refine okM0 h hS hd rfl rfl g hF.m ⟨fun _ => ?_, fun z => absurd rfl z⟩
      refine whyNot_ok h.1.1 hZ.1 hS hd (fun σ2 hF2 hB2 => ⟨fun y => absurd y z, fun _ => hK _ A σ2 ⟨h.1, (h.2.1.frC hF).m hF2.c, hZ.frM hF2⟩⟩)
def Gs (X : XX) (x : Int32) : Prop := ∃ S, okS X S ∧ x = nI S
theorem CS.frN {A : AA} {σ σ' : MS} (h : FrN σ σ') (hK : CK (aX A) σ') (c : CS A σ) : CS A σ' := c.fr (fun k j _ hk => h k j (by omega)) hK
theorem ZS.frW {A : AA} {σ σ' : MS} (h : FrW σ σ') (h27 : σ' 66 27 = 1) (hK : KT (aX A) (pres (aW A) (xn (aX A))) σ') (c : ZS A σ) : ZS A σ' := c.fr (fun k j _ hk => h k j (by omega)) (Or.inr ⟨h27, hK⟩)
theorem set1 {X : XX} (hX : okX X) {x : Int32} {S T : Nat} (hS : okS X S) (hT : okS X T) (e1 : x = nI S) (e2 : x = nI T) : T = S := by
  have h1 := okS_9 hX hS.1
  have h2 := okS_9 hX hT.1
  exact (nI_eq (by omega) (by omega)).mp (e2.symm.trans e1)
/-- a set that is asked for: the reference's side of wrongSet -/
theorem wsM1 {A : AA} {σ : MS} (h : Rel A σ) {x : Int32} (hG : ∀ S, okS (aX A) S → x ≠ nI S) {K : Int32 → Int32 → MS → Prop} (hK : ∀ r A' σ', Rel A' σ' → K r r σ') {σ1 : MS} (hm : SmM σ σ1) (hC : CS (refA A 1) σ1) {Q : Int32 → MS → Prop} (hQ : w_X9_refuse (-1) σ1 (fun r2 σ2 => K (-1) r2 σ2) → Q (-1) σ1) : w_X9_wrongSet x σ1 Q := by
  have hZ := h.2.2.m hm
  refine w_wsM h.1.1 hZ.1 hZ.2.1 x (fun _ => hQ ?_) (fun S hS e _ => absurd e (hG S hS)) (fun S hS e _ => absurd e (hG S hS))
  have := both_ref (c := 1) (by decide) h hK hC hm
  rw [← em1] at this
  exact this
theorem wsM3 {A : AA} {σ : MS} (h : Rel A σ) {x : Int32} {S : Nat} (hS : okS (aX A) S) (e1 : x = nI S) (hg : dif S (pres (aW A) (xn (aX A))) ≠ 0) {K : Int32 → Int32 → MS → Prop} (hK : ∀ r A' σ', Rel A' σ' → K r r σ') {σ1 : MS} (hm : SmM σ σ1) (hC : CS (refA A 3) σ1) {Q : Int32 → MS → Prop} (hQ : w_X9_refuse (-3) σ1 (fun r2 σ2 => K (-3) r2 σ2) → Q (-3) σ1) : w_X9_wrongSet x σ1 Q := by
  have hZ := h.2.2.m hm
  refine w_wsM h.1.1 hZ.1 hZ.2.1 x (fun z => absurd e1 (z S hS)) (fun T hT f g => hQ ?_) (fun T hT f g => ?_)
  · have := both_ref (c := 3) (by decide) h hK hC hm
    rw [← em3] at this
    exact this
  · rw [set1 h.1.1 hS hT e1 f] at g
    exact absurd g hg
theorem wsM0 {A : AA} {σ : MS} (h : Rel A σ) {x : Int32} {S : Nat} (hS : okS (aX A) S) (e1 : x = nI S) (hg : dif S (pres (aW A) (xn (aX A))) = 0) {σ1 : MS} (hm : SmM σ σ1) {Q : Int32 → MS → Prop} (hQ : Q 0 σ1) : w_X9_wrongSet x σ1 Q := by
  have hZ := h.2.2.m hm
  refine w_wsM h.1.1 hZ.1 hZ.2.1 x (fun z => absurd e1 (z S hS)) (fun T hT f g => ?_) (fun T hT f g => hQ)
  rw [set1 h.1.1 hS hT e1 f] at g
  exact absurd hg g
theorem L_cost {A : AA} {σ : MS} (h : Rel A σ) (x : Int32) {K : Int32 → Int32 → MS → Prop} (hK : ∀ r A' σ', Rel A' σ' → K r r σ') : w_X8_cost x σ (fun r1 σ1 => w_X9_cost x σ1 (fun r2 σ2 => K r1 r2 σ2)) := by
  unfold w_X8_cost w_X8_cost_E w_X9_cost w_X9_cost_E
  refine w_wsC h.1.1 h.2.1.1 h.2.1.2.1 x (fun g => ⟨fun z => absurd z (by decide), fun _ => ?_⟩) (fun S hS e1 g => ⟨fun z => absurd z (by decide), fun _ => ?_⟩) (fun S hS e1 g => ⟨fun _ => ?_, fun z => absurd rfl z⟩)
  · rw [em1]
    refine refC (by decide) h.2.1 (fun σ1 g1 g2 => ?_)
    rw [← em1]
    exact wsM1 h g hK g2 g1 (fun q => ⟨fun z => absurd z (by decide), fun _ => q⟩)
  · rw [em3]
    refine refC (by decide) h.2.1 (fun σ1 g1 g2 => ?_)
    rw [← em3]
    exact wsM3 h hS e1 g hK g2 g1 (fun q => ⟨fun z => absurd z (by decide), fun _ => q⟩)
  · subst e1
    have hS9 := okS_9 h.1.1 hS.1
    have hS0 : 0 < S := by
      rcases Nat.eq_zero_or_pos S with z | z
      · subst z
        have h2 := hS.2.1
        have : popc 0 = 0 := by decide +kernel
        omega
      · exact z
    refine learn_ok h.1.1 h.2.1.1 h.2.1.2.2.1 hS (fun σ1 hF hCK hr hT => ?_)
    unfold w_X0_minutesFor w_X0_minutesFor_E
    rw [nI_c (by omega : S ≤ 1000000000)]
    refine ⟨vin hS9 (by omega), wsM0 h hS rfl g hF.m ⟨fun _ => ?_, fun z => absurd rfl z⟩⟩
    have hZ := h.2.2.m hF.m
    refine know_ok h.1.1 hZ.1 hZ.2.1 hZ.2.2.1 (fun σ2 hF2 h27 hKT => ?_)
    have hR : Rel A σ2 := ⟨h.1, (h.2.1.frN hF hCK).m hF2.c, hZ.frW hF2 h27 hKT⟩
    have hrow := ((hKT S hS0 hS.1).1 ⟨hS, g⟩).1
    refine ⟨vin hS9 (by omega), ?_⟩
    cases hc : costS (aX A) S with
    | none =>
      rw [hc] at hrow hr
      rw [hrow.2, hr.1]
      exact ⟨fun z => absurd z (by decide), fun _ => hK _ A σ2 hR⟩
    | some q =>
      rw [hc] at hrow hr
      have hq := costS_ok h.1.1 q hc
      rw [hrow.2, hrow.1, hr.1]
      exact ⟨fun _ => hK _ A σ2 hR, fun z => absurd (nI_pos' (by omega)) z⟩
theorem L_driver {A : AA} {σ : MS} (h : Rel A σ) (x : Int32) {K : Int32 → Int32 → MS → Prop} (hK : ∀ r A' σ', Rel A' σ' → K r r σ') : w_X8_driver x σ (fun r1 σ1 => w_X9_driver x σ1 (fun r2 σ2 => K r1 r2 σ2)) := by
  unfold w_X8_driver w_X8_driver_E w_X9_driver w_X9_driver_E
  refine w_wsC h.1.1 h.2.1.1 h.2.1.2.1 x (fun g => ⟨fun z => absurd z (by decide), fun _ => ?_⟩) (fun S hS e1 g => ⟨fun z => absurd z (by decide), fun _ => ?_⟩) (fun S hS e1 g => ⟨fun _ => ?_, fun z => absurd rfl z⟩)
  · rw [em1]
    refine refC (by decide) h.2.1 (fun σ1 g1 g2 => ?_)
    rw [← em1]
    exact wsM1 h g hK g2 g1 (fun q => ⟨fun z => absurd z (by decide), fun _ => q⟩)
  · rw [em3]
    refine refC (by decide) h.2.1 (fun σ1 g1 g2 => ?_)
    rw [← em3]
    exact wsM3 h hS e1 g hK g2 g1 (fun q => ⟨fun z => absurd z (by decide), fun _ => q⟩)
  · subst e1
    have hS9 := okS_9 h.1.1 hS.1
    have hS0 : 0 < S := by
      rcases Nat.eq_zero_or_pos S with z | z
      · subst z
        have h2 := hS.2.1
        have : popc 0 = 0 := by decide +kernel
        omega
      · exact z
    refine learn_ok h.1.1 h.2.1.1 h.2.1.2.2.1 hS (fun σ1 hF hCK hr hT => ?_)
    unfold w_X0_driverFor w_X0_driverFor_E
    rw [nI_c (by omega : S ≤ 1000000000)]
    refine ⟨vin hS9 (by omega), wsM0 h hS rfl g hF.m ⟨fun _ => ?_, fun z => absurd rfl z⟩⟩
    have hZ := h.2.2.m hF.m
    refine know_ok h.1.1 hZ.1 hZ.2.1 hZ.2.2.1 (fun σ2 hF2 h27 hKT => ?_)
    have hR : Rel A σ2 := ⟨h.1, (h.2.1.frN hF hCK).m hF2.c, hZ.frW hF2 h27 hKT⟩
    have hrow := ((hKT S hS0 hS.1).1 ⟨hS, g⟩).1
    refine ⟨vin hS9 (by omega), ?_⟩
    cases hc : costS (aX A) S with
    | none =>
      rw [hc] at hrow hr
      rw [hrow.2, hr.2]
      exact hK _ A σ2 hR
    | some q =>
      rw [hc] at hrow hr
      rw [hrow.2, hr.2]
      exact hK _ A σ2 hR
