/-! ===== the reference: its table of partings ===== -/
def fw (w : Nat) : Nat := if w < 1000000 then w else 1000000
theorem fw_min (a w : Nat) : (if fw a + 1 < fw w then fw a + 1 else fw w) = fw (if a + 1 < w then a + 1 else w) := by
  unfold fw
  by_cases h1 : a < 1000000
  · rw [if_pos h1]
    by_cases h2 : w < 1000000
    · rw [if_pos h2]
      by_cases h3 : a + 1 < w
      · rw [if_pos h3, if_pos (by omega)]
      · rw [if_neg h3, if_pos h2]
    · rw [if_neg h2]
      by_cases h3 : a + 1 < w
      · rw [if_pos h3]
      · rw [if_neg h3, if_neg (by omega), if_neg h2]
  · rw [if_neg h1]
    by_cases h2 : w < 1000000
    · rw [if_pos h2, if_neg (by omega)]
      have h3 : ¬ a + 1 < w := by omega
      rw [if_neg h3, if_pos h2]
    · rw [if_neg h2, if_neg (by omega)]
      by_cases h3 : a + 1 < w
      · rw [if_pos h3, if_neg (by omega)]
      · rw [if_neg h3, if_neg h2]
theorem enc1 {l m c W : Nat} (h : l * 1000000 + m * 10 + c = W) : (l + 1) * 1000000 + m * 10 + c = W + 1000000 := by
  have e : (l + 1) * 1000000 = l * 1000000 + 1000000 := by rw [Nat.add_mul, Nat.one_mul]
  rw [e, ← h]
  generalize l * 1000000 = a
  omega
theorem enc2 {l m c W cc : Nat} (h : l * 1000000 + m * 10 + c = W) : l * 1000000 + (m + cc) * 10 + (c + 1) = W + cc * 10 + 1 := by omega
def mtr (X : XX) (S : Nat) (σ : MS) : Prop := ∃ l m c : Nat, σ 92 S = nI l ∧ σ 93 S = nI m ∧ σ 94 S = nI c ∧ l * 1000000 + m * 10 + c = (WS X 10 S).1 ∧ (c ≤ popc S ∧ m ≤ 1440 * c ∧ l ≤ popc S) ∧ (S ≠ 0 → σ 95 S = nI (WS X 10 S).2) ∧ σ 96 S = nI (fw (WS X 0 S).1)
def MT (X : XX) (P n : Nat) (σ : MS) : Prop := ∀ S, S < n → dif S P = 0 → mtr X S σ
def FrX (σ σ' : MS) : Prop := ∀ k j, ¬ (92 ≤ k ∧ k ≤ 96) → σ' k j = σ k j
theorem FrX.tr {a b c : MS} (h : FrX a b) (g : FrX b c) : FrX a c := fun k j hk => (g k j hk).trans (h k j hk)
theorem KT.frx {X : XX} {P : Nat} {σ σ' : MS} (h : FrX σ σ') (c : KT X P σ) : KT X P σ' := fun S g0 g1 => by
  have := c S g0 g1
  unfold mrow at this ⊢
  rw [h 89 S (by omega), h 90 S (by omega), h 91 S (by omega)]
  exact this
theorem MX.frx {X : XX} {σ σ' : MS} (h : FrX σ σ') (c : MX X σ) : MX X σ' := c.fr (fun k j hk => h k j (by omega))
theorem mtr_c {X : XX} {S : Nat} {σ σ' : MS} (h : ∀ k, 92 ≤ k → k ≤ 96 → σ' k S = σ k S) (c : mtr X S σ) : mtr X S σ' := by
  unfold mtr at c ⊢
  rw [h 92 (by omega) (by omega), h 93 (by omega) (by omega), h 94 (by omega) (by omega), h 95 (by omega) (by omega), h 96 (by omega) (by omega)]
  exact c
set_option maxRecDepth 100000 in
theorem bestOf_ok {X : XX} (hX : okX X) {P : Nat} (hP : P < 2 ^ (xn X)) {S : Nat} (h0 : 0 < S) (hSP : dif S P = 0) {σ : MS} (hK : KT X P σ) (hT : MT X P S σ) {Q : MS → Prop} (hQ : ∀ σ', FrX σ σ' → MT X P (S + 1) σ' → Q σ') : w_X9_bestOf (nI S) σ Q := by
  have hP9 := okS_9 hX hP
  have hSn : S < 2 ^ (xn X) := sub_lt hSP hP
  have hS9 : S < 512 := sub_lt (n := 9) hSP hP9
  have h1 := pl1 h0 hS9
  have hpS := popc_le S
  unfold w_X9_bestOf w_X9_bestOf_E
  intro x2 e2 x3 e3
  rw [lbI hS9] at e2
  rw [e2, nI_dif] at e3
  subst e2 e3
  have hdP : dif (dif S (lb S)) P = 0 := dif_0.mpr (fun i hi => by
    rw [dif_b] at hi
    simp only [Bool.and_eq_true] at hi
    exact dif_0.mp hSP i hi.1)
  obtain ⟨l0, m0, c0, r92, r93, r94, re, rb, r95, r96⟩ := hT (dif S (lb S)) h1.2.2.2.1 hdP
  rw [nI_c (by omega : dif S (lb S) ≤ 1000000000), nI_c (by omega : S ≤ 1000000000), r92]
  refine ⟨vin (by omega) (by omega), vin hS9 (by omega), fun σa ea σb eb σc ec σd ed σe ee => ?_⟩
  have hne : dif S (lb S) ≠ S := by omega
  rw [nI_1] at ea
  have k93 : σa 93 (dif S (lb S)) = nI m0 := by
    subst ea
    simp [mst, r93]
  rw [k93] at eb
  have k94 : σb 94 (dif S (lb S)) = nI c0 := by
    subst ea eb
    simp [mst, r94]
  rw [k94] at ec
  have hFe : FrX σ σe := fun k2 j g => by
    subst ea eb ec ed ee
    simp only [mst]
    rw [if_neg (by omega), if_neg (by omega), if_neg (by omega), if_neg (by omega), if_neg (by omega)]
  have hTe : MT X P S σe := fun T hTS hTP => mtr_c (fun k2 g1 g2 => by
    have hne : T ≠ S := by omega
    subst ea eb ec ed ee
    simp [mst, hne]) (hT T hTS hTP)
  have k0 : σe 92 S = nI (l0 + 1) ∧ σe 93 S = nI m0 ∧ σe 94 S = nI c0 ∧ σe 95 S = nI 0 ∧ σe 96 S = nI 1000000 := by
    subst ea eb ec ed ee
    refine ⟨?_, ?_, ?_, ?_, ?_⟩ <;> simp [mst]
    · rfl
    · rfl
  have loop : ∀ (k n i : Nat) (σ1 : MS) (l m c w ch w0 c00 : Nat), i + k = S + 1 → k < n → lb S ≤ i → FrX σ σ1 → MT X P S σ1 → σ1 92 S = nI l → σ1 93 S = nI m → σ1 94 S = nI c → σ1 95 S = nI ch → σ1 96 S = nI (fw w0) → l * 1000000 + m * 10 + c = w → (c ≤ popc S ∧ m ≤ 1440 * c ∧ l ≤ popc S) → (∀ q, q ∈ (List.range' i k).filter (fun q => (q &&& lb S) != 0 && dif q S == 0) → q ∈ PL S) → ((List.range' i k).filter (fun q => (q &&& lb S) != 0 && dif q S == 0)).foldl (wstep X 10 (WS X 10) S) (w, ch) = WS X 10 S → ((List.range' i k).filter (fun q => (q &&& lb S) != 0 && dif q S == 0)).foldl (wstep X 0 (WS X 0) S) (w0, c00) = WS X 0 S → w_X9_bestOf_H67 Q n (nI S) (nI (lb S)) (nI i) σ1 := by
    intro k
    induction k with
    | zero =>
      intro n i σ1 l m c w ch w0 c00 hi hn hli hF hT1 s92 s93 s94 s95 s96 he hb hin h10 h00
      obtain ⟨n, rfl⟩ : ∃ z, n = z + 1 := ⟨n - 1, by omega⟩
      unfold w_X9_bestOf_H67
      refine ⟨fun _ => hQ σ1 hF (fun T hTS hTP => ?_), fun z => absurd (nI_lt (by omega) (by omega)) z⟩
      rcases Nat.lt_or_ge T S with q | q
      · exact hT1 T q hTP
      · have e : T = S := by omega
        subst e
        have h10 : (w, ch) = WS X 10 T := h10
        have h00 : (w0, c00) = WS X 0 T := h00
        exact ⟨l, m, c, s92, s93, s94, by rw [← h10]; exact he, hb, fun _ => by rw [← h10]; exact s95, by rw [← h00]; exact s96⟩
    | succ k ih =>
      intro n i σ1 l m c w ch w0 c00 hi hn hli hF hT1 s92 s93 s94 s95 s96 he hb hin h10 h00
      obtain ⟨n, rfl⟩ : ∃ z, n = z + 1 := ⟨n - 1, by omega⟩
      unfold w_X9_bestOf_H67
      rw [nI_and, nI_dif, nI_dif, nI_1 i]
      have hdl := dif_lt (a := i) (b := S) (n := 9) (by omega)
      have hal : i &&& lb S ≤ i := Nat.and_le_left
      rw [List.range'_succ] at hin h10 h00
      have skip : ∀ (σ2 : MS) (l m c w ch w0 c00 : Nat), FrX σ σ2 → MT X P S σ2 → σ2 92 S = nI l → σ2 93 S = nI m → σ2 94 S = nI c → σ2 95 S = nI ch → σ2 96 S = nI (fw w0) → l * 1000000 + m * 10 + c = w → (c ≤ popc S ∧ m ≤ 1440 * c ∧ l ≤ popc S) → ((List.range' (i + 1) k).filter (fun q => (q &&& lb S) != 0 && dif q S == 0)).foldl (wstep X 10 (WS X 10) S) (w, ch) = WS X 10 S → ((List.range' (i + 1) k).filter (fun q => (q &&& lb S) != 0 && dif q S == 0)).foldl (wstep X 0 (WS X 0) S) (w0, c00) = WS X 0 S → w_X9_bestOf_H67 Q n (nI S) (nI (lb S)) (nI (i + 1)) σ2 := by
        intro σ2 l m c w ch w0 c00 g1 g2 g3 g4 g5 g6 g7 g8 g9 g10 g11
        refine ih n (i + 1) σ2 l m c w ch w0 c00 (by omega) (by omega) (by omega) g1 g2 g3 g4 g5 g6 g7 g8 g9 (fun q hq => hin q ?_) g10 g11
        obtain ⟨a1, a2⟩ := List.mem_filter.mp hq
        exact List.mem_filter.mpr ⟨List.mem_cons_of_mem _ a1, a2⟩
      refine ⟨fun z => absurd ((nI_ltI (by omega) (by omega)).mp z) (by omega), fun _ => ⟨fun z => ?_, fun z => ⟨fun y => ?_, fun y => ?_⟩⟩⟩
      · have e : i &&& lb S = 0 := (nI_eq (b := 0) (by omega) (by omega)).mp z
        rw [List.filter_cons_of_neg (by simp [e])] at h10 h00
        exact skip σ1 l m c w ch w0 c00 hF hT1 s92 s93 s94 s95 s96 he hb h10 h00
      · have e : dif i S ≠ 0 := fun e => y (by rw [e]; rfl)
        rw [List.filter_cons_of_neg (by simp [e])] at h10 h00
        exact skip σ1 l m c w ch w0 c00 hF hT1 s92 s93 s94 s95 s96 he hb h10 h00
      · have e1 : i &&& lb S ≠ 0 := fun e => z (by rw [e]; rfl)
        have e2 : dif i S = 0 := (nI_eq (b := 0) (by omega) (by omega)).mp y
        have hfc : ((i &&& lb S) != 0 && dif i S == 0) = true := by simp [e1, e2]
        have hiPL : i ∈ PL S := hin i (List.mem_filter.mpr ⟨List.mem_cons_self, hfc⟩)
        rw [List.filter_cons_of_pos (p := fun q => (q &&& lb S) != 0 && dif q S == 0) hfc, List.foldl_cons] at h10 h00
        have h2 := pl2 h0 hS9 hiPL
        have hiP : dif i P = 0 := dif_0.mpr (fun j hj => dif_0.mp hSP j (dif_0.mp e2 j hj))
        have hin2 : i < 2 ^ (xn X) := sub_lt hiP hP
        have hrow := (hK.frx hF) i h2.1 hin2
        have hpi := popc_pos h2.2.1 h2.1
        rw [nI_c (by omega : i ≤ 1000000000)]
        refine ⟨vin h2.2.1 (by omega), ?_⟩
        cases hcs : cst X i with
        | none =>
          have h90 : σ1 90 i = -9 := by
            unfold cst at hcs
            by_cases h4 : popc i ≤ 4
            · rw [if_pos h4] at hcs
              have hc : costS X i = none := by
                cases hc : costS X i with
                | none => rfl
                | some r => rw [hc] at hcs; cases hcs
              have := (hrow.1 ⟨⟨hin2, hpi, h4⟩, hiP⟩).1
              rw [hc] at this
              exact this.2
            · exact (hrow.2 (fun z => h4 z.1.2.2)).1
          rw [h90]
          refine ⟨fun x => absurd x (by decide), fun _ => ?_⟩
          have s10 : wstep X 10 (WS X 10) S (w, ch) i = (w, ch) := by unfold wstep; rw [hcs]
          have s00 : wstep X 0 (WS X 0) S (w0, c00) i = (w0, c00) := by unfold wstep; rw [hcs]
          rw [s10] at h10
          rw [s00] at h00
          exact skip σ1 l m c w ch w0 c00 hF hT1 s92 s93 s94 s95 s96 he hb h10 h00
        | some cc =>
          obtain ⟨hcc, h4, r, hr, hrc⟩ := cst_le hX hcs
          have hok := costS_ok hX r hr
          have hrw := (hrow.1 ⟨⟨hin2, hpi, h4⟩, hiP⟩).1
          rw [hr] at hrw
          rw [hrw.2]
          refine ⟨fun _ => ?_, fun x => absurd (nI_pos' (by omega)) x⟩
          intro x5 e5
          subst e5
          have hdl2 := h2.2.2.2.1
          have hdP2 : dif (dif S i) P = 0 := dif_0.mpr (fun j hj => by
            rw [dif_b] at hj
            simp only [Bool.and_eq_true] at hj
            exact dif_0.mp hSP j hj.1)
          obtain ⟨l1, m1, c1, t92, t93, t94, te, tbd, t95, t96⟩ := hT1 (dif S i) hdl2 hdP2
          have hpd := h2.2.2.2.2.1
          rw [nI_c (by omega : S ≤ 1000000000), nI_c (by omega : dif S i ≤ 1000000000), t96, s96, nI_1]
          refine ⟨vin hS9 (by omega), vin (by omega) (by omega), fun σ2 f2 x6 f6 x7 f7 x8 f8 => ?_⟩
          have hfl : fw (WS X 0 (dif S i)).1 ≤ 1000000 := by unfold fw; split <;> omega
          have hfl2 : fw w0 ≤ 1000000 := by unfold fw; split <;> omega
          have hmin : (if nI (fw (WS X 0 (dif S i)).1 + 1) < nI (fw w0) then nI (fw (WS X 0 (dif S i)).1 + 1) else nI (fw w0)) = nI (fw (wstep X 0 (WS X 0) S (w0, c00) i).1) := by
            have hw : (wstep X 0 (WS X 0) S (w0, c00) i).1 = if (WS X 0 (dif S i)).1 + 1 < w0 then (WS X 0 (dif S i)).1 + 1 else w0 := by
              unfold wstep
              rw [hcs]
              dsimp only
              rw [Nat.mul_zero, Nat.add_zero]
              split <;> rfl
            rw [hw, ← fw_min]
            have hq := nI_ltI (a := fw (WS X 0 (dif S i)).1 + 1) (b := fw w0) (by omega) (by omega)
            by_cases hz : fw (WS X 0 (dif S i)).1 + 1 < fw w0
            · rw [if_pos (hq.mpr hz), if_pos hz]
            · rw [if_neg (fun y => hz (hq.mp y)), if_neg hz]
          rw [hmin] at f2
          have o2 : ∀ k2 j, k2 ≠ 96 → σ2 k2 j = σ1 k2 j := fun k2 j g => by
            subst f2
            simp [mst, g]
          rw [o2 92 _ (by decide), t92] at f6
          rw [o2 93 _ (by decide), o2 89 _ (by decide), t93, hrw.1, hrc, ← iI_n, nI_add] at f7
          rw [o2 94 _ (by decide), t94, nI_1] at f8
          rw [o2 92 S (by decide), o2 93 S (by decide), o2 94 S (by decide), s92, s93, s94, f6, f7, f8]
          have hF2 : FrX σ σ2 := hF.tr (fun k2 j g => o2 k2 j (by omega))
          have hT2 : MT X P S σ2 := fun T hTS hTP => mtr_c (fun k2 g1 g2 => by
            have hne : T ≠ S := by omega
            subst f2
            simp [mst, hne]) (hT1 T hTS hTP)
          have q96 : σ2 96 S = nI (fw (wstep X 0 (WS X 0) S (w0, c00) i).1) := by
            subst f2
            simp [mst]
          have bn : c1 + 1 ≤ popc S ∧ m1 + cc ≤ 1440 * (c1 + 1) ∧ l1 ≤ popc S := by omega
          have hm0 : m ≤ 12960 := by omega
          have hm1 : m1 + cc ≤ 12960 := by omega
          have keep : ¬ ((WS X 10 (dif S i)).1 + cc * 10 + 1 < w) → w_X9_bestOf_H67 Q n (nI S) (nI (lb S)) (nI (i + 1)) σ2 := fun hno => by
            have s10 : wstep X 10 (WS X 10) S (w, ch) i = (w, ch) := by
              unfold wstep
              rw [hcs]
              exact if_neg hno
            rw [s10] at h10
            refine skip σ2 l m c w ch (wstep X 0 (WS X 0) S (w0, c00) i).1 (wstep X 0 (WS X 0) S (w0, c00) i).2 hF2 hT2 ?_ ?_ ?_ ?_ q96 he hb h10 h00
            · rw [o2 92 S (by decide)]; exact s92
            · rw [o2 93 S (by decide)]; exact s93
            · rw [o2 94 S (by decide)]; exact s94
            · rw [o2 95 S (by decide)]; exact s95
          have take : (WS X 10 (dif S i)).1 + cc * 10 + 1 < w → w_X9_bestOf_J229 (fun x1 x2 x4 σ => w_X9_bestOf_H67 Q n x1 x2 x4 σ) Q (nI S) (nI (lb S)) (nI i) (nI l1) (nI (m1 + cc)) (nI (c1 + 1)) σ2 := fun hyes => by
            have s10 : wstep X 10 (WS X 10) S (w, ch) i = ((WS X 10 (dif S i)).1 + cc * 10 + 1, i) := by
              unfold wstep
              rw [hcs]
              exact if_pos hyes
            rw [s10] at h10
            unfold w_X9_bestOf_J229
            rw [nI_c (by omega : S ≤ 1000000000), nI_1]
            refine ⟨vin hS9 (by omega), fun σ3 g3 σ4 g4 σ5 g5 σ6 g6 => ?_⟩
            refine skip σ6 l1 (m1 + cc) (c1 + 1) ((WS X 10 (dif S i)).1 + cc * 10 + 1) i (wstep X 0 (WS X 0) S (w0, c00) i).1 (wstep X 0 (WS X 0) S (w0, c00) i).2 ?_ ?_ ?_ ?_ ?_ ?_ ?_ (enc2 te) bn h10 h00
            · intro k2 j g
              rw [← hF2 k2 j g]
              subst g3 g4 g5 g6
              simp only [mst]
              rw [if_neg (by omega), if_neg (by omega), if_neg (by omega), if_neg (by omega)]
            · intro T hTS hTP
              refine mtr_c (fun k2 y1 y2 => ?_) (hT2 T hTS hTP)
              have hne : T ≠ S := by omega
              subst g3 g4 g5 g6
              simp [mst, hne]
            · subst g3 g4 g5 g6
              simp [mst]
            · subst g3 g4 g5 g6
              simp [mst]
            · subst g3 g4 g5 g6
              simp [mst]
            · subst g3 g4 g5 g6
              simp [mst]
            · subst g3 g4 g5 g6
              simpa [mst] using q96
          refine ⟨fun x => keep ?_, fun x => ⟨fun x2 => take ?_, fun x2 => ⟨fun x3 => keep ?_, fun x3 => ⟨fun x4 => take ?_, fun x4 => ⟨fun x5 => take ?_, fun x5 => keep ?_⟩⟩⟩⟩⟩
          · have := (nI_ltI (by omega) (by omega)).mp x
            omega
          · have g1 : ¬ l < l1 := fun y => x (nI_lt y (by omega))
            have g2 : l1 ≠ l := fun y => x2 (by rw [y])
            omega
          · have g2 := (nI_eq (by omega) (by omega)).mp x2
            have := (nI_ltI (by omega) (by omega)).mp x3
            omega
          · have g2 := (nI_eq (by omega) (by omega)).mp x2
            have g3 : ¬ m < m1 + cc := fun y => x3 (nI_lt y (by omega))
            have g4 : m1 + cc ≠ m := fun y => x4 (by rw [y])
            omega
          · have g2 := (nI_eq (by omega) (by omega)).mp x2
            have g4 := (nI_eq (by omega) (by omega)).mp x4
            have := (nI_ltI (by omega) (by omega)).mp x5
            omega
          · have g2 := (nI_eq (by omega) (by omega)).mp x2
            have g4 := (nI_eq (by omega) (by omega)).mp x4
            have g5 : ¬ c1 + 1 < c := fun y => x5 (nI_lt y (by omega))
            omega
  have hpl : (List.range' (lb S) (S + 1 - lb S)).filter (fun q => (q &&& lb S) != 0 && dif q S == 0) = PL S := h1.2.2.2.2.2
  refine ⟨S + 2 - lb S, ?_⟩
  have hw0 : fw ((WS X 0 (dif S (lb S))).1 + 1000000) = 1000000 := by
    unfold fw
    rw [if_neg (by omega)]
  have hps := h1.2.2.2.2.1
  have k96 : σe 96 S = nI (fw ((WS X 0 (dif S (lb S))).1 + 1000000)) := by
    rw [hw0]
    exact k0.2.2.2.2
  have f10 : ((List.range' (lb S) (S + 1 - lb S)).filter (fun q => (q &&& lb S) != 0 && dif q S == 0)).foldl (wstep X 10 (WS X 10) S) ((WS X 10 (dif S (lb S))).1 + 1000000, 0) = WS X 10 S := by
    rw [hpl, WS_eq h0 hS9]
    unfold went
    rfl
  have f00 : ((List.range' (lb S) (S + 1 - lb S)).filter (fun q => (q &&& lb S) != 0 && dif q S == 0)).foldl (wstep X 0 (WS X 0) S) ((WS X 0 (dif S (lb S))).1 + 1000000, 0) = WS X 0 S := by
    rw [hpl, WS_eq h0 hS9]
    unfold went
    rfl
  have hen : (l0 + 1) * 1000000 + m0 * 10 + c0 = (WS X 10 (dif S (lb S))).1 + 1000000 := enc1 re
  have := loop (S + 1 - lb S) (S + 2 - lb S) (lb S) σe (l0 + 1) m0 c0 ((WS X 10 (dif S (lb S))).1 + 1000000) 0 ((WS X 0 (dif S (lb S))).1 + 1000000) 0 (by omega) (by omega) (Nat.le_refl _) hFe hTe k0.1 k0.2.1 k0.2.2.1 k0.2.2.2.1 k96 hen (by omega) (fun q hq => by rw [hpl] at hq; exact hq) f10 f00
  exact this
/-- best() -/
theorem best_ok {X : XX} (hX : okX X) {aw : Nat → Nat} {σ : MS} (hC : MX X σ) (hA : MA aw σ) (hK : MK X aw σ) {Q : MS → Prop} (hQ : ∀ σ' σm, FrW σ σm → FrX σm σ' → σ' 66 27 = 1 → KT X (pres aw (xn X)) σ' → MT X (pres aw (xn X)) (pres aw (xn X) + 1) σ' → Q σ') : w_X9_best σ Q := by
  have hn := hX.2.1
  have hp9 : 2 ^ (xn X) ≤ 2 ^ 9 := Nat.pow_le_pow_right (by decide) hn
  have hPlt : pres aw (xn X) < 2 ^ (xn X) := pres_lt
  unfold w_X9_best w_X9_best_E
  refine know_ok hX hC hA hK (fun σm hFm h27 hKT σa ea σb eb σc ec σd ed => ?_)
  have hFd : FrX σm σd := fun k j hk => by
    subst ea eb ec ed
    simp only [mst]
    rw [if_neg (by omega), if_neg (by omega), if_neg (by omega), if_neg (by omega)]
  have hCd : MX X σd := (hC.frw hFm).frx hFd
  have hAd : MA aw σd := (hA.frw hFm).fr (fun p _ => hFd 79 p (by omega))
  refine w_pres hX hCd hAd ?_
  have h0d : mtr X 0 σd := by
    refine ⟨0, 0, 0, ?_, ?_, ?_, rfl, by decide, fun h => absurd rfl h, ?_⟩
    · subst ea eb ec ed
      simp [mst]; rfl
    · subst ea eb ec ed
      simp [mst]; rfl
    · subst ea eb ec ed
      simp [mst]; rfl
    · subst ea eb ec ed
      simp [mst]; rfl
  have loop : ∀ (k n i : Nat) (σ1 : MS), i + k = 2 ^ (xn X) → k < n → 0 < i → FrX σm σ1 → MT X (pres aw (xn X)) i σ1 → w_X9_best_H39 Q n (nI (pres aw (xn X))) (nI i) σ1 := by
    intro k
    induction k with
    | zero =>
      intro n i σ1 hi hn2 h0 hF hT
      obtain ⟨n, rfl⟩ : ∃ z, n = z + 1 := ⟨n - 1, by omega⟩
      unfold w_X9_best_H39
      rw [((hC.frw hFm).frx hF).1.2.1, nI_sh (by omega)]
      refine ⟨fun _ => hQ σ1 σm hFm hF (by rw [hF 66 27 (by omega)]; exact h27) (hKT.frx hF) (fun S hS hd => hT S (by omega) hd), fun z => absurd (nI_le (by omega) (by omega)) z⟩
    | succ k ih =>
      intro n i σ1 hi hn2 h0 hF hT
      obtain ⟨n, rfl⟩ : ∃ z, n = z + 1 := ⟨n - 1, by omega⟩
      unfold w_X9_best_H39
      rw [((hC.frw hFm).frx hF).1.2.1, nI_sh (by omega), nI_dif, nI_1]
      have hdl := dif_lt (a := i) (b := pres aw (xn X)) (n := 9) (by omega)
      refine ⟨fun z => absurd ((nI_leI (by omega) (by omega)).mp z) (by omega), fun _ => ⟨fun z => ?_, fun z => ?_⟩⟩
      · refine ih n (i + 1) σ1 (by omega) (by omega) (by omega) hF (fun T hTS hTP => ?_)
        rcases Nat.lt_or_ge T i with q | q
        · exact hT T q hTP
        · have e : T = i := by omega
          subst e
          exact absurd (by rw [hTP]; rfl) z
      · have hd0 : dif i (pres aw (xn X)) = 0 := (nI_eq (b := 0) (by omega) (by omega)).mp z
        refine bestOf_ok hX hPlt h0 hd0 (hKT.frx hF) hT (fun σ2 hF2 hT2 => ?_)
        exact ih n (i + 1) σ2 (by omega) (by omega) (by omega) (hF.tr hF2) hT2
  refine ⟨2 ^ (xn X), ?_⟩
  have hpos : 0 < 2 ^ (xn X) := Nat.two_pow_pos _
  have := loop (2 ^ (xn X) - 1) (2 ^ (xn X)) 1 σd (by omega) (by omega) (by omega) hFd (fun T hT1 hTP => by
    have e : T = 0 := by omega
    subst e
    exact h0d)
  exact this
