/-! ===== even ===== -/
theorem aPut_X {A : AA} {S d : Nat} : aX (aPut A S d) = aX A := by
  unfold aPut
  cases bestS (aX A).1 (rmD S 0 9) d <;> rfl
theorem aPut_W {A : AA} {S d : Nat} : aW (aPut A S d) = aW A := by
  unfold aPut
  cases bestS (aX A).1 (rmD S 0 9) d <;> rfl
theorem aPut_L {A : AA} {S d : Nat} : aLf (aPut A S d) = aLf A := by
  unfold aPut
  cases bestS (aX A).1 (rmD S 0 9) d <;> rfl
noncomputable def evT (B : AA × Nat) (p : Nat) : AA × Nat := if ldb (aPl B.1) p = true ∧ dif (aPl B.1 p) (pres (aW B.1) (xn (aX B.1))) = 0 then (match turnS (aX B.1) (aPo B.1) (aPl B.1 p) 9 with
  | none => B
  | some t => (aPut B.1 (aPl B.1 p) t, if t = aDv B.1 p then B.2 else B.2 + 1)) else B
noncomputable def evS (A : AA) : Nat → AA × Nat
  | 0 => (A, 0)
  | p + 1 => evT (evS A p) p
theorem okS_pl {A : AA} (ok : okA A) {p : Nat} (hp : p < 9) (h : aPl A p ≠ 0) : okS (aX A) (aPl A p) := by
  have d := ok.2.2.2.1.2.1 p hp h
  exact ⟨d.1, popc_pos (pl_lt ok hp) (by omega), d.2.1⟩
theorem dif_self (S : Nat) : dif S S = 0 := dif_0.mpr (fun _ h => h)
theorem ev_step {B : AA × Nat} (ok : okA B.1) {p : Nat} (hp : p < 9) : okA (evT B p).1 ∧ aX (evT B p).1 = aX B.1 ∧ (evT B p).2 ≤ B.2 + 1 := by
  unfold evT
  by_cases h : ldb (aPl B.1) p = true ∧ dif (aPl B.1 p) (pres (aW B.1) (xn (aX B.1))) = 0
  · rw [if_pos h]
    cases ht : turnS (aX B.1) (aPo B.1) (aPl B.1 p) 9 with
    | none => exact ⟨ok, rfl, Nat.le_succ _⟩
    | some t =>
      have hne := ldb_ne h.1
      have hd := turn_ok 9 t ht
      have o := ok.2.2.2.1.2.1 p hp hne
      refine ⟨ok_put ok (okS_pl ok hp hne) hd.2.1 (fun q hq => Or.inr ?_) (fun q hq => ?_), aPut_X, ?_⟩
      · rw [(o.2.2.2.2.2 q hq).1]
        exact dif_self _
      · cases hb : (aLf B.1).testBit q
        · rfl
        · have := (ok.2.2.2.1.2.2 q hb).2
          rw [(o.2.2.2.2.2 q hq).1] at this
          exact absurd this hne
      · dsimp only
        split <;> omega
  · rw [if_neg h]
    exact ⟨ok, rfl, by omega⟩
theorem ev_ok {A : AA} (ok : okA A) : ∀ i, i ≤ 9 → okA (evS A i).1 ∧ aX (evS A i).1 = aX A ∧ (evS A i).2 ≤ i
  | 0, _ => ⟨ok, rfl, Nat.le_refl _⟩
  | i + 1, h => by
    have ih := ev_ok ok i (by omega)
    have s := ev_step ih.1 (p := i) (by omega)
    exact ⟨s.1, s.2.1.trans ih.2.1, by have := s.2.2; have := ih.2.2; show (evT (evS A i) i).2 ≤ _; omega⟩
theorem ev_n {A : AA} (ok : okA A) : ∀ k, xn (aX A) + k ≤ 9 → evS A (xn (aX A) + k) = evS A (xn (aX A))
  | 0, _ => rfl
  | k + 1, h => by
    have ih := ev_n ok k (by omega)
    have o := ev_ok ok (xn (aX A) + k) (by omega)
    show evT (evS A (xn (aX A) + k)) (xn (aX A) + k) = _
    have z := pl_n o.1 (p := xn (aX A) + k) (by omega) (by rw [o.2.1]; omega)
    unfold evT
    rw [if_neg (fun y => by rw [ldb0 z] at y; cases y.1)]
    exact ih
theorem turn9 {A : AA} (ok : okA A) {S : Nat} (hS : S < 2 ^ (xn (aX A))) : turnS (aX A) (aPo A) S 9 = turnS (aX A) (aPo A) S (xn (aX A)) := by
  have := turn_ext (X := aX A) (Po := aPo A) hS (9 - xn (aX A))
  rw [← this]
  congr 1
  have := ok.1.2.1
  omega
theorem evenC {A : AA} {σ : MS} (ok : okA A) (c : CS A σ) {Q : Int32 → MS → Prop} (hQ : ∀ σ', CS (evS A 9).1 σ' → SmM σ σ' → Q (nI (evS A 9).2) σ') : ∃ n21, w_X8_even_H21 Q n21 0 0 σ := by
  have loop : ∀ (k i n : Nat) (s : MS), i + k = 9 → k < n → CS (evS A i).1 s → SmM σ s → w_X8_even_H21 Q n (nI (evS A i).2) (nI i) s := by
    intro k
    induction k with
    | zero =>
      intro i n s hi hn hC hm
      obtain ⟨n, rfl⟩ : ∃ z, n = z + 1 := ⟨n - 1, by omega⟩
      have e : i = 9 := by omega
      subst e
      unfold w_X8_even_H21
      exact ⟨fun _ => hQ s hC hm, fun z => absurd (by decide) z⟩
    | succ k ih =>
      intro i n s hi hn hC hm
      obtain ⟨n, rfl⟩ : ∃ z, n = z + 1 := ⟨n - 1, by omega⟩
      unfold w_X8_even_H21
      have o := (ev_ok ok i (by omega)).1
      have cc := hC.2.2.2.2.2.2.2.2.2 i (by omega)
      have nx := fun (B : AA × Nat) (e : evT (evS A i) i = B) (s2 : MS) (h1 : CS B.1 s2) (h2 : SmM s s2) => ih (i + 1) n s2 (by omega) (by omega) (by show CS (evT (evS A i) i).1 s2; rw [e]; exact h1) (hm.tr h2)
      have ny : ∀ B, evT (evS A i) i = B → (evS A (i + 1)).2 = B.2 := fun B e => by
        show (evT (evS A i) i).2 = _
        rw [e]
      rw [nI_1, nI_1]
      refine ⟨fun z => absurd z (nI_ge (b := 9) (by omega) (by omega)), fun _ => ?_⟩
      refine w_lead (by omega) (pl_lt o (by omega)) cc.1 (fun h => ?_) (fun h => ?_)
      · refine ct rfl ?_
        have e : evT (evS A i) i = evS A i := if_neg (fun y => by rw [h] at y; cases y.1)
        have := nx _ e s hC SmM.rf
        rw [ny _ e] at this
        exact this
      · refine cf (by decide) ?_
        have hne := ldb_ne h
        have hS := okS_pl o (p := i) (by omega) hne
        have hS9 := okS_9 o.1 hS.1
        unfold w_X4_poolAt w_X4_poolAt_E w_X4_driverAt w_X4_driverAt_E
        rw [nI_c (by omega : i ≤ 1000000000), cc.1]
        dsimp only
        rw [(cc.2 hne).1]
        refine ⟨vin (by omega) (by decide), vin (by omega) (by decide), ?_⟩
        unfold w_X8_evenOut w_X8_evenOut_E
        refine w_someA o.1 hC.1 hC.2.1 hS9 (fun g => ?_) (fun g => ?_)
        · refine ct rfl ?_
          refine whose_ok o.1 hC.1 hC.2.2.2.1 hS (fun s2 hF => ?_)
          have hC2 := hC.frC hF
          cases ht : turnS (aX (evS A i).1) (aPo (evS A i).1) (aPl (evS A i).1 i) 9 with
          | none =>
            have e : evT (evS A i) i = evS A i := by
              unfold evT
              rw [if_pos ⟨h, g⟩, ht]
            have := nx _ e s2 hC2 hF.m
            rw [ny _ e] at this
            exact dt rfl (ct rfl this)
          | some t =>
            have hd := turn_ok 9 t ht
            have hd9 := dv9 o (p := i) (by omega) hne
            have e : evT (evS A i) i = (aPut (evS A i).1 (aPl (evS A i).1 i) t, if t = aDv (evS A i).1 i then (evS A i).2 else (evS A i).2 + 1) := by
              unfold evT
              rw [if_pos ⟨h, g⟩, ht]
            refine df (neg9 hd.1) ?_
            refine putC o hC2 hS hd.2.1 (fun z => absurd hd.2.2 z) (fun _ s3 hC3 hm3 => ?_)
            have := nx _ e s3 hC3 (hF.m.tr hm3.m)
            rw [ny _ e] at this
            refine ⟨fun z => ct rfl ?_, fun z => cf (by decide) ?_⟩
            · have z : t = aDv (evS A i).1 i := (nI_eq (by omega) (by omega)).mp z
              dsimp only at this
              rw [if_pos z] at this
              exact this
            · dsimp only at this
              rw [if_neg (fun y => z (by rw [← y]; rfl))] at this
              exact this
        · refine cf (by decide) (ct rfl ?_)
          have e : evT (evS A i) i = evS A i := if_neg (fun y => g y.2)
          have := nx _ e s hC SmM.rf
          rw [ny _ e] at this
          exact this
  exact ⟨10, loop 9 0 10 σ (by omega) (by omega) c SmM.rf⟩
theorem evenM {A : AA} {σ : MS} (ok : okA A) (c : ZS A σ) {Q : Int32 → MS → Prop} (hQ : ∀ σ', ZS (evS A 9).1 σ' → SmC σ σ' → Q (nI (evS A 9).2) σ') : ∃ n18, w_X9_even_H18 Q n18 0 0 σ := by
  have hn9 := ok.1.2.1
  have e9 : evS A 9 = evS A (xn (aX A)) := by
    have := ev_n ok (9 - xn (aX A)) (by omega)
    rw [← this]
    congr 1
    omega
  rw [e9] at hQ
  have loop : ∀ (k i n : Nat) (s : MS), i + k = xn (aX A) → k < n → ZS (evS A i).1 s → SmC σ s → w_X9_even_H18 Q n (nI (evS A i).2) (nI i) s := by
    intro k
    induction k with
    | zero =>
      intro i n s hi hn hC hm
      obtain ⟨n, rfl⟩ : ∃ z, n = z + 1 := ⟨n - 1, by omega⟩
      have e : i = xn (aX A) := by omega
      subst e
      unfold w_X9_even_H18
      rw [hC.1.1.2.1, (ev_ok ok (xn (aX A)) hn9).2.1]
      exact ⟨fun _ => hQ s hC hm, fun z => absurd (nI_le (Nat.le_refl _) (by omega)) z⟩
    | succ k ih =>
      intro i n s hi hn hC hm
      obtain ⟨n, rfl⟩ : ∃ z, n = z + 1 := ⟨n - 1, by omega⟩
      unfold w_X9_even_H18
      have oo := ev_ok ok i (by omega)
      have o := oo.1
      have cc := hC.2.2.2.2.2.2.2.2.2 i (by omega)
      have nx := fun (B : AA × Nat) (e : evT (evS A i) i = B) (s2 : MS) (h1 : ZS B.1 s2) (h2 : SmC s s2) => ih (i + 1) n s2 (by omega) (by omega) (by show ZS (evT (evS A i) i).1 s2; rw [e]; exact h1) (hm.tr h2)
      have ny : ∀ B, evT (evS A i) i = B → (evS A (i + 1)).2 = B.2 := fun B e => by
        show (evT (evS A i) i).2 = _
        rw [e]
      rw [hC.1.1.2.1, oo.2.1, nI_1 i]
      refine ⟨fun z => absurd z (nI_ge (by omega) (by omega)), fun _ => ?_⟩
      refine w_first (by omega) (pl_lt o (by omega)) cc.1 (fun h => ?_) (fun h => ?_)
      · refine ct rfl ?_
        have e : evT (evS A i) i = evS A i := if_neg (fun y => by rw [h] at y; cases y.1)
        have := nx _ e s hC SmC.rf
        rw [ny _ e] at this
        exact this
      · refine cf (by decide) ?_
        have hne := ldb_ne h
        have hS := okS_pl o (p := i) (by omega) hne
        have hS9 := okS_9 o.1 hS.1
        rw [nI_c (by omega : i ≤ 1000000000), cc.1]
        refine ⟨vin (by omega) (by decide), ?_⟩
        refine w_hasA o.1 hC.1 hC.2.1 hS.1 (fun g => ?_) (fun g => ?_)
        · refine ct rfl ?_
          rw [cc.1]
          refine turnOf_ok o.1 hC.1 hC.2.1 hC.2.2.1 hC.2.2.2.1 hS g (fun s2 hF h27 hKT => ?_)
          rw [← turn9 o hS.1]
          have hC2 := hC.frW hF h27 hKT
          have cc2 := hC2.2.2.2.2.2.2.2.2.2 i (by omega)
          cases ht : turnS (aX (evS A i).1) (aPo (evS A i).1) (aPl (evS A i).1 i) 9 with
          | none =>
            have e : evT (evS A i) i = evS A i := by
              unfold evT
              rw [if_pos ⟨h, g⟩, ht]
            have := nx _ e s2 hC2 hF.c
            rw [ny _ e] at this
            exact cf (by decide) this
          | some t =>
            have hd := turn_ok 9 t ht
            have hd9 := dv9 o (p := i) (by omega) hne
            have e : evT (evS A i) i = (aPut (evS A i).1 (aPl (evS A i).1 i) t, if t = aDv (evS A i).1 i then (evS A i).2 else (evS A i).2 + 1) := by
              unfold evT
              rw [if_pos ⟨h, g⟩, ht]
            refine ct (nI_pos' (by have := hd.1; omega)) ?_
            rw [(cc2.2 hne).1]
            have fin : ∀ (v : Int32), nI (evS A i).2 + v = nI (if t = aDv (evS A i).1 i then (evS A i).2 else (evS A i).2 + 1) → w_X9_even_J84 (fun x1 x2 σ => w_X9_even_H18 Q n x1 x2 σ) Q (nI i) (tI (some t)) (nI (evS A i).2) v s2 := by
              intro v hv
              unfold w_X9_even_J84
              intro x ex
              rw [nI_c (by omega : i ≤ 1000000000), cc2.1, nI_1]
              refine ⟨vin (by omega) (by decide), layM o.1 hC2 hS hd.2.1 hd.2.2 (fun s3 hC3 hF3 => ?_)⟩
              have := nx _ e s3 hC3 (hF.c.tr hF3.c)
              rw [ny _ e] at this
              rw [ex, hv]
              exact this
            refine ⟨fun z => fin 0 ?_, fun z => fin 1 ?_⟩
            · have z : t = aDv (evS A i).1 i := (nI_eq (by omega) (by omega)).mp z
              rw [if_pos z, Int32.add_zero]
            · rw [if_neg (fun y => z (by rw [← y]; rfl)), nI_1]
        · refine cf (by decide) ?_
          have e : evT (evS A i) i = evS A i := if_neg (fun y => g y.2)
          have := nx _ e s hC SmC.rf
          rw [ny _ e] at this
          exact this
  exact ⟨xn (aX A) + 1, loop (xn (aX A)) 0 (xn (aX A) + 1) σ (by omega) (by omega) c SmC.rf⟩
theorem L_even {A : AA} {σ : MS} (h : Rel A σ) {K : Int32 → Int32 → MS → Prop} (hK : ∀ r A' σ', Rel A' σ' → K r r σ') : w_X8_even σ (fun r1 σ1 => w_X9_even σ1 (fun r2 σ2 => K r1 r2 σ2)) := by
  have mm : ∀ s, SmM σ s → s 66 36 = nI (aMb A) := fun s hm => (h.2.2.m hm).2.2.2.2.2.2.2.1
  unfold w_X8_even w_X8_even_E
  refine made0 h.1 h.2.1 ?_
  by_cases m0 : nI (aMb A) = 0
  · repeat (first | refine ct (by assumption) ?_ | refine cf (by assumption) ?_ | refine dt (by assumption) ?_ | refine df (by assumption) ?_ | refine ct rfl ?_ | refine cf (by decide) ?_ | refine dt rfl ?_ | refine df (by decide) ?_)
    refine rfG em3 (by decide) h hK (fun σ1 hm q => ?_)
    have m1 : σ1 66 36 = 0 := by rw [mm σ1 hm]; exact m0
    unfold w_X9_even w_X9_even_E
    repeat (first | refine ct (by assumption) ?_ | refine cf (by assumption) ?_ | refine dt (by assumption) ?_ | refine df (by assumption) ?_ | refine ct rfl ?_ | refine cf (by decide) ?_ | refine dt rfl ?_ | refine df (by decide) ?_)
    exact q
  · repeat (first | refine ct (by assumption) ?_ | refine cf (by assumption) ?_ | refine dt (by assumption) ?_ | refine df (by assumption) ?_ | refine ct rfl ?_ | refine cf (by decide) ?_ | refine dt rfl ?_ | refine df (by decide) ?_)
    refine evenC h.1 h.2.1 (fun σ1 hC hm => ?_)
    have m2 : ¬ σ1 66 36 = 0 := by rw [mm σ1 hm]; exact m0
    unfold w_X9_even w_X9_even_E
    repeat (first | refine ct (by assumption) ?_ | refine cf (by assumption) ?_ | refine dt (by assumption) ?_ | refine df (by assumption) ?_ | refine ct rfl ?_ | refine cf (by decide) ?_ | refine dt rfl ?_ | refine df (by decide) ?_)
    exact evenM h.1 (h.2.2.m hm) (fun σ2 g1 g2 => hK _ (evS A 9).1 σ2 ⟨(ev_ok h.1 9 (Nat.le_refl _)).1, hC.m g2, g1⟩)
