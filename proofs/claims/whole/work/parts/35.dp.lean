/-! ===== THE BEST PARTING, as a table ===== -/
noncomputable def cst (X : XX) (q : Nat) : Option Nat := if popc q ≤ 4 then (costS X q).map (fun r => r.1.toNat) else none
noncomputable def wstep (X : XX) (k : Nat) (t : Nat → Nat × Nat) (S : Nat) (cur : Nat × Nat) (q : Nat) : Nat × Nat := match cst X q with
  | none => cur
  | some c => if (t (dif S q)).1 + c * k + 1 < cur.1 then ((t (dif S q)).1 + c * k + 1, q) else cur
noncomputable def went (X : XX) (k : Nat) (t : Nat → Nat × Nat) (S : Nat) : Nat × Nat := (PL S).foldl (wstep X k t S) ((t (dif S (lb S))).1 + 1000000, 0)
noncomputable def wtab (X : XX) (k : Nat) : Nat → Nat → Nat × Nat
  | 0 => fun _ => (0, 0)
  | n + 1 => va_up (wtab X k n) (n + 1) (went X k (wtab X k n) (n + 1))
noncomputable def WS (X : XX) (k S : Nat) : Nat × Nat := wtab X k S S
theorem wtab_le {X : XX} {k S : Nat} : ∀ n, S ≤ n → wtab X k n S = WS X k S
  | 0, h => by
    have e : S = 0 := by omega
    subst e
    rfl
  | n + 1, h => by
    by_cases e : S = n + 1
    · subst e
      rfl
    · have ih := wtab_le (X := X) (k := k) (S := S) n (by omega)
      show va_up (wtab X k n) (n + 1) _ S = _
      rw [up_n e, ih]
theorem fold_c2 {α β : Type} {F G : β → α → β} : ∀ {l : List α} {b : β}, (∀ p ∈ l, ∀ b, F b p = G b p) → l.foldl F b = l.foldl G b := fold_c
theorem WS_eq {X : XX} {k S : Nat} (h0 : 0 < S) (h : S < 512) : WS X k S = went X k (WS X k) S := by
  obtain ⟨n, rfl⟩ : ∃ n, S = n + 1 := ⟨S - 1, by omega⟩
  have h1 := pl1 h0 h
  show va_up (wtab X k n) (n + 1) (went X k (wtab X k n) (n + 1)) (n + 1) = _
  rw [up_s]
  unfold went
  rw [wtab_le n (by omega)]
  refine fold_c (fun q hq b => ?_)
  have h2 := pl2 h0 h hq
  unfold wstep
  rw [wtab_le n (by omega)]
theorem cst_le {X : XX} (hX : okX X) {q c : Nat} (h : cst X q = some c) : c ≤ 1440 ∧ popc q ≤ 4 ∧ ∃ r, costS X q = some r ∧ r.1 = (c : Int) := by
  unfold cst at h
  by_cases hp : popc q ≤ 4
  · rw [if_pos hp] at h
    cases hc : costS X q with
    | none => rw [hc] at h; cases h
    | some r =>
      rw [hc] at h
      have := costS_ok hX r hc
      have e : r.1.toNat = c := Option.some.inj h
      exact ⟨by omega, hp, r, rfl, by omega⟩
  · rw [if_neg hp] at h
    cases h
theorem wstep_le {X : XX} {k : Nat} {t : Nat → Nat × Nat} {S : Nat} {cur : Nat × Nat} {q : Nat} : (wstep X k t S cur q).1 ≤ cur.1 := by
  unfold wstep
  split
  · exact Nat.le_refl _
  · split
    · rename_i hlt
      exact Nat.le_of_lt hlt
    · exact Nat.le_refl _
/-- the worth stays small -/
theorem WS_le {X : XX} (hX : okX X) {k : Nat} (hk : k ≤ 10) : ∀ (n S : Nat), S ≤ n → S < 512 → (WS X k S).1 ≤ 1000000 * popc S
  | 0, S, h, _ => by
    have e : S = 0 := by omega
    subst e
    exact Nat.zero_le _
  | n + 1, S, h, h9 => by
    rcases Nat.eq_zero_or_pos S with e | h0
    · subst e
      exact Nat.zero_le _
    · have h1 := pl1 h0 h9
      have ih := WS_le hX hk n (dif S (lb S)) (by omega) (by omega)
      rw [WS_eq h0 h9]
      unfold went
      have key : ∀ (l : List Nat) (c : Nat × Nat), c.1 ≤ 1000000 * popc S → (l.foldl (wstep X k (WS X k) S) c).1 ≤ 1000000 * popc S := by
        intro l
        induction l with
        | nil => intro c hc; exact hc
        | cons a l ihl =>
          intro c hc
          rw [List.foldl_cons]
          exact ihl _ (Nat.le_trans wstep_le hc)
      refine key _ _ ?_
      show (WS X k (dif S (lb S))).1 + 1000000 ≤ 1000000 * popc S
      have := h1.2.2.2.2.1
      omega
/-! the class: findAll -/
def WT (X : XX) (k P n : Nat) (σ : MS) : Prop := ∀ S, S < n → dif S P = 0 → σ 30 S = nI (WS X k S).1 ∧ σ 31 S = nI (WS X k S).2 ∨ S = 0 ∧ σ 30 0 = 0
def FrT (σ σ' : MS) : Prop := ∀ k j, k ≠ 30 → k ≠ 31 → σ' k j = σ k j
theorem WS_2 {X : XX} {k S : Nat} (h : S < 512) : (WS X k S).2 < 512 := by
  rcases Nat.eq_zero_or_pos S with e | h0
  · subst e
    exact Nat.lt_of_le_of_lt (Nat.le_refl 0) (by decide)
  · rw [WS_eq h0 h]
    unfold went
    have key : ∀ (l : List Nat) (c : Nat × Nat), (∀ q ∈ l, q < 512) → c.2 < 512 → (l.foldl (wstep X k (WS X k) S) c).2 < 512 := by
      intro l
      induction l with
      | nil => intro c _ hc; exact hc
      | cons a l ihl =>
        intro c hl hc
        rw [List.foldl_cons]
        refine ihl _ (fun q hq => hl q (List.mem_cons_of_mem _ hq)) ?_
        unfold wstep
        split
        · exact hc
        · split
          · exact hl a List.mem_cons_self
          · exact hc
    exact key _ _ (fun q hq => (pl2 h0 h hq).2.1) (by decide : (0 : Nat) < 512)
theorem try_ok {X : XX} (hX : okX X) {P : Nat} (hP : P < 2 ^ (xn X)) {k : Nat} (hk : k ≤ 10) {S q : Nat} (h0 : 0 < S) (hSP : dif S P = 0) (hq : q ∈ PL S) {σ : MS} (hK : CK X σ) (hA : KnA P σ) (hT : WT X k P S σ) {cur : Nat × Nat} (hc1 : cur.1 ≤ 9000000) (hcur : σ 30 S = nI cur.1 ∧ σ 31 S = nI cur.2) {Q : MS → Prop} (hQ : ∀ σ', FrT σ σ' → WT X k P S σ' → σ' 30 S = nI (wstep X k (WS X k) S cur q).1 → σ' 31 S = nI (wstep X k (WS X k) S cur q).2 → Q σ') : w_X1_tryPool (nI S) (nI q) (nI k) σ Q := by
  have hP9 := okS_9 hX hP
  have hS9 : S < 512 := sub_lt (n := 9) hSP hP9
  have h2 := pl2 h0 hS9 hq
  have hpq := popc_le q
  have rf : FrT σ σ := fun _ _ _ _ => rfl
  unfold w_X1_tryPool w_X1_tryPool_E
  refine w_bc h2.2.1 ⟨fun h => ?_, fun h => ?_⟩
  · have h4 := (nI_leI (b := 4) (by omega) (by omega)).mp h
    unfold w_X0_minutesFor w_X0_minutesFor_E
    rw [nI_c (by omega : q ≤ 1000000000)]
    refine ⟨vin h2.2.1 (by omega), ?_⟩
    have hqP : dif q P = 0 := dif_0.mpr (fun i hi => dif_0.mp hSP i (dif_0.mp h2.2.2.1 i hi))
    have hrep : okS X q ∧ crep (σ 28 q) (σ 29 q) (costS X q) := by
      rcases hK q h2.2.1 with g | g
      · exact absurd g (hA q h2.1 h2.2.1 hqP h4)
      · exact g
    cases hc : costS X q with
    | none =>
      rw [hc] at hrep
      rw [hrep.2.1]
      refine ⟨fun z => absurd z (by decide), fun _ => ?_⟩
      have e : wstep X k (WS X k) S cur q = cur := by
        unfold wstep cst
        rw [if_pos h4, hc]
        rfl
      exact hQ σ rf hT (by rw [e]; exact hcur.1) (by rw [e]; exact hcur.2)
    | some r =>
      rw [hc] at hrep
      have hr := costS_ok hX r hc
      have hcs : cst X q = some r.1.toNat := by
        unfold cst
        rw [if_pos h4, hc]
        rfl
      obtain ⟨c, hcn⟩ : ∃ c : Nat, r.1 = (c : Int) := ⟨r.1.toNat, by omega⟩
      have hc2 : r.1.toNat = c := by omega
      rw [hc2] at hcs
      have hc14 : c ≤ 1440 := by omega
      rw [hrep.2.1, hcn, ← iI_n, nI_dif]
      refine ⟨fun _ => ?_, fun z => absurd (nI_pos' (by omega)) z⟩
      have hdl := h2.2.2.2.1
      rw [nI_c (by omega : dif S q ≤ 1000000000)]
      refine ⟨vin (by omega) (by omega), fun x5 e5 => ?_⟩
      have hdP : dif (dif S q) P = 0 := dif_0.mpr (fun i hi => by
        rw [dif_b] at hi
        simp only [Bool.and_eq_true] at hi
        exact dif_0.mp hSP i hi.1)
      have hw30 : σ 30 (dif S q) = nI (WS X k (dif S q)).1 := by
        rcases hT (dif S q) hdl hdP with g | g
        · exact g.1
        · rw [g.1]
          exact g.2
      have hwl := WS_le hX hk (dif S q) (dif S q) (Nat.le_refl _) (by omega)
      have hpl := popc_le (dif S q)
      have hck : c * k ≤ 1440 * 10 := Nat.mul_le_mul hc14 hk
      rw [hw30, pk_mul, nI_add, nI_1] at e5
      rw [nI_c (by omega : S ≤ 1000000000), hcur.1]
      refine ⟨vin hS9 (by omega), fun z => ?_, fun z => ?_⟩
      · rw [e5] at z
        have z := (nI_leI (by omega) (by omega)).mp z
        have e : wstep X k (WS X k) S cur q = cur := by
          unfold wstep
          rw [hcs]
          exact if_neg (by omega)
        exact hQ σ rf hT (by rw [e]; exact hcur.1) (by rw [e]; exact hcur.2)
      · rw [e5] at z
        have z : (WS X k (dif S q)).1 + c * k + 1 < cur.1 := by
          rcases Nat.lt_or_ge ((WS X k (dif S q)).1 + c * k + 1) cur.1 with g | g
          · exact g
          · exact absurd (nI_le g (by omega)) z
        have e : wstep X k (WS X k) S cur q = ((WS X k (dif S q)).1 + c * k + 1, q) := by
          unfold wstep
          rw [hcs]
          exact if_pos z
        intro σa ea σb eb
        refine hQ σb ?_ ?_ ?_ ?_
        · intro k2 j g1 g2
          subst ea eb
          simp [mst, g1, g2]
        · intro T hTS hTP
          have hne : T ≠ S := by omega
          have := hT T hTS hTP
          subst ea eb
          have h0S : 0 ≠ S := by omega
          simpa [mst, hne, h0S] using this
        · rw [e, ← e5]
          subst ea eb
          simp [mst]
        · rw [e]
          subst ea eb
          simp [mst]
  · have h4 : ¬ popc q ≤ 4 := fun z => h (nI_le (b := 4) z (by decide))
    have e : wstep X k (WS X k) S cur q = cur := by
      unfold wstep cst
      rw [if_neg h4]
    exact hQ σ rf hT (by rw [e]; exact hcur.1) (by rw [e]; exact hcur.2)
theorem CK.frt {X : XX} {σ σ' : MS} (h : FrT σ σ') (c : CK X σ) : CK X σ' := fun S hS => by
  rw [h 28 S (by omega) (by omega), h 29 S (by omega) (by omega)]
  exact c S hS
theorem KnA.frt {P : Nat} {σ σ' : MS} (h : FrT σ σ') (c : KnA P σ) : KnA P σ' := fun S g0 g1 g2 g3 => by
  rw [h 28 S (by omega) (by omega)]
  exact c S g0 g1 g2 g3
theorem subs_len (r : Nat) : ∀ (n o : Nat), (subs r n o).length = n
  | 0, _ => rfl
  | n + 1, o => by
    unfold subs
    rw [List.length_cons, subs_len r n]
theorem sh1 {n : Nat} (h : n ≤ 9) : (1 : Int32) <<< (nI n &&& 31) = nI (2 ^ n) := nI_sh (by omega)
theorem choose_ok {X : XX} (hX : okX X) {P : Nat} (hP : P < 2 ^ (xn X)) {k : Nat} (hk : k ≤ 10) {S : Nat} (h0 : 0 < S) (hSP : dif S P = 0) {σ : MS} (hK : CK X σ) (hA : KnA P σ) (hT : WT X k P S σ) {Q : MS → Prop} (hQ : ∀ σ', FrT σ σ' → WT X k P (S + 1) σ' → Q σ') : w_X1_choose (nI S) (nI k) σ Q := by
  have hP9 := okS_9 hX hP
  have hS9 : S < 512 := sub_lt (n := 9) hSP hP9
  have h1 := pl1 h0 hS9
  unfold w_X1_choose w_X1_choose_E
  intro x3 e3 x4 e4
  rw [lbI hS9] at e3
  rw [e3, nI_dif] at e4
  subst e3 e4
  have hdP : dif (dif S (lb S)) P = 0 := dif_0.mpr (fun i hi => by
    rw [dif_b] at hi
    simp only [Bool.and_eq_true] at hi
    exact dif_0.mp hSP i hi.1)
  have hw30 : σ 30 (dif S (lb S)) = nI (WS X k (dif S (lb S))).1 := by
    rcases hT (dif S (lb S)) h1.2.2.2.1 hdP with g | g
    · exact g.1
    · rw [g.1]
      exact g.2
  rw [nI_c (by omega : dif S (lb S) ≤ 1000000000), nI_c (by omega : S ≤ 1000000000), hw30]
  refine ⟨vin (by omega) (by omega), vin hS9 (by omega), fun σa ea σb eb => ?_⟩
  rw [show (1000000 : Int32) = nI 1000000 from rfl, nI_add] at ea
  have hpr := popc_le (dif S (lb S))
  have hwl := WS_le hX hk (dif S (lb S)) (dif S (lb S)) (Nat.le_refl _) (by omega)
  refine w_bc (by omega) (fun x5 e5 => ?_)
  rw [sh1 hpr] at e5
  subst e5
  have hFb : FrT σ σb := fun k2 j g1 g2 => by
    subst ea eb
    simp [mst, g1, g2]
  have hTb : WT X k P S σb := fun T hTS hTP => by
    have hne : T ≠ S := by omega
    have := hT T hTS hTP
    have h0S : 0 ≠ S := by omega
    subst ea eb
    simpa [mst, hne, h0S] using this
  have loop : ∀ (m n i o : Nat) (σ1 : MS) (cur : Nat × Nat), i + m = 2 ^ popc (dif S (lb S)) → m < n → o < 512 → (∀ x ∈ subs (dif S (lb S)) m o, lb S ||| x ∈ PL S) → FrT σ σ1 → WT X k P S σ1 → cur.1 ≤ 9000000 → (σ1 30 S = nI cur.1 ∧ σ1 31 S = nI cur.2) → ((subs (dif S (lb S)) m o).map (fun o => lb S ||| o)).foldl (wstep X k (WS X k) S) cur = WS X k S → w_X1_choose_H50 Q n (nI S) (nI k) (nI (lb S)) (nI (dif S (lb S))) (nI (2 ^ popc (dif S (lb S)))) (nI o) (nI i) σ1 := by
    have hpw : 2 ^ popc (dif S (lb S)) ≤ 2 ^ 9 := Nat.pow_le_pow_right (by decide) hpr
    intro m
    induction m with
    | zero =>
      intro n i o σ1 cur hi hn ho hx hF hT1 hc1 hc he
      obtain ⟨n, rfl⟩ : ∃ z, n = z + 1 := ⟨n - 1, by omega⟩
      unfold w_X1_choose_H50
      refine ⟨fun _ => hQ σ1 hF (fun T hTS hTP => ?_), fun z => absurd (nI_le (by omega) (by omega)) z⟩
      have he : cur = WS X k S := he
      rcases Nat.lt_or_ge T S with q | q
      · exact hT1 T q hTP
      · have e : T = S := by omega
        subst e
        rw [he] at hc
        exact Or.inl hc
    | succ m ih =>
      intro n i o σ1 cur hi hn ho hx hF hT1 hc1 hc he
      obtain ⟨n, rfl⟩ : ∃ z, n = z + 1 := ⟨n - 1, by omega⟩
      unfold w_X1_choose_H50
      refine ⟨fun z => absurd z (nI_ge (by omega) (by omega)), fun _ => ?_⟩
      unfold subs at hx he
      rw [List.map_cons, List.foldl_cons] at he
      rw [nI_or]
      refine try_ok hX hP hk h0 hSP (hx o List.mem_cons_self) (hK.frt hF) (hA.frt hF) hT1 hc1 hc (fun σ2 hF2 hT2 g1 g2 x6 e6 => ?_)
      have hdl : dif S (lb S) < 512 := by omega
      rw [sub_step ho hdl] at e6
      rw [e6, nI_1]
      refine ih n (i + 1) _ σ2 _ (by omega) (by omega) ?_ (fun x hxm => hx x (List.mem_cons_of_mem _ hxm)) (fun k2 j z1 z2 => (hF2 k2 j z1 z2).trans (hF k2 j z1 z2)) hT2 ?_ ⟨g1, g2⟩ he
      · exact Nat.lt_of_le_of_lt Nat.and_le_right hdl
      · exact Nat.le_trans wstep_le hc1
  refine ⟨2 ^ popc (dif S (lb S)) + 1, ?_⟩
  have := loop (2 ^ popc (dif S (lb S))) (2 ^ popc (dif S (lb S)) + 1) 0 0 σb ((WS X k (dif S (lb S))).1 + 1000000, 0) (by omega) (by omega) (by decide) (fun x hx => List.mem_map.mpr ⟨x, hx, rfl⟩) hFb hTb (by
    show (WS X k (dif S (lb S))).1 + 1000000 ≤ 9000000
    have hps := popc_le S
    have := h1.2.2.2.2.1
    omega) ?_ ?_
  · exact this
  · subst ea eb
    refine ⟨?_, ?_⟩ <;> simp [mst]
    rfl
  · rw [WS_eq h0 hS9]
    rfl
theorem findAll_ok {X : XX} (hX : okX X) {P : Nat} (hP : P < 2 ^ (xn X)) {k : Nat} (hk : k ≤ 10) {σ : MS} (hK : CK X σ) (hA : KnA P σ) {Q : Int32 → MS → Prop} (hQ : ∀ σ', FrT σ σ' → WT X k P (P + 1) σ' → Q (nI (WS X k P).1) σ') : w_X1_findAll (nI P) (nI k) σ Q := by
  have hP9 := okS_9 hX hP
  unfold w_X1_findAll w_X1_findAll_E
  intro σa ea
  have loop : ∀ (m n i : Nat) (σ1 : MS), i + m = P + 1 → m < n → 0 < i → FrT σ σ1 → WT X k P i σ1 → w_X1_findAll_H9 Q n (nI P) (nI k) (nI i) σ1 := by
    intro m
    induction m with
    | zero =>
      intro n i σ1 hi hn h0 hF hT
      obtain ⟨n, rfl⟩ : ∃ z, n = z + 1 := ⟨n - 1, by omega⟩
      unfold w_X1_findAll_H9
      have e : i = P + 1 := by omega
      subst e
      refine ⟨fun _ => ?_, fun z => absurd (nI_lt (by omega) (by omega)) z⟩
      unfold w_X1_findAll_J34
      have hself : dif P P = 0 := dif_0.mpr (fun _ h => h)
      have h30 : σ1 30 P = nI (WS X k P).1 := by
        rcases hT P (by omega) hself with g | g
        · exact g.1
        · rw [g.1]
          exact g.2
      rw [nI_c (by omega : P ≤ 1000000000), h30]
      exact ⟨vin hP9 (by omega), hQ σ1 hF hT⟩
    | succ m ih =>
      intro n i σ1 hi hn h0 hF hT
      obtain ⟨n, rfl⟩ : ∃ z, n = z + 1 := ⟨n - 1, by omega⟩
      unfold w_X1_findAll_H9
      rw [nI_dif]
      have hdl := dif_lt (a := i) (b := P) (n := 9) (by omega)
      refine ⟨fun z => absurd ((nI_ltI (by omega) (by omega)).mp z) (by omega), fun _ => ⟨fun z => ?_, fun z => ?_⟩⟩
      · rw [nI_1]
        refine ih n (i + 1) σ1 (by omega) (by omega) (by omega) hF (fun T hTS hTP => ?_)
        rcases Nat.lt_or_ge T i with q | q
        · exact hT T q hTP
        · have e : T = i := by omega
          subst e
          exact absurd (by rw [hTP]; rfl) z
      · have hd0 : dif i P = 0 := (nI_eq (b := 0) (by omega) (by omega)).mp z
        refine choose_ok hX hP hk h0 hd0 (hK.frt hF) (hA.frt hF) hT (fun σ2 hF2 hT2 => ?_)
        rw [nI_1]
        exact ih n (i + 1) σ2 (by omega) (by omega) (by omega) (fun k2 j z1 z2 => (hF2 k2 j z1 z2).trans (hF k2 j z1 z2)) hT2
  refine ⟨P + 1, ?_⟩
  have := loop P (P + 1) 1 σa (by omega) (by omega) (by omega) (fun k2 j g1 g2 => by subst ea; simp [mst, g1]) (fun T hT1 hTP => by
    have e : T = 0 := by omega
    subst e
    refine Or.inr ⟨rfl, ?_⟩
    subst ea
    simp [mst])
  exact this
