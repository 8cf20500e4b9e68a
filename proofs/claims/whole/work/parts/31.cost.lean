/-! ===== COST of a set, as a function; what it hangs on ===== -/
def okb (b : BB) : Prop := ∀ r, b = some r → 0 ≤ r.1 ∧ r.1 ≤ 1440
theorem okb_leaf {D : DD} {U Dl : List Nat} {ua t : Nat → Int} {all : Int} {b : BB} (h : okb b) (ha : 0 ≤ all) : okb (leafS D U Dl ua t all b) := by
  by_cases hg : all < tot b ∧ goodW D U ua t all
  · rw [leafS_y hg]
    intro r hr
    cases hr
    refine ⟨ha, ?_⟩
    show all ≤ 1440
    have h1 := hg.1
    cases b with
    | none => have : tot none = 1441 := rfl; omega
    | some r => have := (h r rfl).2; have e : tot (some r) = r.1 := rfl; omega
  · rw [leafS_n hg]
    exact h
theorem fold_p {α : Type} {P : BB → Prop} {F : BB → α → BB} : ∀ {l : List α} {b : BB}, P b → (∀ p ∈ l, ∀ b, P b → P (F b p)) → P (l.foldl F b)
  | [], b, h, _ => h
  | q :: l, b, h, hF => by
    rw [List.foldl_cons]
    exact fold_p (hF q List.mem_cons_self b h) (fun p hp => hF p (List.mem_cons_of_mem _ hp))
theorem okb_drop {D : DD} (hD : okD D) {U : List Nat} {ua : Nat → Int} : ∀ (f : Nat) (rem Dl : List Nat) (t : Nat → Int) (at_ : Int) (stop : Nat) (b : BB), stop < 10 → (∀ p ∈ rem, p < 9) → 0 ≤ at_ → okb b → okb (dropS D U ua f rem Dl t at_ stop b)
  | 0, rem, Dl, t, at_, stop, b, _, _, ha, h => okb_leaf h ha
  | f + 1, rem, Dl, t, at_, stop, b, hs, hr, ha, h => by
    unfold dropS
    refine fold_p h (fun p hp b hb => ?_)
    have hw := (hD.2 p (hr p hp)).2.1
    have hl := (hD.1 stop (dw D p) hs hw).1
    exact okb_drop hD f _ _ _ _ _ b hw (fun q hq => hr q (List.mem_of_mem_erase hq)) (by omega) hb
theorem okb_pick {D : DD} (hD : okD D) {M : List Nat} (hM : ∀ p ∈ M, p < 9) : ∀ (f : Nat) (rem U : List Nat) (ua : Nat → Int) (at_ : Int) (cur : Nat) (b : BB), cur < 9 → (∀ p ∈ rem, p < 9) → 0 ≤ at_ → okb b → okb (pickS D M f rem U ua at_ cur b)
  | 0, rem, U, ua, at_, cur, b, hc, _, ha, h => by
    unfold pickS
    exact okb_drop hD _ _ _ _ _ _ _ (hD.2 cur hc).1 hM ha h
  | f + 1, rem, U, ua, at_, cur, b, hc, hr, ha, h => by
    unfold pickS
    refine fold_p h (fun p hp b hb => ?_)
    have hl := (hD.1 (dh D cur) (dh D p) (hD.2 cur hc).1 (hD.2 p (hr p hp)).1).1
    exact okb_pick hD hM f _ _ _ _ p b (hr p hp) (fun q hq => hr q (List.mem_of_mem_erase hq)) (by omega) hb
theorem okb_best {D : DD} (hD : okD D) {M : List Nat} (hM : ∀ p ∈ M, p < 9) {d : Nat} (hd : d < 9) : okb (bestS D M d) := okb_pick hD hM _ _ _ _ _ _ _ hd (fun q hq => hM q (List.mem_of_mem_erase hq)) (Int.le_refl 0) (fun r hr => by cases hr)
/-- the MINUTES of the set's WAY with a driver -/
noncomputable def tb (X : XX) (S d : Nat) : Int := tot (bestS X.1 (rmD S 0 9) d)
theorem tb_ok {X : XX} (hX : okX X) {S d : Nat} (hd : d < 9) (hw : whyS X S d = 0) : (0 ≤ tb X S d ∧ tb X S d ≤ 1440) ∧ ∃ r, bestS X.1 (rmD S 0 9) d = some r ∧ r.1 = tb X S d := by
  have h := okb_best hX.1 (fun p hp => (rmD_mem.mp hp).1) (M := rmD S 0 9) hd
  unfold whyS at hw
  unfold tb
  cases hb : bestS X.1 (rmD S 0 9) d with
  | none =>
    rw [hb] at hw
    split at hw
    · cases hw
    · split at hw
      · cases hw
      · split at hw
        · cases hw
        · cases hw
  | some r => exact ⟨h r hb, r, rfl, rfl⟩
noncomputable def cstep (X : XX) (S : Nat) (c : Option (Int × Nat)) (d : Nat) : Option (Int × Nat) :=
  if whyS X S d = 0 then (match c with
    | none => some (tb X S d, d)
    | some r => if tb X S d < r.1 then some (tb X S d, d) else some r)
  else c
noncomputable def costS (X : XX) (S : Nat) : Option (Int × Nat) := (rmD S 0 9).foldl (cstep X S) none
def okc (X : XX) (S : Nat) (c : Option (Int × Nat)) : Prop := ∀ r, c = some r → r.2 < 9 ∧ S.testBit r.2 = true ∧ whyS X S r.2 = 0 ∧ r.1 = tb X S r.2 ∧ 0 ≤ r.1 ∧ r.1 ≤ 1440
theorem okc_step {X : XX} (hX : okX X) {S d : Nat} {c : Option (Int × Nat)} (hd : d < 9) (hb : S.testBit d = true) (h : okc X S c) : okc X S (cstep X S c d) := by
  unfold cstep
  by_cases hw : whyS X S d = 0
  · rw [if_pos hw]
    have ht := (tb_ok hX hd hw).1
    cases c with
    | none =>
      intro r hr
      cases hr
      exact ⟨hd, hb, hw, rfl, ht.1, ht.2⟩
    | some q =>
      intro r hr
      dsimp only at hr
      by_cases hl : tb X S d < q.1
      · rw [if_pos hl] at hr
        cases hr
        exact ⟨hd, hb, hw, rfl, ht.1, ht.2⟩
      · rw [if_neg hl] at hr
        exact h r hr
  · rw [if_neg hw]
    exact h
theorem okc_fold {X : XX} (hX : okX X) {S : Nat} : ∀ (l : List Nat) (c : Option (Int × Nat)), (∀ d ∈ l, d < 9 ∧ S.testBit d = true) → okc X S c → okc X S (l.foldl (cstep X S) c)
  | [], c, _, h => h
  | a :: l, c, hl, h => by
    rw [List.foldl_cons]
    exact okc_fold hX l _ (fun d hd => hl d (List.mem_cons_of_mem _ hd)) (okc_step hX (hl a List.mem_cons_self).1 (hl a List.mem_cons_self).2 h)
theorem costS_ok {X : XX} (hX : okX X) {S : Nat} : okc X S (costS X S) := okc_fold hX _ _ (fun d hd => ⟨(rmD_mem.mp hd).1, (rmD_mem.mp hd).2⟩) (fun r hr => by cases hr)
/-! what a set's COST hangs on -/
def agD (D D' : DD) (M : List Nat) : Prop := dl D = dl D' ∧ ∀ p ∈ M, dh D p = dh D' p ∧ dw D p = dw D' p ∧ de D p = de D' p ∧ da D p = da D' p ∧ dg D p = dg D' p
theorem fold_c {α β : Type} {F G : β → α → β} : ∀ {l : List α} {b : β}, (∀ p ∈ l, ∀ b, F b p = G b p) → l.foldl F b = l.foldl G b
  | [], b, _ => rfl
  | q :: l, b, h => by
    rw [List.foldl_cons, List.foldl_cons, h q List.mem_cons_self b]
    exact fold_c (fun p hp => h p (List.mem_cons_of_mem _ hp))
theorem leaf_c {D D' : DD} {M U Dl : List Nat} {ua t : Nat → Int} {all : Int} {b : BB} (h : agD D D' M) (hU : ∀ p ∈ U, p ∈ M) : leafS D U Dl ua t all b = leafS D' U Dl ua t all b := by
  have e1 : fsts D ua U = fsts D' ua U := fold_c (fun p hp b => by rw [(h.2 p (hU p hp)).2.2.1])
  have e2 : lsts D t U all = lsts D' t U all := fold_c (fun p hp b => by rw [(h.2 p (hU p hp)).2.2.2.1])
  have e3 : goodW D U ua t all ↔ goodW D' U ua t all := by
    unfold goodW
    rw [e1, e2]
    constructor
    · rintro ⟨h1, h2⟩
      exact ⟨fun p hp => by rw [← (h.2 p (hU p hp)).2.2.2.2]; exact h1 p hp, h2⟩
    · rintro ⟨h1, h2⟩
      exact ⟨fun p hp => by rw [(h.2 p (hU p hp)).2.2.2.2]; exact h1 p hp, h2⟩
  by_cases hg : all < tot b ∧ goodW D U ua t all
  · rw [leafS_y hg, leafS_y ⟨hg.1, e3.mp hg.2⟩, e2]
  · rw [leafS_n hg, leafS_n (fun z => hg ⟨z.1, e3.mpr z.2⟩)]
theorem drop_c {D D' : DD} {M U : List Nat} {ua : Nat → Int} (h : agD D D' M) (hU : ∀ p ∈ U, p ∈ M) : ∀ (f : Nat) (rem Dl : List Nat) (t : Nat → Int) (at_ : Int) (stop : Nat) (b : BB), (∀ p ∈ rem, p ∈ M) → dropS D U ua f rem Dl t at_ stop b = dropS D' U ua f rem Dl t at_ stop b
  | 0, rem, Dl, t, at_, stop, b, _ => leaf_c h hU
  | f + 1, rem, Dl, t, at_, stop, b, hr => by
    unfold dropS
    refine fold_c (fun p hp b => ?_)
    rw [h.1, (h.2 p (hr p hp)).2.1]
    exact drop_c h hU f _ _ _ _ _ b (fun q hq => hr q (List.mem_of_mem_erase hq))
theorem pick_c {D D' : DD} {M : List Nat} (h : agD D D' M) : ∀ (f : Nat) (rem U : List Nat) (ua : Nat → Int) (at_ : Int) (cur : Nat) (b : BB), (∀ p ∈ U, p ∈ M) → cur ∈ M → (∀ p ∈ rem, p ∈ M) → pickS D M f rem U ua at_ cur b = pickS D' M f rem U ua at_ cur b
  | 0, rem, U, ua, at_, cur, b, hU, hc, _ => by
    unfold pickS
    rw [(h.2 cur hc).1]
    exact drop_c h hU _ _ _ _ _ _ _ (fun p hp => hp)
  | f + 1, rem, U, ua, at_, cur, b, hU, hc, hr => by
    unfold pickS
    refine fold_c (fun p hp b => ?_)
    rw [h.1, (h.2 p (hr p hp)).1, (h.2 cur hc).1]
    refine pick_c h f _ _ _ _ p b (fun q hq => ?_) (hr p hp) (fun q hq => hr q (List.mem_of_mem_erase hq))
    rcases List.mem_append.mp hq with g | g
    · exact hU q g
    · rw [List.mem_singleton.mp g]
      exact hr p hp
def ag (X X' : XX) (S : Nat) : Prop := agD X.1 X'.1 (rmD S 0 9) ∧ ∀ p, p < 9 → S.testBit p = true → xk X p = xk X' p ∧ xs X p = xs X' p ∧ xb X p = xb X' p ∧ xr X p &&& S = xr X' p &&& S
theorem best_c {X X' : XX} {S d : Nat} (h : ag X X' S) (hd : d < 9) (hb : S.testBit d = true) : bestS X.1 (rmD S 0 9) d = bestS X'.1 (rmD S 0 9) d := by
  unfold bestS
  have hm : d ∈ rmD S 0 9 := rmD_mem.mpr ⟨hd, hb⟩
  exact pick_c h.1 _ _ _ _ _ _ _ (fun p hp => by rw [List.mem_singleton.mp hp]; exact hm) hm (fun p hp => List.mem_of_mem_erase hp)
theorem why_c {X X' : XX} {S d : Nat} (h : ag X X' S) (hd : d < 9) (hb : S.testBit d = true) : whyS X S d = whyS X' S d := by
  have hx := h.2 d hd hb
  have e1 : needS X (rmD S 0 9) = needS X' (rmD S 0 9) := by
    unfold needS
    congr 1
    apply List.map_congr_left
    intro p hp
    rw [(h.2 p (rmD_mem.mp hp).1 (rmD_mem.mp hp).2).1]
  have e2 : (rmD S 0 9).any (fun p => (xr X p &&& S) != 0) = (rmD S 0 9).any (fun p => (xr X' p &&& S) != 0) := by
    rw [Bool.eq_iff_iff, List.any_eq_true, List.any_eq_true]
    constructor
    · rintro ⟨p, hp, g⟩
      exact ⟨p, hp, by rw [← (h.2 p (rmD_mem.mp hp).1 (rmD_mem.mp hp).2).2.2.2]; exact g⟩
    · rintro ⟨p, hp, g⟩
      exact ⟨p, hp, by rw [(h.2 p (rmD_mem.mp hp).1 (rmD_mem.mp hp).2).2.2.2]; exact g⟩
  unfold whyS
  rw [hx.2.1, hx.2.2.1, e1, e2, best_c h hd hb]
theorem cost_c {X X' : XX} {S : Nat} (h : ag X X' S) : costS X S = costS X' S := by
  unfold costS
  refine fold_c (fun p hp b => ?_)
  have hm := rmD_mem.mp hp
  unfold cstep tb
  rw [why_c h hm.1 hm.2, best_c h hm.1 hm.2]
