/-! ===== a world that grows: its cells ===== -/
def dfl (o : Option Nat) : Value := match o with
  | none => .int 0
  | some _ => .null
def fvP (ad : Nat → Nat) (σ : MS) (k msk j : Nat) (o : Option Nat) : Value := match o with
  | none => .int (σ k j)
  | some r => if msk.testBit j then .ref (ad r) else .null
def ceN (ad : Nat → Nat) (cid : Nat → ClassId) (σ : MS) (k msk : Nat) : va_E :=
  if knd k = 0 then .inr ((fdo k).1, (fdo k).2.mapIdx (fvP ad σ k msk))
  else if knd k = 1 then .inl (cid 0, alen k, .inl (σ k))
  else if knd k = 2 then .inl (cid 1, alen k, .inl (σ k))
  else if knd k = 3 then .inl (cid 2, 9, .inr (.inr (.inr (.inr (fun i => if msk.testBit i then some (ad (37 + i)) else none)))))
  else if knd k = 4 then .inl (cid 3, 10, .inr (.inr (.inr (.inr (fun i => if i < 10 then some (ad (46 + i)) else none)))))
  else .inl (cid 3, 10, .inr (.inr (.inr (.inr (fun i => if i < 10 then some (ad (56 + i)) else none)))))
def wN (ad : Nat → Nat) (cid : Nat → ClassId) (σ : MS) (ps : List (Nat × Nat)) : va_W := ps.map (fun q => (ad q.1, ceN ad cid σ q.1 q.2))
theorem ceN_0 {ad : Nat → Nat} {cid : Nat → ClassId} {σ : MS} {k msk : Nat} (h : knd k = 0) : ceN ad cid σ k msk = .inr ((fdo k).1, (fdo k).2.mapIdx (fvP ad σ k msk)) := by
  unfold ceN
  rw [if_pos h]
theorem ceN_1 {ad : Nat → Nat} {cid : Nat → ClassId} {σ : MS} {k msk : Nat} (h : knd k = 1) : ceN ad cid σ k msk = .inl (cid 0, alen k, .inl (σ k)) := by
  unfold ceN
  rw [if_neg (by omega), if_pos h]
theorem ceN_2 {ad : Nat → Nat} {cid : Nat → ClassId} {σ : MS} {k msk : Nat} (h : knd k = 2) : ceN ad cid σ k msk = .inl (cid 1, alen k, .inl (σ k)) := by
  unfold ceN
  rw [if_neg (by omega), if_neg (by omega), if_pos h]
/-- the cell says nothing of the ids nw -/
def fre (nw : List Nat) (q : Nat × Nat) : Bool := !(nw.contains q.1) && (if knd q.1 = 0 then (List.range (fdo q.1).2.length).all (fun j => match (fdo q.1).2.getD j none with
    | none => true
    | some r => !(q.2.testBit j) || !(nw.contains r))
  else if knd q.1 = 3 then decide (q.2 < 512) && (List.range 9).all (fun i => !(q.2.testBit i) || !(nw.contains (37 + i)))
  else if knd q.1 = 4 then (List.range 10).all (fun i => !(nw.contains (46 + i)))
  else if knd q.1 = 5 then (List.range 10).all (fun i => !(nw.contains (56 + i)))
  else true)
theorem knd_le (k : Nat) : knd k ≤ 5 := by
  unfold knd
  repeat (first | omega | split)
theorem nctn {nw : List Nat} {x : Nat} (h : (!(nw.contains x)) = true) : x ∉ nw := by
  simpa using h
theorem ceN_c {nw : List Nat} {q : Nat × Nat} (hf : fre nw q = true) {ad ad' : Nat → Nat} (ha : ∀ x, x ∉ nw → ad' x = ad x) {cid : Nat → ClassId} {σ σ' : MS} (hs : σ' q.1 = σ q.1) : ((ad' q.1, ceN ad' cid σ' q.1 q.2) : Nat × va_E) = (ad q.1, ceN ad cid σ q.1 q.2) := by
  obtain ⟨k, msk⟩ := q
  unfold fre at hf
  rw [Bool.and_eq_true] at hf
  obtain ⟨h1, h2⟩ := hf
  have e1 : ad' k = ad k := ha k (nctn h1)
  dsimp only at h2 hs ⊢
  rw [e1]
  congr 1
  have hk5 := knd_le k
  unfold ceN
  by_cases k0 : knd k = 0
  · rw [if_pos k0] at h2
    rw [if_pos k0, if_pos k0]
    congr 2
    apply List.ext_getElem?
    intro j
    rw [List.getElem?_mapIdx, List.getElem?_mapIdx]
    cases ho : (fdo k).2[j]? with
    | none => rfl
    | some o =>
      have hl := (List.getElem?_eq_some_iff.mp ho).1
      have hj := all_lt h2 j hl
      rw [List.getD_eq_getElem?_getD, ho] at hj
      cases o with
      | none =>
        show some (Value.int (σ' k j)) = some (Value.int (σ k j))
        rw [hs]
      | some r =>
        dsimp only [Option.getD] at hj
        show some (if msk.testBit j then Value.ref (ad' r) else Value.null) = some (if msk.testBit j then Value.ref (ad r) else Value.null)
        cases hb : msk.testBit j
        · rfl
        · rw [hb] at hj
          rw [ha r (nctn (by simpa using hj))]
  · rw [if_neg k0] at h2
    rw [if_neg k0, if_neg k0, hs]
    by_cases k1 : knd k = 1
    · rw [if_pos k1, if_pos k1]
    · rw [if_neg k1, if_neg k1]
      by_cases k2 : knd k = 2
      · rw [if_pos k2, if_pos k2]
      · rw [if_neg k2, if_neg k2]
        by_cases k3 : knd k = 3
        · rw [if_pos k3] at h2
          rw [if_pos k3, if_pos k3]
          rw [Bool.and_eq_true] at h2
          have hm := of_decide_eq_true h2.1
          congr 7
          funext i
          cases hb : msk.testBit i
          · rfl
          · have hi := bits_lt (n := 9) hm hb
            have := all_lt h2.2 i hi
            rw [hb] at this
            rw [ha (37 + i) (nctn (by simpa using this))]
        · rw [if_neg k3] at h2
          rw [if_neg k3, if_neg k3]
          by_cases k4 : knd k = 4
          · rw [if_pos k4] at h2
            rw [if_pos k4, if_pos k4]
            congr 7
            funext i
            by_cases hi : i < 10
            · rw [if_pos hi, if_pos hi, ha (46 + i) (nctn (all_lt h2 i hi))]
            · rw [if_neg hi, if_neg hi]
          · rw [if_neg k4, if_pos (by omega)] at h2
            rw [if_neg k4, if_neg k4]
            congr 7
            funext i
            by_cases hi : i < 10
            · rw [if_pos hi, if_pos hi, ha (56 + i) (nctn (all_lt h2 i hi))]
            · rw [if_neg hi, if_neg hi]
theorem wN_c {nw : List Nat} {ps : List (Nat × Nat)} (hf : ps.all (fre nw) = true) {ad ad' : Nat → Nat} (ha : ∀ x, x ∉ nw → ad' x = ad x) {cid : Nat → ClassId} {σ σ' : MS} (hs : ∀ q ∈ ps, σ' q.1 = σ q.1) : wN ad' cid σ' ps = wN ad cid σ ps := by
  unfold wN
  apply List.map_congr_left
  intro q hq
  exact ceN_c (List.all_eq_true.mp hf q hq) ha (hs q hq)
theorem wN_at {ad : Nat → Nat} {cid : Nat → ClassId} {σ : MS} {ps : List (Nat × Nat)} {i : Nat} {q : Nat × Nat} (h : ps[i]? = some q) : (wN ad cid σ ps)[i]? = some (ad q.1, ceN ad cid σ q.1 q.2) := by
  unfold wN
  rw [List.getElem?_map, h]
  rfl
theorem wN_app {ad : Nat → Nat} {cid : Nat → ClassId} {σ : MS} {ps qs : List (Nat × Nat)} : wN ad cid σ (ps ++ qs) = wN ad cid σ ps ++ wN ad cid σ qs := List.map_append
theorem wN_set {ad : Nat → Nat} {cid : Nat → ClassId} {σ : MS} {ps : List (Nat × Nat)} {i : Nat} {q : Nat × Nat} : (wN ad cid σ ps).set i (ad q.1, ceN ad cid σ q.1 q.2) = wN ad cid σ (ps.set i q) := by
  unfold wN
  rw [List.map_set]
theorem fs0 {ad : Nat → Nat} {σ : MS} {k : Nat} (hz : σ k = fun _ => 0) : (fdo k).2.mapIdx (fvP ad σ k 0) = (fdo k).2.map dfl := by
  apply List.ext_getElem?
  intro j
  rw [List.getElem?_mapIdx, List.getElem?_map]
  cases (fdo k).2[j]? with
  | none => rfl
  | some o =>
    cases o with
    | none =>
      show some (Value.int (σ k j)) = some (Value.int 0)
      rw [hz]
    | some r =>
      show some (if (0 : Nat).testBit j then Value.ref (ad r) else Value.null) = some Value.null
      rw [Nat.zero_testBit]
      rfl
theorem fsP_get {ad : Nat → Nat} {σ : MS} {k msk j : Nat} {o : Option Nat} (h : (fdo k).2[j]? = some o) : ((fdo k).2.mapIdx (fvP ad σ k msk))[j]? = some (fvP ad σ k msk j o) := by
  rw [List.getElem?_mapIdx, h]
  rfl
theorem fsP_set {ad : Nat → Nat} {σ : MS} {k msk j r : Nat} (h : (fdo k).2[j]? = some (some r)) : ((fdo k).2.mapIdx (fvP ad σ k msk)).set j (.ref (ad r)) = (fdo k).2.mapIdx (fvP ad σ k (msk ||| 2 ^ j)) := by
  apply List.ext_getElem?
  intro i
  by_cases hi : i = j
  · subst hi
    have hl := (List.getElem?_eq_some_iff.mp h).1
    rw [List.getElem?_set_self (by simpa using hl), fsP_get h]
    show some (Value.ref (ad r)) = some (if (msk ||| 2 ^ i).testBit i then Value.ref (ad r) else Value.null)
    rw [Nat.testBit_or, Nat.testBit_two_pow_self, Bool.or_true]
    rfl
  · rw [List.getElem?_set_ne (Ne.symm hi), List.getElem?_mapIdx, List.getElem?_mapIdx]
    cases ho : (fdo k).2[i]? with
    | none => rfl
    | some o =>
      cases o with
      | none => rfl
      | some r2 =>
        show some (if msk.testBit i then Value.ref (ad r2) else Value.null) = some (if (msk ||| 2 ^ j).testBit i then Value.ref (ad r2) else Value.null)
        rw [Nat.testBit_or, Nat.testBit_two_pow, decide_eq_false (fun e => hi e.symm), Bool.or_false]
theorem fsP_put {ad : Nat → Nat} {σ : MS} {k msk j : Nat} {v : Int32} (h : (fdo k).2[j]? = some none) (hv : σ k j = v) : ((fdo k).2.mapIdx (fvP ad σ k msk)).set j (.int v) = (fdo k).2.mapIdx (fvP ad σ k msk) := by
  apply List.ext_getElem?
  intro i
  by_cases hi : i = j
  · subst hi
    have hl := (List.getElem?_eq_some_iff.mp h).1
    rw [List.getElem?_set_self (by simpa using hl), fsP_get h]
    show some (Value.int v) = some (Value.int (σ k i))
    rw [hv]
  · rw [List.getElem?_set_ne (Ne.symm hi)]
/-- all that the cell refers to stands -/
def ful (q : Nat × Nat) : Bool := if knd q.1 = 0 then (List.range (fdo q.1).2.length).all (fun j => match (fdo q.1).2.getD j none with
    | none => true
    | some _ => q.2.testBit j)
  else if knd q.1 = 3 then (List.range 9).all (fun i => q.2.testBit i)
  else true
theorem arrV_x {c : ClassId} {n : Nat} {f g : Nat → Value} (h : ∀ j, j < n → f j = g j) : arrV c n f = arrV c n g := by
  unfold arrV
  congr 2
  funext j
  exact h j.val j.isLt
theorem ful_at {G : va_G} {ad : Nat → Nat} {cid : Nat → ClassId} {ids : List Nat} {σ : MS} {q : Nat × Nat} (hf : ful q = true) {H : Heap} : va_at G vwCl (ad q.1, ceN ad cid σ q.1 q.2) H ↔ va_at G vwCl (ad q.1, cel (G, ad, cid, ids) σ q.1) H := by
  obtain ⟨k, msk⟩ := q
  unfold ful at hf
  dsimp only at hf ⊢
  have hk5 := knd_le k
  by_cases k0 : knd k = 0
  · rw [if_pos k0] at hf
    have e : (fdo k).2.mapIdx (fvP ad σ k msk) = (fdo k).2.mapIdx (fva (G, ad, cid, ids) σ k) := by
      apply List.ext_getElem?
      intro j
      rw [List.getElem?_mapIdx, List.getElem?_mapIdx]
      cases ho : (fdo k).2[j]? with
      | none => rfl
      | some o =>
        have hl := (List.getElem?_eq_some_iff.mp ho).1
        have hj := all_lt hf j hl
        rw [List.getD_eq_getElem?_getD, ho] at hj
        cases o with
        | none => rfl
        | some r =>
          dsimp only [Option.getD] at hj
          show some (if msk.testBit j then Value.ref (ad r) else Value.null) = some (Value.ref (ad r))
          rw [hj]
          rfl
    rw [ceN_0 k0, cel_0 k0, e]
  · by_cases k1 : knd k = 1
    · rw [ceN_1 k1, cel_1 k1]
    · by_cases k2 : knd k = 2
      · rw [ceN_2 k2, cel_2 k2]
      · unfold ceN cel
        rw [if_neg k0] at hf
        rw [if_neg k0, if_neg k0, if_neg k1, if_neg k1, if_neg k2, if_neg k2]
        by_cases k3 : knd k = 3
        · rw [if_pos k3] at hf
          rw [if_pos k3, if_pos k3]
          have e : vp_cell (cid 2) (9, (.inr (.inr (.inr (.inr (fun i => if msk.testBit i then some (ad (37 + i)) else none)))))) = vp_cell (cid 2) (9, (.inr (.inr (.inr (.inr (fun i => some (ad (37 + i)))))))) := by
            rw [vp_cell_q, vp_cell_q]
            exact arrV_x (fun j hj => by
              rw [all_lt hf j hj]
              rfl)
          show H[ad k]? = some (vp_cell (cid 2) (9, (.inr (.inr (.inr (.inr (fun i => if msk.testBit i then some (ad (37 + i)) else none))))))) ↔ H[ad k]? = some (vp_cell (cid 2) (9, (.inr (.inr (.inr (.inr (fun i => some (ad (37 + i)))))))))
          rw [e]
        · rw [if_neg k3, if_neg k3]
          by_cases k4 : knd k = 4
          · rw [if_pos k4, if_pos k4]
            have e : vp_cell (cid 3) (10, (.inr (.inr (.inr (.inr (fun i => if i < 10 then some (ad (46 + i)) else none)))))) = vp_cell (cid 3) (10, (.inr (.inr (.inr (.inr (fun i => some (ad (46 + i)))))))) := by
              rw [vp_cell_q, vp_cell_q]
              exact arrV_x (fun j hj => by
                rw [if_pos hj])
            show H[ad k]? = some (vp_cell (cid 3) (10, (.inr (.inr (.inr (.inr (fun i => if i < 10 then some (ad (46 + i)) else none))))))) ↔ H[ad k]? = some (vp_cell (cid 3) (10, (.inr (.inr (.inr (.inr (fun i => some (ad (46 + i)))))))))
            rw [e]
          · rw [if_neg k4, if_neg k4]
            have e : vp_cell (cid 3) (10, (.inr (.inr (.inr (.inr (fun i => if i < 10 then some (ad (56 + i)) else none)))))) = vp_cell (cid 3) (10, (.inr (.inr (.inr (.inr (fun i => some (ad (56 + i)))))))) := by
              rw [vp_cell_q, vp_cell_q]
              exact arrV_x (fun j hj => by
                rw [if_pos hj])
            show H[ad k]? = some (vp_cell (cid 3) (10, (.inr (.inr (.inr (.inr (fun i => if i < 10 then some (ad (56 + i)) else none))))))) ↔ H[ad k]? = some (vp_cell (cid 3) (10, (.inr (.inr (.inr (.inr (fun i => some (ad (56 + i)))))))))
            rw [e]
theorem ful_P {G : va_G} {ad : Nat → Nat} {cid : Nat → ClassId} {σ : MS} {ps : List (Nat × Nat)} (hf : ps.all ful = true) {H : Heap} : va_P G vwCl (wN ad cid σ ps) H ↔ va_P G vwCl (wl (G, ad, cid, ps.map (fun q => q.1)) σ) H := by
  constructor
  · intro h i q hq
    obtain ⟨k, hk, rfl⟩ := wl_some hq
    have hk : (ps.map (fun q => q.1))[i]? = some k := hk
    rw [List.getElem?_map] at hk
    cases hp : ps[i]? with
    | none => rw [hp] at hk; cases hk
    | some x =>
      rw [hp] at hk
      have e : x.1 = k := Option.some.inj hk
      have := h i _ (wN_at hp)
      rw [← e]
      exact (ful_at (List.all_eq_true.mp hf x (List.mem_of_getElem? hp))).mp this
  · intro h i q hq
    unfold wN at hq
    rw [List.getElem?_map] at hq
    cases hp : ps[i]? with
    | none => rw [hp] at hq; cases hq
    | some x =>
      rw [hp] at hq
      have e : (ad x.1, ceN ad cid σ x.1 x.2) = q := Option.some.inj hq
      rw [← e]
      have hi : (ps.map (fun q => q.1))[i]? = some x.1 := by rw [List.getElem?_map, hp]; rfl
      have := h i _ (wl_at (E := (G, ad, cid, ps.map (fun q => q.1))) (σ := σ) hi)
      exact (ful_at (List.all_eq_true.mp hf x (List.mem_of_getElem? hp))).mpr this
theorem ful_inj {G : va_G} {ad : Nat → Nat} {cid : Nat → ClassId} {σ : MS} {ps : List (Nat × Nat)} {A : Nat → Prop} (hn : (ps.map (fun q => q.1)).Nodup) (hD : va_D A (wN ad cid σ ps)) : inj (G, ad, cid, ps.map (fun q => q.1)) ∧ ∀ k, k ∈ ps.map (fun q => q.1) → A (ad k) := by
  have key : ∀ k, k ∈ ps.map (fun q => q.1) → ∃ (i : Nat) (x : Nat × Nat), ps[i]? = some x ∧ x.1 = k := fun k hk => by
    obtain ⟨x, hx, e⟩ := List.mem_map.mp hk
    obtain ⟨i, hi⟩ := List.getElem?_of_mem hx
    exact ⟨i, x, hi, e⟩
  refine ⟨⟨hn, fun a b ha hb e => ?_⟩, fun k hk => ?_⟩
  · obtain ⟨i, x, hx, ex⟩ := key a ha
    obtain ⟨j, y, hy, ey⟩ := key b hb
    have := hD.1 i j _ _ (wN_at hx) (wN_at hy) (by show ad x.1 = ad y.1; rw [ex, ey]; exact e)
    subst this
    rw [hx] at hy
    rw [← ex, ← ey, Option.some.inj hy]
  · obtain ⟨i, x, hx, ex⟩ := key k hk
    have := hD.2 i _ (wN_at hx)
    rw [← ex]
    exact this
theorem ful_D {G : va_G} {ad : Nat → Nat} {cid : Nat → ClassId} {σ : MS} {ps : List (Nat × Nat)} {A : Nat → Prop} (hE : inj (G, ad, cid, ps.map (fun q => q.1))) (hA : ∀ k, k ∈ ps.map (fun q => q.1) → A (ad k)) : va_D A (wN ad cid σ ps) := by
  have key : ∀ (i : Nat) (q : Nat × va_E), (wN ad cid σ ps)[i]? = some q → ∃ x : Nat × Nat, ps[i]? = some x ∧ q.1 = ad x.1 := fun i q hq => by
    unfold wN at hq
    rw [List.getElem?_map] at hq
    cases hp : ps[i]? with
    | none => rw [hp] at hq; cases hq
    | some x =>
      rw [hp] at hq
      have e : (ad x.1, ceN ad cid σ x.1 x.2) = q := Option.some.inj hq
      exact ⟨x, rfl, by rw [← e]⟩
  have mem : ∀ (i : Nat) (x : Nat × Nat), ps[i]? = some x → x.1 ∈ ps.map (fun q => q.1) := fun i x h => List.mem_map.mpr ⟨x, List.mem_of_getElem? h, rfl⟩
  refine ⟨fun i j p q h1 h2 h3 => ?_, fun k q h => ?_⟩
  · obtain ⟨x, hx, ex⟩ := key i p h1
    obtain ⟨y, hy, ey⟩ := key j q h2
    have e := hE.2 x.1 y.1 (mem i x hx) (mem j y hy) (by show ad x.1 = ad y.1; rw [← ex, ← ey]; exact h3)
    refine nodup_at hE.1 (k := x.1) ?_ ?_
    · show (ps.map (fun q => q.1))[i]? = some x.1
      rw [List.getElem?_map, hx]
      rfl
    · show (ps.map (fun q => q.1))[j]? = some x.1
      rw [List.getElem?_map, hy, e]
      rfl
  · obtain ⟨x, hx, ex⟩ := key k q h
    rw [ex]
    exact hA _ (mem k x hx)
