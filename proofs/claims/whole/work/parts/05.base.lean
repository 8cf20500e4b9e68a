/-! ===== the memory: numbers by cell and place; every reference of the system is fixed once it is made ===== -/
abbrev MS : Type := Nat → Nat → Int32
def mst (σ : MS) (k j : Nat) (v : Int32) : MS := fun a b => if a = k ∧ b = j then v else σ a b
theorem mst_s {σ : MS} {k j : Nat} {v : Int32} : mst σ k j v k j = v := by simp [mst]
theorem mst_k {σ : MS} {k j a : Nat} {v : Int32} (h : a ≠ k) : mst σ k j v a = σ a := by
  funext b
  simp [mst, h]
theorem mst_j {σ : MS} {k j a b : Nat} {v : Int32} (h : b ≠ j) : mst σ k j v a b = σ a b := by simp [mst, h]
theorem mst_upd {σ : MS} {k j : Nat} {v : Int32} : mst σ k j v k = upd (σ k) j v := by
  funext b
  by_cases h : b = j <;> simp [mst, upd, h]
abbrev WD : Type := va_G × (Nat → Nat) × (Nat → ClassId) × List Nat
def NN : Nat := 102
/-- an object cell: its class, and of each field the cell that it refers to, or none for a number -/
def fdo (k : Nat) : Nat × List (Option Nat) := if k = 0 then (8, [some 1, some 4, some 6, some 9, some 10, some 11, some 12, none]) else if k = 1 then (5, [some 2, some 3]) else if k = 4 then (2, [some 5, none]) else if k = 6 then (7, [some 1, some 4, some 7, some 8, some 23, some 24, some 25, some 26, some 27]) else if k = 7 then (6, [none, some 13, some 14, some 15, some 16, some 17, none, none]) else if k = 8 then (6, [none, some 18, some 19, some 20, some 21, some 22, none, none]) else if k = 9 then (0, [some 6, some 28, some 29]) else if k = 10 then (1, [some 9, some 30, some 31]) else if k = 11 then (4, [none, none, some 32, some 33, some 34, some 35, some 36]) else if k = 66 then (9, [some 67, some 68, some 69, none, none, some 70, some 71, some 72, some 73, some 74, some 75, some 76, some 77, some 78, some 79, some 80, some 81, some 82, some 83, some 84, some 85, some 86, some 87, some 88, none, none, none, none, some 89, some 90, some 91, some 92, some 93, some 94, some 95, some 96, none, none, some 97, some 98, some 99, some 100, some 101]) else (3, [none, none, none, none, none, none, none, none, none, none, none])
def alen (k : Nat) : Nat := if k < 13 then 7 else if k < 28 then 4 else if k < 32 then 512 else if k < 37 then 9 else if k < 67 then 10 else if k < 68 then 7 else if k < 70 then 100 else if k < 81 then 9 else if k < 83 then 5 else if k < 85 then 9 else if k < 87 then 5 else if k < 89 then 9 else if k < 97 then 512 else 9
def knd (k : Nat) : Nat := if k < 12 then (if k = 2 then 4 else if k = 3 then 5 else if k = 5 then 3 else 0) else if k < 37 then 1 else if k < 46 then 0 else if k < 66 then 1 else if k = 66 then 0 else if k = 79 then 2 else if k = 80 then 2 else 1

def fva (E : WD) (σ : MS) (k : Nat) (j : Nat) (o : Option Nat) : Value := match o with
  | none => .int (σ k j)
  | some r => .ref (E.2.1 r)
def cel (E : WD) (σ : MS) (k : Nat) : va_E :=
  if knd k = 0 then .inr ((fdo k).1, (fdo k).2.mapIdx (fva E σ k))
  else if knd k = 1 then .inl (E.2.2.1 0, alen k, .inl (σ k))
  else if knd k = 2 then .inl (E.2.2.1 1, alen k, .inl (σ k))
  else if knd k = 3 then .inl (E.2.2.1 2, 9, .inr (.inr (.inr (.inr (fun i => some (E.2.1 (37 + i)))))))
  else if knd k = 4 then .inl (E.2.2.1 3, 10, .inr (.inr (.inr (.inr (fun i => some (E.2.1 (46 + i)))))))
  else .inl (E.2.2.1 3, 10, .inr (.inr (.inr (.inr (fun i => some (E.2.1 (56 + i)))))))
theorem cel_0 {E : WD} {σ : MS} {k : Nat} (h : knd k = 0) : cel E σ k = .inr ((fdo k).1, (fdo k).2.mapIdx (fva E σ k)) := by
  unfold cel
  rw [if_pos h]
theorem cel_1 {E : WD} {σ : MS} {k : Nat} (h : knd k = 1) : cel E σ k = .inl (E.2.2.1 0, alen k, .inl (σ k)) := by
  unfold cel
  rw [if_neg (by omega), if_pos h]
theorem cel_2 {E : WD} {σ : MS} {k : Nat} (h : knd k = 2) : cel E σ k = .inl (E.2.2.1 1, alen k, .inl (σ k)) := by
  unfold cel
  rw [if_neg (by omega), if_neg (by omega), if_pos h]
theorem cel_c {E : WD} {σ σ' : MS} {k : Nat} (h : σ' k = σ k) : cel E σ' k = cel E σ k := by
  have e : fva E σ' k = fva E σ k := by
    funext j o
    cases o <;> simp [fva, h]
  unfold cel
  rw [h, e]
def wl (E : WD) (σ : MS) : va_W := E.2.2.2.map (fun k => (E.2.1 k, cel E σ k))
theorem wl_at {E : WD} {σ : MS} {i k : Nat} (hk : E.2.2.2[i]? = some k) : (wl E σ)[i]? = some (E.2.1 k, cel E σ k) := by
  unfold wl
  rw [List.getElem?_map, hk]
  rfl
theorem wl_get {E : WD} {σ : MS} {k : Nat} (hk : k ∈ E.2.2.2) : ∃ i : Nat, (wl E σ)[i]? = some (E.2.1 k, cel E σ k) ∧ E.2.2.2[i]? = some k := by
  obtain ⟨i, hi⟩ := List.getElem?_of_mem hk
  exact ⟨i, wl_at hi, hi⟩
theorem wl_some {E : WD} {σ : MS} {i : Nat} {q : Nat × va_E} (h : (wl E σ)[i]? = some q) : ∃ k, E.2.2.2[i]? = some k ∧ q = (E.2.1 k, cel E σ k) := by
  unfold wl at h
  rw [List.getElem?_map] at h
  cases hk : E.2.2.2[i]? with
  | none => rw [hk] at h; cases h
  | some k => rw [hk] at h; exact ⟨k, rfl, (Option.some.inj h).symm⟩
/-- the cells' addresses are apart -/
def inj (E : WD) : Prop := E.2.2.2.Nodup ∧ ∀ i j, i ∈ E.2.2.2 → j ∈ E.2.2.2 → E.2.1 i = E.2.1 j → i = j
theorem nodup_at : ∀ {l : List Nat}, l.Nodup → ∀ {i j k : Nat}, l[i]? = some k → l[j]? = some k → i = j
  | [], _, i, j, k, h, _ => by simp at h
  | a :: l, hn, i, j, k, h1, h2 => by
    obtain ⟨ha, hl⟩ := List.nodup_cons.mp hn
    cases i with
    | zero =>
      cases j with
      | zero => rfl
      | succ j =>
        rw [List.getElem?_cons_zero] at h1
        rw [List.getElem?_cons_succ] at h2
        cases h1
        exact absurd (List.mem_of_getElem? h2) ha
    | succ i =>
      rw [List.getElem?_cons_succ] at h1
      cases j with
      | zero =>
        rw [List.getElem?_cons_zero] at h2
        cases h2
        exact absurd (List.mem_of_getElem? h1) ha
      | succ j =>
        rw [List.getElem?_cons_succ] at h2
        rw [nodup_at hl h1 h2]
theorem wl_set {E : WD} {σ σ' : MS} {i k : Nat} {x : va_E} (hE : inj E) (hk : E.2.2.2[i]? = some k) (h : cel E σ' k = x) (ho : ∀ i, i ≠ k → σ' i = σ i) : (wl E σ).set i (E.2.1 k, x) = wl E σ' := by
  apply List.ext_getElem?
  intro j
  have hil : i < (wl E σ).length := (List.getElem?_eq_some_iff.mp (wl_at hk)).1
  by_cases hij : j = i
  · subst hij
    rw [List.getElem?_set_self hil, wl_at hk, h]
  · rw [List.getElem?_set_ne (Ne.symm hij)]
    cases hj : E.2.2.2[j]? with
    | none =>
      unfold wl
      rw [List.getElem?_map, List.getElem?_map, hj]
      rfl
    | some k' =>
      rw [wl_at hj, wl_at hj, cel_c (ho k' (fun e => hij (nodup_at hE.1 (e ▸ hj) hk)))]
def AD (E : WD) : Nat → Prop := fun q => ∃ k, k ∈ E.2.2.2 ∧ q = E.2.1 k
theorem wl_D {E : WD} {σ : MS} {A : Nat → Prop} (hi : inj E) (hA : ∀ k, k ∈ E.2.2.2 → A (E.2.1 k)) : va_D A (wl E σ) := by
  refine ⟨fun i j p q h1 h2 h3 => ?_, fun k q h => ?_⟩
  · obtain ⟨a1, b1, rfl⟩ := wl_some h1
    obtain ⟨a2, b2, rfl⟩ := wl_some h2
    have e := hi.2 a1 a2 (List.mem_of_getElem? b1) (List.mem_of_getElem? b2) h3
    subst e
    exact nodup_at hi.1 b1 b2
  · obtain ⟨a1, b1, rfl⟩ := wl_some h
    exact hA a1 (List.mem_of_getElem? b1)
abbrev tyW (E : WD) : List (ClassId × FieldType) := [(E.2.2.1 0, .int), (E.2.2.1 1, .boolean), (E.2.2.1 2, .object "RidePools$Person"), (E.2.2.1 3, .array .int)]
def nestWs : List Cond := [Cond.methodLinkNest "RidePools$People" 17 yX3_init "RidePools",
  Cond.fieldLinkNest "RidePools" 97 "RidePools$Person" "kind" "I" "RidePools",
  Cond.fieldLinkNest "RidePools" 102 "RidePools$Person" "house" "I" "RidePools",
  Cond.fieldLinkNest "RidePools$WayFinder" 109 "RidePools$Person" "house" "I" "RidePools",
  Cond.fieldLinkNest "RidePools" 105 "RidePools$Person" "work" "I" "RidePools",
  Cond.fieldLinkNest "RidePools$WayFinder" 111 "RidePools$Person" "work" "I" "RidePools",
  Cond.fieldLinkNest "RidePools" 108 "RidePools$Person" "early" "I" "RidePools",
  Cond.fieldLinkNest "RidePools$WayFinder" 113 "RidePools$Person" "early" "I" "RidePools",
  Cond.fieldLinkNest "RidePools" 111 "RidePools$Person" "late" "I" "RidePools",
  Cond.fieldLinkNest "RidePools$WayFinder" 115 "RidePools$Person" "late" "I" "RidePools",
  Cond.fieldLinkNest "RidePools" 114 "RidePools$Person" "detour" "I" "RidePools",
  Cond.fieldLinkNest "RidePools$WayFinder" 123 "RidePools$Person" "detour" "I" "RidePools",
  Cond.fieldLinkNest "RidePools" 117 "RidePools$Person" "seats" "I" "RidePools",
  Cond.fieldLinkNest "RidePools$People" 41 "RidePools$Person" "seats" "I" "RidePools",
  Cond.fieldLinkNest "RidePools" 130 "RidePools$Person" "isAway" "Z" "RidePools",
  Cond.fieldLinkNest "RidePools$People" 22 "RidePools$Person" "isAway" "Z" "RidePools",
  Cond.fieldLinkNest "RidePools" 243 "RidePools$Person" "isBroken" "Z" "RidePools",
  Cond.fieldLinkNest "RidePools" 123 "RidePools$Person" "bars" "I" "RidePools",
  Cond.fieldLinkNest "RidePools$People" 44 "RidePools$Person" "bars" "I" "RidePools",
  Cond.fieldLinkNest "RidePools" 222 "RidePools$Person" "points" "I" "RidePools",
  Cond.methodLinkNest "RidePools$WayFinder" 11 yX6_init "RidePools",
  Cond.fieldLinkNest "RidePools$WayFinder" 96 "RidePools$Way" "size" "I" "RidePools",
  Cond.fieldLinkNest "RidePools$Plan" 41 "RidePools$Way" "size" "I" "RidePools",
  Cond.fieldLinkNest "RidePools$Plan" 46 "RidePools$Way" "members" "[I" "RidePools",
  Cond.fieldLinkNest "RidePools$WayFinder" 106 "RidePools$Way" "members" "[I" "RidePools",
  Cond.fieldLinkNest "RidePools$WayFinder" 82 "RidePools$Way" "picked" "[I" "RidePools",
  Cond.fieldLinkNest "RidePools$WayFinder" 145 "RidePools$Way" "brought" "[I" "RidePools",
  Cond.fieldLinkNest "RidePools$WayFinder" 85 "RidePools$Way" "pickedAfter" "[I" "RidePools",
  Cond.fieldLinkNest "RidePools$Plan" 54 "RidePools$Way" "pickedAfter" "[I" "RidePools",
  Cond.fieldLinkNest "RidePools$Plan" 57 "RidePools$Way" "broughtAfter" "[I" "RidePools",
  Cond.fieldLinkNest "RidePools$WayFinder" 148 "RidePools$Way" "broughtAfter" "[I" "RidePools",
  Cond.fieldLinkNest "RidePools$WayFinder" 45 "RidePools$Way" "taken" "I" "RidePools",
  Cond.fieldLinkNest "RidePools$Plan" 49 "RidePools$Way" "taken" "I" "RidePools",
  Cond.fieldLinkNest "RidePools$Costs" 52 "RidePools$Way" "taken" "I" "RidePools",
  Cond.fieldLinkNest "RidePools" 148 "RidePools$Way" "taken" "I" "RidePools",
  Cond.fieldLinkNest "RidePools$Plan" 51 "RidePools$Way" "begin" "I" "RidePools",
  Cond.fieldLinkNest "RidePools$WayFinder" 135 "RidePools$Way" "begin" "I" "RidePools",
  Cond.methodLinkNest "RidePools$People" 34 yX8_contains "RidePools",
  Cond.methodLinkNest "RidePools$WayFinder" 99 yX8_contains "RidePools",
  Cond.methodLinkNest "RidePools$Costs" 38 yX8_contains "RidePools",
  Cond.methodLinkNest "RidePools$Plan" 60 yX8_contains "RidePools"]
theorem nw_0 : Cond.methodLinkNest "RidePools$People" 17 yX3_init "RidePools" ∈ nestWs := List.mem_of_getElem? (i := 0) rfl
theorem nw_1 : Cond.fieldLinkNest "RidePools" 97 "RidePools$Person" "kind" "I" "RidePools" ∈ nestWs := List.mem_of_getElem? (i := 1) rfl
theorem nw_2 : Cond.fieldLinkNest "RidePools" 102 "RidePools$Person" "house" "I" "RidePools" ∈ nestWs := List.mem_of_getElem? (i := 2) rfl
theorem nw_3 : Cond.fieldLinkNest "RidePools$WayFinder" 109 "RidePools$Person" "house" "I" "RidePools" ∈ nestWs := List.mem_of_getElem? (i := 3) rfl
theorem nw_4 : Cond.fieldLinkNest "RidePools" 105 "RidePools$Person" "work" "I" "RidePools" ∈ nestWs := List.mem_of_getElem? (i := 4) rfl
theorem nw_5 : Cond.fieldLinkNest "RidePools$WayFinder" 111 "RidePools$Person" "work" "I" "RidePools" ∈ nestWs := List.mem_of_getElem? (i := 5) rfl
theorem nw_6 : Cond.fieldLinkNest "RidePools" 108 "RidePools$Person" "early" "I" "RidePools" ∈ nestWs := List.mem_of_getElem? (i := 6) rfl
theorem nw_7 : Cond.fieldLinkNest "RidePools$WayFinder" 113 "RidePools$Person" "early" "I" "RidePools" ∈ nestWs := List.mem_of_getElem? (i := 7) rfl
theorem nw_8 : Cond.fieldLinkNest "RidePools" 111 "RidePools$Person" "late" "I" "RidePools" ∈ nestWs := List.mem_of_getElem? (i := 8) rfl
theorem nw_9 : Cond.fieldLinkNest "RidePools$WayFinder" 115 "RidePools$Person" "late" "I" "RidePools" ∈ nestWs := List.mem_of_getElem? (i := 9) rfl
theorem nw_10 : Cond.fieldLinkNest "RidePools" 114 "RidePools$Person" "detour" "I" "RidePools" ∈ nestWs := List.mem_of_getElem? (i := 10) rfl
theorem nw_11 : Cond.fieldLinkNest "RidePools$WayFinder" 123 "RidePools$Person" "detour" "I" "RidePools" ∈ nestWs := List.mem_of_getElem? (i := 11) rfl
theorem nw_12 : Cond.fieldLinkNest "RidePools" 117 "RidePools$Person" "seats" "I" "RidePools" ∈ nestWs := List.mem_of_getElem? (i := 12) rfl
theorem nw_13 : Cond.fieldLinkNest "RidePools$People" 41 "RidePools$Person" "seats" "I" "RidePools" ∈ nestWs := List.mem_of_getElem? (i := 13) rfl
theorem nw_14 : Cond.fieldLinkNest "RidePools" 130 "RidePools$Person" "isAway" "Z" "RidePools" ∈ nestWs := List.mem_of_getElem? (i := 14) rfl
theorem nw_15 : Cond.fieldLinkNest "RidePools$People" 22 "RidePools$Person" "isAway" "Z" "RidePools" ∈ nestWs := List.mem_of_getElem? (i := 15) rfl
theorem nw_16 : Cond.fieldLinkNest "RidePools" 243 "RidePools$Person" "isBroken" "Z" "RidePools" ∈ nestWs := List.mem_of_getElem? (i := 16) rfl
theorem nw_17 : Cond.fieldLinkNest "RidePools" 123 "RidePools$Person" "bars" "I" "RidePools" ∈ nestWs := List.mem_of_getElem? (i := 17) rfl
theorem nw_18 : Cond.fieldLinkNest "RidePools$People" 44 "RidePools$Person" "bars" "I" "RidePools" ∈ nestWs := List.mem_of_getElem? (i := 18) rfl
theorem nw_19 : Cond.fieldLinkNest "RidePools" 222 "RidePools$Person" "points" "I" "RidePools" ∈ nestWs := List.mem_of_getElem? (i := 19) rfl
theorem nw_20 : Cond.methodLinkNest "RidePools$WayFinder" 11 yX6_init "RidePools" ∈ nestWs := List.mem_of_getElem? (i := 20) rfl
theorem nw_21 : Cond.fieldLinkNest "RidePools$WayFinder" 96 "RidePools$Way" "size" "I" "RidePools" ∈ nestWs := List.mem_of_getElem? (i := 21) rfl
theorem nw_22 : Cond.fieldLinkNest "RidePools$Plan" 41 "RidePools$Way" "size" "I" "RidePools" ∈ nestWs := List.mem_of_getElem? (i := 22) rfl
theorem nw_23 : Cond.fieldLinkNest "RidePools$Plan" 46 "RidePools$Way" "members" "[I" "RidePools" ∈ nestWs := List.mem_of_getElem? (i := 23) rfl
theorem nw_24 : Cond.fieldLinkNest "RidePools$WayFinder" 106 "RidePools$Way" "members" "[I" "RidePools" ∈ nestWs := List.mem_of_getElem? (i := 24) rfl
theorem nw_25 : Cond.fieldLinkNest "RidePools$WayFinder" 82 "RidePools$Way" "picked" "[I" "RidePools" ∈ nestWs := List.mem_of_getElem? (i := 25) rfl
theorem nw_26 : Cond.fieldLinkNest "RidePools$WayFinder" 145 "RidePools$Way" "brought" "[I" "RidePools" ∈ nestWs := List.mem_of_getElem? (i := 26) rfl
theorem nw_27 : Cond.fieldLinkNest "RidePools$WayFinder" 85 "RidePools$Way" "pickedAfter" "[I" "RidePools" ∈ nestWs := List.mem_of_getElem? (i := 27) rfl
theorem nw_28 : Cond.fieldLinkNest "RidePools$Plan" 54 "RidePools$Way" "pickedAfter" "[I" "RidePools" ∈ nestWs := List.mem_of_getElem? (i := 28) rfl
theorem nw_29 : Cond.fieldLinkNest "RidePools$Plan" 57 "RidePools$Way" "broughtAfter" "[I" "RidePools" ∈ nestWs := List.mem_of_getElem? (i := 29) rfl
theorem nw_30 : Cond.fieldLinkNest "RidePools$WayFinder" 148 "RidePools$Way" "broughtAfter" "[I" "RidePools" ∈ nestWs := List.mem_of_getElem? (i := 30) rfl
theorem nw_31 : Cond.fieldLinkNest "RidePools$WayFinder" 45 "RidePools$Way" "taken" "I" "RidePools" ∈ nestWs := List.mem_of_getElem? (i := 31) rfl
theorem nw_32 : Cond.fieldLinkNest "RidePools$Plan" 49 "RidePools$Way" "taken" "I" "RidePools" ∈ nestWs := List.mem_of_getElem? (i := 32) rfl
theorem nw_33 : Cond.fieldLinkNest "RidePools$Costs" 52 "RidePools$Way" "taken" "I" "RidePools" ∈ nestWs := List.mem_of_getElem? (i := 33) rfl
theorem nw_34 : Cond.fieldLinkNest "RidePools" 148 "RidePools$Way" "taken" "I" "RidePools" ∈ nestWs := List.mem_of_getElem? (i := 34) rfl
theorem nw_35 : Cond.fieldLinkNest "RidePools$Plan" 51 "RidePools$Way" "begin" "I" "RidePools" ∈ nestWs := List.mem_of_getElem? (i := 35) rfl
theorem nw_36 : Cond.fieldLinkNest "RidePools$WayFinder" 135 "RidePools$Way" "begin" "I" "RidePools" ∈ nestWs := List.mem_of_getElem? (i := 36) rfl
theorem nw_37 : Cond.methodLinkNest "RidePools$People" 34 yX8_contains "RidePools" ∈ nestWs := List.mem_of_getElem? (i := 37) rfl
theorem nw_38 : Cond.methodLinkNest "RidePools$WayFinder" 99 yX8_contains "RidePools" ∈ nestWs := List.mem_of_getElem? (i := 38) rfl
theorem nw_39 : Cond.methodLinkNest "RidePools$Costs" 38 yX8_contains "RidePools" ∈ nestWs := List.mem_of_getElem? (i := 39) rfl
theorem nw_40 : Cond.methodLinkNest "RidePools$Plan" 60 yX8_contains "RidePools" ∈ nestWs := List.mem_of_getElem? (i := 40) rfl
theorem tw_nat : Cond.native arraycopyName ∈ gtbl := gt_r (i := 40) rfl rfl
def KW (E : WD) (U : State) : Prop := va_K E.1 vwCl (tyW E) U ∧ ∀ w ∈ nestWs, va_Nw w U
theorem nest_kind : ∀ w ∈ nestWs, (∃ a i b n d h, w = Cond.fieldLinkNest a i b n d h) ∨ ∃ a i x h, w = Cond.methodLinkNest a i x h := by
  intro w hw
  simp only [nestWs, List.mem_cons, List.not_mem_nil, or_false] at hw
  rcases hw with rfl | rfl | rfl | rfl | rfl | rfl | rfl | rfl | rfl | rfl | rfl | rfl | rfl | rfl | rfl | rfl | rfl | rfl | rfl | rfl | rfl | rfl | rfl | rfl | rfl | rfl | rfl | rfl | rfl | rfl | rfl | rfl | rfl | rfl | rfl | rfl | rfl | rfl | rfl | rfl | rfl <;> first | exact Or.inl ⟨_, _, _, _, _, _, rfl⟩ | exact Or.inr ⟨_, _, _, _, rfl⟩
theorem KW.warm {E : WD} {s U : State} (hW : s.WarmedH U.vm) (h : KW E s) : KW E U := by
  refine ⟨va_K.moved hW.alike h.1, fun w hw => ?_⟩
  have h0 := h.2 w hw
  rcases nest_kind w hw with ⟨a, i, b, n, d, g, rfl⟩ | ⟨a, i, x, g, rfl⟩
  · exact va_Nw.warmF hW h0
  · exact va_Nw.warmM hW h0
theorem KW.same {E : WD} {s U : State} (hW : s.vm = U.vm) (h : KW E s) : KW E U := by
  refine ⟨va_K.moved (by rw [← hW]; exact Vm.Alike.refl _) h.1, fun w hw => ?_⟩
  have h0 := h.2 w hw
  rcases nest_kind w hw with ⟨a, i, b, n, d, g, rfl⟩ | ⟨a, i, x, g, rfl⟩
  · exact va_Nw.same rfl hW h0
  · exact va_Nw.same rfl hW h0
/-! ===== locals by their places ===== -/
def lofL (L : List (Option Value)) : List (Nat × Value) := (List.range L.length).filterMap (fun i => (L.getD i none).map (fun v => (i, v)))
theorem lofL_mem {L : List (Option Value)} {i : Nat} {v : Value} : (i, v) ∈ lofL L ↔ L[i]? = some (some v) := by
  unfold lofL
  rw [List.mem_filterMap]
  constructor
  · rintro ⟨a, ha, h⟩
    have hl := List.mem_range.mp ha
    rw [List.getD_eq_getElem?_getD, List.getElem?_eq_getElem hl] at h
    cases hv : L[a] with
    | none => rw [hv] at h; cases h
    | some w =>
      rw [hv] at h
      cases h
      rw [List.getElem?_eq_getElem hl, hv]
  · intro h
    have hl := (List.getElem?_eq_some_iff.mp h).1
    exact ⟨i, List.mem_range.mpr hl, by rw [List.getD_eq_getElem?_getD, h]; rfl⟩
def lvh (ls : Array Slot) (nL : Nat) (L : List (Option Value)) : Prop := lv_has ls nL (lofL L) ∧ ∀ (i : Nat) (v : Value), L[i]? = some (some v) → v.category = 1
theorem lvh.at {ls : Array Slot} {nL : Nat} {L : List (Option Value)} (h : lvh ls nL L) {i : Nat} {v : Value} (hi : L[i]? = some (some v)) : ls[i]? = some (.val v) := h.1.2.2 (i, v) (lofL_mem.mpr hi)
theorem lvh.set {ls ls' : Array Slot} {nL : Nat} {L : List (Option Value)} {i : Nat} {v : Value} (h : lvh ls nL L) (hv : v.category = 1) (h' : lv_has ls' nL ((i, v) :: (lofL L).filter (fun q => !(q.1 == i) && !(q.1 + 1 == i && q.2.category == 2)))) : lvh ls' nL (L.set i (some v)) := by
  have key : ∀ (j : Nat) (w : Value), (L.set i (some v))[j]? = some (some w) → (j = i ∧ w = v) ∨ (j ≠ i ∧ L[j]? = some (some w)) := by
    intro j w hj
    by_cases hji : j = i
    · subst hji
      left
      have hl : j < (L.set j (some v)).length := (List.getElem?_eq_some_iff.mp hj).1
      rw [List.length_set] at hl
      rw [List.getElem?_set_self hl] at hj
      exact ⟨rfl, (Option.some.inj (Option.some.inj hj)).symm⟩
    · right
      rw [List.getElem?_set_ne (Ne.symm hji)] at hj
      exact ⟨hji, hj⟩
  refine ⟨⟨h'.1, h'.2.1, fun q hq => ?_⟩, fun j w hj => ?_⟩
  · obtain ⟨j, w⟩ := q
    have hj := lofL_mem.mp hq
    rcases key j w hj with ⟨rfl, rfl⟩ | ⟨hne, hj⟩
    · exact h'.2.2 _ List.mem_cons_self
    · refine h'.2.2 _ (List.mem_cons_of_mem _ (List.mem_filter.mpr ⟨lofL_mem.mpr hj, ?_⟩))
      have hc := h.2 j w hj
      simp [hne, hc]
  · rcases key j w hj with ⟨rfl, rfl⟩ | ⟨hne, hj⟩
    · exact hv
    · exact h.2 j w hj
theorem lvh.mono {ls : Array Slot} {nL : Nat} {L L' : List (Option Value)} (h : lvh ls nL L) (hs : ∀ (i : Nat) (v : Value), L'[i]? = some (some v) → L[i]? = some (some v)) : lvh ls nL L' :=
  ⟨⟨h.1.1, h.1.2.1, fun q hq => h.1.2.2 q (by
    obtain ⟨i, v⟩ := q
    exact lofL_mem.mpr (hs i v (lofL_mem.mp hq)))⟩, fun i v hi => h.2 i v (hs i v hi)⟩
theorem lv_args1 : ∀ (vs : List Value) (i : Nat), (∀ v ∈ vs, v.category = 1) → ∀ (j : Nat) (v : Value), vs[j]? = some v → (i + j, v) ∈ lv_args i vs
  | [], _, _, j, v, h => by simp at h
  | a :: vs, i, hc, j, v, h => by
    have ha : ¬ a.category = 2 := by rw [hc a List.mem_cons_self]; omega
    unfold lv_args
    cases j with
    | zero =>
      rw [List.getElem?_cons_zero] at h
      cases h
      exact List.mem_cons_self
    | succ j =>
      rw [List.getElem?_cons_succ] at h
      rw [if_neg ha]
      have := lv_args1 vs (i + 1) (fun v hv => hc v (List.mem_cons_of_mem _ hv)) j v h
      rw [show i + (j + 1) = i + 1 + j by omega]
      exact List.mem_cons_of_mem _ this
theorem lg_sl1 : ∀ (vs : List Value), (∀ v ∈ vs, v.category = 1) → (lg_sl vs).length = vs.length
  | [], _ => rfl
  | a :: vs, hc => by
    have ha := hc a List.mem_cons_self
    have ih := lg_sl1 vs (fun v hv => hc v (List.mem_cons_of_mem _ hv))
    unfold lg_sl at ih ⊢
    rw [List.flatMap_cons, List.length_append, ih, List.length_cons]
    cases a <;> simp [Value.category] at ha ⊢ <;> omega
theorem lvh_entry {vs : List Value} {n : Nat} (hc : ∀ v ∈ vs, v.category = 1) (hn : vs.length ≤ n) : lvh ((lg_sl vs ++ List.replicate (n - (lg_sl vs).length) Slot.unset).toArray) n (vs.map some ++ List.replicate (n - vs.length) none) := by
  have h := lv_entry vs (n := n) (by rw [lg_sl1 vs hc]; exact hn)
  have key : ∀ (i : Nat) (v : Value), (vs.map some ++ List.replicate (n - vs.length) none)[i]? = some (some v) → vs[i]? = some v := by
    intro i v hi
    by_cases hl : i < vs.length
    · rw [List.getElem?_append_left (by simpa using hl), List.getElem?_map] at hi
      cases hv : vs[i]? with
      | none => rw [hv] at hi; cases hi
      | some w => rw [hv] at hi; cases hi; rfl
    · rw [List.getElem?_append_right (by simpa using hl)] at hi
      have := List.mem_of_getElem? hi
      rw [List.mem_replicate] at this
      exact absurd this.2 (by simp)
  refine ⟨⟨h.1, h.2.1, fun q hq => ?_⟩, fun i v hi => hc v (List.mem_of_getElem? (key i v hi))⟩
  obtain ⟨i, v⟩ := q
  have := lv_args1 vs 0 hc i v (key i v (lofL_mem.mp hq))
  rw [Nat.zero_add] at this
  exact h.2.2 _ this
def subL : List (Option Value) → List (Option Value) → Prop
  | [], _ => True
  | none :: a, [] => subL a []
  | none :: a, _ :: b => subL a b
  | some v :: a, some w :: b => v = w ∧ subL a b
  | some _ :: _, none :: _ => False
  | some _ :: _, [] => False
theorem subL_ok : ∀ (a b : List (Option Value)), subL a b → ∀ (i : Nat) (v : Value), a[i]? = some (some v) → b[i]? = some (some v)
  | [], _, _, i, v, h => by simp at h
  | none :: a, [], hs, i, v, h => by
    cases i with
    | zero => simp at h
    | succ i =>
      rw [List.getElem?_cons_succ] at h
      have := subL_ok a [] hs i v h
      simp at this
  | none :: a, _ :: b, hs, i, v, h => by
    cases i with
    | zero => simp at h
    | succ i =>
      rw [List.getElem?_cons_succ] at h ⊢
      exact subL_ok a b hs i v h
  | some x :: a, some w :: b, hs, i, v, h => by
    cases i with
    | zero =>
      rw [List.getElem?_cons_zero] at h ⊢
      rw [← hs.1]
      exact h
    | succ i =>
      rw [List.getElem?_cons_succ] at h ⊢
      exact subL_ok a b hs.2 i v h
  | some _ :: _, none :: _, hs, _, _, _ => hs.elim
  | some _ :: _, [], hs, _, _, _ => hs.elim
theorem pn_N {k : Nat} (h : 37 ≤ k ∧ k < 46) : k < NN := Nat.lt_of_lt_of_le h.2 (by decide)
theorem pn_0 {k : Nat} (h : 37 ≤ k ∧ k < 46) : knd k = 0 := by
  unfold knd
  rw [if_neg (by omega), if_neg (by omega), if_pos (by omega)]
theorem pn_f {k : Nat} (h : 37 ≤ k ∧ k < 46) : fdo k = (3, [none, none, none, none, none, none, none, none, none, none, none]) := by
  unfold fdo
  rw [if_neg (by omega), if_neg (by omega), if_neg (by omega), if_neg (by omega), if_neg (by omega), if_neg (by omega), if_neg (by omega), if_neg (by omega), if_neg (by omega), if_neg (by omega)]
theorem pn_c {k : Nat} (h : 37 ≤ k ∧ k < 46) : vwCl[(fdo k).1]? = some (RX3, TX3, 11) := by
  rw [pn_f h]
  rfl
theorem pn_j {k j : Nat} (h : 37 ≤ k ∧ k < 46) (hj : [none, none, none, none, none, none, none, none, none, none, none][j]? = some (none : Option Nat)) : (fdo k).2[j]? = some none := by
  rw [pn_f h]
  exact hj
abbrev fdm (k : Nat) : Prop := k < NN
/-- the cells that Roads has -/
abbrev rdm (k : Nat) : Prop := k = 1 ∨ k = 2 ∨ k = 3 ∨ (46 ≤ k ∧ k < 66)
theorem rdm_lt {k : Nat} (h : rdm k) : k < NN := by
  show k < 102
  unfold rdm at h
  omega
theorem rdm_r {k : Nat} (h : 46 ≤ k ∧ k < 66) : rdm k := Or.inr (Or.inr (Or.inr h))
theorem rw_N {k : Nat} (h : 46 ≤ k ∧ k < 66) : k < NN := Nat.lt_of_lt_of_le h.2 (by decide)
theorem rw_1 {k : Nat} (h : 46 ≤ k ∧ k < 66) : knd k = 1 := by
  unfold knd
  rw [if_neg (by omega), if_neg (by omega), if_neg (by omega), if_pos (by omega)]
theorem rw_n {k : Nat} (h : 46 ≤ k ∧ k < 66) : alen k = 10 := by
  unfold alen
  rw [if_neg (by omega), if_neg (by omega), if_neg (by omega), if_neg (by omega), if_pos (by omega)]
section VQA
variable {p : Program} {l : Launch} {e : Env} {R : Room} {s : State} {m : MethodId} {args : Array Value} {below : List Frame} {meth : Method} {c : Code} {H : Heap} {locs : List Loc} {cells slots : Nat} {Q : State → Prop}
variable {pc : Nat} {ls : Array Slot} {rest : List Value} {D : va_G} {cl : List vw_C} {a : Nat} {tys : List (ClassId × FieldType)} {ws : va_W}
theorem va_aldqA {cc : ByteArray} (hexec : p.tables.exec = Jvm.exec) (hb : c.code = cc) (hK : va_K D cl tys s) (hP : va_P D cl ws H) (q0 t0 : Nat) {cA : ClassId} {ty : FieldType} {n : Nat} {f : Nat → Option Nat} (ha : ws[q0]? = some (a, .inl (cA, n, .inr (.inr (.inr (.inr f)))))) (ht : tys[t0]? = some (cA, .array ty)) {i : Int32} (hin : vp_in i n) (hdg : decode cc pc = .ok (.aaload, 1))
    (kk : W p l e R s m args below meth c H locs cells slots Q (F0 m (pc + 1) ls (va_rf (f i.toNatClampNeg) :: rest))) : W p l e R s m args below meth c H locs cells slots Q (F0 m pc ls (.int i :: .ref a :: rest)) := by
  have hlt : i.toNatClampNeg < n := Nat.not_le.mp fun q => hin (Or.inr q)
  exact W.aald (v := va_rf (f i.toNatClampNeg)) (ty := .array ty) hexec hb (hP q0 _ ha) ((hK.2 t0 _ ht).1 n (fun j => va_rf (f j))) rfl (fun q => by cases q) (by show ¬ (i < 0 ∨ (arrV _ _ _).slots.size ≤ _); rw [arrV_size]; exact hin) (by show (arrV _ _ _).slots[_]? = _; rw [arrV_read _ _ hlt]) rfl rfl hdg kk
end VQA
