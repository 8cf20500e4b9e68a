/-! ===== BEGIN words of one list among another's, by their places ===== -/
theorem goodIn_r {big : List Cond} (ws : List Cond) (ps : List Nat) (hp : ws = ps.filterMap (fun i => big[i]?)) (h : ws.all goodWord = true) : GoodIn big ws := by
  intro w hw
  have h1 := List.all_eq_true.mp h w hw
  rw [hp] at hw
  obtain ⟨i, -, hi⟩ := List.mem_filterMap.mp hw
  have hm : w ∈ big := by first | exact List.mem_of_getElem? hi | exact List.getElem?_mem hi
  exact ⟨hm, good_of_word h1⟩
theorem goodIn_app {big a b : List Cond} (ha : GoodIn big a) (hb : GoodIn big b) : GoodIn big (a ++ b) := fun w h => (List.mem_append.mp h).elim (ha w) (hb w)
theorem goodIn_ca {big a b : List Cond} {c : Cond} (ha : GoodIn big (c :: a)) (hb : GoodIn big b) : GoodIn big (c :: (a ++ b)) := fun w h => (List.mem_cons.mp h).elim (fun e => ha w (List.mem_cons.mpr (Or.inl e))) (fun h => (List.mem_append.mp h).elim (fun h => ha w (List.mem_cons.mpr (Or.inr h))) (hb w))
theorem goodIn_sub {big ws : List Cond} (hm : ∀ w ∈ ws, w ∈ big) (h : ws.all goodWord = true) : GoodIn big ws := fun w hw => ⟨hm w hw, good_of_word (List.all_eq_true.mp h w hw)⟩
/-! ===== END ===== -/

/-! ===== BEGIN new T[n][m]: the outer array a place, the inner ones among the pooled ===== -/
/-- f, but v at every address of l -/
def vr_up {α : Type} (f : Nat → α) (l : List Nat) (v : α) : Nat → α := fun a => if a ∈ l then v else f a
theorem vr_up_in {α : Type} {f : Nat → α} {l : List Nat} {v : α} {a : Nat} (h : a ∈ l) : vr_up f l v a = v := if_pos h
theorem vr_up_ne {α : Type} {f : Nat → α} {l : List Nat} {v : α} {a : Nat} (h : a ∉ l) : vr_up f l v a = f a := if_neg h
theorem vr_rows {L l : List Nat} {f : Nat → va_E} {e : va_E} (h : ∀ a, a ∈ l → a ∉ L) : va_pl L f ++ l.map (fun a => (a, e)) = va_pl (L ++ l) (vr_up f l e) := by
  unfold va_pl
  rw [List.map_append]
  congr 1
  · apply List.map_congr_left
    intro a ha
    rw [vr_up_ne (fun q => h a q ha)]
  · apply List.map_congr_left
    intro a ha
    rw [vr_up_in ha]
theorem vr_lay {X rows : va_W} {x : Nat × va_E} {pl : va_W} {D : va_G} {cl : List vw_C} {H : Heap} (hP : va_P D cl (((X ++ pl) ++ [x]) ++ rows) H) : va_P D cl ((X ++ [x]) ++ (pl ++ rows)) H := by
  rw [List.append_assoc (X ++ pl)] at hP
  have h := va_P.swap hP
  rw [← List.append_assoc X] at h
  have h2 := va_P.swap h
  rw [List.append_assoc (X ++ [x])] at h2
  exact h2
theorem vr_layD {X rows : va_W} {x : Nat × va_E} {pl : va_W} {A : Nat → Prop} (hD : va_D A (((X ++ pl) ++ [x]) ++ rows)) : va_D A ((X ++ [x]) ++ (pl ++ rows)) := by
  rw [List.append_assoc (X ++ pl)] at hD
  have h := va_D.swap hD
  rw [← List.append_assoc X] at h
  have h2 := va_D.swap h
  rw [List.append_assoc (X ++ [x])] at h2
  exact h2
theorem vr_outer (c : ClassId) (N h0 : Nat) : ∀ i : Nat, Jvm.Free.Multi.outerC c N h0 i = arrV c N (fun j => va_rf (if j < i then some (h0 + 1 + j) else none))
  | 0 => by
    show ({ cls := c, slots := Array.replicate N .null, vm := .none } : Cell) = _
    rw [arrV_new]
    refine congrArg (arrV c N) (funext fun j => ?_)
    simp [va_rf]
  | i + 1 => by
    show (Jvm.Free.Multi.outerC c N h0 i).setSlot i (.ref (h0 + 1 + i)) = _
    rw [vr_outer c N h0 i, arrV_store]
    refine congrArg (arrV c N) (funext fun j => ?_)
    by_cases e : j = i
    · subst e
      simp [updV, va_rf]
    · by_cases h : j < i
      · simp [updV, e, h, Nat.lt_succ_of_lt h]
      · simp [updV, e, h, show ¬ j < i + 1 by omega]
def va_AOA (ty : FieldType) (U : State) : Prop := (Cond.arrayOver (.array ty)).before #[] U = true
theorem va_AOA.use {ty : FieldType} {A : Array Value} {U : State} (h : va_AOA ty U) : (Cond.arrayOver (.array ty)).before A U = true := h
section VGM
variable {p : Program} {l : Launch} {e : Env} {R : Room} {s : State} {m : MethodId} {args : Array Value} {below : List Frame} {meth : Method} {c : Code} {H : Heap} {locs : List Loc} {cells slots : Nat} {Q : State → Prop}
variable {cc : ByteArray} {pc : Nat} {ls : Array Slot} {rest : List Value} {D : va_G} {cl : List vw_C} {A : Nat → Prop} {a : Nat} {tys : List (ClassId × FieldType)} {ws : va_W} {H0 : Heap}
theorem va_mna {X : va_W} {L : List Nat} {f : Nat → va_E} {cc : ByteArray} (hexec : p.tables.exec = Jvm.exec) (hb : c.code = cc) {own : String} {index : Nat} {ty : FieldType} {cy : ClassId} (hown : s.vm.findClass own = some m.cls) (hclink : (Cond.classLink own index ("[" ++ (FieldType.array ty).toString)).before args s = true) (hover : va_AOA ty s) (harr : (Cond.arrayClass ty).before args s = true) (hcy : s.vm.findClass (FieldType.array ty).toString = some cy)
    (hK : va_K D cl tys s) (hP : va_P D cl (X ++ va_pl L f) H) (hD : va_D A (X ++ va_pl L f)) (hS : va_S A H0 H locs) (hA : ∀ q, H0.size ≤ q → A q) {n k : Int32} {N' K' : Nat} {z : vp_A} (hn : ¬ n < 0) (hk : ¬ k < 0) (hN : n.toNatClampNeg = N') (hM : k.toNatClampNeg = K')
    (hb1 : N' * 4 ≤ 536870912) (hb2 : K' * componentBytes ty ≤ 536870912) (hb3 : K' ≤ 536870912) (hdf : fits ty (defaultValue ty) = true) (hdd : (defaultValue ty).isDefault = true) (hcells : cells + (1 + N') ≤ R.cells) (hslots : slots + (N' + N' * K') ≤ R.slots) (hz : ∀ c : ClassId, Jvm.Free.Multi.innerC c K' (defaultValue ty) = vp_cell c z) (hdg : decode cc pc = .ok (.multianewarray index 2, 4))
    (kk : ∀ (q : Nat) (r : Nat → Nat) (cA : ClassId) (H1 : Heap), (∀ i j : Nat, i < N' → j < N' → r i = r j → i = j) → (∀ i : Nat, i < N' → r i ∉ L) → va_K D cl (tys ++ [(cA, .array ty)]) s →
      va_P D cl ((X ++ [(q, .inl (cA, N', .inr (.inr (.inr (.inr (fun i => if i < N' then some (r i) else none))))))]) ++ va_pl (L ++ (List.range N').map r) (vr_up f ((List.range N').map r) (.inl (cy, z)))) H1 → va_D A ((X ++ [(q, .inl (cA, N', .inr (.inr (.inr (.inr (fun i => if i < N' then some (r i) else none))))))]) ++ va_pl (L ++ (List.range N').map r) (vr_up f ((List.range N').map r) (.inl (cy, z)))) → va_S A H0 H1 locs →
      W p l e R s m args below meth c H1 locs (cells + 1 + N') (slots + N' + N' * K') Q (F0 m (pc + 4) ls (.ref q :: rest))) : W p l e R s m args below meth c H locs cells slots Q (F0 m pc ls (.int k :: .int n :: rest)) := by
  subst hN
  subst hM
  intro T hT Xs
  obtain ⟨vm₁, cA, comp, -, fA, fC, hO, -, X', step⟩ := Xs.multianewarray2F hexec hown hclink (va_AOA.use hover) harr (g := F0 m pc ls (.int k :: .int n :: rest)) rfl (by rw [hb]; exact hdg) rfl hn hk hb1 hb2 hb3 hdf hdd hcells hslots
  have ec : some cy = some comp := hcy.symm.trans fC
  cases ec
  generalize hF : Jvm.Free.Multi.fill (T.setVm vm₁) cA cy n.toNatClampNeg k.toNatClampNeg (defaultValue ty) n.toNatClampNeg = F at X' step
  have hTh : (T.setVm vm₁).heap = H := hT
  obtain ⟨f1, f2, -, -⟩ := Jvm.Free.Multi.fill_facts (T.setVm vm₁) cA cy n.toNatClampNeg k.toNatClampNeg (defaultValue ty) n.toNatClampNeg
  rw [hF, hTh] at f1 f2
  have hold : ∀ x : Nat, x < H.size → F.heap[x]? = H[x]? := fun x hx => by
    have := Jvm.Free.Multi.fill_old (T.setVm vm₁) cA cy n.toNatClampNeg k.toNatClampNeg (defaultValue ty) (a := x) (by rw [hTh]; exact hx) n.toNatClampNeg
    rw [hF, hTh] at this
    exact this
  have hrow : ∀ j : Nat, j < n.toNatClampNeg → F.heap[H.size + 1 + j]? = some (vp_cell cy z) := fun j hj => by
    have := Jvm.Free.Multi.fill_inner (T.setVm vm₁) cA cy n.toNatClampNeg k.toNatClampNeg (defaultValue ty) n.toNatClampNeg j hj
    rw [hF, hTh, hz] at this
    exact this
  have hout : Jvm.Free.Multi.outerC cA n.toNatClampNeg H.size n.toNatClampNeg = vp_cell cA (n.toNatClampNeg, .inr (.inr (.inr (.inr (fun i => if i < n.toNatClampNeg then some (H.size + 1 + i) else none))))) := by
    rw [vp_cell_q]
    exact vr_outer cA n.toNatClampNeg H.size n.toNatClampNeg
  rw [hout] at f2
  have hlt : ∀ a, a ∈ L → a < H.size := fun a ha => by
    obtain ⟨k9, hk9⟩ := va_pl_get (X := X) (f := f) ha
    exact (hP k9 _ hk9).lt
  have hnl : ∀ i : Nat, i < n.toNatClampNeg → H.size + 1 + i ∉ L := fun i _ h => by
    have := hlt _ h
    omega
  have hnm : ∀ a, a ∈ (List.range n.toNatClampNeg).map (fun i => H.size + 1 + i) → a ∉ L := fun a ha h => by
    obtain ⟨i, -, rfl⟩ := List.mem_map.mp ha
    have := hlt _ h
    omega
  have hP0 : va_P D cl (X ++ va_pl L f) F.heap := hP.kept (fun k9 x hx => hold x.1 ((hP k9 x hx).lt))
  have hP1 : va_P D cl ((X ++ va_pl L f) ++ [(H.size, .inl (cA, n.toNatClampNeg, .inr (.inr (.inr (.inr (fun i => if i < n.toNatClampNeg then some (H.size + 1 + i) else none))))))]) F.heap := hP0.app (fun k9 x hx => by
    have h0 : k9 < 1 := (List.getElem?_eq_some_iff.mp hx).1
    rw [show k9 = 0 by omega] at hx
    cases hx
    exact f2)
  have hP2 : va_P D cl (((X ++ va_pl L f) ++ [(H.size, .inl (cA, n.toNatClampNeg, .inr (.inr (.inr (.inr (fun i => if i < n.toNatClampNeg then some (H.size + 1 + i) else none))))))]) ++ ((List.range n.toNatClampNeg).map (fun i => H.size + 1 + i)).map (fun a => (a, .inl (cy, z)))) F.heap := hP1.app (fun k9 x hx => by
    obtain ⟨a, ha, rfl⟩ := List.mem_map.mp (List.mem_of_getElem? hx)
    obtain ⟨i, hi, rfl⟩ := List.mem_map.mp ha
    exact hrow i (List.mem_range.mp hi))
  have hD2 : va_D A (((X ++ va_pl L f) ++ [(H.size, .inl (cA, n.toNatClampNeg, .inr (.inr (.inr (.inr (fun i => if i < n.toNatClampNeg then some (H.size + 1 + i) else none))))))]) ++ ((List.range n.toNatClampNeg).map (fun i => H.size + 1 + i)).map (fun a => (a, .inl (cy, z)))) := by
    have hD1 := hD.push (e := .inl (cA, n.toNatClampNeg, .inr (.inr (.inr (.inr (fun i => if i < n.toNatClampNeg then some (H.size + 1 + i) else none)))))) hP rfl (hA _ hS.1)
    generalize hW1 : (X ++ va_pl L f) ++ [(H.size, .inl (cA, n.toNatClampNeg, .inr (.inr (.inr (.inr (fun i => if i < n.toNatClampNeg then some (H.size + 1 + i) else none))))))] = W1 at hD1 hP1 ⊢
    have hle : ∀ (k9 : Nat) (x : Nat × va_E), W1[k9]? = some x → x.1 ≤ H.size := fun k9 x hx => by
      rw [← hW1] at hx
      by_cases hl : k9 < (X ++ va_pl L f).length
      · rw [List.getElem?_append_left hl] at hx
        exact Nat.le_of_lt ((hP k9 x hx).lt)
      · rw [List.getElem?_append_right (by omega)] at hx
        have h0 : k9 - (X ++ va_pl L f).length < 1 := (List.getElem?_eq_some_iff.mp hx).1
        rw [show k9 - (X ++ va_pl L f).length = 0 by omega] at hx
        cases hx
        exact Nat.le_refl _
    have hr : ∀ (k9 : Nat) (x : Nat × va_E), (((List.range n.toNatClampNeg).map (fun i => H.size + 1 + i)).map (fun a => ((a, .inl (cy, z)) : Nat × va_E)))[k9]? = some x → x.1 = H.size + 1 + k9 := fun k9 x hx => by
      rw [List.getElem?_map, List.getElem?_map] at hx
      by_cases h9 : k9 < n.toNatClampNeg
      · rw [List.getElem?_range h9] at hx
        cases hx
        rfl
      · have hn0 : (List.range n.toNatClampNeg)[k9]? = none := List.getElem?_eq_none (by rw [List.length_range]; omega)
        rw [hn0] at hx
        cases hx
    refine ⟨fun i j x y hi hj hxy => ?_, fun k9 x hx => ?_⟩
    · by_cases h1 : i < W1.length <;> by_cases h2 : j < W1.length
      · rw [List.getElem?_append_left h1] at hi
        rw [List.getElem?_append_left h2] at hj
        exact hD1.1 i j x y hi hj hxy
      · rw [List.getElem?_append_left h1] at hi
        rw [List.getElem?_append_right (by omega)] at hj
        have := hle _ _ hi
        have := hr _ _ hj
        omega
      · rw [List.getElem?_append_right (by omega)] at hi
        rw [List.getElem?_append_left h2] at hj
        have := hle _ _ hj
        have := hr _ _ hi
        omega
      · rw [List.getElem?_append_right (by omega)] at hi hj
        have := hr _ _ hi
        have := hr _ _ hj
        omega
    · by_cases h1 : k9 < W1.length
      · rw [List.getElem?_append_left h1] at hx
        exact hD1.2 k9 x hx
      · rw [List.getElem?_append_right (by omega)] at hx
        have := hr _ _ hx
        exact hA _ (by have := hS.1; omega)
  have hAr : ArrOfT s cA (.array ty) := fun N9 z9 => by
    obtain ⟨-, k9, hk9, cm9, hkk9⟩ := (hO 0 0 0).1
    exact ⟨(fun q hq => by cases hq), k9, hk9, cm9, hkk9⟩
  have hK2 : va_K D cl (tys ++ [(cA, .array ty)]) s := ⟨hK.1, fun k9 x hx => by
    by_cases hl : k9 < tys.length
    · rw [List.getElem?_append_left hl] at hx
      exact hK.2 k9 x hx
    · rw [List.getElem?_append_right (by omega)] at hx
      have h0 : k9 - tys.length < 1 := (List.getElem?_eq_some_iff.mp hx).1
      rw [show k9 - tys.length = 0 by omega] at hx
      cases hx
      exact ⟨hAr, fA⟩⟩
  obtain ⟨t, a1, b1⟩ := kk H.size (fun i => H.size + 1 + i) cA F.heap (fun i j _ _ h => by have h9 : H.size + 1 + i = H.size + 1 + j := h; omega) hnl hK2 (by rw [← vr_rows hnm]; exact vr_lay hP2) (by rw [← vr_rows hnm]; exact vr_layD hD2) ⟨by rw [f1]; have := hS.1; omega, fun x h1 h2 => (hold x (Nat.lt_of_lt_of_le h1 hS.1)).trans (hS.2.1 x h1 h2), hS.2.2⟩ F rfl X'
  refine ⟨t, step t ?_, b1⟩
  have e : T.heap.size = H.size := by rw [hT]
  rw [e]
  exact a1
end VGM
/-! ===== END ===== -/

/-! ===== BEGIN printed: names, fields, word lists, decode rows ===== -/
def RX0 : String := "RidePools$Costs"
def TX0 : u_T := fun k => match k with
  | 0 => ("RidePools$Costs", "finder", "LRidePools$WayFinder;", true)
  | 1 => ("RidePools$Costs", "fewest", "[I", true)
  | _ => ("RidePools$Costs", "drivers", "[I", true)
def tyX0 : Nat → FieldType := fun k => match k with
  | 0 => .object "RidePools$WayFinder"
  | 1 => .array .int
  | _ => .array .int
abbrev wsX00 : List Cond := u_ws RX0 TX0 3
theorem nmX0 : ∀ a, a < 3 → ∀ b, b < 3 → a ≠ b → (TX0 a).2.1 ≠ (TX0 b).2.1 := by decide +kernel
theorem tyX0_ok : ∀ k, k < 3 → parseFieldDescriptor (TX0 k).2.2.1 = some (tyX0 k) := by decide +kernel
abbrev cX0_init : ByteArray := prog_2_method_1_code
def yX0_init : MethodName := ⟨RX0, "<init>", "(LRidePools$WayFinder;)V"⟩
abbrev cX0_minutesFor : ByteArray := prog_2_method_2_code
def yX0_minutesFor : MethodName := ⟨RX0, "minutesFor", "(I)I"⟩
abbrev cX0_driverFor : ByteArray := prog_2_method_3_code
def yX0_driverFor : MethodName := ⟨RX0, "driverFor", "(I)I"⟩
abbrev cX0_forgetWith : ByteArray := prog_2_method_4_code
def yX0_forgetWith : MethodName := ⟨RX0, "forgetWith", "(I)V"⟩
abbrev cX0_learnAll : ByteArray := prog_2_method_5_code
def yX0_learnAll : MethodName := ⟨RX0, "learnAll", "(I)V"⟩
abbrev cX0_learn : ByteArray := prog_2_method_6_code
def yX0_learn : MethodName := ⟨RX0, "learn", "(I)V"⟩
abbrev cX0_takeIfFewer : ByteArray := prog_2_method_7_code
def yX0_takeIfFewer : MethodName := ⟨RX0, "takeIfFewer", "(III)V"⟩
def RX1 : String := "RidePools$Parting"
def TX1 : u_T := fun k => match k with
  | 0 => ("RidePools$Parting", "costs", "LRidePools$Costs;", true)
  | 1 => ("RidePools$Parting", "worth", "[I", true)
  | _ => ("RidePools$Parting", "choice", "[I", true)
def tyX1 : Nat → FieldType := fun k => match k with
  | 0 => .object "RidePools$Costs"
  | 1 => .array .int
  | _ => .array .int
abbrev wsX10 : List Cond := u_ws RX1 TX1 3
theorem nmX1 : ∀ a, a < 3 → ∀ b, b < 3 → a ≠ b → (TX1 a).2.1 ≠ (TX1 b).2.1 := by decide +kernel
theorem tyX1_ok : ∀ k, k < 3 → parseFieldDescriptor (TX1 k).2.2.1 = some (tyX1 k) := by decide +kernel
abbrev cX1_init : ByteArray := prog_3_method_1_code
def yX1_init : MethodName := ⟨RX1, "<init>", "(LRidePools$Costs;)V"⟩
abbrev cX1_worthOf : ByteArray := prog_3_method_2_code
def yX1_worthOf : MethodName := ⟨RX1, "worthOf", "(III)I"⟩
abbrev cX1_findBest : ByteArray := prog_3_method_3_code
def yX1_findBest : MethodName := ⟨RX1, "findBest", "(I)I"⟩
abbrev cX1_fewestPools : ByteArray := prog_3_method_4_code
def yX1_fewestPools : MethodName := ⟨RX1, "fewestPools", "(I)I"⟩
abbrev cX1_choiceFor : ByteArray := prog_3_method_5_code
def yX1_choiceFor : MethodName := ⟨RX1, "choiceFor", "(I)I"⟩
abbrev cX1_findAll : ByteArray := prog_3_method_6_code
def yX1_findAll : MethodName := ⟨RX1, "findAll", "(II)I"⟩
abbrev cX1_choose : ByteArray := prog_3_method_7_code
def yX1_choose : MethodName := ⟨RX1, "choose", "(II)V"⟩
abbrev cX1_tryPool : ByteArray := prog_3_method_8_code
def yX1_tryPool : MethodName := ⟨RX1, "tryPool", "(III)V"⟩
def RX2 : String := "RidePools$People"
def TX2 : u_T := fun k => match k with
  | 0 => ("RidePools$People", "all", "[LRidePools$Person;", true)
  | _ => ("RidePools$People", "size", "I", false)
def tyX2 : Nat → FieldType := fun k => match k with
  | 0 => .array (.object "RidePools$Person")
  | _ => .int
abbrev wsX20 : List Cond := u_ws RX2 TX2 2
theorem nmX2 : ∀ a, a < 2 → ∀ b, b < 2 → a ≠ b → (TX2 a).2.1 ≠ (TX2 b).2.1 := by decide +kernel
theorem tyX2_ok : ∀ k, k < 2 → parseFieldDescriptor (TX2 k).2.2.1 = some (tyX2 k) := by decide +kernel
abbrev cX2_init : ByteArray := prog_4_method_1_code
def yX2_init : MethodName := ⟨RX2, "<init>", "()V"⟩
abbrev cX2_size : ByteArray := prog_4_method_2_code
def yX2_size : MethodName := ⟨RX2, "size", "()I"⟩
abbrev cX2_isFull : ByteArray := prog_4_method_3_code
def yX2_isFull : MethodName := ⟨RX2, "isFull", "()Z"⟩
abbrev cX2_has : ByteArray := prog_4_method_4_code
def yX2_has : MethodName := ⟨RX2, "has", "(I)Z"⟩
abbrev cX2_hasAll : ByteArray := prog_4_method_5_code
def yX2_hasAll : MethodName := ⟨RX2, "hasAll", "(I)Z"⟩
abbrev cX2_at : ByteArray := prog_4_method_6_code
def yX2_at : MethodName := ⟨RX2, "at", "(I)LRidePools$Person;"⟩
abbrev cX2_addOne : ByteArray := prog_4_method_7_code
def yX2_addOne : MethodName := ⟨RX2, "addOne", "()I"⟩
abbrev cX2_notAway : ByteArray := prog_4_method_8_code
def yX2_notAway : MethodName := ⟨RX2, "notAway", "()I"⟩
abbrev cX2_someAway : ByteArray := prog_4_method_9_code
def yX2_someAway : MethodName := ⟨RX2, "someAway", "(I)Z"⟩
abbrev cX2_withCar : ByteArray := prog_4_method_10_code
def yX2_withCar : MethodName := ⟨RX2, "withCar", "()I"⟩
abbrev cX2_seatsSuffice : ByteArray := prog_4_method_11_code
def yX2_seatsSuffice : MethodName := ⟨RX2, "seatsSuffice", "(II)Z"⟩
abbrev cX2_hasBar : ByteArray := prog_4_method_12_code
def yX2_hasBar : MethodName := ⟨RX2, "hasBar", "(I)Z"⟩
def RX3 : String := "RidePools$Person"
def TX3 : u_T := fun k => match k with
  | 0 => ("RidePools$Person", "kind", "I", false)
  | 1 => ("RidePools$Person", "house", "I", false)
  | 2 => ("RidePools$Person", "work", "I", false)
  | 3 => ("RidePools$Person", "early", "I", false)
  | 4 => ("RidePools$Person", "late", "I", false)
  | 5 => ("RidePools$Person", "detour", "I", false)
  | 6 => ("RidePools$Person", "seats", "I", false)
  | 7 => ("RidePools$Person", "isAway", "Z", false)
  | 8 => ("RidePools$Person", "isBroken", "Z", false)
  | 9 => ("RidePools$Person", "bars", "I", false)
  | _ => ("RidePools$Person", "points", "I", false)
def tyX3 : Nat → FieldType := fun k => match k with
  | 0 => .int
  | 1 => .int
  | 2 => .int
  | 3 => .int
  | 4 => .int
  | 5 => .int
  | 6 => .int
  | 7 => .boolean
  | 8 => .boolean
  | 9 => .int
  | _ => .int
abbrev wsX30 : List Cond := u_ws RX3 TX3 11
theorem nmX3 : ∀ a, a < 11 → ∀ b, b < 11 → a ≠ b → (TX3 a).2.1 ≠ (TX3 b).2.1 := by decide +kernel
theorem tyX3_ok : ∀ k, k < 11 → parseFieldDescriptor (TX3 k).2.2.1 = some (tyX3 k) := by decide +kernel
abbrev cX3_init : ByteArray := prog_5_method_1_code
def yX3_init : MethodName := ⟨RX3, "<init>", "()V"⟩
abbrev cX3_hasCar : ByteArray := prog_5_method_2_code
def yX3_hasCar : MethodName := ⟨RX3, "hasCar", "()Z"⟩
abbrev cX3_seatsTaken : ByteArray := prog_5_method_3_code
def yX3_seatsTaken : MethodName := ⟨RX3, "seatsTaken", "()I"⟩
def RX4 : String := "RidePools$Plan"
def TX4 : u_T := fun k => match k with
  | 0 => ("RidePools$Plan", "made", "Z", false)
  | 1 => ("RidePools$Plan", "left", "I", false)
  | 2 => ("RidePools$Plan", "pool", "[I", true)
  | 3 => ("RidePools$Plan", "driverIn", "[I", true)
  | 4 => ("RidePools$Plan", "taken", "[I", true)
  | 5 => ("RidePools$Plan", "pickedAt", "[I", true)
  | _ => ("RidePools$Plan", "broughtAt", "[I", true)
def tyX4 : Nat → FieldType := fun k => match k with
  | 0 => .boolean
  | 1 => .int
  | 2 => .array .int
  | 3 => .array .int
  | 4 => .array .int
  | 5 => .array .int
  | _ => .array .int
abbrev wsX40 : List Cond := u_ws RX4 TX4 7
theorem nmX4 : ∀ a, a < 7 → ∀ b, b < 7 → a ≠ b → (TX4 a).2.1 ≠ (TX4 b).2.1 := by decide +kernel
theorem tyX4_ok : ∀ k, k < 7 → parseFieldDescriptor (TX4 k).2.2.1 = some (tyX4 k) := by decide +kernel
abbrev cX4_init : ByteArray := prog_6_method_1_code
def yX4_init : MethodName := ⟨RX4, "<init>", "()V"⟩
abbrev cX4_isMade : ByteArray := prog_6_method_2_code
def yX4_isMade : MethodName := ⟨RX4, "isMade", "()Z"⟩
abbrev cX4_begin : ByteArray := prog_6_method_3_code
def yX4_begin : MethodName := ⟨RX4, "begin", "()V"⟩
abbrev cX4_put : ByteArray := prog_6_method_4_code
def yX4_put : MethodName := ⟨RX4, "put", "(IILRidePools$Way;)V"⟩
abbrev cX4_leave : ByteArray := prog_6_method_5_code
def yX4_leave : MethodName := ⟨RX4, "leave", "(I)V"⟩
abbrev cX4_dissolve : ByteArray := prog_6_method_6_code
def yX4_dissolve : MethodName := ⟨RX4, "dissolve", "(I)V"⟩
abbrev cX4_leads : ByteArray := prog_6_method_7_code
def yX4_leads : MethodName := ⟨RX4, "leads", "(I)Z"⟩
abbrev cX4_drives : ByteArray := prog_6_method_8_code
def yX4_drives : MethodName := ⟨RX4, "drives", "(I)Z"⟩
abbrev cX4_poolAt : ByteArray := prog_6_method_9_code
def yX4_poolAt : MethodName := ⟨RX4, "poolAt", "(I)I"⟩
abbrev cX4_driverAt : ByteArray := prog_6_method_10_code
def yX4_driverAt : MethodName := ⟨RX4, "driverAt", "(I)I"⟩
abbrev cX4_pools : ByteArray := prog_6_method_11_code
def yX4_pools : MethodName := ⟨RX4, "pools", "()I"⟩
abbrev cX4_leftCount : ByteArray := prog_6_method_12_code
def yX4_leftCount : MethodName := ⟨RX4, "leftCount", "()I"⟩
abbrev cX4_minutesTogether : ByteArray := prog_6_method_13_code
def yX4_minutesTogether : MethodName := ⟨RX4, "minutesTogether", "()I"⟩
abbrev cX4_personsInPools : ByteArray := prog_6_method_14_code
def yX4_personsInPools : MethodName := ⟨RX4, "personsInPools", "()I"⟩
abbrev cX4_pointsEachMorning : ByteArray := prog_6_method_15_code
def yX4_pointsEachMorning : MethodName := ⟨RX4, "pointsEachMorning", "(I)I"⟩
abbrev cX4_tell : ByteArray := prog_6_method_16_code
def yX4_tell : MethodName := ⟨RX4, "tell", "(II)I"⟩
def RX5 : String := "RidePools$Roads"
def TX5 : u_T := fun k => match k with
  | 0 => ("RidePools$Roads", "direct", "[[I", true)
  | _ => ("RidePools$Roads", "fewest", "[[I", true)
def tyX5 : Nat → FieldType := fun k => match k with
  | 0 => .array (.array .int)
  | _ => .array (.array .int)
abbrev wsX50 : List Cond := u_ws RX5 TX5 2
theorem nmX5 : ∀ a, a < 2 → ∀ b, b < 2 → a ≠ b → (TX5 a).2.1 ≠ (TX5 b).2.1 := by decide +kernel
theorem tyX5_ok : ∀ k, k < 2 → parseFieldDescriptor (TX5 k).2.2.1 = some (tyX5 k) := by decide +kernel
abbrev cX5_init : ByteArray := prog_7_method_1_code
def yX5_init : MethodName := ⟨RX5, "<init>", "()V"⟩
abbrev cX5_shortest : ByteArray := prog_7_method_2_code
def yX5_shortest : MethodName := ⟨RX5, "shortest", "(II)I"⟩
abbrev cX5_change : ByteArray := prog_7_method_3_code
def yX5_change : MethodName := ⟨RX5, "change", "(III)I"⟩
abbrev cX5_renew : ByteArray := prog_7_method_4_code
def yX5_renew : MethodName := ⟨RX5, "renew", "()V"⟩
abbrev cX5_shortenBy : ByteArray := prog_7_method_5_code
def yX5_shortenBy : MethodName := ⟨RX5, "shortenBy", "(I[I)V"⟩
def RX6 : String := "RidePools$Way"
def TX6 : u_T := fun k => match k with
  | 0 => ("RidePools$Way", "size", "I", false)
  | 1 => ("RidePools$Way", "members", "[I", true)
  | 2 => ("RidePools$Way", "picked", "[I", true)
  | 3 => ("RidePools$Way", "brought", "[I", true)
  | 4 => ("RidePools$Way", "pickedAfter", "[I", true)
  | 5 => ("RidePools$Way", "broughtAfter", "[I", true)
  | 6 => ("RidePools$Way", "taken", "I", false)
  | _ => ("RidePools$Way", "begin", "I", false)
def tyX6 : Nat → FieldType := fun k => match k with
  | 0 => .int
  | 1 => .array .int
  | 2 => .array .int
  | 3 => .array .int
  | 4 => .array .int
  | 5 => .array .int
  | 6 => .int
  | _ => .int
abbrev wsX60 : List Cond := u_ws RX6 TX6 8
theorem nmX6 : ∀ a, a < 8 → ∀ b, b < 8 → a ≠ b → (TX6 a).2.1 ≠ (TX6 b).2.1 := by decide +kernel
theorem tyX6_ok : ∀ k, k < 8 → parseFieldDescriptor (TX6 k).2.2.1 = some (tyX6 k) := by decide +kernel
abbrev cX6_init : ByteArray := prog_8_method_1_code
def yX6_init : MethodName := ⟨RX6, "<init>", "()V"⟩
abbrev cX6_copyOf : ByteArray := prog_8_method_2_code
def yX6_copyOf : MethodName := ⟨RX6, "copyOf", "(LRidePools$Way;)V"⟩
abbrev cX6_tell : ByteArray := prog_8_method_3_code
def yX6_tell : MethodName := ⟨RX6, "tell", "(I)I"⟩
def RX7 : String := "RidePools$WayFinder"
def TX7 : u_T := fun k => match k with
  | 0 => ("RidePools$WayFinder", "roads", "LRidePools$Roads;", true)
  | 1 => ("RidePools$WayFinder", "people", "LRidePools$People;", true)
  | 2 => ("RidePools$WayFinder", "trial", "LRidePools$Way;", true)
  | 3 => ("RidePools$WayFinder", "found", "LRidePools$Way;", true)
  | 4 => ("RidePools$WayFinder", "house", "[I", true)
  | 5 => ("RidePools$WayFinder", "work", "[I", true)
  | 6 => ("RidePools$WayFinder", "early", "[I", true)
  | 7 => ("RidePools$WayFinder", "late", "[I", true)
  | _ => ("RidePools$WayFinder", "longest", "[I", true)
def tyX7 : Nat → FieldType := fun k => match k with
  | 0 => .object "RidePools$Roads"
  | 1 => .object "RidePools$People"
  | 2 => .object "RidePools$Way"
  | 3 => .object "RidePools$Way"
  | 4 => .array .int
  | 5 => .array .int
  | 6 => .array .int
  | 7 => .array .int
  | _ => .array .int
abbrev wsX70 : List Cond := u_ws RX7 TX7 9
theorem nmX7 : ∀ a, a < 9 → ∀ b, b < 9 → a ≠ b → (TX7 a).2.1 ≠ (TX7 b).2.1 := by decide +kernel
theorem tyX7_ok : ∀ k, k < 9 → parseFieldDescriptor (TX7 k).2.2.1 = some (tyX7 k) := by decide +kernel
abbrev cX7_init : ByteArray := prog_9_method_1_code
def yX7_init : MethodName := ⟨RX7, "<init>", "(LRidePools$Roads;LRidePools$People;)V"⟩
abbrev cX7_reasonAgainst : ByteArray := prog_9_method_2_code
def yX7_reasonAgainst : MethodName := ⟨RX7, "reasonAgainst", "(II)I"⟩
abbrev cX7_found : ByteArray := prog_9_method_3_code
def yX7_found : MethodName := ⟨RX7, "found", "()LRidePools$Way;"⟩
abbrev cX7_load : ByteArray := prog_9_method_4_code
def yX7_load : MethodName := ⟨RX7, "load", "(I)V"⟩
abbrev cX7_loadOne : ByteArray := prog_9_method_5_code
def yX7_loadOne : MethodName := ⟨RX7, "loadOne", "(II)V"⟩
abbrev cX7_allPlaces : ByteArray := prog_9_method_6_code
def yX7_allPlaces : MethodName := ⟨RX7, "allPlaces", "()I"⟩
abbrev cX7_pickNext : ByteArray := prog_9_method_7_code
def yX7_pickNext : MethodName := ⟨RX7, "pickNext", "(IIII)V"⟩
abbrev cX7_bringNext : ByteArray := prog_9_method_8_code
def yX7_bringNext : MethodName := ⟨RX7, "bringNext", "(IIIIII)V"⟩
def RX8 : String := "RidePools"
def TX8 : u_T := fun k => match k with
  | 0 => ("RidePools", "roads", "LRidePools$Roads;", true)
  | 1 => ("RidePools", "people", "LRidePools$People;", true)
  | 2 => ("RidePools", "finder", "LRidePools$WayFinder;", true)
  | 3 => ("RidePools", "costs", "LRidePools$Costs;", true)
  | 4 => ("RidePools", "parting", "LRidePools$Parting;", true)
  | 5 => ("RidePools", "current", "LRidePools$Plan;", true)
  | 6 => ("RidePools", "refusals", "[I", true)
  | _ => ("RidePools", "morningsSoFar", "I", false)
def tyX8 : Nat → FieldType := fun k => match k with
  | 0 => .object "RidePools$Roads"
  | 1 => .object "RidePools$People"
  | 2 => .object "RidePools$WayFinder"
  | 3 => .object "RidePools$Costs"
  | 4 => .object "RidePools$Parting"
  | 5 => .object "RidePools$Plan"
  | 6 => .array .int
  | _ => .int
abbrev wsX80 : List Cond := u_ws RX8 TX8 8
theorem nmX8 : ∀ a, a < 8 → ∀ b, b < 8 → a ≠ b → (TX8 a).2.1 ≠ (TX8 b).2.1 := by decide +kernel
theorem tyX8_ok : ∀ k, k < 8 → parseFieldDescriptor (TX8 k).2.2.1 = some (tyX8 k) := by decide +kernel
abbrev cX8_init : ByteArray := prog_1_method_1_code
def yX8_init : MethodName := ⟨RX8, "<init>", "()V"⟩
abbrev cX8_minutes : ByteArray := prog_1_method_2_code
def yX8_minutes : MethodName := ⟨RX8, "minutes", "(III)I"⟩
abbrev cX8_least : ByteArray := prog_1_method_3_code
def yX8_least : MethodName := ⟨RX8, "least", "(II)I"⟩
abbrev cX8_person : ByteArray := prog_1_method_4_code
def yX8_person : MethodName := ⟨RX8, "person", "(IIIIIII)I"⟩
abbrev cX8_times : ByteArray := prog_1_method_5_code
def yX8_times : MethodName := ⟨RX8, "times", "(III)I"⟩
abbrev cX8_bar : ByteArray := prog_1_method_6_code
def yX8_bar : MethodName := ⟨RX8, "bar", "(IIZ)I"⟩
abbrev cX8_away : ByteArray := prog_1_method_7_code
def yX8_away : MethodName := ⟨RX8, "away", "(IZ)I"⟩
abbrev cX8_broken : ByteArray := prog_1_method_8_code
def yX8_broken : MethodName := ⟨RX8, "broken", "(IZ)I"⟩
abbrev cX8_fits : ByteArray := prog_1_method_9_code
def yX8_fits : MethodName := ⟨RX8, "fits", "(II)I"⟩
abbrev cX8_why : ByteArray := prog_1_method_10_code
def yX8_why : MethodName := ⟨RX8, "why", "(II)I"⟩
abbrev cX8_way : ByteArray := prog_1_method_11_code
def yX8_way : MethodName := ⟨RX8, "way", "(III)I"⟩
abbrev cX8_cost : ByteArray := prog_1_method_12_code
def yX8_cost : MethodName := ⟨RX8, "cost", "(I)I"⟩
abbrev cX8_driver : ByteArray := prog_1_method_13_code
def yX8_driver : MethodName := ⟨RX8, "driver", "(I)I"⟩
abbrev cX8_turn : ByteArray := prog_1_method_14_code
def yX8_turn : MethodName := ⟨RX8, "turn", "(I)I"⟩
abbrev cX8_plan : ByteArray := prog_1_method_15_code
def yX8_plan : MethodName := ⟨RX8, "plan", "()I"⟩
abbrev cX8_planOf : ByteArray := prog_1_method_16_code
def yX8_planOf : MethodName := ⟨RX8, "planOf", "(I)I"⟩
abbrev cX8_poolOf : ByteArray := prog_1_method_17_code
def yX8_poolOf : MethodName := ⟨RX8, "poolOf", "(II)I"⟩
abbrev cX8_same : ByteArray := prog_1_method_18_code
def yX8_same : MethodName := ⟨RX8, "same", "()I"⟩
abbrev cX8_even : ByteArray := prog_1_method_19_code
def yX8_even : MethodName := ⟨RX8, "even", "()I"⟩
abbrev cX8_mornings : ByteArray := prog_1_method_20_code
def yX8_mornings : MethodName := ⟨RX8, "mornings", "(I)I"⟩
abbrev cX8_fail : ByteArray := prog_1_method_21_code
def yX8_fail : MethodName := ⟨RX8, "fail", "(I)I"⟩
abbrev cX8_few : ByteArray := prog_1_method_22_code
def yX8_few : MethodName := ⟨RX8, "few", "()I"⟩
abbrev cX8_personOf : ByteArray := prog_1_method_23_code
def yX8_personOf : MethodName := ⟨RX8, "personOf", "(II)I"⟩
abbrev cX8_count : ByteArray := prog_1_method_24_code
def yX8_count : MethodName := ⟨RX8, "count", "(I)I"⟩
abbrev cX8_refuse : ByteArray := prog_1_method_25_code
def yX8_refuse : MethodName := ⟨RX8, "refuse", "(I)I"⟩
abbrev cX8_isStop : ByteArray := prog_1_method_26_code
def yX8_isStop : MethodName := ⟨RX8, "isStop", "(I)Z"⟩
abbrev cX8_contains : ByteArray := prog_1_method_27_code
def yX8_contains : MethodName := ⟨RX8, "contains", "(II)Z"⟩
abbrev cX8_wrongSet : ByteArray := prog_1_method_28_code
def yX8_wrongSet : MethodName := ⟨RX8, "wrongSet", "(I)I"⟩
abbrev cX8_wrongRide : ByteArray := prog_1_method_29_code
def yX8_wrongRide : MethodName := ⟨RX8, "wrongRide", "(II)I"⟩
abbrev cX8_setBroken : ByteArray := prog_1_method_30_code
def yX8_setBroken : MethodName := ⟨RX8, "setBroken", "(IZ)Z"⟩
abbrev cX8_whoseTurn : ByteArray := prog_1_method_31_code
def yX8_whoseTurn : MethodName := ⟨RX8, "whoseTurn", "(I)I"⟩
abbrev cX8_takeIntoPlan : ByteArray := prog_1_method_32_code
def yX8_takeIntoPlan : MethodName := ⟨RX8, "takeIntoPlan", "(II)V"⟩
abbrev cX8_putIntoPlan : ByteArray := prog_1_method_33_code
def yX8_putIntoPlan : MethodName := ⟨RX8, "putIntoPlan", "(II)Z"⟩
abbrev cX8_evenOut : ByteArray := prog_1_method_34_code
def yX8_evenOut : MethodName := ⟨RX8, "evenOut", "(II)Z"⟩
abbrev cX8_findPlace : ByteArray := prog_1_method_35_code
def yX8_findPlace : MethodName := ⟨RX8, "findPlace", "(I)Z"⟩
abbrev cX8_isOpen : ByteArray := prog_1_method_36_code
def yX8_isOpen : MethodName := ⟨RX8, "isOpen", "(I)Z"⟩
def RX9 : String := "RidePoolsModel"
def TX9 : u_T := fun k => match k with
  | 0 => ("RidePoolsModel", "refusals", "[I", true)
  | 1 => ("RidePoolsModel", "minutes", "[I", true)
  | 2 => ("RidePoolsModel", "least", "[I", true)
  | 3 => ("RidePoolsModel", "persons", "I", false)
  | 4 => ("RidePoolsModel", "mornings", "I", false)
  | 5 => ("RidePoolsModel", "kind", "[I", true)
  | 6 => ("RidePoolsModel", "house", "[I", true)
  | 7 => ("RidePoolsModel", "work", "[I", true)
  | 8 => ("RidePoolsModel", "early", "[I", true)
  | 9 => ("RidePoolsModel", "late", "[I", true)
  | 10 => ("RidePoolsModel", "detour", "[I", true)
  | 11 => ("RidePoolsModel", "seats", "[I", true)
  | 12 => ("RidePoolsModel", "bars", "[I", true)
  | 13 => ("RidePoolsModel", "points", "[I", true)
  | 14 => ("RidePoolsModel", "isAway", "[Z", true)
  | 15 => ("RidePoolsModel", "isBroken", "[Z", true)
  | 16 => ("RidePoolsModel", "up", "[I", true)
  | 17 => ("RidePoolsModel", "down", "[I", true)
  | 18 => ("RidePoolsModel", "upAt", "[I", true)
  | 19 => ("RidePoolsModel", "downAt", "[I", true)
  | 20 => ("RidePoolsModel", "bestUp", "[I", true)
  | 21 => ("RidePoolsModel", "bestDown", "[I", true)
  | 22 => ("RidePoolsModel", "bestUpAt", "[I", true)
  | 23 => ("RidePoolsModel", "bestDownAt", "[I", true)
  | 24 => ("RidePoolsModel", "size", "I", false)
  | 25 => ("RidePoolsModel", "bestMinutes", "I", false)
  | 26 => ("RidePoolsModel", "bestBegin", "I", false)
  | 27 => ("RidePoolsModel", "isKnown", "Z", false)
  | 28 => ("RidePoolsModel", "cost", "[I", true)
  | 29 => ("RidePoolsModel", "by", "[I", true)
  | 30 => ("RidePoolsModel", "fit", "[I", true)
  | 31 => ("RidePoolsModel", "left", "[I", true)
  | 32 => ("RidePoolsModel", "sum", "[I", true)
  | 33 => ("RidePoolsModel", "pools", "[I", true)
  | 34 => ("RidePoolsModel", "choice", "[I", true)
  | 35 => ("RidePoolsModel", "fewest", "[I", true)
  | 36 => ("RidePoolsModel", "isPlanned", "Z", false)
  | 37 => ("RidePoolsModel", "planLeft", "I", false)
  | 38 => ("RidePoolsModel", "poolOf", "[I", true)
  | 39 => ("RidePoolsModel", "driverOf", "[I", true)
  | 40 => ("RidePoolsModel", "pickedAt", "[I", true)
  | 41 => ("RidePoolsModel", "workAt", "[I", true)
  | _ => ("RidePoolsModel", "takes", "[I", true)
def tyX9 : Nat → FieldType := fun k => match k with
  | 0 => .array .int
  | 1 => .array .int
  | 2 => .array .int
  | 3 => .int
  | 4 => .int
  | 5 => .array .int
  | 6 => .array .int
  | 7 => .array .int
  | 8 => .array .int
  | 9 => .array .int
  | 10 => .array .int
  | 11 => .array .int
  | 12 => .array .int
  | 13 => .array .int
  | 14 => .array .boolean
  | 15 => .array .boolean
  | 16 => .array .int
  | 17 => .array .int
  | 18 => .array .int
  | 19 => .array .int
  | 20 => .array .int
  | 21 => .array .int
  | 22 => .array .int
  | 23 => .array .int
  | 24 => .int
  | 25 => .int
  | 26 => .int
  | 27 => .boolean
  | 28 => .array .int
  | 29 => .array .int
  | 30 => .array .int
  | 31 => .array .int
  | 32 => .array .int
  | 33 => .array .int
  | 34 => .array .int
  | 35 => .array .int
  | 36 => .boolean
  | 37 => .int
  | 38 => .array .int
  | 39 => .array .int
  | 40 => .array .int
  | 41 => .array .int
  | _ => .array .int
abbrev wsX90 : List Cond := u_ws RX9 TX9 43
theorem nmX9 : ∀ a, a < 43 → ∀ b, b < 43 → a ≠ b → (TX9 a).2.1 ≠ (TX9 b).2.1 := by decide +kernel
theorem tyX9_ok : ∀ k, k < 43 → parseFieldDescriptor (TX9 k).2.2.1 = some (tyX9 k) := by decide +kernel
abbrev cX9_init : ByteArray := prog_11_method_1_code
def yX9_init : MethodName := ⟨RX9, "<init>", "()V"⟩
abbrev cX9_refuse : ByteArray := prog_11_method_2_code
def yX9_refuse : MethodName := ⟨RX9, "refuse", "(I)I"⟩
abbrev cX9_isIn : ByteArray := prog_11_method_3_code
def yX9_isIn : MethodName := ⟨RX9, "isIn", "(II)Z"⟩
abbrev cX9_changes : ByteArray := prog_11_method_4_code
def yX9_changes : MethodName := ⟨RX9, "changes", "()V"⟩
abbrev cX9_measure : ByteArray := prog_11_method_5_code
def yX9_measure : MethodName := ⟨RX9, "measure", "()V"⟩
abbrev cX9_leastOf : ByteArray := prog_11_method_6_code
def yX9_leastOf : MethodName := ⟨RX9, "leastOf", "(II)I"⟩
abbrev cX9_minutes : ByteArray := prog_11_method_7_code
def yX9_minutes : MethodName := ⟨RX9, "minutes", "(III)I"⟩
abbrev cX9_least : ByteArray := prog_11_method_8_code
def yX9_least : MethodName := ⟨RX9, "least", "(II)I"⟩
abbrev cX9_person : ByteArray := prog_11_method_9_code
def yX9_person : MethodName := ⟨RX9, "person", "(IIIIIII)I"⟩
abbrev cX9_isPerson : ByteArray := prog_11_method_10_code
def yX9_isPerson : MethodName := ⟨RX9, "isPerson", "(I)Z"⟩
abbrev cX9_times : ByteArray := prog_11_method_11_code
def yX9_times : MethodName := ⟨RX9, "times", "(III)I"⟩
abbrev cX9_bar : ByteArray := prog_11_method_12_code
def yX9_bar : MethodName := ⟨RX9, "bar", "(IIZ)I"⟩
abbrev cX9_away : ByteArray := prog_11_method_13_code
def yX9_away : MethodName := ⟨RX9, "away", "(IZ)I"⟩
abbrev cX9_broken : ByteArray := prog_11_method_14_code
def yX9_broken : MethodName := ⟨RX9, "broken", "(IZ)I"⟩
abbrev cX9_many : ByteArray := prog_11_method_15_code
def yX9_many : MethodName := ⟨RX9, "many", "(I)I"⟩
abbrev cX9_whyNot : ByteArray := prog_11_method_16_code
def yX9_whyNot : MethodName := ⟨RX9, "whyNot", "(II)I"⟩
abbrev cX9_picks : ByteArray := prog_11_method_17_code
def yX9_picks : MethodName := ⟨RX9, "picks", "(IIII)V"⟩
abbrev cX9_drops : ByteArray := prog_11_method_18_code
def yX9_drops : MethodName := ⟨RX9, "drops", "(IIII)V"⟩
abbrev cX9_looks : ByteArray := prog_11_method_19_code
def yX9_looks : MethodName := ⟨RX9, "looks", "(I)V"⟩
abbrev cX9_isSet : ByteArray := prog_11_method_20_code
def yX9_isSet : MethodName := ⟨RX9, "isSet", "(I)Z"⟩
abbrev cX9_hasAway : ByteArray := prog_11_method_21_code
def yX9_hasAway : MethodName := ⟨RX9, "hasAway", "(I)Z"⟩
abbrev cX9_wrong : ByteArray := prog_11_method_22_code
def yX9_wrong : MethodName := ⟨RX9, "wrong", "(II)I"⟩
abbrev cX9_fits : ByteArray := prog_11_method_23_code
def yX9_fits : MethodName := ⟨RX9, "fits", "(II)I"⟩
abbrev cX9_why : ByteArray := prog_11_method_24_code
def yX9_why : MethodName := ⟨RX9, "why", "(II)I"⟩
abbrev cX9_way : ByteArray := prog_11_method_25_code
def yX9_way : MethodName := ⟨RX9, "way", "(III)I"⟩
abbrev cX9_know : ByteArray := prog_11_method_26_code
def yX9_know : MethodName := ⟨RX9, "know", "()V"⟩
abbrev cX9_wrongSet : ByteArray := prog_11_method_27_code
def yX9_wrongSet : MethodName := ⟨RX9, "wrongSet", "(I)I"⟩
abbrev cX9_cost : ByteArray := prog_11_method_28_code
def yX9_cost : MethodName := ⟨RX9, "cost", "(I)I"⟩
abbrev cX9_driver : ByteArray := prog_11_method_29_code
def yX9_driver : MethodName := ⟨RX9, "driver", "(I)I"⟩
abbrev cX9_turnOf : ByteArray := prog_11_method_30_code
def yX9_turnOf : MethodName := ⟨RX9, "turnOf", "(I)I"⟩
abbrev cX9_turn : ByteArray := prog_11_method_31_code
def yX9_turn : MethodName := ⟨RX9, "turn", "(I)I"⟩
abbrev cX9_present : ByteArray := prog_11_method_32_code
def yX9_present : MethodName := ⟨RX9, "present", "()I"⟩
abbrev cX9_best : ByteArray := prog_11_method_33_code
def yX9_best : MethodName := ⟨RX9, "best", "()V"⟩
abbrev cX9_bestOf : ByteArray := prog_11_method_34_code
def yX9_bestOf : MethodName := ⟨RX9, "bestOf", "(I)V"⟩
abbrev cX9_leaves : ByteArray := prog_11_method_35_code
def yX9_leaves : MethodName := ⟨RX9, "leaves", "(I)V"⟩
abbrev cX9_lays : ByteArray := prog_11_method_36_code
def yX9_lays : MethodName := ⟨RX9, "lays", "(II)V"⟩
abbrev cX9_plan : ByteArray := prog_11_method_37_code
def yX9_plan : MethodName := ⟨RX9, "plan", "()I"⟩
abbrev cX9_isFirst : ByteArray := prog_11_method_38_code
def yX9_isFirst : MethodName := ⟨RX9, "isFirst", "(I)Z"⟩
abbrev cX9_planned : ByteArray := prog_11_method_39_code
def yX9_planned : MethodName := ⟨RX9, "planned", "(I)I"⟩
abbrev cX9_planOf : ByteArray := prog_11_method_40_code
def yX9_planOf : MethodName := ⟨RX9, "planOf", "(I)I"⟩
abbrev cX9_poolOf : ByteArray := prog_11_method_41_code
def yX9_poolOf : MethodName := ⟨RX9, "poolOf", "(II)I"⟩
abbrev cX9_same : ByteArray := prog_11_method_42_code
def yX9_same : MethodName := ⟨RX9, "same", "()I"⟩
abbrev cX9_even : ByteArray := prog_11_method_43_code
def yX9_even : MethodName := ⟨RX9, "even", "()I"⟩
abbrev cX9_mornings : ByteArray := prog_11_method_44_code
def yX9_mornings : MethodName := ⟨RX9, "mornings", "(I)I"⟩
abbrev cX9_joins : ByteArray := prog_11_method_45_code
def yX9_joins : MethodName := ⟨RX9, "joins", "(I)Z"⟩
abbrev cX9_fail : ByteArray := prog_11_method_46_code
def yX9_fail : MethodName := ⟨RX9, "fail", "(I)I"⟩
abbrev cX9_few : ByteArray := prog_11_method_47_code
def yX9_few : MethodName := ⟨RX9, "few", "()I"⟩
abbrev cX9_personOf : ByteArray := prog_11_method_48_code
def yX9_personOf : MethodName := ⟨RX9, "personOf", "(II)I"⟩
abbrev cX9_count : ByteArray := prog_11_method_49_code
def yX9_count : MethodName := ⟨RX9, "count", "(I)I"⟩
def RJ6 : String := "java/lang/Integer"
def TJ6 : u_T := fun k => match k with
  | _ => ("", "", "", false)
def tyJ6 : Nat → FieldType := fun k => match k with
  | _ => .int
abbrev wsJ60 : List Cond := u_ws RJ6 TJ6 0
theorem nmJ6 : ∀ a, a < 0 → ∀ b, b < 0 → a ≠ b → (TJ6 a).2.1 ≠ (TJ6 b).2.1 := by decide +kernel
theorem tyJ6_ok : ∀ k, k < 0 → parseFieldDescriptor (TJ6 k).2.2.1 = some (tyJ6 k) := by decide +kernel
abbrev cJ6_bitCount_0f7a4 : ByteArray := prog_12_method_49_code
def yJ6_bitCount_0f7a4 : MethodName := ⟨RJ6, "bitCount", "(I)I"⟩
def RJ9 : String := "java/lang/Math"
def TJ9 : u_T := fun k => match k with
  | _ => ("", "", "", false)
def tyJ9 : Nat → FieldType := fun k => match k with
  | _ => .int
abbrev wsJ90 : List Cond := u_ws RJ9 TJ9 0
theorem nmJ9 : ∀ a, a < 0 → ∀ b, b < 0 → a ≠ b → (TJ9 a).2.1 ≠ (TJ9 b).2.1 := by decide +kernel
theorem tyJ9_ok : ∀ k, k < 0 → parseFieldDescriptor (TJ9 k).2.2.1 = some (tyJ9 k) := by decide +kernel
abbrev cJ9_max_7cf53 : ByteArray := prog_13_method_65_code
def yJ9_max_7cf53 : MethodName := ⟨RJ9, "max", "(II)I"⟩
abbrev cJ9_min_7cf53 : ByteArray := prog_13_method_69_code
def yJ9_min_7cf53 : MethodName := ⟨RJ9, "min", "(II)I"⟩
def RJ10 : String := "java/lang/System"
def TJ10 : u_T := fun k => match k with
  | _ => ("", "", "", false)
def tyJ10 : Nat → FieldType := fun k => match k with
  | _ => .int
abbrev wsJ100 : List Cond := u_ws RJ10 TJ10 0
theorem nmJ10 : ∀ a, a < 0 → ∀ b, b < 0 → a ≠ b → (TJ10 a).2.1 ≠ (TJ10 b).2.1 := by decide +kernel
theorem tyJ10_ok : ∀ k, k < 0 → parseFieldDescriptor (TJ10 k).2.2.1 = some (tyJ10 k) := by decide +kernel
def RJ7 : String := "java/util/Arrays"
def TJ7 : u_T := fun k => match k with
  | _ => ("", "", "", false)
def tyJ7 : Nat → FieldType := fun k => match k with
  | _ => .int
abbrev wsJ70 : List Cond := u_ws RJ7 TJ7 0
theorem nmJ7 : ∀ a, a < 0 → ∀ b, b < 0 → a ≠ b → (TJ7 a).2.1 ≠ (TJ7 b).2.1 := by decide +kernel
theorem tyJ7_ok : ∀ k, k < 0 → parseFieldDescriptor (TJ7 k).2.2.1 = some (tyJ7 k) := by decide +kernel
abbrev cJ7_fill_53178 : ByteArray := prog_15_method_103_code
def yJ7_fill_53178 : MethodName := ⟨RJ7, "fill", "([II)V"⟩
def RL : String := "RidePoolsLaw"
abbrev cL_law : ByteArray := code
def yL_law : MethodName := ⟨RL, "law", "([I)Z"⟩
abbrev vwCl : List vw_C := [(RX0, TX0, 3), (RX1, TX1, 3), (RX2, TX2, 2), (RX3, TX3, 11), (RX4, TX4, 7), (RX5, TX5, 2), (RX6, TX6, 8), (RX7, TX7, 9), (RX8, TX8, 8), (RX9, TX9, 43)]
