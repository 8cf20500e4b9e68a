/-! ===== a world that grows: objects half made, arrays new ===== -/
theorem aoa_spec {ty : FieldType} {u : State} (h : va_AOA ty u) : ∃ (comp c : Nat) (k : Class) (cc : Nat), u.vm.findClass (FieldType.array ty).toString = some comp ∧ (u.vm.classes.findIdx? fun (x : Class) => match x.kind with | .array component _ => component == comp | _ => false) = some c ∧ u.vm.classes[c]? = some k ∧ k.kind = .array cc (.array ty) ∧ u.vm.findClass ("[" ++ (FieldType.array ty).toString) = some c := by
  unfold va_AOA Cond.before Cond.holds at h
  simp only [Cond.value] at h
  cases h1 : u.vm.findClass (FieldType.array ty).toString with
  | none =>
    rw [h1] at h
    simp at h
  | some comp =>
    rw [h1, Option.bind_some] at h
    generalize ho : Array.findIdx? _ u.vm.classes = o at h
    cases o with
    | none => simp at h
    | some c =>
      rw [Option.bind_some] at h
      cases hk : u.vm.classes[c]? with
      | none =>
        rw [hk] at h
        simp at h
      | some k =>
        rw [hk] at h
        simp only [Option.map_some] at h
        cases hkk : k.kind with
        | array cc t =>
          rw [hkk] at h
          simp at h
          exact ⟨comp, c, k, cc, rfl, ho, hk, by rw [hkk, h.1], h.2⟩
        | _ =>
          rw [hkk] at h
          simp at h
theorem va_AOA.moved {ty : FieldType} {u U : State} (hvm : u.vm.Alike U.vm) (h : va_AOA ty u) : va_AOA ty U := by
  obtain ⟨comp, c, k, cc, h1, h2, h3, h4, h5⟩ := aoa_spec h
  obtain ⟨k', hk', he⟩ := hvm.2.2 _ _ h3
  have hi : (U.vm.classes.findIdx? fun (x : Class) => match x.kind with | .array component _ => component == comp | _ => false) = some c := by
    have a1 := va_idx_bare U.vm comp
    have a2 := va_idx_bare u.vm comp
    first | rw [hvm.bare_eq] at a1 | rw [← hvm.bare_eq] at a1
    exact (a1.symm.trans a2).trans h2
  have hkind : k'.kind = .array cc (.array ty) := by rw [he]; exact h4
  have f1 : U.vm.findClass (FieldType.array ty).toString = some comp := by rw [hvm.findClass]; exact h1
  have f2 : U.vm.findClass ("[" ++ (FieldType.array ty).toString) = some c := by rw [hvm.findClass]; exact h5
  unfold va_AOA Cond.before Cond.holds
  simp only [Cond.value]
  rw [f1, Option.bind_some]
  refine (congrArg (fun o : Option Nat => (o.bind (fun c => (U.vm.classes[c]?).map fun (k : Class) => match k.kind with | .array _ t => decide (t = FieldType.array ty) && decide (U.vm.findClass ("[" ++ (FieldType.array ty).toString) = some c) | _ => false) == some true)) hi).trans ?_
  simp [hk', hkind, f2]
