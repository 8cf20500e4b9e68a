/-- the machine at pc with the memory σ, locals L, operands st, comes to Q -/
def V (p : Program) (l : Launch) (e : Env) (R : Room) (s : State) (m : MethodId) (args : Array Value) (below : List Frame) (meth : Method) (c : Code) (E : WD) (A : Nat → Prop) (nL kc ks : Nat) (Q : State → Prop) (σ : MS) (pc : Nat) (L : List (Option Value)) (st : List Value) : Prop :=
  ∀ (H : Heap) (locs : List Loc) (ls : Array Slot), va_P E.1 vwCl (wl E σ) H → va_S A s.heap H locs → lvh ls nL L → W p l e R s m args below meth c H locs kc ks Q (F0 m pc ls st)
/-- what is fixed through a method's walk -/
def Cx (p : Program) (R : Room) (s : State) (m : MethodId) (args : Array Value) (meth : Method) (c : Code) (E : WD) (A : Nat → Prop) (cc : ByteArray) (own : String) (ret : Option FieldType) (nL kc ks : Nat) (dm : Nat → Prop) : Prop :=
  p.tables.exec = Jvm.exec ∧ c.code = cc ∧ c.maxLocals = nL ∧ s.vm.findClass own = some m.cls ∧ (∀ w ∈ gtbl, w.before args s = true) ∧ KW E s ∧ inj E ∧ (∀ k, k ∈ E.2.2.2 → A (E.2.1 k)) ∧ meth.sig.returnType = ret ∧ meth.locks = false ∧ kc ≤ R.cells ∧ ks ≤ R.slots ∧ (∀ k, dm k → k ∈ E.2.2.2)
theorem Cx.G {p : Program} {R : Room} {s : State} {m : MethodId} {args : Array Value} {meth : Method} {c : Code} {E : WD} {A : Nat → Prop} {cc : ByteArray} {own : String} {ret : Option FieldType} {nL kc ks : Nat} {dm : Nat → Prop} (hc : Cx p R s m args meth c E A cc own ret nL kc ks dm) (k : Nat) (h : dm k) : k ∈ E.2.2.2 := hc.2.2.2.2.2.2.2.2.2.2.2.2 k h
section VV
variable {p : Program} {l : Launch} {e : Env} {R : Room} {s : State} {m : MethodId} {args : Array Value} {below : List Frame} {meth : Method} {c : Code} {E : WD} {A : Nat → Prop} {nL kc ks : Nat} {dm : Nat → Prop} {Q : State → Prop}
variable {cc : ByteArray} {own : String} {ret : Option FieldType} {σ : MS} {pc : Nat} {L : List (Option Value)} {st : List Value}
theorem vIconst (hc : Cx p R s m args meth c E A cc own ret nL kc ks dm) {n : Int} {v : Int32} (hd : decode cc pc = .ok (.iconst n, 1)) (hv : Int32.ofInt n = v)
    (k : V p l e R s m args below meth c E A nL kc ks Q σ (pc + 1) L (.int v :: st)) : V p l e R s m args below meth c E A nL kc ks Q σ pc L st := fun H locs ls hP hS hl => lv_iconst hc.1 hc.2.1 hd hv (k H locs ls hP hS hl)
theorem vBipush (hc : Cx p R s m args meth c E A cc own ret nL kc ks dm) {n : Int} {v : Int32} (hd : decode cc pc = .ok (.bipush n, 2)) (hv : (Int8.ofInt n).toInt32 = v)
    (k : V p l e R s m args below meth c E A nL kc ks Q σ (pc + 2) L (.int v :: st)) : V p l e R s m args below meth c E A nL kc ks Q σ pc L st := fun H locs ls hP hS hl => lv_bipush hc.1 hc.2.1 hd hv (k H locs ls hP hS hl)
theorem vSipush (hc : Cx p R s m args meth c E A cc own ret nL kc ks dm) {n : Int} {v : Int32} (hd : decode cc pc = .ok (.sipush n, 3)) (hv : (Int16.ofInt n).toInt32 = v)
    (k : V p l e R s m args below meth c E A nL kc ks Q σ (pc + 3) L (.int v :: st)) : V p l e R s m args below meth c E A nL kc ks Q σ pc L st := fun H locs ls hP hS hl => lv_sipush hc.1 hc.2.1 hd hv (k H locs ls hP hS hl)
theorem vLdc (hc : Cx p R s m args meth c E A cc own ret nL kc ks dm) {i : Nat} {v : Int32} (hw : Cond.constant own i v ∈ gtbl) (hd : decode cc pc = .ok (.ldc i, 2))
    (k : V p l e R s m args below meth c E A nL kc ks Q σ (pc + 2) L (.int v :: st)) : V p l e R s m args below meth c E A nL kc ks Q σ pc L st := fun H locs ls hP hS hl => lv_ldc hc.1 hc.2.1 hc.2.2.2.1 (hc.2.2.2.2.1 _ hw) hd (k H locs ls hP hS hl)
theorem vLdcw (hc : Cx p R s m args meth c E A cc own ret nL kc ks dm) {i : Nat} {v : Int32} (hw : Cond.constant own i v ∈ gtbl) (hd : decode cc pc = .ok (.ldc_w i, 3))
    (k : V p l e R s m args below meth c E A nL kc ks Q σ (pc + 3) L (.int v :: st)) : V p l e R s m args below meth c E A nL kc ks Q σ pc L st := fun H locs ls hP hS hl => lv_ldcw hc.1 hc.2.1 hc.2.2.2.1 (hc.2.2.2.2.1 _ hw) hd (k H locs ls hP hS hl)
theorem vIload_n (hc : Cx p R s m args meth c E A cc own ret nL kc ks dm) {j : Fin 4} {x : Int32} (hd : decode cc pc = .ok (.iload_n j, 1)) (hL : L[(j : Nat)]? = some (some (.int x)))
    (k : V p l e R s m args below meth c E A nL kc ks Q σ (pc + 1) L (.int x :: st)) : V p l e R s m args below meth c E A nL kc ks Q σ pc L st := fun H locs ls hP hS hl => lv_iload_n hc.1 hc.2.1 hd rfl (hl.at hL) (k H locs ls hP hS hl)
theorem vIload (hc : Cx p R s m args meth c E A cc own ret nL kc ks dm) {j : Nat} {x : Int32} (hd : decode cc pc = .ok (.iload j, 2)) (hL : L[j]? = some (some (.int x)))
    (k : V p l e R s m args below meth c E A nL kc ks Q σ (pc + 2) L (.int x :: st)) : V p l e R s m args below meth c E A nL kc ks Q σ pc L st := fun H locs ls hP hS hl => lv_iload hc.1 hc.2.1 hd (hl.at hL) (k H locs ls hP hS hl)
theorem vAload_n (hc : Cx p R s m args meth c E A cc own ret nL kc ks dm) {j : Fin 4} {x : Nat} (hd : decode cc pc = .ok (.aload_n j, 1)) (hL : L[(j : Nat)]? = some (some (.ref x)))
    (k : V p l e R s m args below meth c E A nL kc ks Q σ (pc + 1) L (.ref x :: st)) : V p l e R s m args below meth c E A nL kc ks Q σ pc L st := fun H locs ls hP hS hl => lv_aload_n hc.1 hc.2.1 hd rfl (hl.at hL) (k H locs ls hP hS hl)
theorem vAload (hc : Cx p R s m args meth c E A cc own ret nL kc ks dm) {j : Nat} {x : Nat} (hd : decode cc pc = .ok (.aload j, 2)) (hL : L[j]? = some (some (.ref x)))
    (k : V p l e R s m args below meth c E A nL kc ks Q σ (pc + 2) L (.ref x :: st)) : V p l e R s m args below meth c E A nL kc ks Q σ pc L st := fun H locs ls hP hS hl => lv_aload hc.1 hc.2.1 hd (hl.at hL) (k H locs ls hP hS hl)
theorem vIstore_n (hc : Cx p R s m args meth c E A cc own ret nL kc ks dm) {j : Fin 4} {x : Int32} {L2 : List (Option Value)} (hd : decode cc pc = .ok (.istore_n j, 1)) (hL2 : L.set (j : Nat) (some (.int x)) = L2) (hn : (j : Nat) < nL)
    (k : V p l e R s m args below meth c E A nL kc ks Q σ (pc + 1) L2 st) : V p l e R s m args below meth c E A nL kc ks Q σ pc L (.int x :: st) := fun H locs ls hP hS hl => lv_istore_n hc.1 hc.2.1 hd rfl hl.1 hn rfl (fun ls2 h2 => k H locs ls2 hP hS (hL2 ▸ hl.set rfl h2))
theorem vIstore (hc : Cx p R s m args meth c E A cc own ret nL kc ks dm) {j : Nat} {x : Int32} {L2 : List (Option Value)} (hd : decode cc pc = .ok (.istore j, 2)) (hL2 : L.set j (some (.int x)) = L2) (hn : j < nL)
    (k : V p l e R s m args below meth c E A nL kc ks Q σ (pc + 2) L2 st) : V p l e R s m args below meth c E A nL kc ks Q σ pc L (.int x :: st) := fun H locs ls hP hS hl => lv_istore hc.1 hc.2.1 hd hl.1 hn rfl (fun ls2 h2 => k H locs ls2 hP hS (hL2 ▸ hl.set rfl h2))
theorem vAstore_n (hc : Cx p R s m args meth c E A cc own ret nL kc ks dm) {j : Fin 4} {x : Nat} {L2 : List (Option Value)} (hd : decode cc pc = .ok (.astore_n j, 1)) (hL2 : L.set (j : Nat) (some (.ref x)) = L2) (hn : (j : Nat) < nL)
    (k : V p l e R s m args below meth c E A nL kc ks Q σ (pc + 1) L2 st) : V p l e R s m args below meth c E A nL kc ks Q σ pc L (.ref x :: st) := fun H locs ls hP hS hl => lv_astore_n hc.1 hc.2.1 hd rfl hl.1 hn rfl (fun ls2 h2 => k H locs ls2 hP hS (hL2 ▸ hl.set rfl h2))
theorem vAstore (hc : Cx p R s m args meth c E A cc own ret nL kc ks dm) {j : Nat} {x : Nat} {L2 : List (Option Value)} (hd : decode cc pc = .ok (.astore j, 2)) (hL2 : L.set j (some (.ref x)) = L2) (hn : j < nL)
    (k : V p l e R s m args below meth c E A nL kc ks Q σ (pc + 2) L2 st) : V p l e R s m args below meth c E A nL kc ks Q σ pc L (.ref x :: st) := fun H locs ls hP hS hl => lv_astore hc.1 hc.2.1 hd hl.1 hn rfl (fun ls2 h2 => k H locs ls2 hP hS (hL2 ▸ hl.set rfl h2))
theorem lofL_at {L : List (Option Value)} {i : Nat} {v : Value} (h : L[i]? = some (some v)) : ∃ k : Nat, (lofL L)[k]? = some (i, v) := List.getElem?_of_mem (lofL_mem.mpr h)
theorem vIinc (hc : Cx p R s m args meth c E A cc own ret nL kc ks dm) {j : Nat} {n : Int} {x v : Int32} {L2 : List (Option Value)} (hd : decode cc pc = .ok (.iinc j n, 3)) (hL : L[j]? = some (some (.int x))) (hv : x + Int32.ofInt n = v) (hL2 : L.set j (some (.int v)) = L2) (hn : j < nL)
    (k : V p l e R s m args below meth c E A nL kc ks Q σ (pc + 3) L2 st) : V p l e R s m args below meth c E A nL kc ks Q σ pc L st := fun H locs ls hP hS hl => by
  obtain ⟨i, hi⟩ := lofL_at hL
  exact lv_iinc hc.1 hc.2.1 hd hl.1 hi hv hn rfl (fun ls2 h2 => k H locs ls2 hP hS (hL2 ▸ hl.set rfl h2))
theorem vIadd (hc : Cx p R s m args meth c E A cc own ret nL kc ks dm) {x y : Int32} (hd : decode cc pc = .ok (.iadd, 1))
    (k : V p l e R s m args below meth c E A nL kc ks Q σ (pc + 1) L (.int (x + y) :: st)) : V p l e R s m args below meth c E A nL kc ks Q σ pc L (.int y :: .int x :: st) := fun H locs ls hP hS hl => lv_iadd hc.1 hc.2.1 hd (k H locs ls hP hS hl)
theorem vIsub (hc : Cx p R s m args meth c E A cc own ret nL kc ks dm) {x y : Int32} (hd : decode cc pc = .ok (.isub, 1))
    (k : V p l e R s m args below meth c E A nL kc ks Q σ (pc + 1) L (.int (x - y) :: st)) : V p l e R s m args below meth c E A nL kc ks Q σ pc L (.int y :: .int x :: st) := fun H locs ls hP hS hl => lv_isub hc.1 hc.2.1 hd (k H locs ls hP hS hl)
theorem vImul (hc : Cx p R s m args meth c E A cc own ret nL kc ks dm) {x y : Int32} (hd : decode cc pc = .ok (.imul, 1))
    (k : V p l e R s m args below meth c E A nL kc ks Q σ (pc + 1) L (.int (x * y) :: st)) : V p l e R s m args below meth c E A nL kc ks Q σ pc L (.int y :: .int x :: st) := fun H locs ls hP hS hl => lv_imul hc.1 hc.2.1 hd (k H locs ls hP hS hl)
theorem vIand (hc : Cx p R s m args meth c E A cc own ret nL kc ks dm) {x y : Int32} (hd : decode cc pc = .ok (.iand, 1))
    (k : V p l e R s m args below meth c E A nL kc ks Q σ (pc + 1) L (.int (x &&& y) :: st)) : V p l e R s m args below meth c E A nL kc ks Q σ pc L (.int y :: .int x :: st) := fun H locs ls hP hS hl => lv_iand hc.1 hc.2.1 hd (k H locs ls hP hS hl)
theorem vIor (hc : Cx p R s m args meth c E A cc own ret nL kc ks dm) {x y : Int32} (hd : decode cc pc = .ok (.ior, 1))
    (k : V p l e R s m args below meth c E A nL kc ks Q σ (pc + 1) L (.int (x ||| y) :: st)) : V p l e R s m args below meth c E A nL kc ks Q σ pc L (.int y :: .int x :: st) := fun H locs ls hP hS hl => lv_ior hc.1 hc.2.1 hd (k H locs ls hP hS hl)
theorem vIxor (hc : Cx p R s m args meth c E A cc own ret nL kc ks dm) {x y : Int32} (hd : decode cc pc = .ok (.ixor, 1))
    (k : V p l e R s m args below meth c E A nL kc ks Q σ (pc + 1) L (.int (x ^^^ y) :: st)) : V p l e R s m args below meth c E A nL kc ks Q σ pc L (.int y :: .int x :: st) := fun H locs ls hP hS hl => lv_ixor hc.1 hc.2.1 hd (k H locs ls hP hS hl)
theorem vIshl (hc : Cx p R s m args meth c E A cc own ret nL kc ks dm) {x y : Int32} (hd : decode cc pc = .ok (.ishl, 1))
    (k : V p l e R s m args below meth c E A nL kc ks Q σ (pc + 1) L (.int (x <<< (y &&& 31)) :: st)) : V p l e R s m args below meth c E A nL kc ks Q σ pc L (.int y :: .int x :: st) := fun H locs ls hP hS hl => lv_ishl hc.1 hc.2.1 hd (k H locs ls hP hS hl)
theorem vIshr (hc : Cx p R s m args meth c E A cc own ret nL kc ks dm) {x y : Int32} (hd : decode cc pc = .ok (.ishr, 1))
    (k : V p l e R s m args below meth c E A nL kc ks Q σ (pc + 1) L (.int (x >>> (y &&& 31)) :: st)) : V p l e R s m args below meth c E A nL kc ks Q σ pc L (.int y :: .int x :: st) := fun H locs ls hP hS hl => lv_ishr hc.1 hc.2.1 hd (k H locs ls hP hS hl)
theorem vIushr (hc : Cx p R s m args meth c E A cc own ret nL kc ks dm) {x y : Int32} (hd : decode cc pc = .ok (.iushr, 1))
    (k : V p l e R s m args below meth c E A nL kc ks Q σ (pc + 1) L (.int ((x.toUInt32 >>> (y.toUInt32 &&& Int32.toUInt32 31)).toInt32) :: st)) : V p l e R s m args below meth c E A nL kc ks Q σ pc L (.int y :: .int x :: st) := fun H locs ls hP hS hl => lv_iushr hc.1 hc.2.1 hd rfl (k H locs ls hP hS hl)
theorem vIneg (hc : Cx p R s m args meth c E A cc own ret nL kc ks dm) {x : Int32} (hd : decode cc pc = .ok (.ineg, 1))
    (k : V p l e R s m args below meth c E A nL kc ks Q σ (pc + 1) L (.int (-x) :: st)) : V p l e R s m args below meth c E A nL kc ks Q σ pc L (.int x :: st) := fun H locs ls hP hS hl => lv_ineg hc.1 hc.2.1 hd (k H locs ls hP hS hl)
theorem vDup (hc : Cx p R s m args meth c E A cc own ret nL kc ks dm) {x : Value} (hd : decode cc pc = .ok (.dup, 1)) (h1 : x.category = 1)
    (k : V p l e R s m args below meth c E A nL kc ks Q σ (pc + 1) L (x :: x :: st)) : V p l e R s m args below meth c E A nL kc ks Q σ pc L (x :: st) := fun H locs ls hP hS hl => lv_dup hc.1 hc.2.1 hd h1 (k H locs ls hP hS hl)
theorem vDup2 (hc : Cx p R s m args meth c E A cc own ret nL kc ks dm) {x y : Value} (hd : decode cc pc = .ok (.dup2, 1)) (h1 : x.category = 1) (h2 : y.category = 1)
    (k : V p l e R s m args below meth c E A nL kc ks Q σ (pc + 1) L (x :: y :: x :: y :: st)) : V p l e R s m args below meth c E A nL kc ks Q σ pc L (x :: y :: st) := fun H locs ls hP hS hl => lv_dup2_11 hc.1 hc.2.1 hd h1 h2 (k H locs ls hP hS hl)
theorem vPop (hc : Cx p R s m args meth c E A cc own ret nL kc ks dm) {x : Value} (hd : decode cc pc = .ok (.pop, 1)) (h1 : x.category = 1)
    (k : V p l e R s m args below meth c E A nL kc ks Q σ (pc + 1) L st) : V p l e R s m args below meth c E A nL kc ks Q σ pc L (x :: st) := fun H locs ls hP hS hl => lv_pop hc.1 hc.2.1 hd h1 (k H locs ls hP hS hl)
theorem vIf_eq (hc : Cx p R s m args meth c E A cc own ret nL kc ks dm) {x : Int32} {off : Int} {tgt : Nat} (hd : decode cc pc = .ok (.ifCond .eq off, 3)) (ht : (pc : Int) + off = (tgt : Int))
    (kt : x = 0 → V p l e R s m args below meth c E A nL kc ks Q σ tgt L st) (kf : ¬ x = 0 → V p l e R s m args below meth c E A nL kc ks Q σ (pc + 3) L st) : V p l e R s m args below meth c E A nL kc ks Q σ pc L (.int x :: st) := fun H locs ls hP hS hl => lv_if_eq hc.1 hc.2.1 hd ht (fun h => kt h H locs ls hP hS hl) (fun h => kf h H locs ls hP hS hl)
theorem vIcmp_eq (hc : Cx p R s m args meth c E A cc own ret nL kc ks dm) {x y : Int32} {off : Int} {tgt : Nat} (hd : decode cc pc = .ok (.if_icmp .eq off, 3)) (ht : (pc : Int) + off = (tgt : Int))
    (kt : x = y → V p l e R s m args below meth c E A nL kc ks Q σ tgt L st) (kf : ¬ x = y → V p l e R s m args below meth c E A nL kc ks Q σ (pc + 3) L st) : V p l e R s m args below meth c E A nL kc ks Q σ pc L (.int y :: .int x :: st) := fun H locs ls hP hS hl => lv_icmp_eq hc.1 hc.2.1 hd ht (fun h => kt h H locs ls hP hS hl) (fun h => kf h H locs ls hP hS hl)
theorem vIf_ne (hc : Cx p R s m args meth c E A cc own ret nL kc ks dm) {x : Int32} {off : Int} {tgt : Nat} (hd : decode cc pc = .ok (.ifCond .ne off, 3)) (ht : (pc : Int) + off = (tgt : Int))
    (kt : ¬ x = 0 → V p l e R s m args below meth c E A nL kc ks Q σ tgt L st) (kf : x = 0 → V p l e R s m args below meth c E A nL kc ks Q σ (pc + 3) L st) : V p l e R s m args below meth c E A nL kc ks Q σ pc L (.int x :: st) := fun H locs ls hP hS hl => lv_if_ne hc.1 hc.2.1 hd ht (fun h => kt h H locs ls hP hS hl) (fun h => kf h H locs ls hP hS hl)
theorem vIcmp_ne (hc : Cx p R s m args meth c E A cc own ret nL kc ks dm) {x y : Int32} {off : Int} {tgt : Nat} (hd : decode cc pc = .ok (.if_icmp .ne off, 3)) (ht : (pc : Int) + off = (tgt : Int))
    (kt : ¬ x = y → V p l e R s m args below meth c E A nL kc ks Q σ tgt L st) (kf : x = y → V p l e R s m args below meth c E A nL kc ks Q σ (pc + 3) L st) : V p l e R s m args below meth c E A nL kc ks Q σ pc L (.int y :: .int x :: st) := fun H locs ls hP hS hl => lv_icmp_ne hc.1 hc.2.1 hd ht (fun h => kt h H locs ls hP hS hl) (fun h => kf h H locs ls hP hS hl)
theorem vIf_lt (hc : Cx p R s m args meth c E A cc own ret nL kc ks dm) {x : Int32} {off : Int} {tgt : Nat} (hd : decode cc pc = .ok (.ifCond .lt off, 3)) (ht : (pc : Int) + off = (tgt : Int))
    (kt : x < 0 → V p l e R s m args below meth c E A nL kc ks Q σ tgt L st) (kf : ¬ x < 0 → V p l e R s m args below meth c E A nL kc ks Q σ (pc + 3) L st) : V p l e R s m args below meth c E A nL kc ks Q σ pc L (.int x :: st) := fun H locs ls hP hS hl => lv_if_lt hc.1 hc.2.1 hd ht (fun h => kt h H locs ls hP hS hl) (fun h => kf h H locs ls hP hS hl)
theorem vIcmp_lt (hc : Cx p R s m args meth c E A cc own ret nL kc ks dm) {x y : Int32} {off : Int} {tgt : Nat} (hd : decode cc pc = .ok (.if_icmp .lt off, 3)) (ht : (pc : Int) + off = (tgt : Int))
    (kt : x < y → V p l e R s m args below meth c E A nL kc ks Q σ tgt L st) (kf : ¬ x < y → V p l e R s m args below meth c E A nL kc ks Q σ (pc + 3) L st) : V p l e R s m args below meth c E A nL kc ks Q σ pc L (.int y :: .int x :: st) := fun H locs ls hP hS hl => lv_icmp_lt hc.1 hc.2.1 hd ht (fun h => kt h H locs ls hP hS hl) (fun h => kf h H locs ls hP hS hl)
theorem vIf_ge (hc : Cx p R s m args meth c E A cc own ret nL kc ks dm) {x : Int32} {off : Int} {tgt : Nat} (hd : decode cc pc = .ok (.ifCond .ge off, 3)) (ht : (pc : Int) + off = (tgt : Int))
    (kt : 0 ≤ x → V p l e R s m args below meth c E A nL kc ks Q σ tgt L st) (kf : ¬ 0 ≤ x → V p l e R s m args below meth c E A nL kc ks Q σ (pc + 3) L st) : V p l e R s m args below meth c E A nL kc ks Q σ pc L (.int x :: st) := fun H locs ls hP hS hl => lv_if_ge hc.1 hc.2.1 hd ht (fun h => kt h H locs ls hP hS hl) (fun h => kf h H locs ls hP hS hl)
theorem vIcmp_ge (hc : Cx p R s m args meth c E A cc own ret nL kc ks dm) {x y : Int32} {off : Int} {tgt : Nat} (hd : decode cc pc = .ok (.if_icmp .ge off, 3)) (ht : (pc : Int) + off = (tgt : Int))
    (kt : y ≤ x → V p l e R s m args below meth c E A nL kc ks Q σ tgt L st) (kf : ¬ y ≤ x → V p l e R s m args below meth c E A nL kc ks Q σ (pc + 3) L st) : V p l e R s m args below meth c E A nL kc ks Q σ pc L (.int y :: .int x :: st) := fun H locs ls hP hS hl => lv_icmp_ge hc.1 hc.2.1 hd ht (fun h => kt h H locs ls hP hS hl) (fun h => kf h H locs ls hP hS hl)
theorem vIf_gt (hc : Cx p R s m args meth c E A cc own ret nL kc ks dm) {x : Int32} {off : Int} {tgt : Nat} (hd : decode cc pc = .ok (.ifCond .gt off, 3)) (ht : (pc : Int) + off = (tgt : Int))
    (kt : 0 < x → V p l e R s m args below meth c E A nL kc ks Q σ tgt L st) (kf : ¬ 0 < x → V p l e R s m args below meth c E A nL kc ks Q σ (pc + 3) L st) : V p l e R s m args below meth c E A nL kc ks Q σ pc L (.int x :: st) := fun H locs ls hP hS hl => lv_if_gt hc.1 hc.2.1 hd ht (fun h => kt h H locs ls hP hS hl) (fun h => kf h H locs ls hP hS hl)
theorem vIcmp_gt (hc : Cx p R s m args meth c E A cc own ret nL kc ks dm) {x y : Int32} {off : Int} {tgt : Nat} (hd : decode cc pc = .ok (.if_icmp .gt off, 3)) (ht : (pc : Int) + off = (tgt : Int))
    (kt : y < x → V p l e R s m args below meth c E A nL kc ks Q σ tgt L st) (kf : ¬ y < x → V p l e R s m args below meth c E A nL kc ks Q σ (pc + 3) L st) : V p l e R s m args below meth c E A nL kc ks Q σ pc L (.int y :: .int x :: st) := fun H locs ls hP hS hl => lv_icmp_gt hc.1 hc.2.1 hd ht (fun h => kt h H locs ls hP hS hl) (fun h => kf h H locs ls hP hS hl)
theorem vIf_le (hc : Cx p R s m args meth c E A cc own ret nL kc ks dm) {x : Int32} {off : Int} {tgt : Nat} (hd : decode cc pc = .ok (.ifCond .le off, 3)) (ht : (pc : Int) + off = (tgt : Int))
    (kt : x ≤ 0 → V p l e R s m args below meth c E A nL kc ks Q σ tgt L st) (kf : ¬ x ≤ 0 → V p l e R s m args below meth c E A nL kc ks Q σ (pc + 3) L st) : V p l e R s m args below meth c E A nL kc ks Q σ pc L (.int x :: st) := fun H locs ls hP hS hl => lv_if_le hc.1 hc.2.1 hd ht (fun h => kt h H locs ls hP hS hl) (fun h => kf h H locs ls hP hS hl)
theorem vIcmp_le (hc : Cx p R s m args meth c E A cc own ret nL kc ks dm) {x y : Int32} {off : Int} {tgt : Nat} (hd : decode cc pc = .ok (.if_icmp .le off, 3)) (ht : (pc : Int) + off = (tgt : Int))
    (kt : x ≤ y → V p l e R s m args below meth c E A nL kc ks Q σ tgt L st) (kf : ¬ x ≤ y → V p l e R s m args below meth c E A nL kc ks Q σ (pc + 3) L st) : V p l e R s m args below meth c E A nL kc ks Q σ pc L (.int y :: .int x :: st) := fun H locs ls hP hS hl => lv_icmp_le hc.1 hc.2.1 hd ht (fun h => kt h H locs ls hP hS hl) (fun h => kf h H locs ls hP hS hl)
theorem vGoto (hc : Cx p R s m args meth c E A cc own ret nL kc ks dm) {off : Int} {tgt : Nat} (hd : decode cc pc = .ok (.goto off, 3)) (ht : (pc : Int) + off = (tgt : Int))
    (k : V p l e R s m args below meth c E A nL kc ks Q σ tgt L st) : V p l e R s m args below meth c E A nL kc ks Q σ pc L st := fun H locs ls hP hS hl => lv_goto hc.1 hc.2.1 hd ht (k H locs ls hP hS hl)
theorem vTabIn (hc : Cx p R s m args meth c E A cc own ret nL kc ks dm) {dflt lo hi : Int} {offs : Array Int} {len : Nat} {x : Int32} {off : Int} {tgt : Nat} (hd : decode cc pc = .ok (.tableswitch dflt lo hi offs, len)) (h1 : ¬ x.toInt < lo) (h2 : ¬ hi < x.toInt) (ho : offs[(x.toInt - lo).toNat]? = some off) (ht : (pc : Int) + off = (tgt : Int))
    (k : V p l e R s m args below meth c E A nL kc ks Q σ tgt L st) : V p l e R s m args below meth c E A nL kc ks Q σ pc L (.int x :: st) := fun H locs ls hP hS hl => lv_tableIn hc.1 hc.2.1 hd h1 h2 ho ht (k H locs ls hP hS hl)
theorem vTabOut (hc : Cx p R s m args meth c E A cc own ret nL kc ks dm) {dflt lo hi : Int} {offs : Array Int} {len : Nat} {x : Int32} {tgt : Nat} (hd : decode cc pc = .ok (.tableswitch dflt lo hi offs, len)) (h : x.toInt < lo ∨ hi < x.toInt) (ht : (pc : Int) + dflt = (tgt : Int))
    (k : V p l e R s m args below meth c E A nL kc ks Q σ tgt L st) : V p l e R s m args below meth c E A nL kc ks Q σ pc L (.int x :: st) := fun H locs ls hP hS hl => lv_tableOut hc.1 hc.2.1 hd h ht (k H locs ls hP hS hl)
theorem vTop  {x y : Int32} (h : y = x) (k : V p l e R s m args below meth c E A nL kc ks Q σ pc L (.int y :: st)) : V p l e R s m args below meth c E A nL kc ks Q σ pc L (.int x :: st) := h ▸ k
theorem vMono {L2 : List (Option Value)} (hs : subL L2 L) (k : V p l e R s m args below meth c E A nL kc ks Q σ pc L2 st) : V p l e R s m args below meth c E A nL kc ks Q σ pc L st := fun H locs ls hP hS hl => k H locs ls hP hS (hl.mono (subL_ok _ _ hs))
theorem fld_get {E : WD} {σ : MS} {k j : Nat} {o : Option Nat} (h : (fdo k).2[j]? = some o) : ((fdo k).2.mapIdx (fva E σ k))[j]? = some (fva E σ k j o) := by
  rw [List.getElem?_mapIdx, h]
  rfl
theorem fld_set {E : WD} {σ : MS} {k j : Nat} {v : Int32} (h : (fdo k).2[j]? = some none) : ((fdo k).2.mapIdx (fva E σ k)).set j (.int v) = (fdo k).2.mapIdx (fva E (mst σ k j v) k) := by
  apply List.ext_getElem?
  intro i
  by_cases hi : i = j
  · subst hi
    have hl := (List.getElem?_eq_some_iff.mp h).1
    rw [List.getElem?_set_self (by simpa using hl), fld_get h]
    simp [fva, mst]
  · rw [List.getElem?_set_ne (Ne.symm hi), List.getElem?_mapIdx, List.getElem?_mapIdx]
    cases ho : (fdo k).2[i]? with
    | none => rfl
    | some o => cases o <;> simp [fva, mst, hi]
theorem cel_put {E : WD} {σ : MS} {i k j : Nat} {v : Int32} (hE : inj E) (hk : E.2.2.2[i]? = some k) (h0 : knd k = 0) (h : (fdo k).2[j]? = some none) : (wl E σ).set i (E.2.1 k, .inr ((fdo k).1, ((fdo k).2.mapIdx (fva E σ k)).set j (.int v))) = wl E (mst σ k j v) :=
  wl_set hE hk (by rw [cel_0 h0, fld_set h]) (fun i hi => mst_k hi)
theorem cel_st1 {E : WD} {σ : MS} {i k j : Nat} {v : Int32} (hE : inj E) (hk : E.2.2.2[i]? = some k) (h0 : knd k = 1) : (wl E σ).set i (E.2.1 k, .inl (E.2.2.1 0, alen k, .inl (upd (σ k) j v))) = wl E (mst σ k j v) :=
  wl_set hE hk (by rw [cel_1 h0, mst_upd]) (fun i hi => mst_k hi)
theorem cel_st2 {E : WD} {σ : MS} {i k j : Nat} {v : Int32} (hE : inj E) (hk : E.2.2.2[i]? = some k) (h0 : knd k = 2) : (wl E σ).set i (E.2.1 k, .inl (E.2.2.1 1, alen k, .inl (upd (σ k) j v))) = wl E (mst σ k j v) :=
  wl_set hE hk (by rw [cel_2 h0, mst_upd]) (fun i hi => mst_k hi)
theorem vGetI (hc : Cx p R s m args meth c E A cc own ret nL kc ks dm) {k : Nat} {C : String} {T : u_T} {N : Nat} (hcl : vwCl[(fdo k).1]? = some (C, T, N)) (hin : ∀ w ∈ u_ws C T N, w ∈ gtbl) (hk : k ∈ E.2.2.2) (h0 : knd k = 0) {j : Nat} (hj : j < N) {index : Nat} (hlk : Cond.fieldLink own index (T j).1 (T j).2.1 (T j).2.2.1 ∈ gtbl) (hf : (fdo k).2[j]? = some none) (hd : decode cc pc = .ok (.getfield index, 3))
    (kk : V p l e R s m args below meth c E A nL kc ks Q σ (pc + 3) L (.int (σ k j) :: st)) : V p l e R s m args below meth c E A nL kc ks Q σ pc L (.ref (E.2.1 k) :: st)   := fun H locs ls hP hS hl => by
  obtain ⟨i9, hi9, hj9⟩ := wl_get (σ := σ) hk
  exact va_get (D := E.1) (v := .int (σ k j)) hc.1 hc.2.1 hc.2.2.2.2.1 hin hc.2.2.2.1 hc.2.2.2.2.2.1.1 hP i9 (fs := (fdo k).2.mapIdx (fva E σ k)) (by rw [hi9, cel_0 h0]) hcl j hj (hc.2.2.2.2.1 _ hlk) (fun _ h9 => h9) (fld_get hf) hd (kk H locs ls hP hS hl)
theorem vGetR (hc : Cx p R s m args meth c E A cc own ret nL kc ks dm) {k : Nat} {C : String} {T : u_T} {N : Nat} (hcl : vwCl[(fdo k).1]? = some (C, T, N)) (hin : ∀ w ∈ u_ws C T N, w ∈ gtbl) (hk : k ∈ E.2.2.2) (h0 : knd k = 0) {j : Nat} (hj : j < N) {index : Nat} (hlk : Cond.fieldLink own index (T j).1 (T j).2.1 (T j).2.2.1 ∈ gtbl) {r : Nat} (hf : (fdo k).2[j]? = some (some r)) (hd : decode cc pc = .ok (.getfield index, 3))
    (kk : V p l e R s m args below meth c E A nL kc ks Q σ (pc + 3) L (.ref (E.2.1 r) :: st)) : V p l e R s m args below meth c E A nL kc ks Q σ pc L (.ref (E.2.1 k) :: st)   := fun H locs ls hP hS hl => by
  obtain ⟨i9, hi9, hj9⟩ := wl_get (σ := σ) hk
  exact va_get (D := E.1) (v := .ref (E.2.1 r)) hc.1 hc.2.1 hc.2.2.2.2.1 hin hc.2.2.2.1 hc.2.2.2.2.2.1.1 hP i9 (fs := (fdo k).2.mapIdx (fva E σ k)) (by rw [hi9, cel_0 h0]) hcl j hj (hc.2.2.2.2.1 _ hlk) (fun _ h9 => h9) (fld_get hf) hd (kk H locs ls hP hS hl)
theorem vGetIN (hc : Cx p R s m args meth c E A cc own ret nL kc ks dm) {k : Nat} {C : String} {T : u_T} {N : Nat} (hcl : vwCl[(fdo k).1]? = some (C, T, N)) (hin : ∀ w ∈ u_ws C T N, w ∈ gtbl) (hk : k ∈ E.2.2.2) (h0 : knd k = 0) {j : Nat} (hj : j < N) {index : Nat} {host : String} (hlk : Cond.fieldLinkNest own index (T j).1 (T j).2.1 (T j).2.2.1 host ∈ nestWs) (hf : (fdo k).2[j]? = some none) (hd : decode cc pc = .ok (.getfield index, 3))
    (kk : V p l e R s m args below meth c E A nL kc ks Q σ (pc + 3) L (.int (σ k j) :: st)) : V p l e R s m args below meth c E A nL kc ks Q σ pc L (.ref (E.2.1 k) :: st)   := fun H locs ls hP hS hl => by
  obtain ⟨i9, hi9, hj9⟩ := wl_get (σ := σ) hk
  exact va_getN (D := E.1) (v := .int (σ k j)) hc.1 hc.2.1 hc.2.2.2.2.1 hin hc.2.2.2.1 hc.2.2.2.2.2.1.1 hP i9 (fs := (fdo k).2.mapIdx (fva E σ k)) (by rw [hi9, cel_0 h0]) hcl j hj (va_Nw.use rfl (hc.2.2.2.2.2.1.2 _ hlk)) (fun _ h9 => h9) (fld_get hf) hd (kk H locs ls hP hS hl)
theorem vGetRN (hc : Cx p R s m args meth c E A cc own ret nL kc ks dm) {k : Nat} {C : String} {T : u_T} {N : Nat} (hcl : vwCl[(fdo k).1]? = some (C, T, N)) (hin : ∀ w ∈ u_ws C T N, w ∈ gtbl) (hk : k ∈ E.2.2.2) (h0 : knd k = 0) {j : Nat} (hj : j < N) {index : Nat} {host : String} (hlk : Cond.fieldLinkNest own index (T j).1 (T j).2.1 (T j).2.2.1 host ∈ nestWs) {r : Nat} (hf : (fdo k).2[j]? = some (some r)) (hd : decode cc pc = .ok (.getfield index, 3))
    (kk : V p l e R s m args below meth c E A nL kc ks Q σ (pc + 3) L (.ref (E.2.1 r) :: st)) : V p l e R s m args below meth c E A nL kc ks Q σ pc L (.ref (E.2.1 k) :: st)   := fun H locs ls hP hS hl => by
  obtain ⟨i9, hi9, hj9⟩ := wl_get (σ := σ) hk
  exact va_getN (D := E.1) (v := .ref (E.2.1 r)) hc.1 hc.2.1 hc.2.2.2.2.1 hin hc.2.2.2.1 hc.2.2.2.2.2.1.1 hP i9 (fs := (fdo k).2.mapIdx (fva E σ k)) (by rw [hi9, cel_0 h0]) hcl j hj (va_Nw.use rfl (hc.2.2.2.2.2.1.2 _ hlk)) (fun _ h9 => h9) (fld_get hf) hd (kk H locs ls hP hS hl)
theorem vPut (hc : Cx p R s m args meth c E A cc own ret nL kc ks dm) {k : Nat} {C : String} {T : u_T} {N : Nat} (hcl : vwCl[(fdo k).1]? = some (C, T, N)) (hin : ∀ w ∈ u_ws C T N, w ∈ gtbl) (hk : k ∈ E.2.2.2) (h0 : knd k = 0) {j : Nat} (hj : j < N) {index : Nat} (ty0 : Nat → FieldType) (hty : ∀ k, k < N → parseFieldDescriptor (T k).2.2.1 = some (ty0 k)) (hnm : ∀ a, a < N → ∀ b, b < N → a ≠ b → (T a).2.1 ≠ (T b).2.1) (hlk : Cond.fieldLink own index (T j).1 (T j).2.1 (T j).2.2.1 ∈ gtbl) (hfin : (T j).2.2.2 = false) (hf : (fdo k).2[j]? = some none) {v : Int32} (hn : narrow (ty0 j) (.int v) = .int v) (hfit : fits (ty0 j) (.int v) = true) (hd : decode cc pc = .ok (.putfield index, 3))
    (kk : ∀ σ1, σ1 = mst σ k j v → V p l e R s m args below meth c E A nL kc ks Q σ1 (pc + 3) L st) : V p l e R s m args below meth c E A nL kc ks Q σ pc L (.int v :: .ref (E.2.1 k) :: st) := fun H locs ls hP hS hl => by
  obtain ⟨i9, hi9, hj9⟩ := wl_get (σ := σ) hk
  exact va_put (D := E.1) (v := .int v) hc.1 hc.2.1 hc.2.2.2.2.1 hin ty0 hty hnm hc.2.2.2.1 hc.2.2.2.2.2.1.1 hP (wl_D hc.2.2.2.2.2.2.1 hc.2.2.2.2.2.2.2.1) hS i9 (fs := (fdo k).2.mapIdx (fva E σ k)) (by rw [hi9, cel_0 h0]) hcl j hj (hc.2.2.2.2.1 _ hlk) (fun _ h9 => h9) hfin (hty j hj) hn hfit (by simpa using (List.getElem?_eq_some_iff.mp hf).1) hd (fun H1 locs1 hP1 hD1 hS1 => kk _ rfl H1 locs1 ls (by rw [cel_put hc.2.2.2.2.2.2.1 hj9 h0 hf] at hP1; exact hP1) hS1 hl)
theorem vPutN (hc : Cx p R s m args meth c E A cc own ret nL kc ks dm) {k : Nat} {C : String} {T : u_T} {N : Nat} (hcl : vwCl[(fdo k).1]? = some (C, T, N)) (hin : ∀ w ∈ u_ws C T N, w ∈ gtbl) (hk : k ∈ E.2.2.2) (h0 : knd k = 0) {j : Nat} (hj : j < N) {index : Nat} (ty0 : Nat → FieldType) (hty : ∀ k, k < N → parseFieldDescriptor (T k).2.2.1 = some (ty0 k)) (hnm : ∀ a, a < N → ∀ b, b < N → a ≠ b → (T a).2.1 ≠ (T b).2.1) {host : String} (hlk : Cond.fieldLinkNest own index (T j).1 (T j).2.1 (T j).2.2.1 host ∈ nestWs) (hfin : (T j).2.2.2 = false) (hf : (fdo k).2[j]? = some none) {v : Int32} (hn : narrow (ty0 j) (.int v) = .int v) (hfit : fits (ty0 j) (.int v) = true) (hd : decode cc pc = .ok (.putfield index, 3))
    (kk : ∀ σ1, σ1 = mst σ k j v → V p l e R s m args below meth c E A nL kc ks Q σ1 (pc + 3) L st) : V p l e R s m args below meth c E A nL kc ks Q σ pc L (.int v :: .ref (E.2.1 k) :: st) := fun H locs ls hP hS hl => by
  obtain ⟨i9, hi9, hj9⟩ := wl_get (σ := σ) hk
  exact va_putN (D := E.1) (v := .int v) hc.1 hc.2.1 hc.2.2.2.2.1 hin ty0 hty hnm hc.2.2.2.1 hc.2.2.2.2.2.1.1 hP (wl_D hc.2.2.2.2.2.2.1 hc.2.2.2.2.2.2.2.1) hS i9 (fs := (fdo k).2.mapIdx (fva E σ k)) (by rw [hi9, cel_0 h0]) hcl j hj (va_Nw.use rfl (hc.2.2.2.2.2.1.2 _ hlk)) (fun _ h9 => h9) hfin (hty j hj) hn hfit (by simpa using (List.getElem?_eq_some_iff.mp hf).1) hd (fun H1 locs1 hP1 hD1 hS1 => kk _ rfl H1 locs1 ls (by rw [cel_put hc.2.2.2.2.2.2.1 hj9 h0 hf] at hP1; exact hP1) hS1 hl)
theorem vIald (hc : Cx p R s m args meth c E A cc own ret nL kc ks dm) {k n : Nat} {i : Int32} (hk : k ∈ E.2.2.2) (h0 : knd k = 1) (hn : alen k = n) (hi : vp_in i n) (hd : decode cc pc = .ok (.iaload, 1))
    (kk : V p l e R s m args below meth c E A nL kc ks Q σ (pc + 1) L (.int (σ k i.toNatClampNeg) :: st)) : V p l e R s m args below meth c E A nL kc ks Q σ pc L (.int i :: .ref (E.2.1 k) :: st) := fun H locs ls hP hS hl => by
  subst hn
  obtain ⟨i9, hi9, hj9⟩ := wl_get (σ := σ) hk
  exact va_iald hc.1 hc.2.1 hc.2.2.2.2.2.1.1 hP i9 0 (by rw [hi9, cel_1 h0]) rfl hi hd (kk H locs ls hP hS hl)
theorem vZald (hc : Cx p R s m args meth c E A cc own ret nL kc ks dm) {k n : Nat} {i : Int32} (hk : k ∈ E.2.2.2) (h0 : knd k = 2) (hn : alen k = n) (hi : vp_in i n) (hd : decode cc pc = .ok (.baload, 1))
    (kk : V p l e R s m args below meth c E A nL kc ks Q σ (pc + 1) L (.int (σ k i.toNatClampNeg) :: st)) : V p l e R s m args below meth c E A nL kc ks Q σ pc L (.int i :: .ref (E.2.1 k) :: st) := fun H locs ls hP hS hl => by
  subst hn
  obtain ⟨i9, hi9, hj9⟩ := wl_get (σ := σ) hk
  exact va_zald hc.1 hc.2.1 hc.2.2.2.2.2.1.1 hP i9 1 (by rw [hi9, cel_2 h0]) rfl hi hd (kk H locs ls hP hS hl)
theorem vIast (hc : Cx p R s m args meth c E A cc own ret nL kc ks dm) {k n : Nat} {i x : Int32} (hk : k ∈ E.2.2.2) (h0 : knd k = 1) (hn : alen k = n) (hi : vp_in i n) (hd : decode cc pc = .ok (.iastore, 1))
    (kk : ∀ σ1, σ1 = mst σ k i.toNatClampNeg x → V p l e R s m args below meth c E A nL kc ks Q σ1 (pc + 1) L st) : V p l e R s m args below meth c E A nL kc ks Q σ pc L (.int x :: .int i :: .ref (E.2.1 k) :: st) := fun H locs ls hP hS hl => by
  subst hn
  obtain ⟨i9, hi9, hj9⟩ := wl_get (σ := σ) hk
  exact va_iast hc.1 hc.2.1 hc.2.2.2.2.2.1.1 hP (wl_D hc.2.2.2.2.2.2.1 hc.2.2.2.2.2.2.2.1) hS i9 0 (by rw [hi9, cel_1 h0]) rfl hi hd (fun H1 locs1 hP1 hD1 hS1 => kk _ rfl H1 locs1 ls (by rw [cel_st1 hc.2.2.2.2.2.2.1 hj9 h0] at hP1; exact hP1) hS1 hl)
def zb (x : Int32) : Prop := x = 0 ∨ x = 1
theorem zb_nar {x : Int32} (h : zb x) : narrow .boolean (.int x) = .int x := by
  rcases h with rfl | rfl <;> rfl
theorem zb_fit {x : Int32} (h : zb x) : fits .boolean (.int x) = true := by
  rcases h with rfl | rfl <;> decide
theorem zb_vp {x : Int32} (h : zb x) : vp_nar .boolean x = x := by
  rcases h with rfl | rfl <;> rfl
theorem vZast (hc : Cx p R s m args meth c E A cc own ret nL kc ks dm) {k n : Nat} {i x : Int32} (hk : k ∈ E.2.2.2) (h0 : knd k = 2) (hn : alen k = n) (hi : vp_in i n) (hz : zb x) (hd : decode cc pc = .ok (.bastore, 1))
    (kk : ∀ σ1, σ1 = mst σ k i.toNatClampNeg x → V p l e R s m args below meth c E A nL kc ks Q σ1 (pc + 1) L st) : V p l e R s m args below meth c E A nL kc ks Q σ pc L (.int x :: .int i :: .ref (E.2.1 k) :: st) := fun H locs ls hP hS hl => by
  subst hn
  obtain ⟨i9, hi9, hj9⟩ := wl_get (σ := σ) hk
  exact va_zast hc.1 hc.2.1 hc.2.2.2.2.2.1.1 hP (wl_D hc.2.2.2.2.2.2.1 hc.2.2.2.2.2.2.2.1) hS i9 1 (by rw [hi9, cel_2 h0]) rfl hi hd (fun H1 locs1 hP1 hD1 hS1 => kk _ rfl H1 locs1 ls (by rw [zb_vp hz, cel_st2 hc.2.2.2.2.2.2.1 hj9 h0] at hP1; exact hP1) hS1 hl)
theorem vAlen (hc : Cx p R s m args meth c E A cc own ret nL kc ks dm) {k n : Nat} {v : Int32} (hk : k ∈ E.2.2.2) (h0 : knd k = 1) (hn : alen k = n) (hv : Int32.ofNat n = v) (hd : decode cc pc = .ok (.arraylength, 1))
    (kk : V p l e R s m args below meth c E A nL kc ks Q σ (pc + 1) L (.int v :: st)) : V p l e R s m args below meth c E A nL kc ks Q σ pc L (.ref (E.2.1 k) :: st) := fun H locs ls hP hS hl => by
  subst hn
  obtain ⟨i9, hi9, hj9⟩ := wl_get (σ := σ) hk
  exact va_alen hc.1 hc.2.1 hc.2.2.2.2.2.1.1 hP i9 0 (x := (alen k, .inl (σ k))) (by rw [hi9, cel_1 h0]) rfl hv hd (kk H locs ls hP hS hl)
theorem vAaldP (hc : Cx p R s m args meth c E A cc own ret nL kc ks dm) {i : Int32} (hk : 5 ∈ E.2.2.2) (hi : vp_in i 9) (hd : decode cc pc = .ok (.aaload, 1))
    (kk : V p l e R s m args below meth c E A nL kc ks Q σ (pc + 1) L (.ref (E.2.1 (37 + i.toNatClampNeg)) :: st)) : V p l e R s m args below meth c E A nL kc ks Q σ pc L (.int i :: .ref (E.2.1 5) :: st) := fun H locs ls hP hS hl => by
  obtain ⟨i9, hi9, hj9⟩ := wl_get (σ := σ) hk
  exact va_aldq (C := "RidePools$Person") hc.1 hc.2.1 hc.2.2.2.2.2.1.1 hP i9 2 (f := fun i => some (E.2.1 (37 + i))) hi9 rfl hi hd (kk H locs ls hP hS hl)
theorem vAaldD (hc : Cx p R s m args meth c E A cc own ret nL kc ks dm) {i : Int32} (hk : 2 ∈ E.2.2.2) (hi : vp_in i 10) (hd : decode cc pc = .ok (.aaload, 1))
    (kk : V p l e R s m args below meth c E A nL kc ks Q σ (pc + 1) L (.ref (E.2.1 (46 + i.toNatClampNeg)) :: st)) : V p l e R s m args below meth c E A nL kc ks Q σ pc L (.int i :: .ref (E.2.1 2) :: st) := fun H locs ls hP hS hl => by
  obtain ⟨i9, hi9, hj9⟩ := wl_get (σ := σ) hk
  exact va_aldqA hc.1 hc.2.1 hc.2.2.2.2.2.1.1 hP i9 3 (f := fun i => some (E.2.1 (46 + i))) hi9 rfl hi hd (kk H locs ls hP hS hl)
theorem vAaldF (hc : Cx p R s m args meth c E A cc own ret nL kc ks dm) {i : Int32} (hk : 3 ∈ E.2.2.2) (hi : vp_in i 10) (hd : decode cc pc = .ok (.aaload, 1))
    (kk : V p l e R s m args below meth c E A nL kc ks Q σ (pc + 1) L (.ref (E.2.1 (56 + i.toNatClampNeg)) :: st)) : V p l e R s m args below meth c E A nL kc ks Q σ pc L (.int i :: .ref (E.2.1 3) :: st) := fun H locs ls hP hS hl => by
  obtain ⟨i9, hi9, hj9⟩ := wl_get (σ := σ) hk
  exact va_aldqA hc.1 hc.2.1 hc.2.2.2.2.2.1.1 hP i9 3 (f := fun i => some (E.2.1 (56 + i))) hi9 rfl hi hd (kk H locs ls hP hS hl)
end VV
/-! ===== calls, returns, a contract's start ===== -/
def BW (E : WD) (u : MS) (t : State) : Prop := va_P E.1 vwCl (wl E u) t.heap ∧ KW E t
abbrev PW (E : WD) (σ : MS) (av : List Value) : Array Value → State → Prop := va_Pc av (fun U => va_P E.1 vwCl (wl E σ) U.heap ∧ KW E U)
/-- contracts: from a heap that holds σ the method returns with Q -/
def Ci (l : Launch) (E : WD) (y : MethodName) (cc : ByteArray) (nL : Nat) (ret : Option FieldType) (rm : Room) (av : List Value) (σ : MS) (Q : Int32 → MS → Prop) : Prop := Met l y (.code y cc nL ret :: gtbl) rm (PW E σ av) (va_Qi Q (BW E) (AD E)) 0 0 (AD E)
def Cv (l : Launch) (E : WD) (y : MethodName) (cc : ByteArray) (nL : Nat) (ret : Option FieldType) (rm : Room) (av : List Value) (σ : MS) (Q : MS → Prop) : Prop := Met l y (.code y cc nL ret :: gtbl) rm (PW E σ av) (va_Qv Q (BW E) (AD E)) 0 0 (AD E)
def Cr (l : Launch) (E : WD) (y : MethodName) (cc : ByteArray) (nL : Nat) (ret : Option FieldType) (rm : Room) (av : List Value) (σ : MS) (Q : Nat → MS → Prop) : Prop := Met l y (.code y cc nL ret :: gtbl) rm (PW E σ av) (va_Qr (fun u : Nat × MS => Q u.1 u.2) (fun u a t => a = E.2.1 u.1 ∧ BW E u.2 t) (AD E)) 0 0 (AD E)
theorem PW.blind {E : WD} {σ : MS} {av : List Value} : FrameBlind (PW E σ av) := fun a U g mk q => ⟨q.1, q.2.1, KW.same (s := U) (U := U.calling g mk a) rfl q.2.2⟩
def OkV (y : MethodName) (C : String) (bytes : ByteArray) (maxL : Nat) (ret : Option FieldType) (n : Nat) : Prop := Cond.instanceMethod y ∈ gtbl ∧ Cond.selects C y y ∈ gtbl ∧ Cond.initialized C ∈ gtbl ∧ Cond.code y bytes maxL ret ∈ gtbl ∧ (y.cls = C ∧ y.cls ≠ "java/lang/invoke/MethodHandle" ∧ y.cls ≠ "java/lang/invoke/VarHandle" ∧ (parseMethodDescriptor y.desc).map (fun d => d.parameters.length) = some n)
def OkS (y : MethodName) (bytes : ByteArray) (maxL : Nat) (ret : Option FieldType) (n : Nat) : Prop := Cond.static y ∈ gtbl ∧ Cond.initialized y.cls ∈ gtbl ∧ Cond.code y bytes maxL ret ∈ gtbl ∧ (y.cls ≠ "java/lang/invoke/MethodHandle" ∧ y.cls ≠ "java/lang/invoke/VarHandle" ∧ (parseMethodDescriptor y.desc).map (fun d => d.parameters.length) = some n)
theorem ginV {own : String} {index : Nat} {C : String} {y : MethodName} {bytes : ByteArray} {maxL : Nat} {ret : Option FieldType} {n : Nat} (h : OkV y C bytes maxL ret n) (hlk : Cond.methodLink own index y ∈ gtbl) : GoodIn gtbl (wsV own index C y (.code y bytes maxL ret :: gtbl)) := by
  intro w hw
  simp only [wsV, List.cons_append, List.nil_append, List.mem_cons] at hw
  rcases hw with rfl | rfl | rfl | rfl | rfl | hw
  · exact law_good hlk
  · exact law_good h.1
  · exact law_good h.2.1
  · exact law_good h.2.2.1
  · exact law_good h.2.2.2.1
  · exact law_good hw
theorem ginS {own : String} {index : Nat} {y : MethodName} {bytes : ByteArray} {maxL : Nat} {ret : Option FieldType} {n : Nat} (h : OkS y bytes maxL ret n) (hlk : Cond.methodLink own index y ∈ gtbl) : GoodIn gtbl (va_wsS own index y (.code y bytes maxL ret :: gtbl)) := by
  intro w hw
  simp only [va_wsS, List.cons_append, List.nil_append, List.mem_cons] at hw
  rcases hw with rfl | rfl | rfl | rfl | hw
  · exact law_good hlk
  · exact law_good h.1
  · exact law_good h.2.1
  · exact law_good h.2.2.1
  · exact law_good hw
theorem ginC {y : MethodName} {bytes : ByteArray} {maxL : Nat} {ret : Option FieldType} (h : Cond.code y bytes maxL ret ∈ gtbl) : GoodIn gtbl (.code y bytes maxL ret :: gtbl) := by
  intro w hw
  rcases List.mem_cons.mp hw with rfl | hw
  · exact law_good h
  · exact law_good hw
section VC
variable {p : Program} {l : Launch} {e : Env} {R : Room} {s : State} {m : MethodId} {args : Array Value} {below : List Frame} {meth : Method} {c : Code} {E : WD} {A : Nat → Prop} {nL kc ks : Nat} {dm : Nat → Prop} {Q : State → Prop}
variable {cc : ByteArray} {own : String} {ret : Option FieldType} {σ : MS} {pc : Nat} {L : List (Option Value)} {st st0 : List Value}
theorem AD_A (hc : Cx p R s m args meth c E A cc own ret nL kc ks dm) : ∀ q, AD E q → A q := by
  rintro q ⟨k, hk, rfl⟩
  exact hc.2.2.2.2.2.2.2.1 k hk
variable {y : MethodName} {C : String} {bytes : ByteArray} {maxL n k index : Nat} {ret2 : Option FieldType} {rm : Room} {As : List Value} {T : u_T} {N : Nat}
theorem run_V {Qc : Array Value → State → Outcome → State → Prop} {H : Heap} {locs : List Loc} {ls : Array Slot} (hc : Cx p R s m args meth c E A cc own ret nL kc ks dm) (hok : OkV y C bytes maxL ret2 n) (hlk : Cond.methodLink own index y ∈ gtbl) (hM : Met l y (.code y bytes maxL ret2 :: gtbl) rm (PW E σ (.ref (E.2.1 k) :: As)) Qc 0 0 (AD E)) (hk : k ∈ E.2.2.2) (h0 : knd k = 0) (hcl : vwCl[(fdo k).1]? = some (C, T, N)) (hn : As.length = n) (hrm : rm.cells = 0 ∧ rm.slots = 0) (hR : rm.frames + 1 ≤ R.frames ∧ 8 + (maxL + 11) + rm.locals ≤ R.locals) (hst : st0 = As.reverse ++ .ref (E.2.1 k) :: st) (hw : (st.map fun v => v.category).sum ≤ 8) (hd : decode cc pc = .ok (.invokevirtual index, 3)) (hP : va_P E.1 vwCl (wl E σ) H) (hl : lvh ls nL L) :
    va_Run p l e R s m args below meth c H locs kc ks 0 0 (F0 m pc ls st0) st (Qc (Value.ref (E.2.1 k) :: As).toArray) (AD E) := by
  obtain ⟨hx, hb, hml, hown, hts, hK, hi, hA, hr, hlk2, hkc, hks, hG⟩ := hc
  obtain ⟨i9, hi9, hj9⟩ := wl_get (σ := σ) hk
  exact va_runV (As := As) (rest := st) ⟨hx, hb, hml, hown, hts⟩ hM (cwV n hts (ginV hok hlk) rfl hrm.1 hrm.2 hok.2.2.2.2 hR) ⟨PW.blind, va_recv hK.1 hP (ci := (fdo k).1) (q0 := i9) hcl (by rw [hi9, cel_0 h0]), fun U hU hW => ⟨rfl, by rw [hU]; exact hP, KW.warm hW hK⟩⟩ rfl hn hl.1.1 hst (lv_room hw) hd ⟨hkc, hks⟩
theorem run_S {Qc : Array Value → State → Outcome → State → Prop} {H : Heap} {locs : List Loc} {ls : Array Slot} (hc : Cx p R s m args meth c E A cc own ret nL kc ks dm) (hok : OkS y bytes maxL ret2 n) (hlk : Cond.methodLink own index y ∈ gtbl) (hM : Met l y (.code y bytes maxL ret2 :: gtbl) rm (PW E σ As) Qc 0 0 (AD E)) (hn : As.length = n) (hrm : rm.cells = 0 ∧ rm.slots = 0) (hR : rm.frames + 1 ≤ R.frames ∧ 8 + (maxL + 11) + rm.locals ≤ R.locals) (hst : st0 = As.reverse ++ st) (hw : (st.map fun v => v.category).sum ≤ 8) (hd : decode cc pc = .ok (.invokestatic index, 3)) (hP : va_P E.1 vwCl (wl E σ) H) (hl : lvh ls nL L) :
    va_Run p l e R s m args below meth c H locs kc ks 0 0 (F0 m pc ls st0) st (Qc As.toArray) (AD E) := by
  obtain ⟨hx, hb, hml, hown, hts, hK, hi, hA, hr, hlk2, hkc, hks, hG⟩ := hc
  exact va_runS (As := As) (rest := st) ⟨hx, hb, hml, hown, hts⟩ hM (va_cwS n hts (ginS hok hlk) rfl hrm.1 hrm.2 hok.2.2.2 hR) ⟨PW.blind, fun U hU hW => ⟨rfl, by rw [hU]; exact hP, KW.warm hW hK⟩⟩ rfl hn hl.1.1 hst (lv_room hw) hd ⟨hkc, hks⟩
theorem run_SN {host : String} {Qc : Array Value → State → Outcome → State → Prop} {H : Heap} {locs : List Loc} {ls : Array Slot} (hc : Cx p R s m args meth c E A cc own ret nL kc ks dm) (hok : OkS y bytes maxL ret2 n) (hlk : Cond.methodLinkNest own index y host ∈ nestWs) (hM : Met l y (.code y bytes maxL ret2 :: gtbl) rm (PW E σ As) Qc 0 0 (AD E)) (hn : As.length = n) (hrm : rm.cells = 0 ∧ rm.slots = 0) (hR : rm.frames + 1 ≤ R.frames ∧ 8 + (maxL + 11) + rm.locals ≤ R.locals) (hst : st0 = As.reverse ++ st) (hw : (st.map fun v => v.category).sum ≤ 8) (hd : decode cc pc = .ok (.invokestatic index, 3)) (hP : va_P E.1 vwCl (wl E σ) H) (hl : lvh ls nL L) :
    va_Run p l e R s m args below meth c H locs kc ks 0 0 (F0 m pc ls st0) st (Qc As.toArray) (AD E) := by
  obtain ⟨hx, hb, hml, hown, hts, hK, hi, hA, hr, hlk2, hkc, hks, hG⟩ := hc
  exact va_runSN (As := As) (rest := st) ⟨hx, hb, hml, hown, hts⟩ hM ⟨va_cnB n hts (ginC hok.2.2.1) rfl hrm.1 hrm.2 (hK.2 _ hlk) (hts _ hok.2.1) hok.2.2.2 hR, hts _ hok.1, trivial⟩ ⟨PW.blind, fun U hU hW => ⟨rfl, by rw [hU]; exact hP, KW.warm hW hK⟩⟩ rfl hn hl.1.1 hst (lv_room hw) hd ⟨hkc, hks⟩
theorem vCallVi {Q2 : Int32 → MS → Prop} (hc : Cx p R s m args meth c E A cc own ret nL kc ks dm) (hok : OkV y C bytes maxL ret2 n) (hlk : Cond.methodLink own index y ∈ gtbl) (hM : Ci l E y bytes maxL ret2 rm (.ref (E.2.1 k) :: As) σ Q2) (hk : k ∈ E.2.2.2) (h0 : knd k = 0) (hcl : vwCl[(fdo k).1]? = some (C, T, N)) (hn : As.length = n) (hrm : rm.cells = 0 ∧ rm.slots = 0) (hR : rm.frames + 1 ≤ R.frames ∧ 8 + (maxL + 11) + rm.locals ≤ R.locals) (hst : st0 = As.reverse ++ .ref (E.2.1 k) :: st) (hw : (st.map fun v => v.category).sum ≤ 8) (hd : decode cc pc = .ok (.invokevirtual index, 3))
    (kk : ∀ (r : Int32) (σ1 : MS), Q2 r σ1 → V p l e R s m args below meth c E A nL kc ks Q σ1 (pc + 3) L (.int r :: st)) : V p l e R s m args below meth c E A nL kc ks Q σ pc L st0 := fun H locs ls hP hS hl =>
  va_calli (run_V hc hok hlk hM hk h0 hcl hn hrm hR hst hw hd hP hl) hS (fun q _ h => AD_A hc q h) (AD_A hc) (fun r u t H1 locs1 ht hvm hq hB hz hk1 hS1 => kk r u hq H1 locs1 ls (by rw [← ht]; exact hB.1) hS1 hl)
theorem vCallVv {Q2 : MS → Prop} (hc : Cx p R s m args meth c E A cc own ret nL kc ks dm) (hok : OkV y C bytes maxL ret2 n) (hlk : Cond.methodLink own index y ∈ gtbl) (hM : Cv l E y bytes maxL ret2 rm (.ref (E.2.1 k) :: As) σ Q2) (hk : k ∈ E.2.2.2) (h0 : knd k = 0) (hcl : vwCl[(fdo k).1]? = some (C, T, N)) (hn : As.length = n) (hrm : rm.cells = 0 ∧ rm.slots = 0) (hR : rm.frames + 1 ≤ R.frames ∧ 8 + (maxL + 11) + rm.locals ≤ R.locals) (hst : st0 = As.reverse ++ .ref (E.2.1 k) :: st) (hw : (st.map fun v => v.category).sum ≤ 8) (hd : decode cc pc = .ok (.invokevirtual index, 3))
    (kk : ∀ (σ1 : MS), Q2 σ1 → V p l e R s m args below meth c E A nL kc ks Q σ1 (pc + 3) L st) : V p l e R s m args below meth c E A nL kc ks Q σ pc L st0 := fun H locs ls hP hS hl =>
  va_callv (run_V hc hok hlk hM hk h0 hcl hn hrm hR hst hw hd hP hl) hS (fun q _ h => AD_A hc q h) (AD_A hc) (fun u t H1 locs1 ht hvm hq hB hz hk1 hS1 => kk u hq H1 locs1 ls (by rw [← ht]; exact hB.1) hS1 hl)
theorem vCallVr {Q2 : Nat → MS → Prop} (hc : Cx p R s m args meth c E A cc own ret nL kc ks dm) (hok : OkV y C bytes maxL ret2 n) (hlk : Cond.methodLink own index y ∈ gtbl) (hM : Cr l E y bytes maxL ret2 rm (.ref (E.2.1 k) :: As) σ Q2) (hk : k ∈ E.2.2.2) (h0 : knd k = 0) (hcl : vwCl[(fdo k).1]? = some (C, T, N)) (hn : As.length = n) (hrm : rm.cells = 0 ∧ rm.slots = 0) (hR : rm.frames + 1 ≤ R.frames ∧ 8 + (maxL + 11) + rm.locals ≤ R.locals) (hst : st0 = As.reverse ++ .ref (E.2.1 k) :: st) (hw : (st.map fun v => v.category).sum ≤ 8) (hd : decode cc pc = .ok (.invokevirtual index, 3))
    (kk : ∀ (r : Nat) (σ1 : MS), Q2 r σ1 → V p l e R s m args below meth c E A nL kc ks Q σ1 (pc + 3) L (.ref (E.2.1 r) :: st)) : V p l e R s m args below meth c E A nL kc ks Q σ pc L st0 := fun H locs ls hP hS hl =>
  va_callr (run_V hc hok hlk hM hk h0 hcl hn hrm hR hst hw hd hP hl) hS (fun q _ h => AD_A hc q h) (AD_A hc) (fun u ra t H1 locs1 ht hvm hq hB hz hk1 hS1 => by
  obtain ⟨he, hB⟩ := hB
  subst he
  exact kk u.1 u.2 hq H1 locs1 ls (by rw [← ht]; exact hB.1) hS1 hl)
theorem vCallSi {Q2 : Int32 → MS → Prop} (hc : Cx p R s m args meth c E A cc own ret nL kc ks dm) (hok : OkS y bytes maxL ret2 n) (hlk : Cond.methodLink own index y ∈ gtbl) (hM : Ci l E y bytes maxL ret2 rm As σ Q2) (hn : As.length = n) (hrm : rm.cells = 0 ∧ rm.slots = 0) (hR : rm.frames + 1 ≤ R.frames ∧ 8 + (maxL + 11) + rm.locals ≤ R.locals) (hst : st0 = As.reverse ++ st) (hw : (st.map fun v => v.category).sum ≤ 8) (hd : decode cc pc = .ok (.invokestatic index, 3))
    (kk : ∀ (r : Int32) (σ1 : MS), Q2 r σ1 → V p l e R s m args below meth c E A nL kc ks Q σ1 (pc + 3) L (.int r :: st)) : V p l e R s m args below meth c E A nL kc ks Q σ pc L st0 := fun H locs ls hP hS hl =>
  va_calli (run_S hc hok hlk hM hn hrm hR hst hw hd hP hl) hS (fun q _ h => AD_A hc q h) (AD_A hc) (fun r u t H1 locs1 ht hvm hq hB hz hk1 hS1 => kk r u hq H1 locs1 ls (by rw [← ht]; exact hB.1) hS1 hl)
theorem vCallSv {Q2 : MS → Prop} (hc : Cx p R s m args meth c E A cc own ret nL kc ks dm) (hok : OkS y bytes maxL ret2 n) (hlk : Cond.methodLink own index y ∈ gtbl) (hM : Cv l E y bytes maxL ret2 rm As σ Q2) (hn : As.length = n) (hrm : rm.cells = 0 ∧ rm.slots = 0) (hR : rm.frames + 1 ≤ R.frames ∧ 8 + (maxL + 11) + rm.locals ≤ R.locals) (hst : st0 = As.reverse ++ st) (hw : (st.map fun v => v.category).sum ≤ 8) (hd : decode cc pc = .ok (.invokestatic index, 3))
    (kk : ∀ (σ1 : MS), Q2 σ1 → V p l e R s m args below meth c E A nL kc ks Q σ1 (pc + 3) L st) : V p l e R s m args below meth c E A nL kc ks Q σ pc L st0 := fun H locs ls hP hS hl =>
  va_callv (run_S hc hok hlk hM hn hrm hR hst hw hd hP hl) hS (fun q _ h => AD_A hc q h) (AD_A hc) (fun u t H1 locs1 ht hvm hq hB hz hk1 hS1 => kk u hq H1 locs1 ls (by rw [← ht]; exact hB.1) hS1 hl)
theorem vCallSr {Q2 : Nat → MS → Prop} (hc : Cx p R s m args meth c E A cc own ret nL kc ks dm) (hok : OkS y bytes maxL ret2 n) (hlk : Cond.methodLink own index y ∈ gtbl) (hM : Cr l E y bytes maxL ret2 rm As σ Q2) (hn : As.length = n) (hrm : rm.cells = 0 ∧ rm.slots = 0) (hR : rm.frames + 1 ≤ R.frames ∧ 8 + (maxL + 11) + rm.locals ≤ R.locals) (hst : st0 = As.reverse ++ st) (hw : (st.map fun v => v.category).sum ≤ 8) (hd : decode cc pc = .ok (.invokestatic index, 3))
    (kk : ∀ (r : Nat) (σ1 : MS), Q2 r σ1 → V p l e R s m args below meth c E A nL kc ks Q σ1 (pc + 3) L (.ref (E.2.1 r) :: st)) : V p l e R s m args below meth c E A nL kc ks Q σ pc L st0 := fun H locs ls hP hS hl =>
  va_callr (run_S hc hok hlk hM hn hrm hR hst hw hd hP hl) hS (fun q _ h => AD_A hc q h) (AD_A hc) (fun u ra t H1 locs1 ht hvm hq hB hz hk1 hS1 => by
  obtain ⟨he, hB⟩ := hB
  subst he
  exact kk u.1 u.2 hq H1 locs1 ls (by rw [← ht]; exact hB.1) hS1 hl)
theorem vCallSNi {Q2 : Int32 → MS → Prop} (hc : Cx p R s m args meth c E A cc own ret nL kc ks dm) {host : String} (hok : OkS y bytes maxL ret2 n) (hlk : Cond.methodLinkNest own index y host ∈ nestWs) (hM : Ci l E y bytes maxL ret2 rm As σ Q2) (hn : As.length = n) (hrm : rm.cells = 0 ∧ rm.slots = 0) (hR : rm.frames + 1 ≤ R.frames ∧ 8 + (maxL + 11) + rm.locals ≤ R.locals) (hst : st0 = As.reverse ++ st) (hw : (st.map fun v => v.category).sum ≤ 8) (hd : decode cc pc = .ok (.invokestatic index, 3))
    (kk : ∀ (r : Int32) (σ1 : MS), Q2 r σ1 → V p l e R s m args below meth c E A nL kc ks Q σ1 (pc + 3) L (.int r :: st)) : V p l e R s m args below meth c E A nL kc ks Q σ pc L st0 := fun H locs ls hP hS hl =>
  va_calli (run_SN hc hok hlk hM hn hrm hR hst hw hd hP hl) hS (fun q _ h => AD_A hc q h) (AD_A hc) (fun r u t H1 locs1 ht hvm hq hB hz hk1 hS1 => kk r u hq H1 locs1 ls (by rw [← ht]; exact hB.1) hS1 hl)
theorem vCallSNv {Q2 : MS → Prop} (hc : Cx p R s m args meth c E A cc own ret nL kc ks dm) {host : String} (hok : OkS y bytes maxL ret2 n) (hlk : Cond.methodLinkNest own index y host ∈ nestWs) (hM : Cv l E y bytes maxL ret2 rm As σ Q2) (hn : As.length = n) (hrm : rm.cells = 0 ∧ rm.slots = 0) (hR : rm.frames + 1 ≤ R.frames ∧ 8 + (maxL + 11) + rm.locals ≤ R.locals) (hst : st0 = As.reverse ++ st) (hw : (st.map fun v => v.category).sum ≤ 8) (hd : decode cc pc = .ok (.invokestatic index, 3))
    (kk : ∀ (σ1 : MS), Q2 σ1 → V p l e R s m args below meth c E A nL kc ks Q σ1 (pc + 3) L st) : V p l e R s m args below meth c E A nL kc ks Q σ pc L st0 := fun H locs ls hP hS hl =>
  va_callv (run_SN hc hok hlk hM hn hrm hR hst hw hd hP hl) hS (fun q _ h => AD_A hc q h) (AD_A hc) (fun u t H1 locs1 ht hvm hq hB hz hk1 hS1 => kk u hq H1 locs1 ls (by rw [← ht]; exact hB.1) hS1 hl)
theorem vCallSNr {Q2 : Nat → MS → Prop} (hc : Cx p R s m args meth c E A cc own ret nL kc ks dm) {host : String} (hok : OkS y bytes maxL ret2 n) (hlk : Cond.methodLinkNest own index y host ∈ nestWs) (hM : Cr l E y bytes maxL ret2 rm As σ Q2) (hn : As.length = n) (hrm : rm.cells = 0 ∧ rm.slots = 0) (hR : rm.frames + 1 ≤ R.frames ∧ 8 + (maxL + 11) + rm.locals ≤ R.locals) (hst : st0 = As.reverse ++ st) (hw : (st.map fun v => v.category).sum ≤ 8) (hd : decode cc pc = .ok (.invokestatic index, 3))
    (kk : ∀ (r : Nat) (σ1 : MS), Q2 r σ1 → V p l e R s m args below meth c E A nL kc ks Q σ1 (pc + 3) L (.ref (E.2.1 r) :: st)) : V p l e R s m args below meth c E A nL kc ks Q σ pc L st0 := fun H locs ls hP hS hl =>
  va_callr (run_SN hc hok hlk hM hn hrm hR hst hw hd hP hl) hS (fun q _ h => AD_A hc q h) (AD_A hc) (fun u ra t H1 locs1 ht hvm hq hB hz hk1 hS1 => by
  obtain ⟨he, hB⟩ := hB
  subst he
  exact kk u.1 u.2 hq H1 locs1 ls (by rw [← ht]; exact hB.1) hS1 hl)
/-! returns -/
theorem vIret {Qp : Int32 → MS → Prop} {v : Int32} (hc : Cx p R s m args meth c E (AD E) cc own (some .int) nL 0 0 dm) (hd : decode cc pc = .ok (.ireturn, 1)) (hq : Qp v σ) : V p l e R s m args below meth c E (AD E) nL 0 0 (MQ below (va_Qi Qp (BW E) (AD E)) args s 0 0 (AD E)) σ pc L [.int v] := fun H locs ls hP hS hl =>
  W.iret hc.1 hc.2.1 hc.2.2.2.2.2.2.2.2.1 (fun t ht hW => ⟨⟨v, σ, rfl, hq, by rw [ht]; exact hP, KW.warm hW hc.2.2.2.2.2.1⟩, hS.F ht⟩) hS.2.2 hd hc.2.2.2.2.2.2.2.2.2.1
theorem vZret {Qp : Int32 → MS → Prop} {v : Int32} (hc : Cx p R s m args meth c E (AD E) cc own (some .boolean) nL 0 0 dm) (hd : decode cc pc = .ok (.ireturn, 1)) (hz : zb v) (hq : Qp v σ) : V p l e R s m args below meth c E (AD E) nL 0 0 (MQ below (va_Qi Qp (BW E) (AD E)) args s 0 0 (AD E)) σ pc L [.int v] := fun H locs ls hP hS hl =>
  W.zret hc.1 hc.2.1 hc.2.2.2.2.2.2.2.2.1 (zb_nar hz) (fun t ht hW => ⟨⟨v, σ, rfl, hq, by rw [ht]; exact hP, KW.warm hW hc.2.2.2.2.2.1⟩, hS.F ht⟩) hS.2.2 hd hc.2.2.2.2.2.2.2.2.2.1
theorem vVret {Qp : MS → Prop} (hc : Cx p R s m args meth c E (AD E) cc own none nL 0 0 dm) (hd : decode cc pc = .ok (.return_, 1)) (hq : Qp σ) : V p l e R s m args below meth c E (AD E) nL 0 0 (MQ below (va_Qv Qp (BW E) (AD E)) args s 0 0 (AD E)) σ pc L [] := fun H locs ls hP hS hl =>
  W.vret hc.1 hc.2.1 hc.2.2.2.2.2.2.2.2.1 (fun t ht hW => ⟨⟨σ, rfl, hq, by rw [ht]; exact hP, KW.warm hW hc.2.2.2.2.2.1⟩, hS.F ht⟩) hS.2.2 hd hc.2.2.2.2.2.2.2.2.2.1
theorem vAret {Qp : Nat → MS → Prop} {k : Nat} {cn : String} (hc : Cx p R s m args meth c E (AD E) cc own (some (.object cn)) nL 0 0 dm) (hd : decode cc pc = .ok (.areturn, 1)) (hq : Qp k σ) : V p l e R s m args below meth c E (AD E) nL 0 0 (MQ below (va_Qr (fun u : Nat × MS => Qp u.1 u.2) (fun u a t => a = E.2.1 u.1 ∧ BW E u.2 t) (AD E)) args s 0 0 (AD E)) σ pc L [.ref (E.2.1 k)] := fun H locs ls hP hS hl =>
  W.aret hc.1 hc.2.1 hc.2.2.2.2.2.2.2.2.1 (Or.inl ⟨cn, rfl⟩) (Or.inr ⟨_, rfl⟩) (fun t ht hW => ⟨⟨(k, σ), E.2.1 k, rfl, hq, rfl, by rw [ht]; exact hP, KW.warm hW hc.2.2.2.2.2.1⟩, hS.F ht⟩) hS.2.2 hd hc.2.2.2.2.2.2.2.2.2.1
/-! Math.min, Math.max, System.arraycopy -/
theorem vMax {x y : Int32} {index : Nat} (hc : Cx p R s m args meth c E A cc own ret nL kc ks dm) (hlk : Cond.methodLink own index Lib.Math.max.name ∈ gtbl) (h1 : Cond.static Lib.Math.max.name ∈ gtbl) (h2 : Cond.initialized "java/lang/Math" ∈ gtbl) (h3 : Cond.code Lib.Math.max.name Lib.Math.max.code 2 (some .int) ∈ gtbl) (hR : 1 ≤ R.frames ∧ (st.map fun v => v.category).sum + 13 ≤ R.locals) (hd : decode cc pc = .ok (.invokestatic index, 3))
    (k : V p l e R s m args below meth c E A nL kc ks Q σ (pc + 3) L (.int (if x < y then y else x) :: st)) : V p l e R s m args below meth c E A nL kc ks Q σ pc L (.int y :: .int x :: st) := fun H locs ls hP hS hl => by
  obtain ⟨hx, hb, hml, hown, hts, hK, hi, hA, hr, hlk2, hkc, hks, hG⟩ := hc
  exact va_mmax hx hb (by rw [hml]; exact hl.1.1.symm) hown (hts _ hlk) (hts _ h1) (hts _ h2) (hts _ h3) hR.1 hR.2 hkc hks hd (k H locs ls hP hS hl)
theorem vMin {x y : Int32} {index : Nat} (hc : Cx p R s m args meth c E A cc own ret nL kc ks dm) (hlk : Cond.methodLink own index Lib.Math.min.name ∈ gtbl) (h1 : Cond.static Lib.Math.min.name ∈ gtbl) (h2 : Cond.initialized "java/lang/Math" ∈ gtbl) (h3 : Cond.code Lib.Math.min.name Lib.Math.min.code 2 (some .int) ∈ gtbl) (hR : 1 ≤ R.frames ∧ (st.map fun v => v.category).sum + 13 ≤ R.locals) (hd : decode cc pc = .ok (.invokestatic index, 3))
    (k : V p l e R s m args below meth c E A nL kc ks Q σ (pc + 3) L (.int (if y < x then y else x) :: st)) : V p l e R s m args below meth c E A nL kc ks Q σ pc L (.int y :: .int x :: st) := fun H locs ls hP hS hl => by
  obtain ⟨hx, hb, hml, hown, hts, hK, hi, hA, hr, hlk2, hkc, hks, hG⟩ := hc
  exact va_mmin hx hb (by rw [hml]; exact hl.1.1.symm) hown (hts _ hlk) (hts _ h1) (hts _ h2) (hts _ h3) hR.1 hR.2 hkc hks hd (k H locs ls hP hS hl)
def mcp (σ : MS) (k k2 sp dp n : Nat) : MS := fun a => if a = k2 then va_cpy (σ k) (σ k2) sp dp n else σ a
theorem vCopy {k k2 n1 n2 index : Nat} {sp dp n : Int32} (hc : Cx p R s m args meth c E A cc own ret nL kc ks dm) (hlk : Cond.methodLink own index arraycopyName ∈ gtbl) (hw1 : Cond.native arraycopyName ∈ gtbl) (hw2 : Cond.static arraycopyName ∈ gtbl) (hw3 : Cond.initialized "java/lang/System" ∈ gtbl) (hk : k ∈ E.2.2.2) (h0 : knd k = 1) (hk2 : k2 ∈ E.2.2.2) (h02 : knd k2 = 1) (hn1 : alen k = n1) (hn2 : alen k2 = n2) (h1 : ¬ sp < 0) (h2 : ¬ dp < 0) (h3 : ¬ n < 0) (h4 : sp.toNatClampNeg + n.toNatClampNeg ≤ n1) (h5 : dp.toNatClampNeg + n.toNatClampNeg ≤ n2) (hR : 1 ≤ R.frames ∧ (st.map fun v => v.category).sum + (nativeFrameWords "java/lang/System" "arraycopy" 5 + 11) ≤ R.locals) (hd : decode cc pc = .ok (.invokestatic index, 3))
    (kk : ∀ σ1, σ1 = mcp σ k k2 sp.toNatClampNeg dp.toNatClampNeg n.toNatClampNeg → V p l e R s m args below meth c E A nL kc ks Q σ1 (pc + 3) L st) : V p l e R s m args below meth c E A nL kc ks Q σ pc L (.int n :: .int dp :: .ref (E.2.1 k2) :: .int sp :: .ref (E.2.1 k) :: st) := fun H locs ls hP hS hl => by
  obtain ⟨hx, hb, hml, hown, hts, hK, hi, hA, hr, hlk2, hkc, hks, hG⟩ := hc
  subst hn1 hn2
  obtain ⟨i9, hi9, hj9⟩ := wl_get (σ := σ) hk
  obtain ⟨i8, hi8, hj8⟩ := wl_get (σ := σ) hk2
  refine va_copyi (ty := .int) hx hb (by rw [hml]; exact hl.1.1.symm) hown (hts _ hlk) (hts _ hw1) (hts _ hw2) (hts _ hw3) hK.1 hP (wl_D hi hA) hS i9 i8 0 0 (by rw [hi9, cel_1 h0]) (by rw [hi8, cel_1 h02]) rfl rfl rfl h1 h2 h3 h4 h5 (fun _ _ => rfl) hR.1 hR.2 hd (fun H1 locs1 hP1 hD1 hS1 => kk _ rfl H1 locs1 ls ?_ hS1 hl)
  rw [wl_set (σ' := mcp σ k k2 sp.toNatClampNeg dp.toNatClampNeg n.toNatClampNeg) hi hj8 (by rw [cel_1 h02]; simp [mcp]) (fun i hi => by simp [mcp, hi])] at hP1
  exact hP1
end VC
theorem Ct_of {l : Launch} {E : WD} {y : MethodName} {cc : ByteArray} {nL : Nat} {ret : Option FieldType} {rm : Room} {av : List Value} {σ : MS} {own : String} {Qc : Array Value → State → Outcome → State → Prop} (hy : Jvm.plainName y.cls = true) (hown : y.cls = own) (hcat : ∀ v ∈ av, v.category = 1) (hlen : av.length ≤ nL) (hinj : inj E) {dm : Nat → Prop} (hG : ∀ k, dm k → k ∈ E.2.2.2)
    (body : ∀ (p : Program) (e : Env) (s : State) (m : MethodId) (below : List Frame) (meth : Method) (c : Code), Cx p rm s m av.toArray meth c E (AD E) cc own ret nL 0 0 dm → V p l e rm s m av.toArray below meth c E (AD E) nL 0 0 (MQ below Qc av.toArray s 0 0 (AD E)) σ 0 (av.map some ++ List.replicate (nL - av.length) none) []) : Met l y (.code y cc nL ret :: gtbl) rm (PW E σ av) Qc 0 0 (AD E) := by
  refine Met.ofW (cc := cc) (maxL := nL) (ret := ret) hy rfl ?_
  intro p e s m args below meth c s₁ B hml hv
  obtain ⟨rfl, hP, hK⟩ := hv
  have hts := atoms_spec (ws := .code y cc nL ret :: gtbl) B.pre
  have hC : Cx p rm s m av.toArray meth c E (AD E) cc own ret nL 0 0 dm := ⟨B.exec, B.bytes, hml, by rw [← hown]; exact findClass_of_methodNamed B.named, fun w hw => hts w (List.mem_cons_of_mem _ hw), hK, hinj, fun k hk => ⟨k, hk, rfl⟩, B.returns, B.notSynchronized, Nat.zero_le _, Nat.zero_le _, hG⟩
  rw [lg_entry_eq]
  exact body p e s m below meth c hC s.heap [] _ hP va_S.rf (lvh_entry hcat hlen)
