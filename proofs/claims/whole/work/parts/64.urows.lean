/-! ===== a world that grows: rows ===== -/
def KN (G : va_G) (cid : Nat → ClassId) (U : State) : Prop := KW (G, (fun _ => 0), cid, []) U ∧ va_AO "RidePools$Person" U ∧ va_AOA .int U
theorem KN.warm {G : va_G} {cid : Nat → ClassId} {s U : State} (hW : s.WarmedH U.vm) (h : KN G cid s) : KN G cid U := ⟨h.1.warm hW, va_AO.moved hW.alike h.2.1, va_AOA.moved hW.alike h.2.2⟩
theorem KN.same {G : va_G} {cid : Nat → ClassId} {s U : State} (hW : s.vm = U.vm) (h : KN G cid s) : KN G cid U := ⟨h.1.same hW, va_AO.moved (by rw [← hW]; exact Vm.Alike.refl _) h.2.1, va_AOA.moved (by rw [← hW]; exact Vm.Alike.refl _) h.2.2⟩
def U (p : Program) (l : Launch) (e : Env) (R : Room) (s : State) (m : MethodId) (args : Array Value) (below : List Frame) (meth : Method) (c : Code) (G : va_G) (cid : Nat → ClassId) (A : Nat → Prop) (nL : Nat) (Q : State → Prop) (ad : Nat → Nat) (σ : MS) (ps : List (Nat × Nat)) (kc ks pc : Nat) (L : List (Option Value)) (st : List Value) : Prop :=
  ∀ (H : Heap) (locs : List Loc) (ls : Array Slot), va_P G vwCl (wN ad cid σ ps) H → va_D A (wN ad cid σ ps) → va_S A s.heap H locs → lvh ls nL L → W p l e R s m args below meth c H locs kc ks Q (F0 m pc ls st)
def Ux (p : Program) (s : State) (m : MethodId) (args : Array Value) (meth : Method) (c : Code) (G : va_G) (cid : Nat → ClassId) (A : Nat → Prop) (cc : ByteArray) (own : String) (nL : Nat) : Prop :=
  p.tables.exec = Jvm.exec ∧ c.code = cc ∧ c.maxLocals = nL ∧ s.vm.findClass own = some m.cls ∧ (∀ w ∈ gtbl, w.before args s = true) ∧ KN G cid s ∧ (∀ q, s.heap.size ≤ q → A q) ∧ meth.locks = false
section UU
variable {p : Program} {l : Launch} {e : Env} {R : Room} {s : State} {m : MethodId} {args : Array Value} {below : List Frame} {meth : Method} {c : Code} {G : va_G} {cid : Nat → ClassId} {A : Nat → Prop} {nL : Nat} {Q : State → Prop}
variable {cc : ByteArray} {own : String} {ad : Nat → Nat} {σ : MS} {ps : List (Nat × Nat)} {kc ks pc : Nat} {L : List (Option Value)} {st : List Value}
theorem uIconst (hc : Ux p s m args meth c G cid A cc own nL) {n : Int} {v : Int32} (hd : decode cc pc = .ok (.iconst n, 1)) (hv : Int32.ofInt n = v)
    (k : U p l e R s m args below meth c G cid A nL Q ad σ ps kc ks (pc + 1) L (.int v :: st)) : U p l e R s m args below meth c G cid A nL Q ad σ ps kc ks pc L st := fun H locs ls hP hD hS hl => lv_iconst hc.1 hc.2.1 hd hv (k H locs ls hP hD hS hl)
theorem uBipush (hc : Ux p s m args meth c G cid A cc own nL) {n : Int} {v : Int32} (hd : decode cc pc = .ok (.bipush n, 2)) (hv : (Int8.ofInt n).toInt32 = v)
    (k : U p l e R s m args below meth c G cid A nL Q ad σ ps kc ks (pc + 2) L (.int v :: st)) : U p l e R s m args below meth c G cid A nL Q ad σ ps kc ks pc L st := fun H locs ls hP hD hS hl => lv_bipush hc.1 hc.2.1 hd hv (k H locs ls hP hD hS hl)
theorem uSipush (hc : Ux p s m args meth c G cid A cc own nL) {n : Int} {v : Int32} (hd : decode cc pc = .ok (.sipush n, 3)) (hv : (Int16.ofInt n).toInt32 = v)
    (k : U p l e R s m args below meth c G cid A nL Q ad σ ps kc ks (pc + 3) L (.int v :: st)) : U p l e R s m args below meth c G cid A nL Q ad σ ps kc ks pc L st := fun H locs ls hP hD hS hl => lv_sipush hc.1 hc.2.1 hd hv (k H locs ls hP hD hS hl)
theorem uAload_n (hc : Ux p s m args meth c G cid A cc own nL) {j : Fin 4} {x : Nat} (hd : decode cc pc = .ok (.aload_n j, 1)) (hL : L[(j : Nat)]? = some (some (.ref x)))
    (k : U p l e R s m args below meth c G cid A nL Q ad σ ps kc ks (pc + 1) L (.ref x :: st)) : U p l e R s m args below meth c G cid A nL Q ad σ ps kc ks pc L st := fun H locs ls hP hD hS hl => lv_aload_n hc.1 hc.2.1 hd rfl (hl.at hL) (k H locs ls hP hD hS hl)
theorem uIload_n (hc : Ux p s m args meth c G cid A cc own nL) {j : Fin 4} {x : Int32} (hd : decode cc pc = .ok (.iload_n j, 1)) (hL : L[(j : Nat)]? = some (some (.int x)))
    (k : U p l e R s m args below meth c G cid A nL Q ad σ ps kc ks (pc + 1) L (.int x :: st)) : U p l e R s m args below meth c G cid A nL Q ad σ ps kc ks pc L st := fun H locs ls hP hD hS hl => lv_iload_n hc.1 hc.2.1 hd rfl (hl.at hL) (k H locs ls hP hD hS hl)
theorem uIstore_n (hc : Ux p s m args meth c G cid A cc own nL) {j : Fin 4} {x : Int32} {L2 : List (Option Value)} (hd : decode cc pc = .ok (.istore_n j, 1)) (hL2 : L.set (j : Nat) (some (.int x)) = L2) (hn : (j : Nat) < nL)
    (k : U p l e R s m args below meth c G cid A nL Q ad σ ps kc ks (pc + 1) L2 st) : U p l e R s m args below meth c G cid A nL Q ad σ ps kc ks pc L (.int x :: st) := fun H locs ls hP hD hS hl => lv_istore_n hc.1 hc.2.1 hd rfl hl.1 hn rfl (fun ls2 h2 => k H locs ls2 hP hD hS (hL2 ▸ hl.set rfl h2))
theorem uAstore_n (hc : Ux p s m args meth c G cid A cc own nL) {j : Fin 4} {x : Nat} {L2 : List (Option Value)} (hd : decode cc pc = .ok (.astore_n j, 1)) (hL2 : L.set (j : Nat) (some (.ref x)) = L2) (hn : (j : Nat) < nL)
    (k : U p l e R s m args below meth c G cid A nL Q ad σ ps kc ks (pc + 1) L2 st) : U p l e R s m args below meth c G cid A nL Q ad σ ps kc ks pc L (.ref x :: st) := fun H locs ls hP hD hS hl => lv_astore_n hc.1 hc.2.1 hd rfl hl.1 hn rfl (fun ls2 h2 => k H locs ls2 hP hD hS (hL2 ▸ hl.set rfl h2))
theorem uIinc (hc : Ux p s m args meth c G cid A cc own nL) {j : Nat} {n : Int} {x v : Int32} {L2 : List (Option Value)} (hd : decode cc pc = .ok (.iinc j n, 3)) (hL : L[j]? = some (some (.int x))) (hv : x + Int32.ofInt n = v) (hL2 : L.set j (some (.int v)) = L2) (hn : j < nL)
    (k : U p l e R s m args below meth c G cid A nL Q ad σ ps kc ks (pc + 3) L2 st) : U p l e R s m args below meth c G cid A nL Q ad σ ps kc ks pc L st := fun H locs ls hP hD hS hl => by
  obtain ⟨i, hi⟩ := lofL_at hL
  exact lv_iinc hc.1 hc.2.1 hd hl.1 hi hv hn rfl (fun ls2 h2 => k H locs ls2 hP hD hS (hL2 ▸ hl.set rfl h2))
theorem uGoto (hc : Ux p s m args meth c G cid A cc own nL) {off : Int} {tgt : Nat} (hd : decode cc pc = .ok (.goto off, 3)) (ht : (pc : Int) + off = (tgt : Int))
    (k : U p l e R s m args below meth c G cid A nL Q ad σ ps kc ks tgt L st) : U p l e R s m args below meth c G cid A nL Q ad σ ps kc ks pc L st := fun H locs ls hP hD hS hl => lv_goto hc.1 hc.2.1 hd ht (k H locs ls hP hD hS hl)
theorem uIcmp_ge (hc : Ux p s m args meth c G cid A cc own nL) {x y : Int32} {off : Int} {tgt : Nat} (hd : decode cc pc = .ok (.if_icmp .ge off, 3)) (ht : (pc : Int) + off = (tgt : Int))
    (kt : y ≤ x → U p l e R s m args below meth c G cid A nL Q ad σ ps kc ks tgt L st) (kf : ¬ y ≤ x → U p l e R s m args below meth c G cid A nL Q ad σ ps kc ks (pc + 3) L st) : U p l e R s m args below meth c G cid A nL Q ad σ ps kc ks pc L (.int y :: .int x :: st) := fun H locs ls hP hD hS hl => lv_icmp_ge hc.1 hc.2.1 hd ht (fun h => kt h H locs ls hP hD hS hl) (fun h => kf h H locs ls hP hD hS hl)
theorem uDup (hc : Ux p s m args meth c G cid A cc own nL) {x : Value} (hd : decode cc pc = .ok (.dup, 1)) (h1 : x.category = 1)
    (k : U p l e R s m args below meth c G cid A nL Q ad σ ps kc ks (pc + 1) L (x :: x :: st)) : U p l e R s m args below meth c G cid A nL Q ad σ ps kc ks pc L (x :: st) := fun H locs ls hP hD hS hl => lv_dup hc.1 hc.2.1 hd h1 (k H locs ls hP hD hS hl)
theorem uObj (hc : Ux p s m args meth c G cid A cc own nL) {idx x : Nat} (hlk : Cond.methodLink own idx Lib.objectInit ∈ gtbl) (hR : 1 ≤ R.frames ∧ (st.map fun v => v.category).sum + 12 ≤ R.locals) (hd : decode cc pc = .ok (.invokespecial idx, 3))
    (k : U p l e R s m args below meth c G cid A nL Q ad σ ps kc ks (pc + 3) L st) : U p l e R s m args below meth c G cid A nL Q ad σ ps kc ks pc L (.ref x :: st) := fun H locs ls hP hD hS hl =>
  W.objInit hc.1 hc.2.1 hc.2.2.2.1 (hc.2.2.2.2.1 _ hlk) (hc.2.2.2.2.1 _ tw_65) (hc.2.2.2.2.1 _ tw_66) (g := F0 m pc ls (.ref x :: st)) rfl (by rw [hc.2.2.1]; exact hl.1.1) rfl hd hR.1 (by show 2 * 0 + _ + 12 ≤ _; omega) (k H locs ls hP hD hS hl)
theorem up_o {ad : Nat → Nat} {k q : Nat} : ∀ x, x ∉ [k] → va_up ad k q x = ad x := fun x hx => up_n (fun e => hx (by rw [e]; exact List.mem_singleton.mpr rfl))
theorem uNew (hc : Ux p s m args meth c G cid A cc own nL) {k : Nat} {C : String} {T : u_T} {N : Nat} (hcl : vwCl[(fdo k).1]? = some (C, T, N)) (hin : ∀ w ∈ u_ws C T N, w ∈ gtbl) (ty : Nat → FieldType) (hty : ∀ k, k < N → parseFieldDescriptor (T k).2.2.1 = some (ty k)) {index : Nat} (hlk : Cond.classLink own index C ∈ gtbl) (hinst : Cond.instantiable C N ∈ gtbl) (hini : Cond.initialized C ∈ gtbl) (h0 : knd k = 0) (hz : σ k = fun _ => 0) (hfs : ∀ j, j < N → defaultValue (ty j) = vp_V ((fdo k).2.map dfl) j) (hcells : kc + 1 ≤ R.cells) (hslots : ks + N ≤ R.slots) (hfr : ps.all (fre [k]) = true) (hd : decode cc pc = .ok (.new index, 3))
    (kk : ∀ ad' : Nat → Nat, (∀ x, x ∉ [k] → ad' x = ad x) → U p l e R s m args below meth c G cid A nL Q ad' σ (ps ++ [(k, 0)]) (kc + 1) (ks + N) (pc + 3) L (.ref (ad' k) :: st)) : U p l e R s m args below meth c G cid A nL Q ad σ ps kc ks pc L st := fun H locs ls hP hD hS hl =>
  va_new (D := G) (ci := (fdo k).1) (fs := (fdo k).2.map dfl) hc.1 hc.2.1 hc.2.2.2.2.1 hin ty hty hc.2.2.2.1 (hc.2.2.2.2.1 _ hlk) (hc.2.2.2.2.1 _ hinst) (hc.2.2.2.2.1 _ hini) hc.2.2.2.2.2.1.1.1 hP hD hS hc.2.2.2.2.2.2.1 hcl hfs hcells hslots hd (fun q H1 hP1 hD1 hS1 => by
    have e : wN (va_up ad k q) cid σ (ps ++ [(k, 0)]) = wN ad cid σ ps ++ [(q, .inr ((fdo k).1, (fdo k).2.map dfl))] := by
      rw [wN_app, wN_c hfr up_o (fun _ _ => rfl)]
      congr 1
      show [(va_up ad k q k, ceN (va_up ad k q) cid σ k 0)] = _
      rw [up_s, ceN_0 h0, fs0 hz]
    have := kk (va_up ad k q) up_o H1 locs ls (by rw [e]; exact hP1) (by rw [e]; exact hD1) hS1 hl
    rw [up_s] at this
    exact this)
theorem cid_i {s : State} (h : KN G cid s) {tys : List (ClassId × FieldType)} {cA : ClassId} {ty : FieldType} (hT : va_K G vwCl (tys ++ [(cA, ty)]) s) : va_RA s cA ty := by
  have := (hT.2 tys.length (cA, ty) (by rw [List.getElem?_append_right (Nat.le_refl _), Nat.sub_self]; rfl)).2
  exact this
theorem uNewa (hc : Ux p s m args meth c G cid A cc own nL) {r N : Nat} {n : Int32} (h1 : knd r = 1) (hN : alen r = N) (hz : σ r = fun _ => 0) (hn : ¬ n < 0) (hnN : n.toNatClampNeg = N) (hbytes : N * 4 ≤ 536870912) (hcells : kc + 1 ≤ R.cells) (hslots : ks + N ≤ R.slots) (hfr : ps.all (fre [r]) = true) (hd : decode cc pc = .ok (.newarray .int, 2))
    (kk : ∀ ad' : Nat → Nat, (∀ x, x ∉ [r] → ad' x = ad x) → U p l e R s m args below meth c G cid A nL Q ad' σ (ps ++ [(r, 0)]) (kc + 1) (ks + N) (pc + 2) L (.ref (ad' r) :: st)) : U p l e R s m args below meth c G cid A nL Q ad σ ps kc ks pc L (.int n :: st) := fun H locs ls hP hD hS hl =>
  va_newa (D := G) (atype := .int) (ty := .int) (a0 := (N, .inl (σ r))) hc.1 hc.2.1 (hc.2.2.2.2.1 _ tw_99) rfl hc.2.2.2.2.2.1.1.1 hP hD hS hc.2.2.2.2.2.2.1 (fun cA => by rw [hz]; rfl) hn hnN hbytes hcells hslots hd (fun q cA H1 hK1 hP1 hD1 hS1 => by
    have ec : cA = cid 0 := by
      have h2 : s.vm.findClass ("[" ++ FieldType.int.toString) = some cA := cid_i hc.2.2.2.2.2.1 hK1
      have h3 : s.vm.findClass ("[" ++ FieldType.int.toString) = some (cid 0) := (hc.2.2.2.2.2.1.1.1.2 0 _ rfl).2
      exact Option.some.inj (h2.symm.trans h3)
    have e : wN (va_up ad r q) cid σ (ps ++ [(r, 0)]) = wN ad cid σ ps ++ [(q, .inl (cA, (N, .inl (σ r))))] := by
      rw [wN_app, wN_c hfr up_o (fun _ _ => rfl)]
      congr 1
      show [(va_up ad r q r, ceN (va_up ad r q) cid σ r 0)] = _
      rw [up_s, ceN_1 h1, hN, ec]
    have := kk (va_up ad r q) up_o H1 locs ls (by rw [e]; exact hP1) (by rw [e]; exact hD1) hS1 hl
    rw [up_s] at this
    exact this)
theorem uNewz (hc : Ux p s m args meth c G cid A cc own nL) {r N : Nat} {n : Int32} (h1 : knd r = 2) (hN : alen r = N) (hz : σ r = fun _ => 0) (hn : ¬ n < 0) (hnN : n.toNatClampNeg = N) (hbytes : N * 1 ≤ 536870912) (hcells : kc + 1 ≤ R.cells) (hslots : ks + N ≤ R.slots) (hfr : ps.all (fre [r]) = true) (hd : decode cc pc = .ok (.newarray .boolean, 2))
    (kk : ∀ ad' : Nat → Nat, (∀ x, x ∉ [r] → ad' x = ad x) → U p l e R s m args below meth c G cid A nL Q ad' σ (ps ++ [(r, 0)]) (kc + 1) (ks + N) (pc + 2) L (.ref (ad' r) :: st)) : U p l e R s m args below meth c G cid A nL Q ad σ ps kc ks pc L (.int n :: st) := fun H locs ls hP hD hS hl =>
  va_newa (D := G) (atype := .boolean) (ty := .boolean) (a0 := (N, .inl (σ r))) hc.1 hc.2.1 (hc.2.2.2.2.1 _ tw_853) rfl hc.2.2.2.2.2.1.1.1 hP hD hS hc.2.2.2.2.2.2.1 (fun cA => by rw [hz]; rfl) hn hnN hbytes hcells hslots hd (fun q cA H1 hK1 hP1 hD1 hS1 => by
    have ec : cA = cid 1 := by
      have h2 : s.vm.findClass ("[" ++ FieldType.boolean.toString) = some cA := cid_i hc.2.2.2.2.2.1 hK1
      have h3 : s.vm.findClass ("[" ++ FieldType.boolean.toString) = some (cid 1) := (hc.2.2.2.2.2.1.1.1.2 1 _ rfl).2
      exact Option.some.inj (h2.symm.trans h3)
    have e : wN (va_up ad r q) cid σ (ps ++ [(r, 0)]) = wN ad cid σ ps ++ [(q, .inl (cA, (N, .inl (σ r))))] := by
      rw [wN_app, wN_c hfr up_o (fun _ _ => rfl)]
      congr 1
      show [(va_up ad r q r, ceN (va_up ad r q) cid σ r 0)] = _
      rw [up_s, ceN_2 h1, hN, ec]
    have := kk (va_up ad r q) up_o H1 locs ls (by rw [e]; exact hP1) (by rw [e]; exact hD1) hS1 hl
    rw [up_s] at this
    exact this)
theorem uPutR (hc : Ux p s m args meth c G cid A cc own nL) (hin2 : meth.name = "<init>") {k i msk j r a v : Nat} {C : String} {T : u_T} {N : Nat} {ps2 : List (Nat × Nat)} (hcl : vwCl[(fdo k).1]? = some (C, T, N)) (hin : ∀ w ∈ u_ws C T N, w ∈ gtbl) (ty0 : Nat → FieldType) (hty : ∀ k, k < N → parseFieldDescriptor (T k).2.2.1 = some (ty0 k)) (hnm : ∀ a, a < N → ∀ b, b < N → a ≠ b → (T a).2.1 ≠ (T b).2.1) (h0 : knd k = 0) (hi : ps[i]? = some (k, msk)) (hj : j < N) {index : Nat} (hlk : Cond.fieldLink own index (T j).1 (T j).2.1 (T j).2.2.1 ∈ gtbl) (hfin : (T j).2.2.2 = true) (hdecl : (T j).1 = own) (hf : (fdo k).2[j]? = some (some r)) (hn : ∀ x, narrow (ty0 j) (.ref x) = .ref x) (hfit : ∀ x, fits (ty0 j) (.ref x) = true) (ha : ad k = a) (hv : ad r = v) (hps : ps.set i (k, msk ||| 2 ^ j) = ps2) (hd : decode cc pc = .ok (.putfield index, 3))
    (kk : U p l e R s m args below meth c G cid A nL Q ad σ ps2 kc ks (pc + 3) L st) : U p l e R s m args below meth c G cid A nL Q ad σ ps kc ks pc L (.ref v :: .ref a :: st) := fun H locs ls hP hD hS hl => by
  subst ha hv hps
  have e : (wN ad cid σ ps).set i (ad k, .inr ((fdo k).1, ((fdo k).2.mapIdx (fvP ad σ k msk)).set j (.ref (ad r)))) = wN ad cid σ (ps.set i (k, msk ||| 2 ^ j)) := by
    rw [fsP_set hf, ← ceN_0 (cid := cid) h0]
    exact wN_set (q := (k, msk ||| 2 ^ j))
  exact va_putF (D := G) (v := .ref (ad r)) hc.1 hc.2.1 hc.2.2.2.2.1 hin ty0 hty hnm hc.2.2.2.1 hc.2.2.2.2.2.1.1.1 hP hD hS i (fs := (fdo k).2.mapIdx (fvP ad σ k msk)) (by rw [wN_at hi, ceN_0 h0]) hcl j hj (hc.2.2.2.2.1 _ hlk) (fun _ h9 => h9) hfin hin2 hdecl (hty j hj) (hn _) (hfit _) (by simpa using (List.getElem?_eq_some_iff.mp hf).1) hd (fun H1 locs1 hP1 hD1 hS1 => kk H1 locs1 ls (by rw [e] at hP1; exact hP1) (by rw [e] at hD1; exact hD1) hS1 hl)
/-- a number is put where it stands already -/
theorem uPut0 (hc : Ux p s m args meth c G cid A cc own nL) {k i msk j a : Nat} {C : String} {T : u_T} {N : Nat} (hcl : vwCl[(fdo k).1]? = some (C, T, N)) (hin : ∀ w ∈ u_ws C T N, w ∈ gtbl) (ty0 : Nat → FieldType) (hty : ∀ k, k < N → parseFieldDescriptor (T k).2.2.1 = some (ty0 k)) (hnm : ∀ a, a < N → ∀ b, b < N → a ≠ b → (T a).2.1 ≠ (T b).2.1) (h0 : knd k = 0) (hi : ps[i]? = some (k, msk)) (hj : j < N) {index : Nat} (hlk : Cond.fieldLink own index (T j).1 (T j).2.1 (T j).2.2.1 ∈ gtbl) (hfin : (T j).2.2.2 = false) (hf : (fdo k).2[j]? = some none) {v : Int32} (hn : narrow (ty0 j) (.int v) = .int v) (hfit : fits (ty0 j) (.int v) = true) (ha : ad k = a) (hv : σ k j = v) (hd : decode cc pc = .ok (.putfield index, 3))
    (kk : U p l e R s m args below meth c G cid A nL Q ad σ ps kc ks (pc + 3) L st) : U p l e R s m args below meth c G cid A nL Q ad σ ps kc ks pc L (.int v :: .ref a :: st) := fun H locs ls hP hD hS hl => by
  subst ha
  have e : (wN ad cid σ ps).set i (ad k, .inr ((fdo k).1, ((fdo k).2.mapIdx (fvP ad σ k msk)).set j (.int v))) = wN ad cid σ ps := by
    rw [fsP_put hf hv, ← ceN_0 (cid := cid) h0]
    have := wN_set (ad := ad) (cid := cid) (σ := σ) (ps := ps) (i := i) (q := (k, msk))
    rw [this]
    congr 1
    obtain ⟨hl, he⟩ := List.getElem?_eq_some_iff.mp hi
    rw [← he]
    exact List.set_getElem_self hl
  exact va_put (D := G) (v := .int v) hc.1 hc.2.1 hc.2.2.2.2.1 hin ty0 hty hnm hc.2.2.2.1 hc.2.2.2.2.2.1.1.1 hP hD hS i (fs := (fdo k).2.mapIdx (fvP ad σ k msk)) (by rw [wN_at hi, ceN_0 h0]) hcl j hj (hc.2.2.2.2.1 _ hlk) (fun _ h9 => h9) hfin (hty j hj) hn hfit (by simpa using (List.getElem?_eq_some_iff.mp hf).1) hd (fun H1 locs1 hP1 hD1 hS1 => kk H1 locs1 ls (by rw [e] at hP1; exact hP1) (by rw [e] at hD1; exact hD1) hS1 hl)
theorem uGetR (hc : Ux p s m args meth c G cid A cc own nL) {k i msk j r a : Nat} {C : String} {T : u_T} {N : Nat} (hcl : vwCl[(fdo k).1]? = some (C, T, N)) (hin : ∀ w ∈ u_ws C T N, w ∈ gtbl) (h0 : knd k = 0) (hi : ps[i]? = some (k, msk)) (hj : j < N) {index : Nat} (hlk : Cond.fieldLink own index (T j).1 (T j).2.1 (T j).2.2.1 ∈ gtbl) (hf : (fdo k).2[j]? = some (some r)) (hb : msk.testBit j = true) (ha : ad k = a) (hd : decode cc pc = .ok (.getfield index, 3))
    (kk : U p l e R s m args below meth c G cid A nL Q ad σ ps kc ks (pc + 3) L (.ref (ad r) :: st)) : U p l e R s m args below meth c G cid A nL Q ad σ ps kc ks pc L (.ref a :: st) := fun H locs ls hP hD hS hl => by
  subst ha
  have e : fvP ad σ k msk j (some r) = .ref (ad r) := by
    show (if msk.testBit j then Value.ref (ad r) else Value.null) = _
    rw [hb]
    rfl
  exact va_get (D := G) (v := .ref (ad r)) hc.1 hc.2.1 hc.2.2.2.2.1 hin hc.2.2.2.1 hc.2.2.2.2.2.1.1.1 hP i (fs := (fdo k).2.mapIdx (fvP ad σ k msk)) (by rw [wN_at hi, ceN_0 h0]) hcl j hj (hc.2.2.2.2.1 _ hlk) (fun _ h9 => h9) (by rw [fsP_get hf, e]) hd (kk H locs ls hP hD hS hl)
/-- the array of the PERSONS: made, and one put in -/
theorem uAnew (hc : Ux p s m args meth c G cid A cc own nL) {n : Int32} {index : Nat} (hlk : Cond.classLink own index "RidePools$Person" ∈ gtbl) (hn : ¬ n < 0) (hnN : n.toNatClampNeg = 9) (hcells : kc + 1 ≤ R.cells) (hslots : ks + 9 ≤ R.slots) (hfr : ps.all (fre [5]) = true) (hd : decode cc pc = .ok (.anewarray index, 3))
    (kk : ∀ ad' : Nat → Nat, (∀ x, x ∉ [5] → ad' x = ad x) → U p l e R s m args below meth c G cid A nL Q ad' σ (ps ++ [(5, 0)]) (kc + 1) (ks + 9) (pc + 3) L (.ref (ad' 5) :: st)) : U p l e R s m args below meth c G cid A nL Q ad σ ps kc ks pc L (.int n :: st) := fun H locs ls hP hD hS hl =>
  va_newq (D := G) hc.1 hc.2.1 hc.2.2.2.1 (hc.2.2.2.2.1 _ hlk) hc.2.2.2.2.2.1.2.1 hc.2.2.2.2.2.1.1.1 hP hD hS hc.2.2.2.2.2.2.1 hn hnN (by decide) hcells hslots hd (fun q cA H1 hK1 hP1 hD1 hS1 => by
    have ec : cA = cid 2 := by
      obtain ⟨_, _, -, -, -, h2⟩ := cid_i hc.2.2.2.2.2.1 hK1
      obtain ⟨_, _, -, -, -, h3⟩ := (hc.2.2.2.2.2.1.1.1.2 2 _ rfl).2
      exact Option.some.inj (h2.symm.trans h3)
    have e : wN (va_up ad 5 q) cid σ (ps ++ [(5, 0)]) = wN ad cid σ ps ++ [(q, .inl (cA, 9, .inr (.inr (.inr (.inr (fun _ => none))))))] := by
      rw [wN_app, wN_c hfr up_o (fun _ _ => rfl)]
      congr 1
      show [(va_up ad 5 q 5, Sum.inl (cid 2, 9, Sum.inr (Sum.inr (Sum.inr (Sum.inr (fun i => if (0 : Nat).testBit i then some (va_up ad 5 q (37 + i)) else none))))))] = _
      have ef : (fun i => if (0 : Nat).testBit i then some (va_up ad 5 q (37 + i)) else none) = (fun _ => none) := by
        funext i
        rw [Nat.zero_testBit]
        rfl
      rw [ef, up_s, ec]
    have := kk (va_up ad 5 q) up_o H1 locs ls (by rw [e]; exact hP1) (by rw [e]; exact hD1) hS1 hl
    rw [up_s] at this
    exact this)
theorem uAast (hc : Ux p s m args meth c G cid A cc own nL) {i i2 msk b v a : Nat} {x : Int32} {ps2 : List (Nat × Nat)} (hi : ps[i]? = some (5, msk)) (hi2 : ps[i2]? = some (37 + b, 0)) (hx : x = nI b) (hb : b < 9) (hv : ad (37 + b) = v) (ha : ad 5 = a) (hps : ps.set i (5, msk ||| 2 ^ b) = ps2) (hd : decode cc pc = .ok (.aastore, 1))
    (kk : U p l e R s m args below meth c G cid A nL Q ad σ ps2 kc ks (pc + 1) L st) : U p l e R s m args below meth c G cid A nL Q ad σ ps kc ks pc L (.ref v :: .int x :: .ref a :: st) := fun H locs ls hP hD hS hl => by
  subst hv ha hps hx
  have h0 : knd (37 + b) = 0 := pn_0 ⟨by omega, by omega⟩
  refine va_astq (D := G) (cl := vwCl) (cA := cid 2) (r := (RX3, TX3, 11)) (n := 9) (f := fun i => if msk.testBit i then some (ad (37 + i)) else none) hc.1 hc.2.1 hc.2.2.2.2.2.1.1.1 hP hD hS i 2 i2 3 (wN_at hi) rfl (vs := (fdo (37 + b)).2.mapIdx (fvP ad σ (37 + b) 0)) (by rw [wN_at hi2, ceN_0 h0, pn_f ⟨by omega, by omega⟩]) rfl (vin hb (by decide)) hd (fun H1 locs1 hP1 hD1 hS1 => ?_)
  have e : (wN ad cid σ ps).set i (ad 5, .inl (cid 2, 9, .inr (.inr (.inr (.inr (va_up (fun i => if msk.testBit i then some (ad (37 + i)) else none) (nI b).toNatClampNeg (some (ad (37 + b))))))))) = wN ad cid σ (ps.set i (5, msk ||| 2 ^ b)) := by
    have ef : va_up (fun i => if msk.testBit i then some (ad (37 + i)) else none) (nI b).toNatClampNeg (some (ad (37 + b))) = (fun i => if (msk ||| 2 ^ b).testBit i then some (ad (37 + i)) else none) := by
      rw [nI_c (by omega : b ≤ 1000000000)]
      funext i
      by_cases e : i = b
      · subst e
        rw [up_s, Nat.testBit_or, Nat.testBit_two_pow_self, Bool.or_true]
        rfl
      · rw [up_n e, Nat.testBit_or, Nat.testBit_two_pow, decide_eq_false (fun z => e z.symm), Bool.or_false]
    rw [ef]
    exact wN_set (q := (5, msk ||| 2 ^ b))
  rw [e] at hP1 hD1
  exact kk H1 locs1 ls hP1 hD1 hS1 hl
end UU
