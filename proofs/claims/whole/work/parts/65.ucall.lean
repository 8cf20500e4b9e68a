/-! ===== a world that grows: rows of arrays, calls of constructors, returns ===== -/
def rws (base : Nat) : List (Nat × Nat) := (List.range 10).map (fun i => (base + i, 0))
def PN (G : va_G) (cid : Nat → ClassId) (ad : Nat → Nat) (σ : MS) (ps0 : List (Nat × Nat)) (sz : Nat) (av : List Value) : Array Value → State → Prop := va_Pc av (fun U => U.heap.size = sz ∧ va_P G vwCl (wN ad cid σ ps0) U.heap ∧ KN G cid U ∧ va_D (fun _ => True) (wN ad cid σ ps0))
def BN (G : va_G) (cid : Nat → ClassId) (A0 : Nat → Prop) (ps1 : List (Nat × Nat)) (u : (Nat → Nat) × MS) (t : State) : Prop := va_P G vwCl (wN u.1 cid u.2 ps1) t.heap ∧ KN G cid t ∧ va_D A0 (wN u.1 cid u.2 ps1)
def CN (l : Launch) (G : va_G) (cid : Nat → ClassId) (y : MethodName) (cc : ByteArray) (nL : Nat) (rm : Room) (av : List Value) (ad : Nat → Nat) (σ : MS) (ps0 ps1 : List (Nat × Nat)) (post : (Nat → Nat) × MS → Prop) (mc ms sz : Nat) : Prop := Met l y (.code y cc nL none :: gtbl) rm (PN G cid ad σ ps0 sz av) (va_Qv post (BN G cid (va_A (wN ad cid σ ps0) sz) ps1) (va_A (wN ad cid σ ps0) sz)) mc ms (va_A (wN ad cid σ ps0) sz)
theorem PN.blind {G : va_G} {cid : Nat → ClassId} {ad : Nat → Nat} {σ : MS} {ps0 : List (Nat × Nat)} {sz : Nat} {av : List Value} : FrameBlind (PN G cid ad σ ps0 sz av) := fun a U g mk q => ⟨q.1, q.2.1, q.2.2.1, KN.same (s := U) (U := U.calling g mk a) rfl q.2.2.2.1, q.2.2.2.2⟩
def OkI (y : MethodName) (bytes : ByteArray) (maxL n : Nat) : Prop := Cond.instanceMethod y ∈ gtbl ∧ Cond.initialized y.cls ∈ gtbl ∧ Cond.code y bytes maxL none ∈ gtbl ∧ y.name = "<init>" ∧ (y.cls ≠ "java/lang/invoke/MethodHandle" ∧ y.cls ≠ "java/lang/invoke/VarHandle" ∧ (parseMethodDescriptor y.desc).map (fun d => d.parameters.length) = some n)
theorem CN_of {l : Launch} {G : va_G} {cid : Nat → ClassId} {y : MethodName} {cc : ByteArray} {nL : Nat} {rm : Room} {av : List Value} {ad : Nat → Nat} {σ : MS} {ps0 ps1 : List (Nat × Nat)} {post : (Nat → Nat) × MS → Prop} {mc ms sz : Nat} {own : String} (hy : Jvm.plainName y.cls = true) (hown : y.cls = own) (hnm : y.name = "<init>") (hcat : ∀ v ∈ av, v.category = 1) (hlen : av.length ≤ nL)
    (body : ∀ (p : Program) (e : Env) (s : State) (m : MethodId) (below : List Frame) (meth : Method) (c : Code) (A : Nat → Prop), Ux p s m av.toArray meth c G cid A cc own nL → meth.name = "<init>" → meth.sig.returnType = none → U p l e rm s m av.toArray below meth c G cid A nL (MQ below (va_Qv post (BN G cid A ps1) A) av.toArray s mc ms A) ad σ ps0 0 0 0 (av.map some ++ List.replicate (nL - av.length) none) []) : CN l G cid y cc nL rm av ad σ ps0 ps1 post mc ms sz := by
  refine Met.ofW (cc := cc) (maxL := nL) (ret := none) hy rfl ?_
  intro p e s m args below meth c s₁ B hml hv
  obtain ⟨rfl, hsz, hP, hK, hD0⟩ := hv
  have hts := atoms_spec (ws := .code y cc nL none :: gtbl) B.pre
  have hin : meth.name = "<init>" := (name_of_methodNamed B.named B.method).1.trans hnm
  subst hsz
  have hD := hD0.self (sz := s.heap.size)
  generalize hAe : va_A (wN ad cid σ ps0) s.heap.size = A at hD ⊢
  have hA : ∀ q : Nat, s.heap.size ≤ q → A q := fun q h => by rw [← hAe]; exact Or.inr h
  have hC : Ux p s m av.toArray meth c G cid A cc own nL := ⟨B.exec, B.bytes, hml, by rw [← hown]; exact findClass_of_methodNamed B.named, fun w hw => hts w (List.mem_cons_of_mem _ hw), hK, hA, B.notSynchronized⟩
  rw [lg_entry_eq]
  exact body p e s m below meth c A hC hin B.returns s.heap [] _ hP hD va_S.rf (lvh_entry hcat hlen)
section UC
variable {p : Program} {l : Launch} {e : Env} {R : Room} {s : State} {m : MethodId} {args : Array Value} {below : List Frame} {meth : Method} {c : Code} {G : va_G} {cid : Nat → ClassId} {A : Nat → Prop} {nL : Nat} {Q : State → Prop}
variable {cc : ByteArray} {own : String} {ad : Nat → Nat} {σ : MS} {ps : List (Nat × Nat)} {kc ks pc : Nat} {L : List (Option Value)} {st st0 : List Value}
theorem uMna (hc : Ux p s m args meth c G cid A cc own nL) {o base index : Nat} {ps2 : List (Nat × Nat)} (ho : (o = 2 ∧ base = 46) ∨ (o = 3 ∧ base = 56)) (hlk : Cond.classLink own index "[[I" ∈ gtbl) (hz : ∀ i, i < 10 → σ (base + i) = fun _ => 0) (hcells : kc + 11 ≤ R.cells) (hslots : ks + 110 ≤ R.slots) (hfr : ps.all (fre (o :: (List.range 10).map (fun i => base + i))) = true) (hps : ps ++ [(o, 0)] ++ rws base = ps2) (hd : decode cc pc = .ok (.multianewarray index 2, 4))
    (kk : ∀ ad' : Nat → Nat, (∀ x, x ∉ (o :: (List.range 10).map (fun i => base + i)) → ad' x = ad x) → U p l e R s m args below meth c G cid A nL Q ad' σ ps2 (kc + 11) (ks + 110) (pc + 4) L (.ref (ad' o) :: st)) : U p l e R s m args below meth c G cid A nL Q ad σ ps kc ks pc L (.int 10 :: .int 10 :: st) := fun H locs ls hP hD hS hl => by
  subst hps
  have es : "[" ++ (FieldType.array .int).toString = "[[I" := by decide
  have er : ∀ i, i < 10 → knd (base + i) = 1 ∧ alen (base + i) = 10 := fun i hi => ⟨rw_1 (by omega), rw_n (by omega)⟩
  refine va_mna (D := G) (X := wN ad cid σ ps) (L := []) (f := fun _ => .inl (cid 0, (10, .inl (fun _ => 0)))) (ty := .int) (cy := cid 0) (z := (10, .inl (fun _ => 0))) hc.1 hc.2.1 hc.2.2.2.1 (by rw [es]; exact hc.2.2.2.2.1 _ hlk) hc.2.2.2.2.2.1.2.2 (hc.2.2.2.2.1 _ tw_99) (hc.2.2.2.2.2.1.1.1.2 0 _ rfl).2 hc.2.2.2.2.2.1.1.1 (by show va_P G vwCl (wN ad cid σ ps ++ []) H; rw [List.append_nil]; exact hP) (by show va_D A (wN ad cid σ ps ++ []); rw [List.append_nil]; exact hD) hS hc.2.2.2.2.2.2.1 (N' := 10) (K' := 10) (by decide) (by decide) (by decide) (by decide) (by decide) (by decide) (by decide) rfl rfl (by omega) (by omega) (fun _ => rfl) hd (fun q r cA H1 hinj hnl hK1 hP1 hD1 hS1 => ?_)
  have ec : cA = cid 3 := by
    have h2 : s.vm.findClass ("[" ++ (FieldType.array .int).toString) = some cA := cid_i hc.2.2.2.2.2.1 hK1
    have h3 : s.vm.findClass ("[" ++ (FieldType.array .int).toString) = some (cid 3) := (hc.2.2.2.2.2.1.1.1.2 3 _ rfl).2
    exact Option.some.inj (h2.symm.trans h3)
  subst ec
  have a1 : (fun x => if x = o then q else if base ≤ x ∧ x < base + 10 then r (x - base) else ad x) o = q := if_pos rfl
  have a2 : ∀ i, i < 10 → (fun x => if x = o then q else if base ≤ x ∧ x < base + 10 then r (x - base) else ad x) (base + i) = r i := fun i hi => by
    dsimp only
    rw [if_neg (by omega), if_pos (by omega)]
    congr 1
    omega
  have a3 : ∀ x, x ∉ (o :: (List.range 10).map (fun i => base + i)) → (fun x => if x = o then q else if base ≤ x ∧ x < base + 10 then r (x - base) else ad x) x = ad x := fun x hx => by
    dsimp only
    have h1 : x ≠ o := fun e => hx (by rw [e]; exact List.mem_cons_self)
    have h2 : ¬ (base ≤ x ∧ x < base + 10) := fun e => hx (List.mem_cons_of_mem _ (List.mem_map.mpr ⟨x - base, List.mem_range.mpr (by omega), by omega⟩))
    rw [if_neg h1, if_neg h2]
  generalize (fun x => if x = o then q else if base ≤ x ∧ x < base + 10 then r (x - base) else ad x) = ad' at a1 a2 a3
  have e3 : va_pl ([] ++ (List.range 10).map r) (vr_up (fun _ => .inl (cid 0, (10, .inl (fun _ => 0)))) ((List.range 10).map r) (.inl (cid 0, (10, .inl (fun _ => 0))))) = wN ad' cid σ (rws base) := by
    unfold va_pl wN rws
    rw [List.nil_append, List.map_map, List.map_map]
    apply List.map_congr_left
    intro i hi
    have hi := List.mem_range.mp hi
    show (r i, vr_up _ _ _ (r i)) = (ad' (base + i), ceN ad' cid σ (base + i) 0)
    rw [a2 i hi, ceN_1 (er i hi).1, (er i hi).2, hz i hi]
    congr 1
    unfold vr_up
    split <;> rfl
  have e2 : [((q, .inl (cid 3, 10, .inr (.inr (.inr (.inr (fun i => if i < 10 then some (r i) else none)))))) : Nat × va_E)] = wN ad' cid σ [(o, 0)] := by
    have ef : (fun i => if i < 10 then some (r i) else none) = (fun i => if i < 10 then some (ad' (base + i)) else none) := by
      funext i
      by_cases hi : i < 10
      · rw [if_pos hi, if_pos hi, a2 i hi]
      · rw [if_neg hi, if_neg hi]
    rw [ef]
    show _ = [(ad' o, ceN ad' cid σ o 0)]
    rw [a1]
    rcases ho with ⟨rfl, rfl⟩ | ⟨rfl, rfl⟩ <;> rfl
  have et : wN ad cid σ ps ++ [((q, .inl (cid 3, 10, .inr (.inr (.inr (.inr (fun i => if i < 10 then some (r i) else none)))))) : Nat × va_E)] ++ va_pl ([] ++ (List.range 10).map r) (vr_up (fun _ => .inl (cid 0, (10, .inl (fun _ => 0)))) ((List.range 10).map r) (.inl (cid 0, (10, .inl (fun _ => 0))))) = wN ad' cid σ (ps ++ [(o, 0)] ++ rws base) := by
    rw [e3, e2, wN_app, wN_app, wN_c hfr a3 (fun _ _ => rfl)]
  have hP1 : va_P G vwCl _ H1 := hP1
  rw [et] at hP1 hD1
  have := kk ad' a3 H1 locs ls hP1 hD1 hS1 hl
  rw [a1] at this
  exact this
/-- all that was made is whole: on with the walks -/
theorem uV (hc : Ux p s m args meth c G cid A cc own nL) (hr : meth.sig.returnType = none) (hf : ps.all ful = true) (hn : (ps.map (fun q => q.1)).Nodup) (hR : kc ≤ R.cells ∧ ks ≤ R.slots) {dm : Nat → Prop} (hdm : ∀ k, dm k → k ∈ ps.map (fun q => q.1))
    (kk : ∀ E : WD, E = (G, ad, cid, ps.map (fun q => q.1)) → Cx p R s m args meth c E A cc own none nL kc ks dm → V p l e R s m args below meth c E A nL kc ks Q σ pc L st) : U p l e R s m args below meth c G cid A nL Q ad σ ps kc ks pc L st := fun H locs ls hP hD hS hl => by
  obtain ⟨hi, hA⟩ := ful_inj (G := G) hn hD
  exact kk _ rfl ⟨hc.1, hc.2.1, hc.2.2.1, hc.2.2.2.1, hc.2.2.2.2.1, hc.2.2.2.2.2.1.1, hi, hA, hr, hc.2.2.2.2.2.2.2, hR.1, hR.2, hdm⟩ H locs ls ((ful_P hf).mp hP) hS hl
theorem uRet {post : (Nat → Nat) × MS → Prop} (hc : Ux p s m args meth c G cid A cc own nL) (hr : meth.sig.returnType = none) (hd : decode cc pc = .ok (.return_, 1)) (hq : post (ad, σ)) : U p l e R s m args below meth c G cid A nL (MQ below (va_Qv post (BN G cid A ps) A) args s kc ks A) ad σ ps kc ks pc L [] := fun H locs ls hP hD hS hl =>
  W.vret hc.1 hc.2.1 hr (fun t ht hW => ⟨⟨(ad, σ), rfl, hq, by rw [ht]; exact hP, KN.warm hW hc.2.2.2.2.2.1, hD⟩, hS.F ht⟩) hS.2.2 hd hc.2.2.2.2.2.2.2
theorem vRetN {post : (Nat → Nat) × MS → Prop} {E : WD} {dm : Nat → Prop} {σ' : MS} (hU : Ux p s m args meth c G cid A cc own nL) (hE : E = (G, ad, cid, ps.map (fun q => q.1))) (hc : Cx p R s m args meth c E A cc own none nL kc ks dm) (hf : ps.all ful = true) (hd : decode cc pc = .ok (.return_, 1)) (hq : post (ad, σ')) : V p l e R s m args below meth c E A nL kc ks (MQ below (va_Qv post (BN G cid A ps) A) args s kc ks A) σ' pc L [] := fun H locs ls hP hS hl => by
  subst hE
  exact W.vret hc.1 hc.2.1 hc.2.2.2.2.2.2.2.2.1 (fun t ht hW => ⟨⟨(ad, σ'), rfl, hq, by rw [ht]; exact (ful_P hf).mpr hP, KN.warm hW hU.2.2.2.2.2.1, ful_D hc.2.2.2.2.2.2.1 hc.2.2.2.2.2.2.2.1⟩, hS.F ht⟩) hS.2.2 hd hc.2.2.2.2.2.2.2.2.2.1
theorem uJoin {rest ps1 : List (Nat × Nat)} {nw : List Nat} {k : Nat} {H H1 : Heap} {ad' : Nat → Nat} {σ' : MS} (hP : va_P G vwCl (wN ad cid σ (rest ++ [(k, 0)])) H) (hD : va_D A (wN ad cid σ (rest ++ [(k, 0)]))) (hfr : rest.all (fre nw) = true) (hnd : va_nd (List.range rest.length) = true) (ha : ∀ x, x ∉ nw → ad' x = ad x) (hs : ∀ q ∈ rest, σ' q.1 = σ q.1) (hF : ∀ q, va_A (wN ad cid σ [(k, 0)]) H.size q → A q) (hk : ∀ q : Nat, q < H.size → ¬ va_A (wN ad cid σ [(k, 0)]) H.size q → H1[q]? = H[q]?) (hP1 : va_P G vwCl (wN ad' cid σ' ps1) H1) (hD1 : va_D (va_A (wN ad cid σ [(k, 0)]) H.size) (wN ad' cid σ' ps1)) : va_P G vwCl (wN ad' cid σ' (rest ++ ps1)) H1 ∧ va_D A (wN ad' cid σ' (rest ++ ps1)) := by
  have hlen : (wN ad cid σ rest).length = rest.length := List.length_map _
  have hC : [rest.length].map (fun i => (wN ad cid σ (rest ++ [(k, 0)]))[i]?) = (wN ad cid σ [(k, 0)]).map some := by
    rw [wN_app]
    show [(wN ad cid σ rest ++ wN ad cid σ [(k, 0)])[rest.length]?] = _
    rw [List.getElem?_append_right (by rw [hlen]; exact Nat.le_refl _), hlen, Nat.sub_self]
    rfl
  have hR : (List.range rest.length).map (fun i => (wN ad cid σ (rest ++ [(k, 0)]))[i]?) = (wN ad cid σ rest).map some := by
    apply List.ext_getElem?
    intro i
    rw [List.getElem?_map, List.getElem?_map]
    by_cases hi : i < rest.length
    · rw [List.getElem?_range hi, List.getElem?_eq_getElem (by rw [hlen]; exact hi)]
      show some ((wN ad cid σ (rest ++ [(k, 0)]))[i]?) = _
      rw [wN_app, List.getElem?_append_left (by rw [hlen]; exact hi), List.getElem?_eq_getElem (by rw [hlen]; exact hi)]
      rfl
    · rw [List.getElem?_eq_none (by rw [List.length_range]; omega), List.getElem?_eq_none (by rw [hlen]; omega)]
      rfl
  have j := va_join hP hD [rest.length] (List.range rest.length) hC hR hnd (fun i hi h => by
    have h1 := List.mem_range.mp hi
    have h2 := List.mem_singleton.mp h
    omega) hk hF hP1 hD1
  rw [← wN_c (cid := cid) hfr ha hs, ← wN_app] at j
  exact j
theorem uSub {rest : List (Nat × Nat)} {k : Nat} {H : Heap} {locs : List Loc} (hc : Ux p s m args meth c G cid A cc own nL) (hP : va_P G vwCl (wN ad cid σ (rest ++ [(k, 0)])) H) (hD : va_D A (wN ad cid σ (rest ++ [(k, 0)]))) (hS : va_S A s.heap H locs) : va_P G vwCl (wN ad cid σ [(k, 0)]) H ∧ va_D (fun _ => True) (wN ad cid σ [(k, 0)]) ∧ ∀ q, va_A (wN ad cid σ [(k, 0)]) H.size q → A q := by
  have hlen : (wN ad cid σ rest).length = rest.length := List.length_map _
  have hg : (wN ad cid σ (rest ++ [(k, 0)]))[rest.length]? = some (ad k, ceN ad cid σ k 0) := wN_at (ps := rest ++ [(k, 0)]) (q := (k, 0)) (by rw [List.getElem?_append_right (Nat.le_refl _), Nat.sub_self]; rfl)
  refine ⟨hP.sub (ws' := wN ad cid σ [(k, 0)]) [rest.length] (by show List.filterMap _ _ = _; simp only [List.filterMap_cons, hg, List.filterMap_nil]; rfl), ?_, ?_⟩
  · refine ⟨fun i j p q h1 h2 _ => ?_, fun _ _ _ => trivial⟩
    have l1 := (List.getElem?_eq_some_iff.mp h1).1
    have l2 := (List.getElem?_eq_some_iff.mp h2).1
    have e : (wN ad cid σ [(k, 0)]).length = 1 := rfl
    omega
  · exact va_free hD hS hc.2.2.2.2.2.2.1 [rest.length] (by show [(wN ad cid σ (rest ++ [(k, 0)]))[rest.length]?] = _; rw [hg]; rfl)
theorem uCall (hc : Ux p s m args meth c G cid A cc own nL) {k a n index maxL mc ms : Nat} {y : MethodName} {bytes : ByteArray} {rm : Room} {As : List Value} {rest ps1 ps2 : List (Nat × Nat)} {nw : List Nat} {post : (Nat → Nat) × MS → Prop} (hok : OkI y bytes maxL n) (hlk : Cond.methodLink own index y ∈ gtbl) (hM : ∀ sz, CN l G cid y bytes maxL rm (.ref (ad k) :: As) ad σ [(k, 0)] ps1 post mc ms sz) (hpost : ∀ u, post u → (∀ x, x ∉ nw → u.1 x = ad x) ∧ ∀ q ∈ rest, u.2 q.1 = σ q.1) (hps0 : ps = rest ++ [(k, 0)]) (hps : rest ++ ps1 = ps2) (hfr : rest.all (fre nw) = true) (hnd : va_nd (List.range rest.length) = true) (hn : As.length = n) (hrm : rm.cells = mc ∧ rm.slots = ms) (hR : rm.frames + 1 ≤ R.frames ∧ 8 + (maxL + 11) + rm.locals ≤ R.locals) (hst : st0 = As.reverse ++ .ref a :: st) (ha : ad k = a) (hw : (st.map fun v => v.category).sum ≤ 8) (hcells : kc + mc ≤ R.cells ∧ ks + ms ≤ R.slots) (hd : decode cc pc = .ok (.invokespecial index, 3))
    (kk : ∀ (ad' : Nat → Nat) (σ' : MS), post (ad', σ') → U p l e R s m args below meth c G cid A nL Q ad' σ' ps2 (kc + mc) (ks + ms) (pc + 3) L st) : U p l e R s m args below meth c G cid A nL Q ad σ ps kc ks pc L st0 := fun H locs ls hP hD hS hl => by
  subst ha hps hps0
  obtain ⟨hPc, hDc, hFc⟩ := uSub hc hP hD hS
  refine va_callv (va_runI (As := As) (rest := st) ⟨hc.1, hc.2.1, hc.2.2.1, hc.2.2.2.1, hc.2.2.2.2.1⟩ (hM H.size) (cwI n hc.2.2.2.2.1 (ginC hok.2.2.1) rfl hrm.1 hrm.2 (hc.2.2.2.2.1 _ hok.2.1) (hc.2.2.2.2.1 _ hlk) (hc.2.2.2.2.1 _ hok.1) hok.2.2.2.1 hok.2.2.2.2 hR) ⟨PN.blind, fun U hU hW => ⟨rfl, by rw [hU], by rw [hU]; exact hPc, KN.warm hW hc.2.2.2.2.2.1, hDc⟩⟩ rfl hn hl.1.1 hst (lv_room hw) hd hcells) hS (fun q _ h => hFc q h) hFc (fun u t H1 locs1 ht hvm hq hB hz1 hk1 hS1 => ?_)
  obtain ⟨ha', hs'⟩ := hpost u hq
  have hB1 : va_P G vwCl (wN u.1 cid u.2 ps1) H1 := by rw [← ht]; exact hB.1
  have j := uJoin hP hD hfr hnd ha' hs' hFc hk1 hB1 hB.2.2
  exact kk u.1 u.2 hq H1 locs1 ls j.1 j.2 hS1 hl
theorem uCallN (hc : Ux p s m args meth c G cid A cc own nL) {k a n index maxL mc ms : Nat} {y : MethodName} {bytes : ByteArray} {rm : Room} {As : List Value} {rest ps1 ps2 : List (Nat × Nat)} {nw : List Nat} {post : (Nat → Nat) × MS → Prop} {host : String} (hok : OkI y bytes maxL n) (hlk : Cond.methodLinkNest own index y host ∈ nestWs) (hM : ∀ sz, CN l G cid y bytes maxL rm (.ref (ad k) :: As) ad σ [(k, 0)] ps1 post mc ms sz) (hpost : ∀ u, post u → (∀ x, x ∉ nw → u.1 x = ad x) ∧ ∀ q ∈ rest, u.2 q.1 = σ q.1) (hps0 : ps = rest ++ [(k, 0)]) (hps : rest ++ ps1 = ps2) (hfr : rest.all (fre nw) = true) (hnd : va_nd (List.range rest.length) = true) (hn : As.length = n) (hrm : rm.cells = mc ∧ rm.slots = ms) (hR : rm.frames + 1 ≤ R.frames ∧ 8 + (maxL + 11) + rm.locals ≤ R.locals) (hst : st0 = As.reverse ++ .ref a :: st) (ha : ad k = a) (hw : (st.map fun v => v.category).sum ≤ 8) (hcells : kc + mc ≤ R.cells ∧ ks + ms ≤ R.slots) (hd : decode cc pc = .ok (.invokespecial index, 3))
    (kk : ∀ (ad' : Nat → Nat) (σ' : MS), post (ad', σ') → U p l e R s m args below meth c G cid A nL Q ad' σ' ps2 (kc + mc) (ks + ms) (pc + 3) L st) : U p l e R s m args below meth c G cid A nL Q ad σ ps kc ks pc L st0 := fun H locs ls hP hD hS hl => by
  subst ha hps hps0
  obtain ⟨hPc, hDc, hFc⟩ := uSub hc hP hD hS
  refine va_callv (va_runIN (As := As) (rest := st) ⟨hc.1, hc.2.1, hc.2.2.1, hc.2.2.2.1, hc.2.2.2.2.1⟩ (hM H.size) ⟨va_cnB n hc.2.2.2.2.1 (ginC hok.2.2.1) rfl hrm.1 hrm.2 (hc.2.2.2.2.2.1.1.2 _ hlk) (hc.2.2.2.2.1 _ hok.2.1) hok.2.2.2.2 hR, hok.2.2.2.1, hc.2.2.2.2.1 _ hok.1⟩ ⟨PN.blind, fun U hU hW => ⟨rfl, by rw [hU], by rw [hU]; exact hPc, KN.warm hW hc.2.2.2.2.2.1, hDc⟩⟩ rfl hn hl.1.1 hst (lv_room hw) hd hcells) hS (fun q _ h => hFc q h) hFc (fun u t H1 locs1 ht hvm hq hB hz1 hk1 hS1 => ?_)
  obtain ⟨ha', hs'⟩ := hpost u hq
  have hB1 : va_P G vwCl (wN u.1 cid u.2 ps1) H1 := by rw [← ht]; exact hB.1
  have j := uJoin hP hD hfr hnd ha' hs' hFc hk1 hB1 hB.2.2
  exact kk u.1 u.2 hq H1 locs1 ls j.1 j.2 hS1 hl
end UC
