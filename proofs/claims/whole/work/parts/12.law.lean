theorem kb_6 : (Int8.ofInt 6).toInt32 = 6 := by decide
theorem kb_7 : (Int8.ofInt 7).toInt32 = 7 := by decide
theorem kb_31 : (Int8.ofInt 31).toInt32 = 31 := by decide
/-! THE CLAIM OUT OF ONE WALK OF THE LAW'S BODY. Your part is whole_start (and what it stands on); all else here is the same for every law, but numbers. -/
def R_law : String := "RidePoolsLaw"
def lw_P (b : Addr) (xs : List Int32) (args : Array Value) (s : State) : Prop := args = #[.ref b] ∧ s.IntsAt b xs ∧ xs.length ≤ 4096 ∧ (Jvm.Cond.and given_1 narrow_1).before args s = true
def lw_Q (_ : Array Value) (s : State) (o : Outcome) (t : State) : Prop := o = .returned (some (.int 1)) ∧ Framed s o t [] 600000 7302250
def lw_Z (below : List Frame) (a : Array Value) (s : State) : State → Prop := fun t => ∃ o, t.status = .running ∧ Ended t below o ∧ lw_Q a s o t
/-- the law's own end, with 1 on the stack, nothing written that was there before, its room as the claim has it -/
theorem lw_ret {p : Program} {l : Launch} {e : Env} {s : State} {m : MethodId} {below : List Frame} {meth : Method} {c : Code} {b : Nat} (hx : p.tables.exec = Jvm.exec) (hb : c.code = code) (hr : meth.sig.returnType = ret) (hlocks : meth.locks = false) {pc : Nat} {H : Heap} {ls : Array Slot} (hdg : decode code pc = .ok (.ireturn, 1)) : W p l e room_1 s m #[Value.ref b] below meth c H [] 600000 7302250 (lw_Z below #[Value.ref b] s) (F0 m pc ls [.int 1]) := by
  intro T hT X
  obtain ⟨fs, hret, hrun, hended, hW, hframe⟩ := X.leave (v := some (.int 1)) (hlocks := hlocks) (fun h => by rw [hr] at h; cases h)
  have hmeth' : T.vm.method? m = some meth := X.method'
  refine ⟨T.setFrames fs, ?_, .returned (some (.int 1)), hrun, hended, rfl, ⟨_, rfl⟩, hW, hframe⟩
  jvm_step X.here [X.here.top, hx, hb, hdg, hmeth', hr, ret, narrow_b1]
  (try refine ⟨rfl, ?_⟩); (try refine ⟨rfl, ?_⟩)
  first | (intro acts; rw [hret _ acts rfl rfl rfl]) | rw [hret _ _ rfl rfl rfl]
  exact Steps.refl _
/-- what holds at the law's entry: the machine, the code, the tables' words (any of lw_tbl by 'hts w (by decide +kernel)'), the script of L ints xs at the cell b, what the Statement gives of the start (any of its parts by flat_of_before) -/
def lw_At (p : Program) (s : State) (m : MethodId) (meth : Method) (c : Code) (b L : Nat) (xs : Nat → Int32) : Prop :=
  p.tables.exec = Jvm.exec ∧ c.code = code ∧ meth.sig.returnType = ret ∧ c.maxLocals = 4 ∧ s.vm.findClass R_law = some m.cls ∧ (∀ w ∈ lw_tbl, w.before #[Value.ref b] s = true) ∧ va_X b L xs s s.heap ∧ b < s.heap.size ∧ meth.locks = false ∧ (Jvm.Cond.and given_1 narrow_1).before #[Value.ref b] s = true
theorem vSld {p : Program} {l : Launch} {e : Env} {s : State} {m : MethodId} {below : List Frame} {meth : Method} {c : Code} {E : WD} {b Ln kc ks nL : Nat} {xs : Nat → Int32} {R : Room} {Q : State → Prop} {σ : MS} {pc : Nat} {L : List (Option Value)} {st : List Value} {cc : ByteArray} {own : String} {rt : Option FieldType} {dm : Nat → Prop} (hc : Cx p R s m #[Value.ref b] meth c E (fun q => s.heap.size ≤ q) cc own rt nL kc ks dm) (hX : va_X b Ln xs s s.heap ∧ b < s.heap.size) {i : Int32} (hi : vp_in i Ln) (hd : decode cc pc = .ok (.iaload, 1))
    (k : V p l e R s m #[Value.ref b] below meth c E (fun q => s.heap.size ≤ q) nL kc ks Q σ (pc + 1) L (.int (xs i.toNatClampNeg) :: st)) : V p l e R s m #[Value.ref b] below meth c E (fun q => s.heap.size ≤ q) nL kc ks Q σ pc L (.int i :: .ref b :: st) := fun H locs ls hP hS hl =>
  va_sld hc.1 hc.2.1 hX.1 hX.2 (Nat.not_le.mpr hX.2) hS hi hd (k H locs ls hP hS hl)
theorem vSlen {p : Program} {l : Launch} {e : Env} {s : State} {m : MethodId} {below : List Frame} {meth : Method} {c : Code} {E : WD} {b Ln kc ks nL : Nat} {xs : Nat → Int32} {R : Room} {Q : State → Prop} {σ : MS} {pc : Nat} {L : List (Option Value)} {st : List Value} {cc : ByteArray} {own : String} {rt : Option FieldType} {dm : Nat → Prop} (hc : Cx p R s m #[Value.ref b] meth c E (fun q => s.heap.size ≤ q) cc own rt nL kc ks dm) (hX : va_X b Ln xs s s.heap ∧ b < s.heap.size) (hd : decode cc pc = .ok (.arraylength, 1))
    (k : V p l e R s m #[Value.ref b] below meth c E (fun q => s.heap.size ≤ q) nL kc ks Q σ (pc + 1) L (.int (Int32.ofNat Ln) :: st)) : V p l e R s m #[Value.ref b] below meth c E (fun q => s.heap.size ≤ q) nL kc ks Q σ pc L (.ref b :: st) := fun H locs ls hP hS hl =>
  va_slen hc.1 hc.2.1 hX.1 hX.2 (Nat.not_le.mpr hX.2) hS hd (k H locs ls hP hS hl)
theorem vLawEnd {p : Program} {l : Launch} {e : Env} {s : State} {m : MethodId} {below : List Frame} {meth : Method} {c : Code} {E : WD} {b kc ks : Nat} {σ : MS} {pc : Nat} {L : List (Option Value)} (hc : Cx p room_1 s m #[Value.ref b] meth c E (fun q => s.heap.size ≤ q) cL_law RL ret 4 kc ks fdm) (hlo : kc ≤ 600000) (hks : ks ≤ 7302250) (hd : decode cL_law pc = .ok (.ireturn, 1)) : V p l e room_1 s m #[Value.ref b] below meth c E (fun q => s.heap.size ≤ q) 4 kc ks (lw_Z below #[Value.ref b] s) σ pc L [.int 1] := fun H locs ls hP hS hl => by
  refine va_forget (fun q hq => hS.2.2 q hq) ?_
  refine W.widen (k := 600000) (n := 7302250) hlo hks ?_
  exact lw_ret hc.1 hc.2.1 hc.2.2.2.2.2.2.2.2.1 hc.2.2.2.2.2.2.2.2.2.1 hd
def w_L_law_J868 (Ln : Nat) (xs : Nat → Int32) (K18 : Int32 → MS → Prop) (x3 : Int32) (σ : MS) : Prop := ((vp_in (x3 + 1) Ln) ∧ w_X8_count (xs (x3 + 1).toNatClampNeg) σ (fun r874 σ874 => w_X9_count (xs (x3 + 1).toNatClampNeg) σ874 (fun r883 σ883 => ((r874 = r883 → K18 (x3 + 8) σ883) ∧ (¬ r874 = r883 → False)))))
def w_L_law_J835 (Ln : Nat) (xs : Nat → Int32) (K18 : Int32 → MS → Prop) (x3 : Int32) (σ : MS) : Prop := ((vp_in (x3 + 1) Ln) ∧ ((vp_in (x3 + 2) Ln) ∧ w_X8_personOf (xs (x3 + 1).toNatClampNeg) (xs (x3 + 2).toNatClampNeg) σ (fun r846 σ846 => w_X9_personOf (xs (x3 + 1).toNatClampNeg) (xs (x3 + 2).toNatClampNeg) σ846 (fun r860 σ860 => ((r846 = r860 → K18 (x3 + 8) σ860) ∧ (¬ r846 = r860 → False))))))
def w_L_law_J822 (Ln : Nat) (xs : Nat → Int32) (K18 : Int32 → MS → Prop) (x3 : Int32) (σ : MS) : Prop := w_X8_few  σ (fun r823 σ823 => w_X9_few  σ823 (fun r827 σ827 => ((r823 = r827 → K18 (x3 + 8) σ827) ∧ (¬ r823 = r827 → False))))
def w_L_law_J799 (Ln : Nat) (xs : Nat → Int32) (K18 : Int32 → MS → Prop) (x3 : Int32) (σ : MS) : Prop := ((vp_in (x3 + 1) Ln) ∧ w_X8_fail (xs (x3 + 1).toNatClampNeg) σ (fun r805 σ805 => w_X9_fail (xs (x3 + 1).toNatClampNeg) σ805 (fun r814 σ814 => ((r805 = r814 → K18 (x3 + 8) σ814) ∧ (¬ r805 = r814 → False)))))
def w_L_law_J776 (Ln : Nat) (xs : Nat → Int32) (K18 : Int32 → MS → Prop) (x3 : Int32) (σ : MS) : Prop := ((vp_in (x3 + 1) Ln) ∧ w_X8_mornings (xs (x3 + 1).toNatClampNeg) σ (fun r782 σ782 => w_X9_mornings (xs (x3 + 1).toNatClampNeg) σ782 (fun r791 σ791 => ((r782 = r791 → K18 (x3 + 8) σ791) ∧ (¬ r782 = r791 → False)))))
def w_L_law_J763 (Ln : Nat) (xs : Nat → Int32) (K18 : Int32 → MS → Prop) (x3 : Int32) (σ : MS) : Prop := w_X8_even  σ (fun r764 σ764 => w_X9_even  σ764 (fun r768 σ768 => ((r764 = r768 → K18 (x3 + 8) σ768) ∧ (¬ r764 = r768 → False))))
def w_L_law_J750 (Ln : Nat) (xs : Nat → Int32) (K18 : Int32 → MS → Prop) (x3 : Int32) (σ : MS) : Prop := w_X8_same  σ (fun r751 σ751 => w_X9_same  σ751 (fun r755 σ755 => ((r751 = r755 → K18 (x3 + 8) σ755) ∧ (¬ r751 = r755 → False))))
def w_L_law_J717 (Ln : Nat) (xs : Nat → Int32) (K18 : Int32 → MS → Prop) (x3 : Int32) (σ : MS) : Prop := ((vp_in (x3 + 1) Ln) ∧ ((vp_in (x3 + 2) Ln) ∧ w_X8_poolOf (xs (x3 + 1).toNatClampNeg) (xs (x3 + 2).toNatClampNeg) σ (fun r728 σ728 => w_X9_poolOf (xs (x3 + 1).toNatClampNeg) (xs (x3 + 2).toNatClampNeg) σ728 (fun r742 σ742 => ((r728 = r742 → K18 (x3 + 8) σ742) ∧ (¬ r728 = r742 → False))))))
def w_L_law_J694 (Ln : Nat) (xs : Nat → Int32) (K18 : Int32 → MS → Prop) (x3 : Int32) (σ : MS) : Prop := ((vp_in (x3 + 1) Ln) ∧ w_X8_planOf (xs (x3 + 1).toNatClampNeg) σ (fun r700 σ700 => w_X9_planOf (xs (x3 + 1).toNatClampNeg) σ700 (fun r709 σ709 => ((r700 = r709 → K18 (x3 + 8) σ709) ∧ (¬ r700 = r709 → False)))))
def w_L_law_J681 (Ln : Nat) (xs : Nat → Int32) (K18 : Int32 → MS → Prop) (x3 : Int32) (σ : MS) : Prop := w_X8_plan  σ (fun r682 σ682 => w_X9_plan  σ682 (fun r686 σ686 => ((r682 = r686 → K18 (x3 + 8) σ686) ∧ (¬ r682 = r686 → False))))
def w_L_law_J658 (Ln : Nat) (xs : Nat → Int32) (K18 : Int32 → MS → Prop) (x3 : Int32) (σ : MS) : Prop := ((vp_in (x3 + 1) Ln) ∧ w_X8_turn (xs (x3 + 1).toNatClampNeg) σ (fun r664 σ664 => w_X9_turn (xs (x3 + 1).toNatClampNeg) σ664 (fun r673 σ673 => ((r664 = r673 → K18 (x3 + 8) σ673) ∧ (¬ r664 = r673 → False)))))
def w_L_law_J635 (Ln : Nat) (xs : Nat → Int32) (K18 : Int32 → MS → Prop) (x3 : Int32) (σ : MS) : Prop := ((vp_in (x3 + 1) Ln) ∧ w_X8_driver (xs (x3 + 1).toNatClampNeg) σ (fun r641 σ641 => w_X9_driver (xs (x3 + 1).toNatClampNeg) σ641 (fun r650 σ650 => ((r641 = r650 → K18 (x3 + 8) σ650) ∧ (¬ r641 = r650 → False)))))
def w_L_law_J612 (Ln : Nat) (xs : Nat → Int32) (K18 : Int32 → MS → Prop) (x3 : Int32) (σ : MS) : Prop := ((vp_in (x3 + 1) Ln) ∧ w_X8_cost (xs (x3 + 1).toNatClampNeg) σ (fun r618 σ618 => w_X9_cost (xs (x3 + 1).toNatClampNeg) σ618 (fun r627 σ627 => ((r618 = r627 → K18 (x3 + 8) σ627) ∧ (¬ r618 = r627 → False)))))
def w_L_law_J569 (Ln : Nat) (xs : Nat → Int32) (K18 : Int32 → MS → Prop) (x3 : Int32) (σ : MS) : Prop := ((vp_in (x3 + 1) Ln) ∧ ((vp_in (x3 + 2) Ln) ∧ ((vp_in (x3 + 3) Ln) ∧ w_X8_way (xs (x3 + 1).toNatClampNeg) (xs (x3 + 2).toNatClampNeg) (xs (x3 + 3).toNatClampNeg) σ (fun r585 σ585 => w_X9_way (xs (x3 + 1).toNatClampNeg) (xs (x3 + 2).toNatClampNeg) (xs (x3 + 3).toNatClampNeg) σ585 (fun r604 σ604 => ((r585 = r604 → K18 (x3 + 8) σ604) ∧ (¬ r585 = r604 → False)))))))
def w_L_law_J536 (Ln : Nat) (xs : Nat → Int32) (K18 : Int32 → MS → Prop) (x3 : Int32) (σ : MS) : Prop := ((vp_in (x3 + 1) Ln) ∧ ((vp_in (x3 + 2) Ln) ∧ w_X8_why (xs (x3 + 1).toNatClampNeg) (xs (x3 + 2).toNatClampNeg) σ (fun r547 σ547 => w_X9_why (xs (x3 + 1).toNatClampNeg) (xs (x3 + 2).toNatClampNeg) σ547 (fun r561 σ561 => ((r547 = r561 → K18 (x3 + 8) σ561) ∧ (¬ r547 = r561 → False))))))
def w_L_law_J503 (Ln : Nat) (xs : Nat → Int32) (K18 : Int32 → MS → Prop) (x3 : Int32) (σ : MS) : Prop := ((vp_in (x3 + 1) Ln) ∧ ((vp_in (x3 + 2) Ln) ∧ w_X8_fits (xs (x3 + 1).toNatClampNeg) (xs (x3 + 2).toNatClampNeg) σ (fun r514 σ514 => w_X9_fits (xs (x3 + 1).toNatClampNeg) (xs (x3 + 2).toNatClampNeg) σ514 (fun r528 σ528 => ((r514 = r528 → K18 (x3 + 8) σ528) ∧ (¬ r514 = r528 → False))))))
def w_L_law_J495 (Ln : Nat) (xs : Nat → Int32) (K18 : Int32 → MS → Prop) (x3 s0 s2 s3 : Int32) (σ : MS) : Prop := w_X9_broken s2 s3 σ (fun r495 σ495 => ((s0 = r495 → K18 (x3 + 8) σ495) ∧ (¬ s0 = r495 → False)))
def w_L_law_J473 (Ln : Nat) (xs : Nat → Int32) (K18 : Int32 → MS → Prop) (x3 s1 s2 : Int32) (σ : MS) : Prop := w_X8_broken s1 s2 σ (fun r473 σ473 => ((vp_in (x3 + 1) Ln) ∧ ((vp_in (x3 + 2) Ln) ∧ (((xs (x3 + 2).toNatClampNeg) = 0 → w_L_law_J495 Ln xs K18 x3 r473 (xs (x3 + 1).toNatClampNeg) 0 σ473) ∧ (¬ (xs (x3 + 2).toNatClampNeg) = 0 → w_L_law_J495 Ln xs K18 x3 r473 (xs (x3 + 1).toNatClampNeg) 1 σ473)))))
def w_L_law_J454 (Ln : Nat) (xs : Nat → Int32) (K18 : Int32 → MS → Prop) (x3 : Int32) (σ : MS) : Prop := ((vp_in (x3 + 1) Ln) ∧ ((vp_in (x3 + 2) Ln) ∧ (((xs (x3 + 2).toNatClampNeg) = 0 → w_L_law_J473 Ln xs K18 x3 (xs (x3 + 1).toNatClampNeg) 0 σ) ∧ (¬ (xs (x3 + 2).toNatClampNeg) = 0 → w_L_law_J473 Ln xs K18 x3 (xs (x3 + 1).toNatClampNeg) 1 σ))))
def w_L_law_J446 (Ln : Nat) (xs : Nat → Int32) (K18 : Int32 → MS → Prop) (x3 s0 s2 s3 : Int32) (σ : MS) : Prop := w_X9_away s2 s3 σ (fun r446 σ446 => ((s0 = r446 → K18 (x3 + 8) σ446) ∧ (¬ s0 = r446 → False)))
def w_L_law_J424 (Ln : Nat) (xs : Nat → Int32) (K18 : Int32 → MS → Prop) (x3 s1 s2 : Int32) (σ : MS) : Prop := w_X8_away s1 s2 σ (fun r424 σ424 => ((vp_in (x3 + 1) Ln) ∧ ((vp_in (x3 + 2) Ln) ∧ (((xs (x3 + 2).toNatClampNeg) = 0 → w_L_law_J446 Ln xs K18 x3 r424 (xs (x3 + 1).toNatClampNeg) 0 σ424) ∧ (¬ (xs (x3 + 2).toNatClampNeg) = 0 → w_L_law_J446 Ln xs K18 x3 r424 (xs (x3 + 1).toNatClampNeg) 1 σ424)))))
def w_L_law_J405 (Ln : Nat) (xs : Nat → Int32) (K18 : Int32 → MS → Prop) (x3 : Int32) (σ : MS) : Prop := ((vp_in (x3 + 1) Ln) ∧ ((vp_in (x3 + 2) Ln) ∧ (((xs (x3 + 2).toNatClampNeg) = 0 → w_L_law_J424 Ln xs K18 x3 (xs (x3 + 1).toNatClampNeg) 0 σ) ∧ (¬ (xs (x3 + 2).toNatClampNeg) = 0 → w_L_law_J424 Ln xs K18 x3 (xs (x3 + 1).toNatClampNeg) 1 σ))))
def w_L_law_J397 (Ln : Nat) (xs : Nat → Int32) (K18 : Int32 → MS → Prop) (x3 s0 s2 s3 s4 : Int32) (σ : MS) : Prop := w_X9_bar s2 s3 s4 σ (fun r397 σ397 => ((s0 = r397 → K18 (x3 + 8) σ397) ∧ (¬ s0 = r397 → False)))
def w_L_law_J370 (Ln : Nat) (xs : Nat → Int32) (K18 : Int32 → MS → Prop) (x3 s1 s2 s3 : Int32) (σ : MS) : Prop := w_X8_bar s1 s2 s3 σ (fun r370 σ370 => ((vp_in (x3 + 1) Ln) ∧ ((vp_in (x3 + 2) Ln) ∧ ((vp_in (x3 + 3) Ln) ∧ (((xs (x3 + 3).toNatClampNeg) = 0 → w_L_law_J397 Ln xs K18 x3 r370 (xs (x3 + 1).toNatClampNeg) (xs (x3 + 2).toNatClampNeg) 0 σ370) ∧ (¬ (xs (x3 + 3).toNatClampNeg) = 0 → w_L_law_J397 Ln xs K18 x3 r370 (xs (x3 + 1).toNatClampNeg) (xs (x3 + 2).toNatClampNeg) 1 σ370))))))
def w_L_law_J346 (Ln : Nat) (xs : Nat → Int32) (K18 : Int32 → MS → Prop) (x3 : Int32) (σ : MS) : Prop := ((vp_in (x3 + 1) Ln) ∧ ((vp_in (x3 + 2) Ln) ∧ ((vp_in (x3 + 3) Ln) ∧ (((xs (x3 + 3).toNatClampNeg) = 0 → w_L_law_J370 Ln xs K18 x3 (xs (x3 + 1).toNatClampNeg) (xs (x3 + 2).toNatClampNeg) 0 σ) ∧ (¬ (xs (x3 + 3).toNatClampNeg) = 0 → w_L_law_J370 Ln xs K18 x3 (xs (x3 + 1).toNatClampNeg) (xs (x3 + 2).toNatClampNeg) 1 σ)))))
def w_L_law_J303 (Ln : Nat) (xs : Nat → Int32) (K18 : Int32 → MS → Prop) (x3 : Int32) (σ : MS) : Prop := ((vp_in (x3 + 1) Ln) ∧ ((vp_in (x3 + 2) Ln) ∧ ((vp_in (x3 + 3) Ln) ∧ w_X8_times (xs (x3 + 1).toNatClampNeg) (xs (x3 + 2).toNatClampNeg) (xs (x3 + 3).toNatClampNeg) σ (fun r319 σ319 => w_X9_times (xs (x3 + 1).toNatClampNeg) (xs (x3 + 2).toNatClampNeg) (xs (x3 + 3).toNatClampNeg) σ319 (fun r338 σ338 => ((r319 = r338 → K18 (x3 + 8) σ338) ∧ (¬ r319 = r338 → False)))))))
def w_L_law_J216 (Ln : Nat) (xs : Nat → Int32) (K18 : Int32 → MS → Prop) (x3 : Int32) (σ : MS) : Prop := ((vp_in (x3 + 1) Ln) ∧ ((vp_in (x3 + 2) Ln) ∧ ((vp_in (x3 + 3) Ln) ∧ ((vp_in (x3 + 4) Ln) ∧ ((vp_in (x3 + 5) Ln) ∧ ((vp_in (x3 + 6) Ln) ∧ ((vp_in (x3 + 7) Ln) ∧ w_X8_person (xs (x3 + 1).toNatClampNeg) (xs (x3 + 2).toNatClampNeg) (xs (x3 + 3).toNatClampNeg) (xs (x3 + 4).toNatClampNeg) (xs (x3 + 5).toNatClampNeg) (xs (x3 + 6).toNatClampNeg) (xs (x3 + 7).toNatClampNeg) σ (fun r254 σ254 => w_X9_person (xs (x3 + 1).toNatClampNeg) (xs (x3 + 2).toNatClampNeg) (xs (x3 + 3).toNatClampNeg) (xs (x3 + 4).toNatClampNeg) (xs (x3 + 5).toNatClampNeg) (xs (x3 + 6).toNatClampNeg) (xs (x3 + 7).toNatClampNeg) σ254 (fun r295 σ295 => ((r254 = r295 → K18 (x3 + 8) σ295) ∧ (¬ r254 = r295 → False)))))))))))
def w_L_law_J183 (Ln : Nat) (xs : Nat → Int32) (K18 : Int32 → MS → Prop) (x3 : Int32) (σ : MS) : Prop := ((vp_in (x3 + 1) Ln) ∧ ((vp_in (x3 + 2) Ln) ∧ w_X8_least (xs (x3 + 1).toNatClampNeg) (xs (x3 + 2).toNatClampNeg) σ (fun r194 σ194 => w_X9_least (xs (x3 + 1).toNatClampNeg) (xs (x3 + 2).toNatClampNeg) σ194 (fun r208 σ208 => ((r194 = r208 → K18 (x3 + 8) σ208) ∧ (¬ r194 = r208 → False))))))
def w_L_law_J140 (Ln : Nat) (xs : Nat → Int32) (K18 : Int32 → MS → Prop) (x3 : Int32) (σ : MS) : Prop := ((vp_in (x3 + 1) Ln) ∧ ((vp_in (x3 + 2) Ln) ∧ ((vp_in (x3 + 3) Ln) ∧ w_X8_minutes (xs (x3 + 1).toNatClampNeg) (xs (x3 + 2).toNatClampNeg) (xs (x3 + 3).toNatClampNeg) σ (fun r156 σ156 => w_X9_minutes (xs (x3 + 1).toNatClampNeg) (xs (x3 + 2).toNatClampNeg) (xs (x3 + 3).toNatClampNeg) σ156 (fun r175 σ175 => ((r156 = r175 → K18 (x3 + 8) σ175) ∧ (¬ r156 = r175 → False)))))))
def w_L_law_H18 (Ln : Nat) (xs : Nat → Int32) : Nat → Int32 → MS → Prop
  | 0, _, _ => False
  | n + 1, x3, σ => ((((Int32.ofNat Ln) - 8) < x3 → True) ∧ (¬ ((Int32.ofNat Ln) - 8) < x3 → ((vp_in x3 Ln) ∧ (∀ z33 : Int32, z33 = ((xs x3.toNatClampNeg) &&& 31) → ((z33 = 0 → w_L_law_J140 Ln xs (fun x3 σ => w_L_law_H18 Ln xs n x3 σ) x3 σ) ∧ (¬ z33 = 0 → ((z33 = 1 → w_L_law_J183 Ln xs (fun x3 σ => w_L_law_H18 Ln xs n x3 σ) x3 σ) ∧ (¬ z33 = 1 → ((z33 = 2 → w_L_law_J216 Ln xs (fun x3 σ => w_L_law_H18 Ln xs n x3 σ) x3 σ) ∧ (¬ z33 = 2 → ((z33 = 3 → w_L_law_J303 Ln xs (fun x3 σ => w_L_law_H18 Ln xs n x3 σ) x3 σ) ∧ (¬ z33 = 3 → ((z33 = 4 → w_L_law_J346 Ln xs (fun x3 σ => w_L_law_H18 Ln xs n x3 σ) x3 σ) ∧ (¬ z33 = 4 → ((z33 = 5 → w_L_law_J405 Ln xs (fun x3 σ => w_L_law_H18 Ln xs n x3 σ) x3 σ) ∧ (¬ z33 = 5 → ((z33 = 6 → w_L_law_J454 Ln xs (fun x3 σ => w_L_law_H18 Ln xs n x3 σ) x3 σ) ∧ (¬ z33 = 6 → ((z33 = 7 → w_L_law_J503 Ln xs (fun x3 σ => w_L_law_H18 Ln xs n x3 σ) x3 σ) ∧ (¬ z33 = 7 → ((z33 = 8 → w_L_law_J536 Ln xs (fun x3 σ => w_L_law_H18 Ln xs n x3 σ) x3 σ) ∧ (¬ z33 = 8 → ((z33 = 9 → w_L_law_J569 Ln xs (fun x3 σ => w_L_law_H18 Ln xs n x3 σ) x3 σ) ∧ (¬ z33 = 9 → ((z33 = 10 → w_L_law_J612 Ln xs (fun x3 σ => w_L_law_H18 Ln xs n x3 σ) x3 σ) ∧ (¬ z33 = 10 → ((z33 = 11 → w_L_law_J635 Ln xs (fun x3 σ => w_L_law_H18 Ln xs n x3 σ) x3 σ) ∧ (¬ z33 = 11 → ((z33 = 12 → w_L_law_J658 Ln xs (fun x3 σ => w_L_law_H18 Ln xs n x3 σ) x3 σ) ∧ (¬ z33 = 12 → ((z33 = 13 → w_L_law_J681 Ln xs (fun x3 σ => w_L_law_H18 Ln xs n x3 σ) x3 σ) ∧ (¬ z33 = 13 → ((z33 = 14 → w_L_law_J694 Ln xs (fun x3 σ => w_L_law_H18 Ln xs n x3 σ) x3 σ) ∧ (¬ z33 = 14 → ((z33 = 15 → w_L_law_J717 Ln xs (fun x3 σ => w_L_law_H18 Ln xs n x3 σ) x3 σ) ∧ (¬ z33 = 15 → ((z33 = 16 → w_L_law_J750 Ln xs (fun x3 σ => w_L_law_H18 Ln xs n x3 σ) x3 σ) ∧ (¬ z33 = 16 → ((z33 = 17 → w_L_law_J763 Ln xs (fun x3 σ => w_L_law_H18 Ln xs n x3 σ) x3 σ) ∧ (¬ z33 = 17 → ((z33 = 18 → w_L_law_J776 Ln xs (fun x3 σ => w_L_law_H18 Ln xs n x3 σ) x3 σ) ∧ (¬ z33 = 18 → ((z33 = 19 → w_L_law_J799 Ln xs (fun x3 σ => w_L_law_H18 Ln xs n x3 σ) x3 σ) ∧ (¬ z33 = 19 → ((z33 = 20 → w_L_law_J822 Ln xs (fun x3 σ => w_L_law_H18 Ln xs n x3 σ) x3 σ) ∧ (¬ z33 = 20 → ((z33 = 21 → w_L_law_J835 Ln xs (fun x3 σ => w_L_law_H18 Ln xs n x3 σ) x3 σ) ∧ (¬ z33 = 21 → ((z33 = 22 → w_L_law_J868 Ln xs (fun x3 σ => w_L_law_H18 Ln xs n x3 σ) x3 σ) ∧ (¬ z33 = 22 → w_L_law_H18 Ln xs n (x3 + 8) σ))))))))))))))))))))))))))))))))))))))))))))))))))
set_option maxRecDepth 100000 in
set_option maxHeartbeats 4000000 in
theorem t_L_law_J868 {p : Program} {l : Launch} {e : Env} {s : State} {m : MethodId} {below : List Frame} {meth : Method} {c : Code} {E : WD} {b Ln kc ks : Nat} {xs : Nat → Int32} (hc : Cx p room_1 s m #[Value.ref b] meth c E (fun q => s.heap.size ≤ q) cL_law RL ret 4 kc ks fdm) (hX : va_X b Ln xs s s.heap ∧ b < s.heap.size) (hlo : kc ≤ 600000) (hks : ks ≤ 7302250) {K18 : Int32 → MS → Prop} (hK18 : ∀ (x3 : Int32) (σ : MS), K18 x3 σ → V p l e room_1 s m #[Value.ref b] below meth c E (fun q => s.heap.size ≤ q) 4 kc ks (lw_Z below #[Value.ref b] s) σ 18 [some (.ref b), some (.ref (E.2.1 0)), some (.ref (E.2.1 66)), some (.int x3)] []) (x3 : Int32) (σ : MS) (hw : w_L_law_J868 Ln xs K18 x3 σ) : V p l e room_1 s m #[Value.ref b] below meth c E (fun q => s.heap.size ≤ q) 4 kc ks (lw_Z below #[Value.ref b] s) σ 868 [some (.ref b), some (.ref (E.2.1 0)), some (.ref (E.2.1 66)), some (.int x3)] [] := by
  unfold w_L_law_J868 at hw
  refine vAload_n (pc := 868) hc dL_law_868 rfl ?_
  refine vAload_n (pc := 869) hc dL_law_869 rfl ?_
  refine vIload_n (pc := 870) hc dL_law_870 rfl ?_
  refine vIconst (pc := 871) (v := 1) hc dL_law_871 ki_1 ?_
  refine vIadd (pc := 872) hc dL_law_872 ?_
  obtain ⟨hi1, hw⟩ := hw
  refine vSld (pc := 873) hc hX hi1 dL_law_873 ?_
  refine vCallVi (pc := 874) (st := []) hc ok_X8_count tw_695 (c_X8_count hc.2.2.2.2.2.2.1 hc.G hw) (hc.G 0 (Nat.le_of_ble_eq_true rfl)) rfl rfl rfl ⟨rfl, rfl⟩ ⟨Nat.le_of_ble_eq_true rfl, Nat.le_of_ble_eq_true rfl⟩ rfl (Nat.le_of_ble_eq_true rfl) dL_law_874 (fun r874 σ874 hw => ?_)
  refine vAload_n (pc := 877) hc dL_law_877 rfl ?_
  refine vAload_n (pc := 878) hc dL_law_878 rfl ?_
  refine vIload_n (pc := 879) hc dL_law_879 rfl ?_
  refine vIconst (pc := 880) (v := 1) hc dL_law_880 ki_1 ?_
  refine vIadd (pc := 881) hc dL_law_881 ?_
  refine vSld (pc := 882) hc hX hi1 dL_law_882 ?_
  refine vCallVi (pc := 883) (st := [(.int r874)]) hc ok_X9_count tw_1035 (c_X9_count hc.2.2.2.2.2.2.1 hc.G hw) (hc.G 66 (Nat.le_of_ble_eq_true rfl)) rfl rfl rfl ⟨rfl, rfl⟩ ⟨Nat.le_of_ble_eq_true rfl, Nat.le_of_ble_eq_true rfl⟩ rfl (Nat.le_of_ble_eq_true rfl) dL_law_883 (fun r883 σ883 hw => ?_)
  refine vIcmp_eq (pc := 886) (tgt := 891) hc dL_law_886 (by decide) (fun c886 => ?_) (fun c886 => ?_)
  · have hw := hw.1 c886
    refine vIinc (pc := 891) (v := x3 + 8) (L2 := [some (.ref b), some (.ref (E.2.1 0)), some (.ref (E.2.1 66)), some (.int (x3 + 8))]) hc dL_law_891 rfl rfl rfl (Nat.le_of_ble_eq_true rfl) ?_
    refine vGoto (pc := 894) (tgt := 18) hc dL_law_894 (by decide) ?_
    exact vMono (L2 := [some (.ref b), some (.ref (E.2.1 0)), some (.ref (E.2.1 66)), some (.int (x3 + 8))]) (show subL [some (.ref b), some (.ref (E.2.1 0)), some (.ref (E.2.1 66)), some (.int (x3 + 8))] [some (.ref b), some (.ref (E.2.1 0)), some (.ref (E.2.1 66)), some (.int (x3 + 8))] from ⟨rfl, ⟨rfl, ⟨rfl, ⟨rfl, trivial⟩⟩⟩⟩) (hK18 (x3 + 8) _ hw)
  · have hw := hw.2 c886
    refine vIconst (pc := 889) (v := 0) hc dL_law_889 ki_0 ?_
    exact hw.elim
set_option maxRecDepth 100000 in
set_option maxHeartbeats 4000000 in
theorem t_L_law_J835 {p : Program} {l : Launch} {e : Env} {s : State} {m : MethodId} {below : List Frame} {meth : Method} {c : Code} {E : WD} {b Ln kc ks : Nat} {xs : Nat → Int32} (hc : Cx p room_1 s m #[Value.ref b] meth c E (fun q => s.heap.size ≤ q) cL_law RL ret 4 kc ks fdm) (hX : va_X b Ln xs s s.heap ∧ b < s.heap.size) (hlo : kc ≤ 600000) (hks : ks ≤ 7302250) {K18 : Int32 → MS → Prop} (hK18 : ∀ (x3 : Int32) (σ : MS), K18 x3 σ → V p l e room_1 s m #[Value.ref b] below meth c E (fun q => s.heap.size ≤ q) 4 kc ks (lw_Z below #[Value.ref b] s) σ 18 [some (.ref b), some (.ref (E.2.1 0)), some (.ref (E.2.1 66)), some (.int x3)] []) (x3 : Int32) (σ : MS) (hw : w_L_law_J835 Ln xs K18 x3 σ) : V p l e room_1 s m #[Value.ref b] below meth c E (fun q => s.heap.size ≤ q) 4 kc ks (lw_Z below #[Value.ref b] s) σ 835 [some (.ref b), some (.ref (E.2.1 0)), some (.ref (E.2.1 66)), some (.int x3)] [] := by
  unfold w_L_law_J835 at hw
  refine vAload_n (pc := 835) hc dL_law_835 rfl ?_
  refine vAload_n (pc := 836) hc dL_law_836 rfl ?_
  refine vIload_n (pc := 837) hc dL_law_837 rfl ?_
  refine vIconst (pc := 838) (v := 1) hc dL_law_838 ki_1 ?_
  refine vIadd (pc := 839) hc dL_law_839 ?_
  obtain ⟨hi1, hw⟩ := hw
  refine vSld (pc := 840) hc hX hi1 dL_law_840 ?_
  refine vAload_n (pc := 841) hc dL_law_841 rfl ?_
  refine vIload_n (pc := 842) hc dL_law_842 rfl ?_
  refine vIconst (pc := 843) (v := 2) hc dL_law_843 ki_2 ?_
  refine vIadd (pc := 844) hc dL_law_844 ?_
  obtain ⟨hi2, hw⟩ := hw
  refine vSld (pc := 845) hc hX hi2 dL_law_845 ?_
  refine vCallVi (pc := 846) (st := []) hc ok_X8_personOf tw_690 (c_X8_personOf hc.2.2.2.2.2.2.1 hc.G hw) (hc.G 0 (Nat.le_of_ble_eq_true rfl)) rfl rfl rfl ⟨rfl, rfl⟩ ⟨Nat.le_of_ble_eq_true rfl, Nat.le_of_ble_eq_true rfl⟩ rfl (Nat.le_of_ble_eq_true rfl) dL_law_846 (fun r846 σ846 hw => ?_)
  refine vAload_n (pc := 849) hc dL_law_849 rfl ?_
  refine vAload_n (pc := 850) hc dL_law_850 rfl ?_
  refine vIload_n (pc := 851) hc dL_law_851 rfl ?_
  refine vIconst (pc := 852) (v := 1) hc dL_law_852 ki_1 ?_
  refine vIadd (pc := 853) hc dL_law_853 ?_
  refine vSld (pc := 854) hc hX hi1 dL_law_854 ?_
  refine vAload_n (pc := 855) hc dL_law_855 rfl ?_
  refine vIload_n (pc := 856) hc dL_law_856 rfl ?_
  refine vIconst (pc := 857) (v := 2) hc dL_law_857 ki_2 ?_
  refine vIadd (pc := 858) hc dL_law_858 ?_
  refine vSld (pc := 859) hc hX hi2 dL_law_859 ?_
  refine vCallVi (pc := 860) (st := [(.int r846)]) hc ok_X9_personOf tw_1030 (c_X9_personOf hc.2.2.2.2.2.2.1 hc.G hw) (hc.G 66 (Nat.le_of_ble_eq_true rfl)) rfl rfl rfl ⟨rfl, rfl⟩ ⟨Nat.le_of_ble_eq_true rfl, Nat.le_of_ble_eq_true rfl⟩ rfl (Nat.le_of_ble_eq_true rfl) dL_law_860 (fun r860 σ860 hw => ?_)
  refine vIcmp_eq (pc := 863) (tgt := 891) hc dL_law_863 (by decide) (fun c863 => ?_) (fun c863 => ?_)
  · have hw := hw.1 c863
    refine vIinc (pc := 891) (v := x3 + 8) (L2 := [some (.ref b), some (.ref (E.2.1 0)), some (.ref (E.2.1 66)), some (.int (x3 + 8))]) hc dL_law_891 rfl rfl rfl (Nat.le_of_ble_eq_true rfl) ?_
    refine vGoto (pc := 894) (tgt := 18) hc dL_law_894 (by decide) ?_
    exact vMono (L2 := [some (.ref b), some (.ref (E.2.1 0)), some (.ref (E.2.1 66)), some (.int (x3 + 8))]) (show subL [some (.ref b), some (.ref (E.2.1 0)), some (.ref (E.2.1 66)), some (.int (x3 + 8))] [some (.ref b), some (.ref (E.2.1 0)), some (.ref (E.2.1 66)), some (.int (x3 + 8))] from ⟨rfl, ⟨rfl, ⟨rfl, ⟨rfl, trivial⟩⟩⟩⟩) (hK18 (x3 + 8) _ hw)
  · have hw := hw.2 c863
    refine vIconst (pc := 866) (v := 0) hc dL_law_866 ki_0 ?_
    exact hw.elim
set_option maxRecDepth 100000 in
set_option maxHeartbeats 4000000 in
theorem t_L_law_J822 {p : Program} {l : Launch} {e : Env} {s : State} {m : MethodId} {below : List Frame} {meth : Method} {c : Code} {E : WD} {b Ln kc ks : Nat} {xs : Nat → Int32} (hc : Cx p room_1 s m #[Value.ref b] meth c E (fun q => s.heap.size ≤ q) cL_law RL ret 4 kc ks fdm) (hX : va_X b Ln xs s s.heap ∧ b < s.heap.size) (hlo : kc ≤ 600000) (hks : ks ≤ 7302250) {K18 : Int32 → MS → Prop} (hK18 : ∀ (x3 : Int32) (σ : MS), K18 x3 σ → V p l e room_1 s m #[Value.ref b] below meth c E (fun q => s.heap.size ≤ q) 4 kc ks (lw_Z below #[Value.ref b] s) σ 18 [some (.ref b), some (.ref (E.2.1 0)), some (.ref (E.2.1 66)), some (.int x3)] []) (x3 : Int32) (σ : MS) (hw : w_L_law_J822 Ln xs K18 x3 σ) : V p l e room_1 s m #[Value.ref b] below meth c E (fun q => s.heap.size ≤ q) 4 kc ks (lw_Z below #[Value.ref b] s) σ 822 [some (.ref b), some (.ref (E.2.1 0)), some (.ref (E.2.1 66)), some (.int x3)] [] := by
  unfold w_L_law_J822 at hw
  refine vAload_n (pc := 822) hc dL_law_822 rfl ?_
  refine vCallVi (pc := 823) (st := []) hc ok_X8_few tw_682 (c_X8_few hc.2.2.2.2.2.2.1 hc.G hw) (hc.G 0 (Nat.le_of_ble_eq_true rfl)) rfl rfl rfl ⟨rfl, rfl⟩ ⟨Nat.le_of_ble_eq_true rfl, Nat.le_of_ble_eq_true rfl⟩ rfl (Nat.le_of_ble_eq_true rfl) dL_law_823 (fun r823 σ823 hw => ?_)
  refine vAload_n (pc := 826) hc dL_law_826 rfl ?_
  refine vCallVi (pc := 827) (st := [(.int r823)]) hc ok_X9_few tw_1026 (c_X9_few hc.2.2.2.2.2.2.1 hc.G hw) (hc.G 66 (Nat.le_of_ble_eq_true rfl)) rfl rfl rfl ⟨rfl, rfl⟩ ⟨Nat.le_of_ble_eq_true rfl, Nat.le_of_ble_eq_true rfl⟩ rfl (Nat.le_of_ble_eq_true rfl) dL_law_827 (fun r827 σ827 hw => ?_)
  refine vIcmp_eq (pc := 830) (tgt := 891) hc dL_law_830 (by decide) (fun c830 => ?_) (fun c830 => ?_)
  · have hw := hw.1 c830
    refine vIinc (pc := 891) (v := x3 + 8) (L2 := [some (.ref b), some (.ref (E.2.1 0)), some (.ref (E.2.1 66)), some (.int (x3 + 8))]) hc dL_law_891 rfl rfl rfl (Nat.le_of_ble_eq_true rfl) ?_
    refine vGoto (pc := 894) (tgt := 18) hc dL_law_894 (by decide) ?_
    exact vMono (L2 := [some (.ref b), some (.ref (E.2.1 0)), some (.ref (E.2.1 66)), some (.int (x3 + 8))]) (show subL [some (.ref b), some (.ref (E.2.1 0)), some (.ref (E.2.1 66)), some (.int (x3 + 8))] [some (.ref b), some (.ref (E.2.1 0)), some (.ref (E.2.1 66)), some (.int (x3 + 8))] from ⟨rfl, ⟨rfl, ⟨rfl, ⟨rfl, trivial⟩⟩⟩⟩) (hK18 (x3 + 8) _ hw)
  · have hw := hw.2 c830
    refine vIconst (pc := 833) (v := 0) hc dL_law_833 ki_0 ?_
    exact hw.elim
set_option maxRecDepth 100000 in
set_option maxHeartbeats 4000000 in
theorem t_L_law_J799 {p : Program} {l : Launch} {e : Env} {s : State} {m : MethodId} {below : List Frame} {meth : Method} {c : Code} {E : WD} {b Ln kc ks : Nat} {xs : Nat → Int32} (hc : Cx p room_1 s m #[Value.ref b] meth c E (fun q => s.heap.size ≤ q) cL_law RL ret 4 kc ks fdm) (hX : va_X b Ln xs s s.heap ∧ b < s.heap.size) (hlo : kc ≤ 600000) (hks : ks ≤ 7302250) {K18 : Int32 → MS → Prop} (hK18 : ∀ (x3 : Int32) (σ : MS), K18 x3 σ → V p l e room_1 s m #[Value.ref b] below meth c E (fun q => s.heap.size ≤ q) 4 kc ks (lw_Z below #[Value.ref b] s) σ 18 [some (.ref b), some (.ref (E.2.1 0)), some (.ref (E.2.1 66)), some (.int x3)] []) (x3 : Int32) (σ : MS) (hw : w_L_law_J799 Ln xs K18 x3 σ) : V p l e room_1 s m #[Value.ref b] below meth c E (fun q => s.heap.size ≤ q) 4 kc ks (lw_Z below #[Value.ref b] s) σ 799 [some (.ref b), some (.ref (E.2.1 0)), some (.ref (E.2.1 66)), some (.int x3)] [] := by
  unfold w_L_law_J799 at hw
  refine vAload_n (pc := 799) hc dL_law_799 rfl ?_
  refine vAload_n (pc := 800) hc dL_law_800 rfl ?_
  refine vIload_n (pc := 801) hc dL_law_801 rfl ?_
  refine vIconst (pc := 802) (v := 1) hc dL_law_802 ki_1 ?_
  refine vIadd (pc := 803) hc dL_law_803 ?_
  obtain ⟨hi1, hw⟩ := hw
  refine vSld (pc := 804) hc hX hi1 dL_law_804 ?_
  refine vCallVi (pc := 805) (st := []) hc ok_X8_fail tw_661 (c_X8_fail hc.2.2.2.2.2.2.1 hc.G hw) (hc.G 0 (Nat.le_of_ble_eq_true rfl)) rfl rfl rfl ⟨rfl, rfl⟩ ⟨Nat.le_of_ble_eq_true rfl, Nat.le_of_ble_eq_true rfl⟩ rfl (Nat.le_of_ble_eq_true rfl) dL_law_805 (fun r805 σ805 hw => ?_)
  refine vAload_n (pc := 808) hc dL_law_808 rfl ?_
  refine vAload_n (pc := 809) hc dL_law_809 rfl ?_
  refine vIload_n (pc := 810) hc dL_law_810 rfl ?_
  refine vIconst (pc := 811) (v := 1) hc dL_law_811 ki_1 ?_
  refine vIadd (pc := 812) hc dL_law_812 ?_
  refine vSld (pc := 813) hc hX hi1 dL_law_813 ?_
  refine vCallVi (pc := 814) (st := [(.int r805)]) hc ok_X9_fail tw_1018 (c_X9_fail hc.2.2.2.2.2.2.1 hc.G hw) (hc.G 66 (Nat.le_of_ble_eq_true rfl)) rfl rfl rfl ⟨rfl, rfl⟩ ⟨Nat.le_of_ble_eq_true rfl, Nat.le_of_ble_eq_true rfl⟩ rfl (Nat.le_of_ble_eq_true rfl) dL_law_814 (fun r814 σ814 hw => ?_)
  refine vIcmp_eq (pc := 817) (tgt := 891) hc dL_law_817 (by decide) (fun c817 => ?_) (fun c817 => ?_)
  · have hw := hw.1 c817
    refine vIinc (pc := 891) (v := x3 + 8) (L2 := [some (.ref b), some (.ref (E.2.1 0)), some (.ref (E.2.1 66)), some (.int (x3 + 8))]) hc dL_law_891 rfl rfl rfl (Nat.le_of_ble_eq_true rfl) ?_
    refine vGoto (pc := 894) (tgt := 18) hc dL_law_894 (by decide) ?_
    exact vMono (L2 := [some (.ref b), some (.ref (E.2.1 0)), some (.ref (E.2.1 66)), some (.int (x3 + 8))]) (show subL [some (.ref b), some (.ref (E.2.1 0)), some (.ref (E.2.1 66)), some (.int (x3 + 8))] [some (.ref b), some (.ref (E.2.1 0)), some (.ref (E.2.1 66)), some (.int (x3 + 8))] from ⟨rfl, ⟨rfl, ⟨rfl, ⟨rfl, trivial⟩⟩⟩⟩) (hK18 (x3 + 8) _ hw)
  · have hw := hw.2 c817
    refine vIconst (pc := 820) (v := 0) hc dL_law_820 ki_0 ?_
    exact hw.elim
set_option maxRecDepth 100000 in
set_option maxHeartbeats 4000000 in
theorem t_L_law_J776 {p : Program} {l : Launch} {e : Env} {s : State} {m : MethodId} {below : List Frame} {meth : Method} {c : Code} {E : WD} {b Ln kc ks : Nat} {xs : Nat → Int32} (hc : Cx p room_1 s m #[Value.ref b] meth c E (fun q => s.heap.size ≤ q) cL_law RL ret 4 kc ks fdm) (hX : va_X b Ln xs s s.heap ∧ b < s.heap.size) (hlo : kc ≤ 600000) (hks : ks ≤ 7302250) {K18 : Int32 → MS → Prop} (hK18 : ∀ (x3 : Int32) (σ : MS), K18 x3 σ → V p l e room_1 s m #[Value.ref b] below meth c E (fun q => s.heap.size ≤ q) 4 kc ks (lw_Z below #[Value.ref b] s) σ 18 [some (.ref b), some (.ref (E.2.1 0)), some (.ref (E.2.1 66)), some (.int x3)] []) (x3 : Int32) (σ : MS) (hw : w_L_law_J776 Ln xs K18 x3 σ) : V p l e room_1 s m #[Value.ref b] below meth c E (fun q => s.heap.size ≤ q) 4 kc ks (lw_Z below #[Value.ref b] s) σ 776 [some (.ref b), some (.ref (E.2.1 0)), some (.ref (E.2.1 66)), some (.int x3)] [] := by
  unfold w_L_law_J776 at hw
  refine vAload_n (pc := 776) hc dL_law_776 rfl ?_
  refine vAload_n (pc := 777) hc dL_law_777 rfl ?_
  refine vIload_n (pc := 778) hc dL_law_778 rfl ?_
  refine vIconst (pc := 779) (v := 1) hc dL_law_779 ki_1 ?_
  refine vIadd (pc := 780) hc dL_law_780 ?_
  obtain ⟨hi1, hw⟩ := hw
  refine vSld (pc := 781) hc hX hi1 dL_law_781 ?_
  refine vCallVi (pc := 782) (st := []) hc ok_X8_mornings tw_653 (c_X8_mornings hc.2.2.2.2.2.2.1 hc.G hw) (hc.G 0 (Nat.le_of_ble_eq_true rfl)) rfl rfl rfl ⟨rfl, rfl⟩ ⟨Nat.le_of_ble_eq_true rfl, Nat.le_of_ble_eq_true rfl⟩ rfl (Nat.le_of_ble_eq_true rfl) dL_law_782 (fun r782 σ782 hw => ?_)
  refine vAload_n (pc := 785) hc dL_law_785 rfl ?_
  refine vAload_n (pc := 786) hc dL_law_786 rfl ?_
  refine vIload_n (pc := 787) hc dL_law_787 rfl ?_
  refine vIconst (pc := 788) (v := 1) hc dL_law_788 ki_1 ?_
  refine vIadd (pc := 789) hc dL_law_789 ?_
  refine vSld (pc := 790) hc hX hi1 dL_law_790 ?_
  refine vCallVi (pc := 791) (st := [(.int r782)]) hc ok_X9_mornings tw_1014 (c_X9_mornings hc.2.2.2.2.2.2.1 hc.G hw) (hc.G 66 (Nat.le_of_ble_eq_true rfl)) rfl rfl rfl ⟨rfl, rfl⟩ ⟨Nat.le_of_ble_eq_true rfl, Nat.le_of_ble_eq_true rfl⟩ rfl (Nat.le_of_ble_eq_true rfl) dL_law_791 (fun r791 σ791 hw => ?_)
  refine vIcmp_eq (pc := 794) (tgt := 891) hc dL_law_794 (by decide) (fun c794 => ?_) (fun c794 => ?_)
  · have hw := hw.1 c794
    refine vIinc (pc := 891) (v := x3 + 8) (L2 := [some (.ref b), some (.ref (E.2.1 0)), some (.ref (E.2.1 66)), some (.int (x3 + 8))]) hc dL_law_891 rfl rfl rfl (Nat.le_of_ble_eq_true rfl) ?_
    refine vGoto (pc := 894) (tgt := 18) hc dL_law_894 (by decide) ?_
    exact vMono (L2 := [some (.ref b), some (.ref (E.2.1 0)), some (.ref (E.2.1 66)), some (.int (x3 + 8))]) (show subL [some (.ref b), some (.ref (E.2.1 0)), some (.ref (E.2.1 66)), some (.int (x3 + 8))] [some (.ref b), some (.ref (E.2.1 0)), some (.ref (E.2.1 66)), some (.int (x3 + 8))] from ⟨rfl, ⟨rfl, ⟨rfl, ⟨rfl, trivial⟩⟩⟩⟩) (hK18 (x3 + 8) _ hw)
  · have hw := hw.2 c794
    refine vIconst (pc := 797) (v := 0) hc dL_law_797 ki_0 ?_
    exact hw.elim
set_option maxRecDepth 100000 in
set_option maxHeartbeats 4000000 in
theorem t_L_law_J763 {p : Program} {l : Launch} {e : Env} {s : State} {m : MethodId} {below : List Frame} {meth : Method} {c : Code} {E : WD} {b Ln kc ks : Nat} {xs : Nat → Int32} (hc : Cx p room_1 s m #[Value.ref b] meth c E (fun q => s.heap.size ≤ q) cL_law RL ret 4 kc ks fdm) (hX : va_X b Ln xs s s.heap ∧ b < s.heap.size) (hlo : kc ≤ 600000) (hks : ks ≤ 7302250) {K18 : Int32 → MS → Prop} (hK18 : ∀ (x3 : Int32) (σ : MS), K18 x3 σ → V p l e room_1 s m #[Value.ref b] below meth c E (fun q => s.heap.size ≤ q) 4 kc ks (lw_Z below #[Value.ref b] s) σ 18 [some (.ref b), some (.ref (E.2.1 0)), some (.ref (E.2.1 66)), some (.int x3)] []) (x3 : Int32) (σ : MS) (hw : w_L_law_J763 Ln xs K18 x3 σ) : V p l e room_1 s m #[Value.ref b] below meth c E (fun q => s.heap.size ≤ q) 4 kc ks (lw_Z below #[Value.ref b] s) σ 763 [some (.ref b), some (.ref (E.2.1 0)), some (.ref (E.2.1 66)), some (.int x3)] [] := by
  unfold w_L_law_J763 at hw
  refine vAload_n (pc := 763) hc dL_law_763 rfl ?_
  refine vCallVi (pc := 764) (st := []) hc ok_X8_even tw_636 (c_X8_even hc.2.2.2.2.2.2.1 hc.G hw) (hc.G 0 (Nat.le_of_ble_eq_true rfl)) rfl rfl rfl ⟨rfl, rfl⟩ ⟨Nat.le_of_ble_eq_true rfl, Nat.le_of_ble_eq_true rfl⟩ rfl (Nat.le_of_ble_eq_true rfl) dL_law_764 (fun r764 σ764 hw => ?_)
  refine vAload_n (pc := 767) hc dL_law_767 rfl ?_
  refine vCallVi (pc := 768) (st := [(.int r764)]) hc ok_X9_even tw_1010 (c_X9_even hc.2.2.2.2.2.2.1 hc.G hw) (hc.G 66 (Nat.le_of_ble_eq_true rfl)) rfl rfl rfl ⟨rfl, rfl⟩ ⟨Nat.le_of_ble_eq_true rfl, Nat.le_of_ble_eq_true rfl⟩ rfl (Nat.le_of_ble_eq_true rfl) dL_law_768 (fun r768 σ768 hw => ?_)
  refine vIcmp_eq (pc := 771) (tgt := 891) hc dL_law_771 (by decide) (fun c771 => ?_) (fun c771 => ?_)
  · have hw := hw.1 c771
    refine vIinc (pc := 891) (v := x3 + 8) (L2 := [some (.ref b), some (.ref (E.2.1 0)), some (.ref (E.2.1 66)), some (.int (x3 + 8))]) hc dL_law_891 rfl rfl rfl (Nat.le_of_ble_eq_true rfl) ?_
    refine vGoto (pc := 894) (tgt := 18) hc dL_law_894 (by decide) ?_
    exact vMono (L2 := [some (.ref b), some (.ref (E.2.1 0)), some (.ref (E.2.1 66)), some (.int (x3 + 8))]) (show subL [some (.ref b), some (.ref (E.2.1 0)), some (.ref (E.2.1 66)), some (.int (x3 + 8))] [some (.ref b), some (.ref (E.2.1 0)), some (.ref (E.2.1 66)), some (.int (x3 + 8))] from ⟨rfl, ⟨rfl, ⟨rfl, ⟨rfl, trivial⟩⟩⟩⟩) (hK18 (x3 + 8) _ hw)
  · have hw := hw.2 c771
    refine vIconst (pc := 774) (v := 0) hc dL_law_774 ki_0 ?_
    exact hw.elim
set_option maxRecDepth 100000 in
set_option maxHeartbeats 4000000 in
theorem t_L_law_J750 {p : Program} {l : Launch} {e : Env} {s : State} {m : MethodId} {below : List Frame} {meth : Method} {c : Code} {E : WD} {b Ln kc ks : Nat} {xs : Nat → Int32} (hc : Cx p room_1 s m #[Value.ref b] meth c E (fun q => s.heap.size ≤ q) cL_law RL ret 4 kc ks fdm) (hX : va_X b Ln xs s s.heap ∧ b < s.heap.size) (hlo : kc ≤ 600000) (hks : ks ≤ 7302250) {K18 : Int32 → MS → Prop} (hK18 : ∀ (x3 : Int32) (σ : MS), K18 x3 σ → V p l e room_1 s m #[Value.ref b] below meth c E (fun q => s.heap.size ≤ q) 4 kc ks (lw_Z below #[Value.ref b] s) σ 18 [some (.ref b), some (.ref (E.2.1 0)), some (.ref (E.2.1 66)), some (.int x3)] []) (x3 : Int32) (σ : MS) (hw : w_L_law_J750 Ln xs K18 x3 σ) : V p l e room_1 s m #[Value.ref b] below meth c E (fun q => s.heap.size ≤ q) 4 kc ks (lw_Z below #[Value.ref b] s) σ 750 [some (.ref b), some (.ref (E.2.1 0)), some (.ref (E.2.1 66)), some (.int x3)] [] := by
  unfold w_L_law_J750 at hw
  refine vAload_n (pc := 750) hc dL_law_750 rfl ?_
  refine vCallVi (pc := 751) (st := []) hc ok_X8_same tw_629 (c_X8_same hc.2.2.2.2.2.2.1 hc.G hw) (hc.G 0 (Nat.le_of_ble_eq_true rfl)) rfl rfl rfl ⟨rfl, rfl⟩ ⟨Nat.le_of_ble_eq_true rfl, Nat.le_of_ble_eq_true rfl⟩ rfl (Nat.le_of_ble_eq_true rfl) dL_law_751 (fun r751 σ751 hw => ?_)
  refine vAload_n (pc := 754) hc dL_law_754 rfl ?_
  refine vCallVi (pc := 755) (st := [(.int r751)]) hc ok_X9_same tw_1006 (c_X9_same hc.2.2.2.2.2.2.1 hc.G hw) (hc.G 66 (Nat.le_of_ble_eq_true rfl)) rfl rfl rfl ⟨rfl, rfl⟩ ⟨Nat.le_of_ble_eq_true rfl, Nat.le_of_ble_eq_true rfl⟩ rfl (Nat.le_of_ble_eq_true rfl) dL_law_755 (fun r755 σ755 hw => ?_)
  refine vIcmp_eq (pc := 758) (tgt := 891) hc dL_law_758 (by decide) (fun c758 => ?_) (fun c758 => ?_)
  · have hw := hw.1 c758
    refine vIinc (pc := 891) (v := x3 + 8) (L2 := [some (.ref b), some (.ref (E.2.1 0)), some (.ref (E.2.1 66)), some (.int (x3 + 8))]) hc dL_law_891 rfl rfl rfl (Nat.le_of_ble_eq_true rfl) ?_
    refine vGoto (pc := 894) (tgt := 18) hc dL_law_894 (by decide) ?_
    exact vMono (L2 := [some (.ref b), some (.ref (E.2.1 0)), some (.ref (E.2.1 66)), some (.int (x3 + 8))]) (show subL [some (.ref b), some (.ref (E.2.1 0)), some (.ref (E.2.1 66)), some (.int (x3 + 8))] [some (.ref b), some (.ref (E.2.1 0)), some (.ref (E.2.1 66)), some (.int (x3 + 8))] from ⟨rfl, ⟨rfl, ⟨rfl, ⟨rfl, trivial⟩⟩⟩⟩) (hK18 (x3 + 8) _ hw)
  · have hw := hw.2 c758
    refine vIconst (pc := 761) (v := 0) hc dL_law_761 ki_0 ?_
    exact hw.elim
set_option maxRecDepth 100000 in
set_option maxHeartbeats 4000000 in
theorem t_L_law_J717 {p : Program} {l : Launch} {e : Env} {s : State} {m : MethodId} {below : List Frame} {meth : Method} {c : Code} {E : WD} {b Ln kc ks : Nat} {xs : Nat → Int32} (hc : Cx p room_1 s m #[Value.ref b] meth c E (fun q => s.heap.size ≤ q) cL_law RL ret 4 kc ks fdm) (hX : va_X b Ln xs s s.heap ∧ b < s.heap.size) (hlo : kc ≤ 600000) (hks : ks ≤ 7302250) {K18 : Int32 → MS → Prop} (hK18 : ∀ (x3 : Int32) (σ : MS), K18 x3 σ → V p l e room_1 s m #[Value.ref b] below meth c E (fun q => s.heap.size ≤ q) 4 kc ks (lw_Z below #[Value.ref b] s) σ 18 [some (.ref b), some (.ref (E.2.1 0)), some (.ref (E.2.1 66)), some (.int x3)] []) (x3 : Int32) (σ : MS) (hw : w_L_law_J717 Ln xs K18 x3 σ) : V p l e room_1 s m #[Value.ref b] below meth c E (fun q => s.heap.size ≤ q) 4 kc ks (lw_Z below #[Value.ref b] s) σ 717 [some (.ref b), some (.ref (E.2.1 0)), some (.ref (E.2.1 66)), some (.int x3)] [] := by
  unfold w_L_law_J717 at hw
  refine vAload_n (pc := 717) hc dL_law_717 rfl ?_
  refine vAload_n (pc := 718) hc dL_law_718 rfl ?_
  refine vIload_n (pc := 719) hc dL_law_719 rfl ?_
  refine vIconst (pc := 720) (v := 1) hc dL_law_720 ki_1 ?_
  refine vIadd (pc := 721) hc dL_law_721 ?_
  obtain ⟨hi1, hw⟩ := hw
  refine vSld (pc := 722) hc hX hi1 dL_law_722 ?_
  refine vAload_n (pc := 723) hc dL_law_723 rfl ?_
  refine vIload_n (pc := 724) hc dL_law_724 rfl ?_
  refine vIconst (pc := 725) (v := 2) hc dL_law_725 ki_2 ?_
  refine vIadd (pc := 726) hc dL_law_726 ?_
  obtain ⟨hi2, hw⟩ := hw
  refine vSld (pc := 727) hc hX hi2 dL_law_727 ?_
  refine vCallVi (pc := 728) (st := []) hc ok_X8_poolOf tw_621 (c_X8_poolOf hc.2.2.2.2.2.2.1 hc.G hw) (hc.G 0 (Nat.le_of_ble_eq_true rfl)) rfl rfl rfl ⟨rfl, rfl⟩ ⟨Nat.le_of_ble_eq_true rfl, Nat.le_of_ble_eq_true rfl⟩ rfl (Nat.le_of_ble_eq_true rfl) dL_law_728 (fun r728 σ728 hw => ?_)
  refine vAload_n (pc := 731) hc dL_law_731 rfl ?_
  refine vAload_n (pc := 732) hc dL_law_732 rfl ?_
  refine vIload_n (pc := 733) hc dL_law_733 rfl ?_
  refine vIconst (pc := 734) (v := 1) hc dL_law_734 ki_1 ?_
  refine vIadd (pc := 735) hc dL_law_735 ?_
  refine vSld (pc := 736) hc hX hi1 dL_law_736 ?_
  refine vAload_n (pc := 737) hc dL_law_737 rfl ?_
  refine vIload_n (pc := 738) hc dL_law_738 rfl ?_
  refine vIconst (pc := 739) (v := 2) hc dL_law_739 ki_2 ?_
  refine vIadd (pc := 740) hc dL_law_740 ?_
  refine vSld (pc := 741) hc hX hi2 dL_law_741 ?_
  refine vCallVi (pc := 742) (st := [(.int r728)]) hc ok_X9_poolOf tw_1002 (c_X9_poolOf hc.2.2.2.2.2.2.1 hc.G hw) (hc.G 66 (Nat.le_of_ble_eq_true rfl)) rfl rfl rfl ⟨rfl, rfl⟩ ⟨Nat.le_of_ble_eq_true rfl, Nat.le_of_ble_eq_true rfl⟩ rfl (Nat.le_of_ble_eq_true rfl) dL_law_742 (fun r742 σ742 hw => ?_)
  refine vIcmp_eq (pc := 745) (tgt := 891) hc dL_law_745 (by decide) (fun c745 => ?_) (fun c745 => ?_)
  · have hw := hw.1 c745
    refine vIinc (pc := 891) (v := x3 + 8) (L2 := [some (.ref b), some (.ref (E.2.1 0)), some (.ref (E.2.1 66)), some (.int (x3 + 8))]) hc dL_law_891 rfl rfl rfl (Nat.le_of_ble_eq_true rfl) ?_
    refine vGoto (pc := 894) (tgt := 18) hc dL_law_894 (by decide) ?_
    exact vMono (L2 := [some (.ref b), some (.ref (E.2.1 0)), some (.ref (E.2.1 66)), some (.int (x3 + 8))]) (show subL [some (.ref b), some (.ref (E.2.1 0)), some (.ref (E.2.1 66)), some (.int (x3 + 8))] [some (.ref b), some (.ref (E.2.1 0)), some (.ref (E.2.1 66)), some (.int (x3 + 8))] from ⟨rfl, ⟨rfl, ⟨rfl, ⟨rfl, trivial⟩⟩⟩⟩) (hK18 (x3 + 8) _ hw)
  · have hw := hw.2 c745
    refine vIconst (pc := 748) (v := 0) hc dL_law_748 ki_0 ?_
    exact hw.elim
set_option maxRecDepth 100000 in
set_option maxHeartbeats 4000000 in
theorem t_L_law_J694 {p : Program} {l : Launch} {e : Env} {s : State} {m : MethodId} {below : List Frame} {meth : Method} {c : Code} {E : WD} {b Ln kc ks : Nat} {xs : Nat → Int32} (hc : Cx p room_1 s m #[Value.ref b] meth c E (fun q => s.heap.size ≤ q) cL_law RL ret 4 kc ks fdm) (hX : va_X b Ln xs s s.heap ∧ b < s.heap.size) (hlo : kc ≤ 600000) (hks : ks ≤ 7302250) {K18 : Int32 → MS → Prop} (hK18 : ∀ (x3 : Int32) (σ : MS), K18 x3 σ → V p l e room_1 s m #[Value.ref b] below meth c E (fun q => s.heap.size ≤ q) 4 kc ks (lw_Z below #[Value.ref b] s) σ 18 [some (.ref b), some (.ref (E.2.1 0)), some (.ref (E.2.1 66)), some (.int x3)] []) (x3 : Int32) (σ : MS) (hw : w_L_law_J694 Ln xs K18 x3 σ) : V p l e room_1 s m #[Value.ref b] below meth c E (fun q => s.heap.size ≤ q) 4 kc ks (lw_Z below #[Value.ref b] s) σ 694 [some (.ref b), some (.ref (E.2.1 0)), some (.ref (E.2.1 66)), some (.int x3)] [] := by
  unfold w_L_law_J694 at hw
  refine vAload_n (pc := 694) hc dL_law_694 rfl ?_
  refine vAload_n (pc := 695) hc dL_law_695 rfl ?_
  refine vIload_n (pc := 696) hc dL_law_696 rfl ?_
  refine vIconst (pc := 697) (v := 1) hc dL_law_697 ki_1 ?_
  refine vIadd (pc := 698) hc dL_law_698 ?_
  obtain ⟨hi1, hw⟩ := hw
  refine vSld (pc := 699) hc hX hi1 dL_law_699 ?_
  refine vCallVi (pc := 700) (st := []) hc ok_X8_planOf tw_600 (c_X8_planOf hc.2.2.2.2.2.2.1 hc.G hw) (hc.G 0 (Nat.le_of_ble_eq_true rfl)) rfl rfl rfl ⟨rfl, rfl⟩ ⟨Nat.le_of_ble_eq_true rfl, Nat.le_of_ble_eq_true rfl⟩ rfl (Nat.le_of_ble_eq_true rfl) dL_law_700 (fun r700 σ700 hw => ?_)
  refine vAload_n (pc := 703) hc dL_law_703 rfl ?_
  refine vAload_n (pc := 704) hc dL_law_704 rfl ?_
  refine vIload_n (pc := 705) hc dL_law_705 rfl ?_
  refine vIconst (pc := 706) (v := 1) hc dL_law_706 ki_1 ?_
  refine vIadd (pc := 707) hc dL_law_707 ?_
  refine vSld (pc := 708) hc hX hi1 dL_law_708 ?_
  refine vCallVi (pc := 709) (st := [(.int r700)]) hc ok_X9_planOf tw_990 (c_X9_planOf hc.2.2.2.2.2.2.1 hc.G hw) (hc.G 66 (Nat.le_of_ble_eq_true rfl)) rfl rfl rfl ⟨rfl, rfl⟩ ⟨Nat.le_of_ble_eq_true rfl, Nat.le_of_ble_eq_true rfl⟩ rfl (Nat.le_of_ble_eq_true rfl) dL_law_709 (fun r709 σ709 hw => ?_)
  refine vIcmp_eq (pc := 712) (tgt := 891) hc dL_law_712 (by decide) (fun c712 => ?_) (fun c712 => ?_)
  · have hw := hw.1 c712
    refine vIinc (pc := 891) (v := x3 + 8) (L2 := [some (.ref b), some (.ref (E.2.1 0)), some (.ref (E.2.1 66)), some (.int (x3 + 8))]) hc dL_law_891 rfl rfl rfl (Nat.le_of_ble_eq_true rfl) ?_
    refine vGoto (pc := 894) (tgt := 18) hc dL_law_894 (by decide) ?_
    exact vMono (L2 := [some (.ref b), some (.ref (E.2.1 0)), some (.ref (E.2.1 66)), some (.int (x3 + 8))]) (show subL [some (.ref b), some (.ref (E.2.1 0)), some (.ref (E.2.1 66)), some (.int (x3 + 8))] [some (.ref b), some (.ref (E.2.1 0)), some (.ref (E.2.1 66)), some (.int (x3 + 8))] from ⟨rfl, ⟨rfl, ⟨rfl, ⟨rfl, trivial⟩⟩⟩⟩) (hK18 (x3 + 8) _ hw)
  · have hw := hw.2 c712
    refine vIconst (pc := 715) (v := 0) hc dL_law_715 ki_0 ?_
    exact hw.elim
set_option maxRecDepth 100000 in
set_option maxHeartbeats 4000000 in
theorem t_L_law_J681 {p : Program} {l : Launch} {e : Env} {s : State} {m : MethodId} {below : List Frame} {meth : Method} {c : Code} {E : WD} {b Ln kc ks : Nat} {xs : Nat → Int32} (hc : Cx p room_1 s m #[Value.ref b] meth c E (fun q => s.heap.size ≤ q) cL_law RL ret 4 kc ks fdm) (hX : va_X b Ln xs s s.heap ∧ b < s.heap.size) (hlo : kc ≤ 600000) (hks : ks ≤ 7302250) {K18 : Int32 → MS → Prop} (hK18 : ∀ (x3 : Int32) (σ : MS), K18 x3 σ → V p l e room_1 s m #[Value.ref b] below meth c E (fun q => s.heap.size ≤ q) 4 kc ks (lw_Z below #[Value.ref b] s) σ 18 [some (.ref b), some (.ref (E.2.1 0)), some (.ref (E.2.1 66)), some (.int x3)] []) (x3 : Int32) (σ : MS) (hw : w_L_law_J681 Ln xs K18 x3 σ) : V p l e room_1 s m #[Value.ref b] below meth c E (fun q => s.heap.size ≤ q) 4 kc ks (lw_Z below #[Value.ref b] s) σ 681 [some (.ref b), some (.ref (E.2.1 0)), some (.ref (E.2.1 66)), some (.int x3)] [] := by
  unfold w_L_law_J681 at hw
  refine vAload_n (pc := 681) hc dL_law_681 rfl ?_
  refine vCallVi (pc := 682) (st := []) hc ok_X8_plan tw_537 (c_X8_plan hc.2.2.2.2.2.2.1 hc.G hw) (hc.G 0 (Nat.le_of_ble_eq_true rfl)) rfl rfl rfl ⟨rfl, rfl⟩ ⟨Nat.le_of_ble_eq_true rfl, Nat.le_of_ble_eq_true rfl⟩ rfl (Nat.le_of_ble_eq_true rfl) dL_law_682 (fun r682 σ682 hw => ?_)
  refine vAload_n (pc := 685) hc dL_law_685 rfl ?_
  refine vCallVi (pc := 686) (st := [(.int r682)]) hc ok_X9_plan tw_966 (c_X9_plan hc.2.2.2.2.2.2.1 hc.G hw) (hc.G 66 (Nat.le_of_ble_eq_true rfl)) rfl rfl rfl ⟨rfl, rfl⟩ ⟨Nat.le_of_ble_eq_true rfl, Nat.le_of_ble_eq_true rfl⟩ rfl (Nat.le_of_ble_eq_true rfl) dL_law_686 (fun r686 σ686 hw => ?_)
  refine vIcmp_eq (pc := 689) (tgt := 891) hc dL_law_689 (by decide) (fun c689 => ?_) (fun c689 => ?_)
  · have hw := hw.1 c689
    refine vIinc (pc := 891) (v := x3 + 8) (L2 := [some (.ref b), some (.ref (E.2.1 0)), some (.ref (E.2.1 66)), some (.int (x3 + 8))]) hc dL_law_891 rfl rfl rfl (Nat.le_of_ble_eq_true rfl) ?_
    refine vGoto (pc := 894) (tgt := 18) hc dL_law_894 (by decide) ?_
    exact vMono (L2 := [some (.ref b), some (.ref (E.2.1 0)), some (.ref (E.2.1 66)), some (.int (x3 + 8))]) (show subL [some (.ref b), some (.ref (E.2.1 0)), some (.ref (E.2.1 66)), some (.int (x3 + 8))] [some (.ref b), some (.ref (E.2.1 0)), some (.ref (E.2.1 66)), some (.int (x3 + 8))] from ⟨rfl, ⟨rfl, ⟨rfl, ⟨rfl, trivial⟩⟩⟩⟩) (hK18 (x3 + 8) _ hw)
  · have hw := hw.2 c689
    refine vIconst (pc := 692) (v := 0) hc dL_law_692 ki_0 ?_
    exact hw.elim
set_option maxRecDepth 100000 in
set_option maxHeartbeats 4000000 in
theorem t_L_law_J658 {p : Program} {l : Launch} {e : Env} {s : State} {m : MethodId} {below : List Frame} {meth : Method} {c : Code} {E : WD} {b Ln kc ks : Nat} {xs : Nat → Int32} (hc : Cx p room_1 s m #[Value.ref b] meth c E (fun q => s.heap.size ≤ q) cL_law RL ret 4 kc ks fdm) (hX : va_X b Ln xs s s.heap ∧ b < s.heap.size) (hlo : kc ≤ 600000) (hks : ks ≤ 7302250) {K18 : Int32 → MS → Prop} (hK18 : ∀ (x3 : Int32) (σ : MS), K18 x3 σ → V p l e room_1 s m #[Value.ref b] below meth c E (fun q => s.heap.size ≤ q) 4 kc ks (lw_Z below #[Value.ref b] s) σ 18 [some (.ref b), some (.ref (E.2.1 0)), some (.ref (E.2.1 66)), some (.int x3)] []) (x3 : Int32) (σ : MS) (hw : w_L_law_J658 Ln xs K18 x3 σ) : V p l e room_1 s m #[Value.ref b] below meth c E (fun q => s.heap.size ≤ q) 4 kc ks (lw_Z below #[Value.ref b] s) σ 658 [some (.ref b), some (.ref (E.2.1 0)), some (.ref (E.2.1 66)), some (.int x3)] [] := by
  unfold w_L_law_J658 at hw
  refine vAload_n (pc := 658) hc dL_law_658 rfl ?_
  refine vAload_n (pc := 659) hc dL_law_659 rfl ?_
  refine vIload_n (pc := 660) hc dL_law_660 rfl ?_
  refine vIconst (pc := 661) (v := 1) hc dL_law_661 ki_1 ?_
  refine vIadd (pc := 662) hc dL_law_662 ?_
  obtain ⟨hi1, hw⟩ := hw
  refine vSld (pc := 663) hc hX hi1 dL_law_663 ?_
  refine vCallVi (pc := 664) (st := []) hc ok_X8_turn tw_529 (c_X8_turn hc.2.2.2.2.2.2.1 hc.G hw) (hc.G 0 (Nat.le_of_ble_eq_true rfl)) rfl rfl rfl ⟨rfl, rfl⟩ ⟨Nat.le_of_ble_eq_true rfl, Nat.le_of_ble_eq_true rfl⟩ rfl (Nat.le_of_ble_eq_true rfl) dL_law_664 (fun r664 σ664 hw => ?_)
  refine vAload_n (pc := 667) hc dL_law_667 rfl ?_
  refine vAload_n (pc := 668) hc dL_law_668 rfl ?_
  refine vIload_n (pc := 669) hc dL_law_669 rfl ?_
  refine vIconst (pc := 670) (v := 1) hc dL_law_670 ki_1 ?_
  refine vIadd (pc := 671) hc dL_law_671 ?_
  refine vSld (pc := 672) hc hX hi1 dL_law_672 ?_
  refine vCallVi (pc := 673) (st := [(.int r664)]) hc ok_X9_turn tw_958 (c_X9_turn hc.2.2.2.2.2.2.1 hc.G hw) (hc.G 66 (Nat.le_of_ble_eq_true rfl)) rfl rfl rfl ⟨rfl, rfl⟩ ⟨Nat.le_of_ble_eq_true rfl, Nat.le_of_ble_eq_true rfl⟩ rfl (Nat.le_of_ble_eq_true rfl) dL_law_673 (fun r673 σ673 hw => ?_)
  refine vIcmp_eq (pc := 676) (tgt := 891) hc dL_law_676 (by decide) (fun c676 => ?_) (fun c676 => ?_)
  · have hw := hw.1 c676
    refine vIinc (pc := 891) (v := x3 + 8) (L2 := [some (.ref b), some (.ref (E.2.1 0)), some (.ref (E.2.1 66)), some (.int (x3 + 8))]) hc dL_law_891 rfl rfl rfl (Nat.le_of_ble_eq_true rfl) ?_
    refine vGoto (pc := 894) (tgt := 18) hc dL_law_894 (by decide) ?_
    exact vMono (L2 := [some (.ref b), some (.ref (E.2.1 0)), some (.ref (E.2.1 66)), some (.int (x3 + 8))]) (show subL [some (.ref b), some (.ref (E.2.1 0)), some (.ref (E.2.1 66)), some (.int (x3 + 8))] [some (.ref b), some (.ref (E.2.1 0)), some (.ref (E.2.1 66)), some (.int (x3 + 8))] from ⟨rfl, ⟨rfl, ⟨rfl, ⟨rfl, trivial⟩⟩⟩⟩) (hK18 (x3 + 8) _ hw)
  · have hw := hw.2 c676
    refine vIconst (pc := 679) (v := 0) hc dL_law_679 ki_0 ?_
    exact hw.elim
set_option maxRecDepth 100000 in
set_option maxHeartbeats 4000000 in
theorem t_L_law_J635 {p : Program} {l : Launch} {e : Env} {s : State} {m : MethodId} {below : List Frame} {meth : Method} {c : Code} {E : WD} {b Ln kc ks : Nat} {xs : Nat → Int32} (hc : Cx p room_1 s m #[Value.ref b] meth c E (fun q => s.heap.size ≤ q) cL_law RL ret 4 kc ks fdm) (hX : va_X b Ln xs s s.heap ∧ b < s.heap.size) (hlo : kc ≤ 600000) (hks : ks ≤ 7302250) {K18 : Int32 → MS → Prop} (hK18 : ∀ (x3 : Int32) (σ : MS), K18 x3 σ → V p l e room_1 s m #[Value.ref b] below meth c E (fun q => s.heap.size ≤ q) 4 kc ks (lw_Z below #[Value.ref b] s) σ 18 [some (.ref b), some (.ref (E.2.1 0)), some (.ref (E.2.1 66)), some (.int x3)] []) (x3 : Int32) (σ : MS) (hw : w_L_law_J635 Ln xs K18 x3 σ) : V p l e room_1 s m #[Value.ref b] below meth c E (fun q => s.heap.size ≤ q) 4 kc ks (lw_Z below #[Value.ref b] s) σ 635 [some (.ref b), some (.ref (E.2.1 0)), some (.ref (E.2.1 66)), some (.int x3)] [] := by
  unfold w_L_law_J635 at hw
  refine vAload_n (pc := 635) hc dL_law_635 rfl ?_
  refine vAload_n (pc := 636) hc dL_law_636 rfl ?_
  refine vIload_n (pc := 637) hc dL_law_637 rfl ?_
  refine vIconst (pc := 638) (v := 1) hc dL_law_638 ki_1 ?_
  refine vIadd (pc := 639) hc dL_law_639 ?_
  obtain ⟨hi1, hw⟩ := hw
  refine vSld (pc := 640) hc hX hi1 dL_law_640 ?_
  refine vCallVi (pc := 641) (st := []) hc ok_X8_driver tw_521 (c_X8_driver hc.2.2.2.2.2.2.1 hc.G hw) (hc.G 0 (Nat.le_of_ble_eq_true rfl)) rfl rfl rfl ⟨rfl, rfl⟩ ⟨Nat.le_of_ble_eq_true rfl, Nat.le_of_ble_eq_true rfl⟩ rfl (Nat.le_of_ble_eq_true rfl) dL_law_641 (fun r641 σ641 hw => ?_)
  refine vAload_n (pc := 644) hc dL_law_644 rfl ?_
  refine vAload_n (pc := 645) hc dL_law_645 rfl ?_
  refine vIload_n (pc := 646) hc dL_law_646 rfl ?_
  refine vIconst (pc := 647) (v := 1) hc dL_law_647 ki_1 ?_
  refine vIadd (pc := 648) hc dL_law_648 ?_
  refine vSld (pc := 649) hc hX hi1 dL_law_649 ?_
  refine vCallVi (pc := 650) (st := [(.int r641)]) hc ok_X9_driver tw_954 (c_X9_driver hc.2.2.2.2.2.2.1 hc.G hw) (hc.G 66 (Nat.le_of_ble_eq_true rfl)) rfl rfl rfl ⟨rfl, rfl⟩ ⟨Nat.le_of_ble_eq_true rfl, Nat.le_of_ble_eq_true rfl⟩ rfl (Nat.le_of_ble_eq_true rfl) dL_law_650 (fun r650 σ650 hw => ?_)
  refine vIcmp_eq (pc := 653) (tgt := 891) hc dL_law_653 (by decide) (fun c653 => ?_) (fun c653 => ?_)
  · have hw := hw.1 c653
    refine vIinc (pc := 891) (v := x3 + 8) (L2 := [some (.ref b), some (.ref (E.2.1 0)), some (.ref (E.2.1 66)), some (.int (x3 + 8))]) hc dL_law_891 rfl rfl rfl (Nat.le_of_ble_eq_true rfl) ?_
    refine vGoto (pc := 894) (tgt := 18) hc dL_law_894 (by decide) ?_
    exact vMono (L2 := [some (.ref b), some (.ref (E.2.1 0)), some (.ref (E.2.1 66)), some (.int (x3 + 8))]) (show subL [some (.ref b), some (.ref (E.2.1 0)), some (.ref (E.2.1 66)), some (.int (x3 + 8))] [some (.ref b), some (.ref (E.2.1 0)), some (.ref (E.2.1 66)), some (.int (x3 + 8))] from ⟨rfl, ⟨rfl, ⟨rfl, ⟨rfl, trivial⟩⟩⟩⟩) (hK18 (x3 + 8) _ hw)
  · have hw := hw.2 c653
    refine vIconst (pc := 656) (v := 0) hc dL_law_656 ki_0 ?_
    exact hw.elim
set_option maxRecDepth 100000 in
set_option maxHeartbeats 4000000 in
theorem t_L_law_J612 {p : Program} {l : Launch} {e : Env} {s : State} {m : MethodId} {below : List Frame} {meth : Method} {c : Code} {E : WD} {b Ln kc ks : Nat} {xs : Nat → Int32} (hc : Cx p room_1 s m #[Value.ref b] meth c E (fun q => s.heap.size ≤ q) cL_law RL ret 4 kc ks fdm) (hX : va_X b Ln xs s s.heap ∧ b < s.heap.size) (hlo : kc ≤ 600000) (hks : ks ≤ 7302250) {K18 : Int32 → MS → Prop} (hK18 : ∀ (x3 : Int32) (σ : MS), K18 x3 σ → V p l e room_1 s m #[Value.ref b] below meth c E (fun q => s.heap.size ≤ q) 4 kc ks (lw_Z below #[Value.ref b] s) σ 18 [some (.ref b), some (.ref (E.2.1 0)), some (.ref (E.2.1 66)), some (.int x3)] []) (x3 : Int32) (σ : MS) (hw : w_L_law_J612 Ln xs K18 x3 σ) : V p l e room_1 s m #[Value.ref b] below meth c E (fun q => s.heap.size ≤ q) 4 kc ks (lw_Z below #[Value.ref b] s) σ 612 [some (.ref b), some (.ref (E.2.1 0)), some (.ref (E.2.1 66)), some (.int x3)] [] := by
  unfold w_L_law_J612 at hw
  refine vAload_n (pc := 612) hc dL_law_612 rfl ?_
  refine vAload_n (pc := 613) hc dL_law_613 rfl ?_
  refine vIload_n (pc := 614) hc dL_law_614 rfl ?_
  refine vIconst (pc := 615) (v := 1) hc dL_law_615 ki_1 ?_
  refine vIadd (pc := 616) hc dL_law_616 ?_
  obtain ⟨hi1, hw⟩ := hw
  refine vSld (pc := 617) hc hX hi1 dL_law_617 ?_
  refine vCallVi (pc := 618) (st := []) hc ok_X8_cost tw_502 (c_X8_cost hc.2.2.2.2.2.2.1 hc.G hw) (hc.G 0 (Nat.le_of_ble_eq_true rfl)) rfl rfl rfl ⟨rfl, rfl⟩ ⟨Nat.le_of_ble_eq_true rfl, Nat.le_of_ble_eq_true rfl⟩ rfl (Nat.le_of_ble_eq_true rfl) dL_law_618 (fun r618 σ618 hw => ?_)
  refine vAload_n (pc := 621) hc dL_law_621 rfl ?_
  refine vAload_n (pc := 622) hc dL_law_622 rfl ?_
  refine vIload_n (pc := 623) hc dL_law_623 rfl ?_
  refine vIconst (pc := 624) (v := 1) hc dL_law_624 ki_1 ?_
  refine vIadd (pc := 625) hc dL_law_625 ?_
  refine vSld (pc := 626) hc hX hi1 dL_law_626 ?_
  refine vCallVi (pc := 627) (st := [(.int r618)]) hc ok_X9_cost tw_942 (c_X9_cost hc.2.2.2.2.2.2.1 hc.G hw) (hc.G 66 (Nat.le_of_ble_eq_true rfl)) rfl rfl rfl ⟨rfl, rfl⟩ ⟨Nat.le_of_ble_eq_true rfl, Nat.le_of_ble_eq_true rfl⟩ rfl (Nat.le_of_ble_eq_true rfl) dL_law_627 (fun r627 σ627 hw => ?_)
  refine vIcmp_eq (pc := 630) (tgt := 891) hc dL_law_630 (by decide) (fun c630 => ?_) (fun c630 => ?_)
  · have hw := hw.1 c630
    refine vIinc (pc := 891) (v := x3 + 8) (L2 := [some (.ref b), some (.ref (E.2.1 0)), some (.ref (E.2.1 66)), some (.int (x3 + 8))]) hc dL_law_891 rfl rfl rfl (Nat.le_of_ble_eq_true rfl) ?_
    refine vGoto (pc := 894) (tgt := 18) hc dL_law_894 (by decide) ?_
    exact vMono (L2 := [some (.ref b), some (.ref (E.2.1 0)), some (.ref (E.2.1 66)), some (.int (x3 + 8))]) (show subL [some (.ref b), some (.ref (E.2.1 0)), some (.ref (E.2.1 66)), some (.int (x3 + 8))] [some (.ref b), some (.ref (E.2.1 0)), some (.ref (E.2.1 66)), some (.int (x3 + 8))] from ⟨rfl, ⟨rfl, ⟨rfl, ⟨rfl, trivial⟩⟩⟩⟩) (hK18 (x3 + 8) _ hw)
  · have hw := hw.2 c630
    refine vIconst (pc := 633) (v := 0) hc dL_law_633 ki_0 ?_
    exact hw.elim
set_option maxRecDepth 100000 in
set_option maxHeartbeats 4000000 in
theorem t_L_law_J569 {p : Program} {l : Launch} {e : Env} {s : State} {m : MethodId} {below : List Frame} {meth : Method} {c : Code} {E : WD} {b Ln kc ks : Nat} {xs : Nat → Int32} (hc : Cx p room_1 s m #[Value.ref b] meth c E (fun q => s.heap.size ≤ q) cL_law RL ret 4 kc ks fdm) (hX : va_X b Ln xs s s.heap ∧ b < s.heap.size) (hlo : kc ≤ 600000) (hks : ks ≤ 7302250) {K18 : Int32 → MS → Prop} (hK18 : ∀ (x3 : Int32) (σ : MS), K18 x3 σ → V p l e room_1 s m #[Value.ref b] below meth c E (fun q => s.heap.size ≤ q) 4 kc ks (lw_Z below #[Value.ref b] s) σ 18 [some (.ref b), some (.ref (E.2.1 0)), some (.ref (E.2.1 66)), some (.int x3)] []) (x3 : Int32) (σ : MS) (hw : w_L_law_J569 Ln xs K18 x3 σ) : V p l e room_1 s m #[Value.ref b] below meth c E (fun q => s.heap.size ≤ q) 4 kc ks (lw_Z below #[Value.ref b] s) σ 569 [some (.ref b), some (.ref (E.2.1 0)), some (.ref (E.2.1 66)), some (.int x3)] [] := by
  unfold w_L_law_J569 at hw
  refine vAload_n (pc := 569) hc dL_law_569 rfl ?_
  refine vAload_n (pc := 570) hc dL_law_570 rfl ?_
  refine vIload_n (pc := 571) hc dL_law_571 rfl ?_
  refine vIconst (pc := 572) (v := 1) hc dL_law_572 ki_1 ?_
  refine vIadd (pc := 573) hc dL_law_573 ?_
  obtain ⟨hi1, hw⟩ := hw
  refine vSld (pc := 574) hc hX hi1 dL_law_574 ?_
  refine vAload_n (pc := 575) hc dL_law_575 rfl ?_
  refine vIload_n (pc := 576) hc dL_law_576 rfl ?_
  refine vIconst (pc := 577) (v := 2) hc dL_law_577 ki_2 ?_
  refine vIadd (pc := 578) hc dL_law_578 ?_
  obtain ⟨hi2, hw⟩ := hw
  refine vSld (pc := 579) hc hX hi2 dL_law_579 ?_
  refine vAload_n (pc := 580) hc dL_law_580 rfl ?_
  refine vIload_n (pc := 581) hc dL_law_581 rfl ?_
  refine vIconst (pc := 582) (v := 3) hc dL_law_582 ki_3 ?_
  refine vIadd (pc := 583) hc dL_law_583 ?_
  obtain ⟨hi3, hw⟩ := hw
  refine vSld (pc := 584) hc hX hi3 dL_law_584 ?_
  refine vCallVi (pc := 585) (st := []) hc ok_X8_way tw_494 (c_X8_way hc.2.2.2.2.2.2.1 hc.G hw) (hc.G 0 (Nat.le_of_ble_eq_true rfl)) rfl rfl rfl ⟨rfl, rfl⟩ ⟨Nat.le_of_ble_eq_true rfl, Nat.le_of_ble_eq_true rfl⟩ rfl (Nat.le_of_ble_eq_true rfl) dL_law_585 (fun r585 σ585 hw => ?_)
  refine vAload_n (pc := 588) hc dL_law_588 rfl ?_
  refine vAload_n (pc := 589) hc dL_law_589 rfl ?_
  refine vIload_n (pc := 590) hc dL_law_590 rfl ?_
  refine vIconst (pc := 591) (v := 1) hc dL_law_591 ki_1 ?_
  refine vIadd (pc := 592) hc dL_law_592 ?_
  refine vSld (pc := 593) hc hX hi1 dL_law_593 ?_
  refine vAload_n (pc := 594) hc dL_law_594 rfl ?_
  refine vIload_n (pc := 595) hc dL_law_595 rfl ?_
  refine vIconst (pc := 596) (v := 2) hc dL_law_596 ki_2 ?_
  refine vIadd (pc := 597) hc dL_law_597 ?_
  refine vSld (pc := 598) hc hX hi2 dL_law_598 ?_
  refine vAload_n (pc := 599) hc dL_law_599 rfl ?_
  refine vIload_n (pc := 600) hc dL_law_600 rfl ?_
  refine vIconst (pc := 601) (v := 3) hc dL_law_601 ki_3 ?_
  refine vIadd (pc := 602) hc dL_law_602 ?_
  refine vSld (pc := 603) hc hX hi3 dL_law_603 ?_
  refine vCallVi (pc := 604) (st := [(.int r585)]) hc ok_X9_way tw_938 (c_X9_way hc.2.2.2.2.2.2.1 hc.G hw) (hc.G 66 (Nat.le_of_ble_eq_true rfl)) rfl rfl rfl ⟨rfl, rfl⟩ ⟨Nat.le_of_ble_eq_true rfl, Nat.le_of_ble_eq_true rfl⟩ rfl (Nat.le_of_ble_eq_true rfl) dL_law_604 (fun r604 σ604 hw => ?_)
  refine vIcmp_eq (pc := 607) (tgt := 891) hc dL_law_607 (by decide) (fun c607 => ?_) (fun c607 => ?_)
  · have hw := hw.1 c607
    refine vIinc (pc := 891) (v := x3 + 8) (L2 := [some (.ref b), some (.ref (E.2.1 0)), some (.ref (E.2.1 66)), some (.int (x3 + 8))]) hc dL_law_891 rfl rfl rfl (Nat.le_of_ble_eq_true rfl) ?_
    refine vGoto (pc := 894) (tgt := 18) hc dL_law_894 (by decide) ?_
    exact vMono (L2 := [some (.ref b), some (.ref (E.2.1 0)), some (.ref (E.2.1 66)), some (.int (x3 + 8))]) (show subL [some (.ref b), some (.ref (E.2.1 0)), some (.ref (E.2.1 66)), some (.int (x3 + 8))] [some (.ref b), some (.ref (E.2.1 0)), some (.ref (E.2.1 66)), some (.int (x3 + 8))] from ⟨rfl, ⟨rfl, ⟨rfl, ⟨rfl, trivial⟩⟩⟩⟩) (hK18 (x3 + 8) _ hw)
  · have hw := hw.2 c607
    refine vIconst (pc := 610) (v := 0) hc dL_law_610 ki_0 ?_
    exact hw.elim
set_option maxRecDepth 100000 in
set_option maxHeartbeats 4000000 in
theorem t_L_law_J536 {p : Program} {l : Launch} {e : Env} {s : State} {m : MethodId} {below : List Frame} {meth : Method} {c : Code} {E : WD} {b Ln kc ks : Nat} {xs : Nat → Int32} (hc : Cx p room_1 s m #[Value.ref b] meth c E (fun q => s.heap.size ≤ q) cL_law RL ret 4 kc ks fdm) (hX : va_X b Ln xs s s.heap ∧ b < s.heap.size) (hlo : kc ≤ 600000) (hks : ks ≤ 7302250) {K18 : Int32 → MS → Prop} (hK18 : ∀ (x3 : Int32) (σ : MS), K18 x3 σ → V p l e room_1 s m #[Value.ref b] below meth c E (fun q => s.heap.size ≤ q) 4 kc ks (lw_Z below #[Value.ref b] s) σ 18 [some (.ref b), some (.ref (E.2.1 0)), some (.ref (E.2.1 66)), some (.int x3)] []) (x3 : Int32) (σ : MS) (hw : w_L_law_J536 Ln xs K18 x3 σ) : V p l e room_1 s m #[Value.ref b] below meth c E (fun q => s.heap.size ≤ q) 4 kc ks (lw_Z below #[Value.ref b] s) σ 536 [some (.ref b), some (.ref (E.2.1 0)), some (.ref (E.2.1 66)), some (.int x3)] [] := by
  unfold w_L_law_J536 at hw
  refine vAload_n (pc := 536) hc dL_law_536 rfl ?_
  refine vAload_n (pc := 537) hc dL_law_537 rfl ?_
  refine vIload_n (pc := 538) hc dL_law_538 rfl ?_
  refine vIconst (pc := 539) (v := 1) hc dL_law_539 ki_1 ?_
  refine vIadd (pc := 540) hc dL_law_540 ?_
  obtain ⟨hi1, hw⟩ := hw
  refine vSld (pc := 541) hc hX hi1 dL_law_541 ?_
  refine vAload_n (pc := 542) hc dL_law_542 rfl ?_
  refine vIload_n (pc := 543) hc dL_law_543 rfl ?_
  refine vIconst (pc := 544) (v := 2) hc dL_law_544 ki_2 ?_
  refine vIadd (pc := 545) hc dL_law_545 ?_
  obtain ⟨hi2, hw⟩ := hw
  refine vSld (pc := 546) hc hX hi2 dL_law_546 ?_
  refine vCallVi (pc := 547) (st := []) hc ok_X8_why tw_490 (c_X8_why hc.2.2.2.2.2.2.1 hc.G hw) (hc.G 0 (Nat.le_of_ble_eq_true rfl)) rfl rfl rfl ⟨rfl, rfl⟩ ⟨Nat.le_of_ble_eq_true rfl, Nat.le_of_ble_eq_true rfl⟩ rfl (Nat.le_of_ble_eq_true rfl) dL_law_547 (fun r547 σ547 hw => ?_)
  refine vAload_n (pc := 550) hc dL_law_550 rfl ?_
  refine vAload_n (pc := 551) hc dL_law_551 rfl ?_
  refine vIload_n (pc := 552) hc dL_law_552 rfl ?_
  refine vIconst (pc := 553) (v := 1) hc dL_law_553 ki_1 ?_
  refine vIadd (pc := 554) hc dL_law_554 ?_
  refine vSld (pc := 555) hc hX hi1 dL_law_555 ?_
  refine vAload_n (pc := 556) hc dL_law_556 rfl ?_
  refine vIload_n (pc := 557) hc dL_law_557 rfl ?_
  refine vIconst (pc := 558) (v := 2) hc dL_law_558 ki_2 ?_
  refine vIadd (pc := 559) hc dL_law_559 ?_
  refine vSld (pc := 560) hc hX hi2 dL_law_560 ?_
  refine vCallVi (pc := 561) (st := [(.int r547)]) hc ok_X9_why tw_934 (c_X9_why hc.2.2.2.2.2.2.1 hc.G hw) (hc.G 66 (Nat.le_of_ble_eq_true rfl)) rfl rfl rfl ⟨rfl, rfl⟩ ⟨Nat.le_of_ble_eq_true rfl, Nat.le_of_ble_eq_true rfl⟩ rfl (Nat.le_of_ble_eq_true rfl) dL_law_561 (fun r561 σ561 hw => ?_)
  refine vIcmp_eq (pc := 564) (tgt := 891) hc dL_law_564 (by decide) (fun c564 => ?_) (fun c564 => ?_)
  · have hw := hw.1 c564
    refine vIinc (pc := 891) (v := x3 + 8) (L2 := [some (.ref b), some (.ref (E.2.1 0)), some (.ref (E.2.1 66)), some (.int (x3 + 8))]) hc dL_law_891 rfl rfl rfl (Nat.le_of_ble_eq_true rfl) ?_
    refine vGoto (pc := 894) (tgt := 18) hc dL_law_894 (by decide) ?_
    exact vMono (L2 := [some (.ref b), some (.ref (E.2.1 0)), some (.ref (E.2.1 66)), some (.int (x3 + 8))]) (show subL [some (.ref b), some (.ref (E.2.1 0)), some (.ref (E.2.1 66)), some (.int (x3 + 8))] [some (.ref b), some (.ref (E.2.1 0)), some (.ref (E.2.1 66)), some (.int (x3 + 8))] from ⟨rfl, ⟨rfl, ⟨rfl, ⟨rfl, trivial⟩⟩⟩⟩) (hK18 (x3 + 8) _ hw)
  · have hw := hw.2 c564
    refine vIconst (pc := 567) (v := 0) hc dL_law_567 ki_0 ?_
    exact hw.elim
set_option maxRecDepth 100000 in
set_option maxHeartbeats 4000000 in
theorem t_L_law_J503 {p : Program} {l : Launch} {e : Env} {s : State} {m : MethodId} {below : List Frame} {meth : Method} {c : Code} {E : WD} {b Ln kc ks : Nat} {xs : Nat → Int32} (hc : Cx p room_1 s m #[Value.ref b] meth c E (fun q => s.heap.size ≤ q) cL_law RL ret 4 kc ks fdm) (hX : va_X b Ln xs s s.heap ∧ b < s.heap.size) (hlo : kc ≤ 600000) (hks : ks ≤ 7302250) {K18 : Int32 → MS → Prop} (hK18 : ∀ (x3 : Int32) (σ : MS), K18 x3 σ → V p l e room_1 s m #[Value.ref b] below meth c E (fun q => s.heap.size ≤ q) 4 kc ks (lw_Z below #[Value.ref b] s) σ 18 [some (.ref b), some (.ref (E.2.1 0)), some (.ref (E.2.1 66)), some (.int x3)] []) (x3 : Int32) (σ : MS) (hw : w_L_law_J503 Ln xs K18 x3 σ) : V p l e room_1 s m #[Value.ref b] below meth c E (fun q => s.heap.size ≤ q) 4 kc ks (lw_Z below #[Value.ref b] s) σ 503 [some (.ref b), some (.ref (E.2.1 0)), some (.ref (E.2.1 66)), some (.int x3)] [] := by
  unfold w_L_law_J503 at hw
  refine vAload_n (pc := 503) hc dL_law_503 rfl ?_
  refine vAload_n (pc := 504) hc dL_law_504 rfl ?_
  refine vIload_n (pc := 505) hc dL_law_505 rfl ?_
  refine vIconst (pc := 506) (v := 1) hc dL_law_506 ki_1 ?_
  refine vIadd (pc := 507) hc dL_law_507 ?_
  obtain ⟨hi1, hw⟩ := hw
  refine vSld (pc := 508) hc hX hi1 dL_law_508 ?_
  refine vAload_n (pc := 509) hc dL_law_509 rfl ?_
  refine vIload_n (pc := 510) hc dL_law_510 rfl ?_
  refine vIconst (pc := 511) (v := 2) hc dL_law_511 ki_2 ?_
  refine vIadd (pc := 512) hc dL_law_512 ?_
  obtain ⟨hi2, hw⟩ := hw
  refine vSld (pc := 513) hc hX hi2 dL_law_513 ?_
  refine vCallVi (pc := 514) (st := []) hc ok_X8_fits tw_402 (c_X8_fits hc.2.2.2.2.2.2.1 hc.G hw) (hc.G 0 (Nat.le_of_ble_eq_true rfl)) rfl rfl rfl ⟨rfl, rfl⟩ ⟨Nat.le_of_ble_eq_true rfl, Nat.le_of_ble_eq_true rfl⟩ rfl (Nat.le_of_ble_eq_true rfl) dL_law_514 (fun r514 σ514 hw => ?_)
  refine vAload_n (pc := 517) hc dL_law_517 rfl ?_
  refine vAload_n (pc := 518) hc dL_law_518 rfl ?_
  refine vIload_n (pc := 519) hc dL_law_519 rfl ?_
  refine vIconst (pc := 520) (v := 1) hc dL_law_520 ki_1 ?_
  refine vIadd (pc := 521) hc dL_law_521 ?_
  refine vSld (pc := 522) hc hX hi1 dL_law_522 ?_
  refine vAload_n (pc := 523) hc dL_law_523 rfl ?_
  refine vIload_n (pc := 524) hc dL_law_524 rfl ?_
  refine vIconst (pc := 525) (v := 2) hc dL_law_525 ki_2 ?_
  refine vIadd (pc := 526) hc dL_law_526 ?_
  refine vSld (pc := 527) hc hX hi2 dL_law_527 ?_
  refine vCallVi (pc := 528) (st := [(.int r514)]) hc ok_X9_fits tw_897 (c_X9_fits hc.2.2.2.2.2.2.1 hc.G hw) (hc.G 66 (Nat.le_of_ble_eq_true rfl)) rfl rfl rfl ⟨rfl, rfl⟩ ⟨Nat.le_of_ble_eq_true rfl, Nat.le_of_ble_eq_true rfl⟩ rfl (Nat.le_of_ble_eq_true rfl) dL_law_528 (fun r528 σ528 hw => ?_)
  refine vIcmp_eq (pc := 531) (tgt := 891) hc dL_law_531 (by decide) (fun c531 => ?_) (fun c531 => ?_)
  · have hw := hw.1 c531
    refine vIinc (pc := 891) (v := x3 + 8) (L2 := [some (.ref b), some (.ref (E.2.1 0)), some (.ref (E.2.1 66)), some (.int (x3 + 8))]) hc dL_law_891 rfl rfl rfl (Nat.le_of_ble_eq_true rfl) ?_
    refine vGoto (pc := 894) (tgt := 18) hc dL_law_894 (by decide) ?_
    exact vMono (L2 := [some (.ref b), some (.ref (E.2.1 0)), some (.ref (E.2.1 66)), some (.int (x3 + 8))]) (show subL [some (.ref b), some (.ref (E.2.1 0)), some (.ref (E.2.1 66)), some (.int (x3 + 8))] [some (.ref b), some (.ref (E.2.1 0)), some (.ref (E.2.1 66)), some (.int (x3 + 8))] from ⟨rfl, ⟨rfl, ⟨rfl, ⟨rfl, trivial⟩⟩⟩⟩) (hK18 (x3 + 8) _ hw)
  · have hw := hw.2 c531
    refine vIconst (pc := 534) (v := 0) hc dL_law_534 ki_0 ?_
    exact hw.elim
set_option maxRecDepth 100000 in
set_option maxHeartbeats 4000000 in
theorem t_L_law_J495 {p : Program} {l : Launch} {e : Env} {s : State} {m : MethodId} {below : List Frame} {meth : Method} {c : Code} {E : WD} {b Ln kc ks : Nat} {xs : Nat → Int32} (hc : Cx p room_1 s m #[Value.ref b] meth c E (fun q => s.heap.size ≤ q) cL_law RL ret 4 kc ks fdm) (hX : va_X b Ln xs s s.heap ∧ b < s.heap.size) (hlo : kc ≤ 600000) (hks : ks ≤ 7302250) {K18 : Int32 → MS → Prop} (hK18 : ∀ (x3 : Int32) (σ : MS), K18 x3 σ → V p l e room_1 s m #[Value.ref b] below meth c E (fun q => s.heap.size ≤ q) 4 kc ks (lw_Z below #[Value.ref b] s) σ 18 [some (.ref b), some (.ref (E.2.1 0)), some (.ref (E.2.1 66)), some (.int x3)] []) (x3 s0 s2 s3 : Int32) (σ : MS) (hw : w_L_law_J495 Ln xs K18 x3 s0 s2 s3 σ) : V p l e room_1 s m #[Value.ref b] below meth c E (fun q => s.heap.size ≤ q) 4 kc ks (lw_Z below #[Value.ref b] s) σ 495 [some (.ref b), some (.ref (E.2.1 0)), some (.ref (E.2.1 66)), some (.int x3)] [(.int s3), (.int s2), (.ref (E.2.1 66)), (.int s0)] := by
  unfold w_L_law_J495 at hw
  refine vCallVi (pc := 495) (st := [(.int s0)]) hc ok_X9_broken tw_893 (c_X9_broken hc.2.2.2.2.2.2.1 hc.G hw) (hc.G 66 (Nat.le_of_ble_eq_true rfl)) rfl rfl rfl ⟨rfl, rfl⟩ ⟨Nat.le_of_ble_eq_true rfl, Nat.le_of_ble_eq_true rfl⟩ rfl (Nat.le_of_ble_eq_true rfl) dL_law_495 (fun r495 σ495 hw => ?_)
  refine vIcmp_eq (pc := 498) (tgt := 891) hc dL_law_498 (by decide) (fun c498 => ?_) (fun c498 => ?_)
  · have hw := hw.1 c498
    refine vIinc (pc := 891) (v := x3 + 8) (L2 := [some (.ref b), some (.ref (E.2.1 0)), some (.ref (E.2.1 66)), some (.int (x3 + 8))]) hc dL_law_891 rfl rfl rfl (Nat.le_of_ble_eq_true rfl) ?_
    refine vGoto (pc := 894) (tgt := 18) hc dL_law_894 (by decide) ?_
    exact vMono (L2 := [some (.ref b), some (.ref (E.2.1 0)), some (.ref (E.2.1 66)), some (.int (x3 + 8))]) (show subL [some (.ref b), some (.ref (E.2.1 0)), some (.ref (E.2.1 66)), some (.int (x3 + 8))] [some (.ref b), some (.ref (E.2.1 0)), some (.ref (E.2.1 66)), some (.int (x3 + 8))] from ⟨rfl, ⟨rfl, ⟨rfl, ⟨rfl, trivial⟩⟩⟩⟩) (hK18 (x3 + 8) _ hw)
  · have hw := hw.2 c498
    refine vIconst (pc := 501) (v := 0) hc dL_law_501 ki_0 ?_
    exact hw.elim
set_option maxRecDepth 100000 in
set_option maxHeartbeats 4000000 in
theorem t_L_law_J473 {p : Program} {l : Launch} {e : Env} {s : State} {m : MethodId} {below : List Frame} {meth : Method} {c : Code} {E : WD} {b Ln kc ks : Nat} {xs : Nat → Int32} (hc : Cx p room_1 s m #[Value.ref b] meth c E (fun q => s.heap.size ≤ q) cL_law RL ret 4 kc ks fdm) (hX : va_X b Ln xs s s.heap ∧ b < s.heap.size) (hlo : kc ≤ 600000) (hks : ks ≤ 7302250) {K18 : Int32 → MS → Prop} (hK18 : ∀ (x3 : Int32) (σ : MS), K18 x3 σ → V p l e room_1 s m #[Value.ref b] below meth c E (fun q => s.heap.size ≤ q) 4 kc ks (lw_Z below #[Value.ref b] s) σ 18 [some (.ref b), some (.ref (E.2.1 0)), some (.ref (E.2.1 66)), some (.int x3)] []) (x3 s1 s2 : Int32) (σ : MS) (hw : w_L_law_J473 Ln xs K18 x3 s1 s2 σ) : V p l e room_1 s m #[Value.ref b] below meth c E (fun q => s.heap.size ≤ q) 4 kc ks (lw_Z below #[Value.ref b] s) σ 473 [some (.ref b), some (.ref (E.2.1 0)), some (.ref (E.2.1 66)), some (.int x3)] [(.int s2), (.int s1), (.ref (E.2.1 0))] := by
  unfold w_L_law_J473 at hw
  refine vCallVi (pc := 473) (st := []) hc ok_X8_broken tw_394 (c_X8_broken hc.2.2.2.2.2.2.1 hc.G hw) (hc.G 0 (Nat.le_of_ble_eq_true rfl)) rfl rfl rfl ⟨rfl, rfl⟩ ⟨Nat.le_of_ble_eq_true rfl, Nat.le_of_ble_eq_true rfl⟩ rfl (Nat.le_of_ble_eq_true rfl) dL_law_473 (fun r473 σ473 hw => ?_)
  refine vAload_n (pc := 476) hc dL_law_476 rfl ?_
  refine vAload_n (pc := 477) hc dL_law_477 rfl ?_
  refine vIload_n (pc := 478) hc dL_law_478 rfl ?_
  refine vIconst (pc := 479) (v := 1) hc dL_law_479 ki_1 ?_
  refine vIadd (pc := 480) hc dL_law_480 ?_
  obtain ⟨hi1, hw⟩ := hw
  refine vSld (pc := 481) hc hX hi1 dL_law_481 ?_
  refine vAload_n (pc := 482) hc dL_law_482 rfl ?_
  refine vIload_n (pc := 483) hc dL_law_483 rfl ?_
  refine vIconst (pc := 484) (v := 2) hc dL_law_484 ki_2 ?_
  refine vIadd (pc := 485) hc dL_law_485 ?_
  obtain ⟨hi2, hw⟩ := hw
  refine vSld (pc := 486) hc hX hi2 dL_law_486 ?_
  refine vIf_eq (pc := 487) (tgt := 494) hc dL_law_487 (by decide) (fun c487 => ?_) (fun c487 => ?_)
  · have hw := hw.1 c487
    refine vIconst (pc := 494) (v := 0) hc dL_law_494 ki_0 ?_
    exact vMono (L2 := [some (.ref b), some (.ref (E.2.1 0)), some (.ref (E.2.1 66)), some (.int x3)]) (show subL [some (.ref b), some (.ref (E.2.1 0)), some (.ref (E.2.1 66)), some (.int x3)] [some (.ref b), some (.ref (E.2.1 0)), some (.ref (E.2.1 66)), some (.int x3)] from ⟨rfl, ⟨rfl, ⟨rfl, ⟨rfl, trivial⟩⟩⟩⟩) (t_L_law_J495 hc hX hlo hks hK18 x3 r473 (xs (x3 + 1).toNatClampNeg) 0 _ hw)
  · have hw := hw.2 c487
    refine vIconst (pc := 490) (v := 1) hc dL_law_490 ki_1 ?_
    refine vGoto (pc := 491) (tgt := 495) hc dL_law_491 (by decide) ?_
    exact vMono (L2 := [some (.ref b), some (.ref (E.2.1 0)), some (.ref (E.2.1 66)), some (.int x3)]) (show subL [some (.ref b), some (.ref (E.2.1 0)), some (.ref (E.2.1 66)), some (.int x3)] [some (.ref b), some (.ref (E.2.1 0)), some (.ref (E.2.1 66)), some (.int x3)] from ⟨rfl, ⟨rfl, ⟨rfl, ⟨rfl, trivial⟩⟩⟩⟩) (t_L_law_J495 hc hX hlo hks hK18 x3 r473 (xs (x3 + 1).toNatClampNeg) 1 _ hw)
set_option maxRecDepth 100000 in
set_option maxHeartbeats 4000000 in
theorem t_L_law_J454 {p : Program} {l : Launch} {e : Env} {s : State} {m : MethodId} {below : List Frame} {meth : Method} {c : Code} {E : WD} {b Ln kc ks : Nat} {xs : Nat → Int32} (hc : Cx p room_1 s m #[Value.ref b] meth c E (fun q => s.heap.size ≤ q) cL_law RL ret 4 kc ks fdm) (hX : va_X b Ln xs s s.heap ∧ b < s.heap.size) (hlo : kc ≤ 600000) (hks : ks ≤ 7302250) {K18 : Int32 → MS → Prop} (hK18 : ∀ (x3 : Int32) (σ : MS), K18 x3 σ → V p l e room_1 s m #[Value.ref b] below meth c E (fun q => s.heap.size ≤ q) 4 kc ks (lw_Z below #[Value.ref b] s) σ 18 [some (.ref b), some (.ref (E.2.1 0)), some (.ref (E.2.1 66)), some (.int x3)] []) (x3 : Int32) (σ : MS) (hw : w_L_law_J454 Ln xs K18 x3 σ) : V p l e room_1 s m #[Value.ref b] below meth c E (fun q => s.heap.size ≤ q) 4 kc ks (lw_Z below #[Value.ref b] s) σ 454 [some (.ref b), some (.ref (E.2.1 0)), some (.ref (E.2.1 66)), some (.int x3)] [] := by
  unfold w_L_law_J454 at hw
  refine vAload_n (pc := 454) hc dL_law_454 rfl ?_
  refine vAload_n (pc := 455) hc dL_law_455 rfl ?_
  refine vIload_n (pc := 456) hc dL_law_456 rfl ?_
  refine vIconst (pc := 457) (v := 1) hc dL_law_457 ki_1 ?_
  refine vIadd (pc := 458) hc dL_law_458 ?_
  obtain ⟨hi1, hw⟩ := hw
  refine vSld (pc := 459) hc hX hi1 dL_law_459 ?_
  refine vAload_n (pc := 460) hc dL_law_460 rfl ?_
  refine vIload_n (pc := 461) hc dL_law_461 rfl ?_
  refine vIconst (pc := 462) (v := 2) hc dL_law_462 ki_2 ?_
  refine vIadd (pc := 463) hc dL_law_463 ?_
  obtain ⟨hi2, hw⟩ := hw
  refine vSld (pc := 464) hc hX hi2 dL_law_464 ?_
  refine vIf_eq (pc := 465) (tgt := 472) hc dL_law_465 (by decide) (fun c465 => ?_) (fun c465 => ?_)
  · have hw := hw.1 c465
    refine vIconst (pc := 472) (v := 0) hc dL_law_472 ki_0 ?_
    exact vMono (L2 := [some (.ref b), some (.ref (E.2.1 0)), some (.ref (E.2.1 66)), some (.int x3)]) (show subL [some (.ref b), some (.ref (E.2.1 0)), some (.ref (E.2.1 66)), some (.int x3)] [some (.ref b), some (.ref (E.2.1 0)), some (.ref (E.2.1 66)), some (.int x3)] from ⟨rfl, ⟨rfl, ⟨rfl, ⟨rfl, trivial⟩⟩⟩⟩) (t_L_law_J473 hc hX hlo hks hK18 x3 (xs (x3 + 1).toNatClampNeg) 0 _ hw)
  · have hw := hw.2 c465
    refine vIconst (pc := 468) (v := 1) hc dL_law_468 ki_1 ?_
    refine vGoto (pc := 469) (tgt := 473) hc dL_law_469 (by decide) ?_
    exact vMono (L2 := [some (.ref b), some (.ref (E.2.1 0)), some (.ref (E.2.1 66)), some (.int x3)]) (show subL [some (.ref b), some (.ref (E.2.1 0)), some (.ref (E.2.1 66)), some (.int x3)] [some (.ref b), some (.ref (E.2.1 0)), some (.ref (E.2.1 66)), some (.int x3)] from ⟨rfl, ⟨rfl, ⟨rfl, ⟨rfl, trivial⟩⟩⟩⟩) (t_L_law_J473 hc hX hlo hks hK18 x3 (xs (x3 + 1).toNatClampNeg) 1 _ hw)
set_option maxRecDepth 100000 in
set_option maxHeartbeats 4000000 in
theorem t_L_law_J446 {p : Program} {l : Launch} {e : Env} {s : State} {m : MethodId} {below : List Frame} {meth : Method} {c : Code} {E : WD} {b Ln kc ks : Nat} {xs : Nat → Int32} (hc : Cx p room_1 s m #[Value.ref b] meth c E (fun q => s.heap.size ≤ q) cL_law RL ret 4 kc ks fdm) (hX : va_X b Ln xs s s.heap ∧ b < s.heap.size) (hlo : kc ≤ 600000) (hks : ks ≤ 7302250) {K18 : Int32 → MS → Prop} (hK18 : ∀ (x3 : Int32) (σ : MS), K18 x3 σ → V p l e room_1 s m #[Value.ref b] below meth c E (fun q => s.heap.size ≤ q) 4 kc ks (lw_Z below #[Value.ref b] s) σ 18 [some (.ref b), some (.ref (E.2.1 0)), some (.ref (E.2.1 66)), some (.int x3)] []) (x3 s0 s2 s3 : Int32) (σ : MS) (hw : w_L_law_J446 Ln xs K18 x3 s0 s2 s3 σ) : V p l e room_1 s m #[Value.ref b] below meth c E (fun q => s.heap.size ≤ q) 4 kc ks (lw_Z below #[Value.ref b] s) σ 446 [some (.ref b), some (.ref (E.2.1 0)), some (.ref (E.2.1 66)), some (.int x3)] [(.int s3), (.int s2), (.ref (E.2.1 66)), (.int s0)] := by
  unfold w_L_law_J446 at hw
  refine vCallVi (pc := 446) (st := [(.int s0)]) hc ok_X9_away tw_889 (c_X9_away hc.2.2.2.2.2.2.1 hc.G hw) (hc.G 66 (Nat.le_of_ble_eq_true rfl)) rfl rfl rfl ⟨rfl, rfl⟩ ⟨Nat.le_of_ble_eq_true rfl, Nat.le_of_ble_eq_true rfl⟩ rfl (Nat.le_of_ble_eq_true rfl) dL_law_446 (fun r446 σ446 hw => ?_)
  refine vIcmp_eq (pc := 449) (tgt := 891) hc dL_law_449 (by decide) (fun c449 => ?_) (fun c449 => ?_)
  · have hw := hw.1 c449
    refine vIinc (pc := 891) (v := x3 + 8) (L2 := [some (.ref b), some (.ref (E.2.1 0)), some (.ref (E.2.1 66)), some (.int (x3 + 8))]) hc dL_law_891 rfl rfl rfl (Nat.le_of_ble_eq_true rfl) ?_
    refine vGoto (pc := 894) (tgt := 18) hc dL_law_894 (by decide) ?_
    exact vMono (L2 := [some (.ref b), some (.ref (E.2.1 0)), some (.ref (E.2.1 66)), some (.int (x3 + 8))]) (show subL [some (.ref b), some (.ref (E.2.1 0)), some (.ref (E.2.1 66)), some (.int (x3 + 8))] [some (.ref b), some (.ref (E.2.1 0)), some (.ref (E.2.1 66)), some (.int (x3 + 8))] from ⟨rfl, ⟨rfl, ⟨rfl, ⟨rfl, trivial⟩⟩⟩⟩) (hK18 (x3 + 8) _ hw)
  · have hw := hw.2 c449
    refine vIconst (pc := 452) (v := 0) hc dL_law_452 ki_0 ?_
    exact hw.elim
set_option maxRecDepth 100000 in
set_option maxHeartbeats 4000000 in
theorem t_L_law_J424 {p : Program} {l : Launch} {e : Env} {s : State} {m : MethodId} {below : List Frame} {meth : Method} {c : Code} {E : WD} {b Ln kc ks : Nat} {xs : Nat → Int32} (hc : Cx p room_1 s m #[Value.ref b] meth c E (fun q => s.heap.size ≤ q) cL_law RL ret 4 kc ks fdm) (hX : va_X b Ln xs s s.heap ∧ b < s.heap.size) (hlo : kc ≤ 600000) (hks : ks ≤ 7302250) {K18 : Int32 → MS → Prop} (hK18 : ∀ (x3 : Int32) (σ : MS), K18 x3 σ → V p l e room_1 s m #[Value.ref b] below meth c E (fun q => s.heap.size ≤ q) 4 kc ks (lw_Z below #[Value.ref b] s) σ 18 [some (.ref b), some (.ref (E.2.1 0)), some (.ref (E.2.1 66)), some (.int x3)] []) (x3 s1 s2 : Int32) (σ : MS) (hw : w_L_law_J424 Ln xs K18 x3 s1 s2 σ) : V p l e room_1 s m #[Value.ref b] below meth c E (fun q => s.heap.size ≤ q) 4 kc ks (lw_Z below #[Value.ref b] s) σ 424 [some (.ref b), some (.ref (E.2.1 0)), some (.ref (E.2.1 66)), some (.int x3)] [(.int s2), (.int s1), (.ref (E.2.1 0))] := by
  unfold w_L_law_J424 at hw
  refine vCallVi (pc := 424) (st := []) hc ok_X8_away tw_390 (c_X8_away hc.2.2.2.2.2.2.1 hc.G hw) (hc.G 0 (Nat.le_of_ble_eq_true rfl)) rfl rfl rfl ⟨rfl, rfl⟩ ⟨Nat.le_of_ble_eq_true rfl, Nat.le_of_ble_eq_true rfl⟩ rfl (Nat.le_of_ble_eq_true rfl) dL_law_424 (fun r424 σ424 hw => ?_)
  refine vAload_n (pc := 427) hc dL_law_427 rfl ?_
  refine vAload_n (pc := 428) hc dL_law_428 rfl ?_
  refine vIload_n (pc := 429) hc dL_law_429 rfl ?_
  refine vIconst (pc := 430) (v := 1) hc dL_law_430 ki_1 ?_
  refine vIadd (pc := 431) hc dL_law_431 ?_
  obtain ⟨hi1, hw⟩ := hw
  refine vSld (pc := 432) hc hX hi1 dL_law_432 ?_
  refine vAload_n (pc := 433) hc dL_law_433 rfl ?_
  refine vIload_n (pc := 434) hc dL_law_434 rfl ?_
  refine vIconst (pc := 435) (v := 2) hc dL_law_435 ki_2 ?_
  refine vIadd (pc := 436) hc dL_law_436 ?_
  obtain ⟨hi2, hw⟩ := hw
  refine vSld (pc := 437) hc hX hi2 dL_law_437 ?_
  refine vIf_eq (pc := 438) (tgt := 445) hc dL_law_438 (by decide) (fun c438 => ?_) (fun c438 => ?_)
  · have hw := hw.1 c438
    refine vIconst (pc := 445) (v := 0) hc dL_law_445 ki_0 ?_
    exact vMono (L2 := [some (.ref b), some (.ref (E.2.1 0)), some (.ref (E.2.1 66)), some (.int x3)]) (show subL [some (.ref b), some (.ref (E.2.1 0)), some (.ref (E.2.1 66)), some (.int x3)] [some (.ref b), some (.ref (E.2.1 0)), some (.ref (E.2.1 66)), some (.int x3)] from ⟨rfl, ⟨rfl, ⟨rfl, ⟨rfl, trivial⟩⟩⟩⟩) (t_L_law_J446 hc hX hlo hks hK18 x3 r424 (xs (x3 + 1).toNatClampNeg) 0 _ hw)
  · have hw := hw.2 c438
    refine vIconst (pc := 441) (v := 1) hc dL_law_441 ki_1 ?_
    refine vGoto (pc := 442) (tgt := 446) hc dL_law_442 (by decide) ?_
    exact vMono (L2 := [some (.ref b), some (.ref (E.2.1 0)), some (.ref (E.2.1 66)), some (.int x3)]) (show subL [some (.ref b), some (.ref (E.2.1 0)), some (.ref (E.2.1 66)), some (.int x3)] [some (.ref b), some (.ref (E.2.1 0)), some (.ref (E.2.1 66)), some (.int x3)] from ⟨rfl, ⟨rfl, ⟨rfl, ⟨rfl, trivial⟩⟩⟩⟩) (t_L_law_J446 hc hX hlo hks hK18 x3 r424 (xs (x3 + 1).toNatClampNeg) 1 _ hw)
set_option maxRecDepth 100000 in
set_option maxHeartbeats 4000000 in
theorem t_L_law_J405 {p : Program} {l : Launch} {e : Env} {s : State} {m : MethodId} {below : List Frame} {meth : Method} {c : Code} {E : WD} {b Ln kc ks : Nat} {xs : Nat → Int32} (hc : Cx p room_1 s m #[Value.ref b] meth c E (fun q => s.heap.size ≤ q) cL_law RL ret 4 kc ks fdm) (hX : va_X b Ln xs s s.heap ∧ b < s.heap.size) (hlo : kc ≤ 600000) (hks : ks ≤ 7302250) {K18 : Int32 → MS → Prop} (hK18 : ∀ (x3 : Int32) (σ : MS), K18 x3 σ → V p l e room_1 s m #[Value.ref b] below meth c E (fun q => s.heap.size ≤ q) 4 kc ks (lw_Z below #[Value.ref b] s) σ 18 [some (.ref b), some (.ref (E.2.1 0)), some (.ref (E.2.1 66)), some (.int x3)] []) (x3 : Int32) (σ : MS) (hw : w_L_law_J405 Ln xs K18 x3 σ) : V p l e room_1 s m #[Value.ref b] below meth c E (fun q => s.heap.size ≤ q) 4 kc ks (lw_Z below #[Value.ref b] s) σ 405 [some (.ref b), some (.ref (E.2.1 0)), some (.ref (E.2.1 66)), some (.int x3)] [] := by
  unfold w_L_law_J405 at hw
  refine vAload_n (pc := 405) hc dL_law_405 rfl ?_
  refine vAload_n (pc := 406) hc dL_law_406 rfl ?_
  refine vIload_n (pc := 407) hc dL_law_407 rfl ?_
  refine vIconst (pc := 408) (v := 1) hc dL_law_408 ki_1 ?_
  refine vIadd (pc := 409) hc dL_law_409 ?_
  obtain ⟨hi1, hw⟩ := hw
  refine vSld (pc := 410) hc hX hi1 dL_law_410 ?_
  refine vAload_n (pc := 411) hc dL_law_411 rfl ?_
  refine vIload_n (pc := 412) hc dL_law_412 rfl ?_
  refine vIconst (pc := 413) (v := 2) hc dL_law_413 ki_2 ?_
  refine vIadd (pc := 414) hc dL_law_414 ?_
  obtain ⟨hi2, hw⟩ := hw
  refine vSld (pc := 415) hc hX hi2 dL_law_415 ?_
  refine vIf_eq (pc := 416) (tgt := 423) hc dL_law_416 (by decide) (fun c416 => ?_) (fun c416 => ?_)
  · have hw := hw.1 c416
    refine vIconst (pc := 423) (v := 0) hc dL_law_423 ki_0 ?_
    exact vMono (L2 := [some (.ref b), some (.ref (E.2.1 0)), some (.ref (E.2.1 66)), some (.int x3)]) (show subL [some (.ref b), some (.ref (E.2.1 0)), some (.ref (E.2.1 66)), some (.int x3)] [some (.ref b), some (.ref (E.2.1 0)), some (.ref (E.2.1 66)), some (.int x3)] from ⟨rfl, ⟨rfl, ⟨rfl, ⟨rfl, trivial⟩⟩⟩⟩) (t_L_law_J424 hc hX hlo hks hK18 x3 (xs (x3 + 1).toNatClampNeg) 0 _ hw)
  · have hw := hw.2 c416
    refine vIconst (pc := 419) (v := 1) hc dL_law_419 ki_1 ?_
    refine vGoto (pc := 420) (tgt := 424) hc dL_law_420 (by decide) ?_
    exact vMono (L2 := [some (.ref b), some (.ref (E.2.1 0)), some (.ref (E.2.1 66)), some (.int x3)]) (show subL [some (.ref b), some (.ref (E.2.1 0)), some (.ref (E.2.1 66)), some (.int x3)] [some (.ref b), some (.ref (E.2.1 0)), some (.ref (E.2.1 66)), some (.int x3)] from ⟨rfl, ⟨rfl, ⟨rfl, ⟨rfl, trivial⟩⟩⟩⟩) (t_L_law_J424 hc hX hlo hks hK18 x3 (xs (x3 + 1).toNatClampNeg) 1 _ hw)
set_option maxRecDepth 100000 in
set_option maxHeartbeats 4000000 in
theorem t_L_law_J397 {p : Program} {l : Launch} {e : Env} {s : State} {m : MethodId} {below : List Frame} {meth : Method} {c : Code} {E : WD} {b Ln kc ks : Nat} {xs : Nat → Int32} (hc : Cx p room_1 s m #[Value.ref b] meth c E (fun q => s.heap.size ≤ q) cL_law RL ret 4 kc ks fdm) (hX : va_X b Ln xs s s.heap ∧ b < s.heap.size) (hlo : kc ≤ 600000) (hks : ks ≤ 7302250) {K18 : Int32 → MS → Prop} (hK18 : ∀ (x3 : Int32) (σ : MS), K18 x3 σ → V p l e room_1 s m #[Value.ref b] below meth c E (fun q => s.heap.size ≤ q) 4 kc ks (lw_Z below #[Value.ref b] s) σ 18 [some (.ref b), some (.ref (E.2.1 0)), some (.ref (E.2.1 66)), some (.int x3)] []) (x3 s0 s2 s3 s4 : Int32) (σ : MS) (hw : w_L_law_J397 Ln xs K18 x3 s0 s2 s3 s4 σ) : V p l e room_1 s m #[Value.ref b] below meth c E (fun q => s.heap.size ≤ q) 4 kc ks (lw_Z below #[Value.ref b] s) σ 397 [some (.ref b), some (.ref (E.2.1 0)), some (.ref (E.2.1 66)), some (.int x3)] [(.int s4), (.int s3), (.int s2), (.ref (E.2.1 66)), (.int s0)] := by
  unfold w_L_law_J397 at hw
  refine vCallVi (pc := 397) (st := [(.int s0)]) hc ok_X9_bar tw_885 (c_X9_bar hc.2.2.2.2.2.2.1 hc.G hw) (hc.G 66 (Nat.le_of_ble_eq_true rfl)) rfl rfl rfl ⟨rfl, rfl⟩ ⟨Nat.le_of_ble_eq_true rfl, Nat.le_of_ble_eq_true rfl⟩ rfl (Nat.le_of_ble_eq_true rfl) dL_law_397 (fun r397 σ397 hw => ?_)
  refine vIcmp_eq (pc := 400) (tgt := 891) hc dL_law_400 (by decide) (fun c400 => ?_) (fun c400 => ?_)
  · have hw := hw.1 c400
    refine vIinc (pc := 891) (v := x3 + 8) (L2 := [some (.ref b), some (.ref (E.2.1 0)), some (.ref (E.2.1 66)), some (.int (x3 + 8))]) hc dL_law_891 rfl rfl rfl (Nat.le_of_ble_eq_true rfl) ?_
    refine vGoto (pc := 894) (tgt := 18) hc dL_law_894 (by decide) ?_
    exact vMono (L2 := [some (.ref b), some (.ref (E.2.1 0)), some (.ref (E.2.1 66)), some (.int (x3 + 8))]) (show subL [some (.ref b), some (.ref (E.2.1 0)), some (.ref (E.2.1 66)), some (.int (x3 + 8))] [some (.ref b), some (.ref (E.2.1 0)), some (.ref (E.2.1 66)), some (.int (x3 + 8))] from ⟨rfl, ⟨rfl, ⟨rfl, ⟨rfl, trivial⟩⟩⟩⟩) (hK18 (x3 + 8) _ hw)
  · have hw := hw.2 c400
    refine vIconst (pc := 403) (v := 0) hc dL_law_403 ki_0 ?_
    exact hw.elim
set_option maxRecDepth 100000 in
set_option maxHeartbeats 4000000 in
theorem t_L_law_J370 {p : Program} {l : Launch} {e : Env} {s : State} {m : MethodId} {below : List Frame} {meth : Method} {c : Code} {E : WD} {b Ln kc ks : Nat} {xs : Nat → Int32} (hc : Cx p room_1 s m #[Value.ref b] meth c E (fun q => s.heap.size ≤ q) cL_law RL ret 4 kc ks fdm) (hX : va_X b Ln xs s s.heap ∧ b < s.heap.size) (hlo : kc ≤ 600000) (hks : ks ≤ 7302250) {K18 : Int32 → MS → Prop} (hK18 : ∀ (x3 : Int32) (σ : MS), K18 x3 σ → V p l e room_1 s m #[Value.ref b] below meth c E (fun q => s.heap.size ≤ q) 4 kc ks (lw_Z below #[Value.ref b] s) σ 18 [some (.ref b), some (.ref (E.2.1 0)), some (.ref (E.2.1 66)), some (.int x3)] []) (x3 s1 s2 s3 : Int32) (σ : MS) (hw : w_L_law_J370 Ln xs K18 x3 s1 s2 s3 σ) : V p l e room_1 s m #[Value.ref b] below meth c E (fun q => s.heap.size ≤ q) 4 kc ks (lw_Z below #[Value.ref b] s) σ 370 [some (.ref b), some (.ref (E.2.1 0)), some (.ref (E.2.1 66)), some (.int x3)] [(.int s3), (.int s2), (.int s1), (.ref (E.2.1 0))] := by
  unfold w_L_law_J370 at hw
  refine vCallVi (pc := 370) (st := []) hc ok_X8_bar tw_383 (c_X8_bar hc.2.2.2.2.2.2.1 hc.G hw) (hc.G 0 (Nat.le_of_ble_eq_true rfl)) rfl rfl rfl ⟨rfl, rfl⟩ ⟨Nat.le_of_ble_eq_true rfl, Nat.le_of_ble_eq_true rfl⟩ rfl (Nat.le_of_ble_eq_true rfl) dL_law_370 (fun r370 σ370 hw => ?_)
  refine vAload_n (pc := 373) hc dL_law_373 rfl ?_
  refine vAload_n (pc := 374) hc dL_law_374 rfl ?_
  refine vIload_n (pc := 375) hc dL_law_375 rfl ?_
  refine vIconst (pc := 376) (v := 1) hc dL_law_376 ki_1 ?_
  refine vIadd (pc := 377) hc dL_law_377 ?_
  obtain ⟨hi1, hw⟩ := hw
  refine vSld (pc := 378) hc hX hi1 dL_law_378 ?_
  refine vAload_n (pc := 379) hc dL_law_379 rfl ?_
  refine vIload_n (pc := 380) hc dL_law_380 rfl ?_
  refine vIconst (pc := 381) (v := 2) hc dL_law_381 ki_2 ?_
  refine vIadd (pc := 382) hc dL_law_382 ?_
  obtain ⟨hi2, hw⟩ := hw
  refine vSld (pc := 383) hc hX hi2 dL_law_383 ?_
  refine vAload_n (pc := 384) hc dL_law_384 rfl ?_
  refine vIload_n (pc := 385) hc dL_law_385 rfl ?_
  refine vIconst (pc := 386) (v := 3) hc dL_law_386 ki_3 ?_
  refine vIadd (pc := 387) hc dL_law_387 ?_
  obtain ⟨hi3, hw⟩ := hw
  refine vSld (pc := 388) hc hX hi3 dL_law_388 ?_
  refine vIf_eq (pc := 389) (tgt := 396) hc dL_law_389 (by decide) (fun c389 => ?_) (fun c389 => ?_)
  · have hw := hw.1 c389
    refine vIconst (pc := 396) (v := 0) hc dL_law_396 ki_0 ?_
    exact vMono (L2 := [some (.ref b), some (.ref (E.2.1 0)), some (.ref (E.2.1 66)), some (.int x3)]) (show subL [some (.ref b), some (.ref (E.2.1 0)), some (.ref (E.2.1 66)), some (.int x3)] [some (.ref b), some (.ref (E.2.1 0)), some (.ref (E.2.1 66)), some (.int x3)] from ⟨rfl, ⟨rfl, ⟨rfl, ⟨rfl, trivial⟩⟩⟩⟩) (t_L_law_J397 hc hX hlo hks hK18 x3 r370 (xs (x3 + 1).toNatClampNeg) (xs (x3 + 2).toNatClampNeg) 0 _ hw)
  · have hw := hw.2 c389
    refine vIconst (pc := 392) (v := 1) hc dL_law_392 ki_1 ?_
    refine vGoto (pc := 393) (tgt := 397) hc dL_law_393 (by decide) ?_
    exact vMono (L2 := [some (.ref b), some (.ref (E.2.1 0)), some (.ref (E.2.1 66)), some (.int x3)]) (show subL [some (.ref b), some (.ref (E.2.1 0)), some (.ref (E.2.1 66)), some (.int x3)] [some (.ref b), some (.ref (E.2.1 0)), some (.ref (E.2.1 66)), some (.int x3)] from ⟨rfl, ⟨rfl, ⟨rfl, ⟨rfl, trivial⟩⟩⟩⟩) (t_L_law_J397 hc hX hlo hks hK18 x3 r370 (xs (x3 + 1).toNatClampNeg) (xs (x3 + 2).toNatClampNeg) 1 _ hw)
set_option maxRecDepth 100000 in
set_option maxHeartbeats 4000000 in
theorem t_L_law_J346 {p : Program} {l : Launch} {e : Env} {s : State} {m : MethodId} {below : List Frame} {meth : Method} {c : Code} {E : WD} {b Ln kc ks : Nat} {xs : Nat → Int32} (hc : Cx p room_1 s m #[Value.ref b] meth c E (fun q => s.heap.size ≤ q) cL_law RL ret 4 kc ks fdm) (hX : va_X b Ln xs s s.heap ∧ b < s.heap.size) (hlo : kc ≤ 600000) (hks : ks ≤ 7302250) {K18 : Int32 → MS → Prop} (hK18 : ∀ (x3 : Int32) (σ : MS), K18 x3 σ → V p l e room_1 s m #[Value.ref b] below meth c E (fun q => s.heap.size ≤ q) 4 kc ks (lw_Z below #[Value.ref b] s) σ 18 [some (.ref b), some (.ref (E.2.1 0)), some (.ref (E.2.1 66)), some (.int x3)] []) (x3 : Int32) (σ : MS) (hw : w_L_law_J346 Ln xs K18 x3 σ) : V p l e room_1 s m #[Value.ref b] below meth c E (fun q => s.heap.size ≤ q) 4 kc ks (lw_Z below #[Value.ref b] s) σ 346 [some (.ref b), some (.ref (E.2.1 0)), some (.ref (E.2.1 66)), some (.int x3)] [] := by
  unfold w_L_law_J346 at hw
  refine vAload_n (pc := 346) hc dL_law_346 rfl ?_
  refine vAload_n (pc := 347) hc dL_law_347 rfl ?_
  refine vIload_n (pc := 348) hc dL_law_348 rfl ?_
  refine vIconst (pc := 349) (v := 1) hc dL_law_349 ki_1 ?_
  refine vIadd (pc := 350) hc dL_law_350 ?_
  obtain ⟨hi1, hw⟩ := hw
  refine vSld (pc := 351) hc hX hi1 dL_law_351 ?_
  refine vAload_n (pc := 352) hc dL_law_352 rfl ?_
  refine vIload_n (pc := 353) hc dL_law_353 rfl ?_
  refine vIconst (pc := 354) (v := 2) hc dL_law_354 ki_2 ?_
  refine vIadd (pc := 355) hc dL_law_355 ?_
  obtain ⟨hi2, hw⟩ := hw
  refine vSld (pc := 356) hc hX hi2 dL_law_356 ?_
  refine vAload_n (pc := 357) hc dL_law_357 rfl ?_
  refine vIload_n (pc := 358) hc dL_law_358 rfl ?_
  refine vIconst (pc := 359) (v := 3) hc dL_law_359 ki_3 ?_
  refine vIadd (pc := 360) hc dL_law_360 ?_
  obtain ⟨hi3, hw⟩ := hw
  refine vSld (pc := 361) hc hX hi3 dL_law_361 ?_
  refine vIf_eq (pc := 362) (tgt := 369) hc dL_law_362 (by decide) (fun c362 => ?_) (fun c362 => ?_)
  · have hw := hw.1 c362
    refine vIconst (pc := 369) (v := 0) hc dL_law_369 ki_0 ?_
    exact vMono (L2 := [some (.ref b), some (.ref (E.2.1 0)), some (.ref (E.2.1 66)), some (.int x3)]) (show subL [some (.ref b), some (.ref (E.2.1 0)), some (.ref (E.2.1 66)), some (.int x3)] [some (.ref b), some (.ref (E.2.1 0)), some (.ref (E.2.1 66)), some (.int x3)] from ⟨rfl, ⟨rfl, ⟨rfl, ⟨rfl, trivial⟩⟩⟩⟩) (t_L_law_J370 hc hX hlo hks hK18 x3 (xs (x3 + 1).toNatClampNeg) (xs (x3 + 2).toNatClampNeg) 0 _ hw)
  · have hw := hw.2 c362
    refine vIconst (pc := 365) (v := 1) hc dL_law_365 ki_1 ?_
    refine vGoto (pc := 366) (tgt := 370) hc dL_law_366 (by decide) ?_
    exact vMono (L2 := [some (.ref b), some (.ref (E.2.1 0)), some (.ref (E.2.1 66)), some (.int x3)]) (show subL [some (.ref b), some (.ref (E.2.1 0)), some (.ref (E.2.1 66)), some (.int x3)] [some (.ref b), some (.ref (E.2.1 0)), some (.ref (E.2.1 66)), some (.int x3)] from ⟨rfl, ⟨rfl, ⟨rfl, ⟨rfl, trivial⟩⟩⟩⟩) (t_L_law_J370 hc hX hlo hks hK18 x3 (xs (x3 + 1).toNatClampNeg) (xs (x3 + 2).toNatClampNeg) 1 _ hw)
set_option maxRecDepth 100000 in
set_option maxHeartbeats 4000000 in
theorem t_L_law_J303 {p : Program} {l : Launch} {e : Env} {s : State} {m : MethodId} {below : List Frame} {meth : Method} {c : Code} {E : WD} {b Ln kc ks : Nat} {xs : Nat → Int32} (hc : Cx p room_1 s m #[Value.ref b] meth c E (fun q => s.heap.size ≤ q) cL_law RL ret 4 kc ks fdm) (hX : va_X b Ln xs s s.heap ∧ b < s.heap.size) (hlo : kc ≤ 600000) (hks : ks ≤ 7302250) {K18 : Int32 → MS → Prop} (hK18 : ∀ (x3 : Int32) (σ : MS), K18 x3 σ → V p l e room_1 s m #[Value.ref b] below meth c E (fun q => s.heap.size ≤ q) 4 kc ks (lw_Z below #[Value.ref b] s) σ 18 [some (.ref b), some (.ref (E.2.1 0)), some (.ref (E.2.1 66)), some (.int x3)] []) (x3 : Int32) (σ : MS) (hw : w_L_law_J303 Ln xs K18 x3 σ) : V p l e room_1 s m #[Value.ref b] below meth c E (fun q => s.heap.size ≤ q) 4 kc ks (lw_Z below #[Value.ref b] s) σ 303 [some (.ref b), some (.ref (E.2.1 0)), some (.ref (E.2.1 66)), some (.int x3)] [] := by
  unfold w_L_law_J303 at hw
  refine vAload_n (pc := 303) hc dL_law_303 rfl ?_
  refine vAload_n (pc := 304) hc dL_law_304 rfl ?_
  refine vIload_n (pc := 305) hc dL_law_305 rfl ?_
  refine vIconst (pc := 306) (v := 1) hc dL_law_306 ki_1 ?_
  refine vIadd (pc := 307) hc dL_law_307 ?_
  obtain ⟨hi1, hw⟩ := hw
  refine vSld (pc := 308) hc hX hi1 dL_law_308 ?_
  refine vAload_n (pc := 309) hc dL_law_309 rfl ?_
  refine vIload_n (pc := 310) hc dL_law_310 rfl ?_
  refine vIconst (pc := 311) (v := 2) hc dL_law_311 ki_2 ?_
  refine vIadd (pc := 312) hc dL_law_312 ?_
  obtain ⟨hi2, hw⟩ := hw
  refine vSld (pc := 313) hc hX hi2 dL_law_313 ?_
  refine vAload_n (pc := 314) hc dL_law_314 rfl ?_
  refine vIload_n (pc := 315) hc dL_law_315 rfl ?_
  refine vIconst (pc := 316) (v := 3) hc dL_law_316 ki_3 ?_
  refine vIadd (pc := 317) hc dL_law_317 ?_
  obtain ⟨hi3, hw⟩ := hw
  refine vSld (pc := 318) hc hX hi3 dL_law_318 ?_
  refine vCallVi (pc := 319) (st := []) hc ok_X8_times tw_375 (c_X8_times hc.2.2.2.2.2.2.1 hc.G hw) (hc.G 0 (Nat.le_of_ble_eq_true rfl)) rfl rfl rfl ⟨rfl, rfl⟩ ⟨Nat.le_of_ble_eq_true rfl, Nat.le_of_ble_eq_true rfl⟩ rfl (Nat.le_of_ble_eq_true rfl) dL_law_319 (fun r319 σ319 hw => ?_)
  refine vAload_n (pc := 322) hc dL_law_322 rfl ?_
  refine vAload_n (pc := 323) hc dL_law_323 rfl ?_
  refine vIload_n (pc := 324) hc dL_law_324 rfl ?_
  refine vIconst (pc := 325) (v := 1) hc dL_law_325 ki_1 ?_
  refine vIadd (pc := 326) hc dL_law_326 ?_
  refine vSld (pc := 327) hc hX hi1 dL_law_327 ?_
  refine vAload_n (pc := 328) hc dL_law_328 rfl ?_
  refine vIload_n (pc := 329) hc dL_law_329 rfl ?_
  refine vIconst (pc := 330) (v := 2) hc dL_law_330 ki_2 ?_
  refine vIadd (pc := 331) hc dL_law_331 ?_
  refine vSld (pc := 332) hc hX hi2 dL_law_332 ?_
  refine vAload_n (pc := 333) hc dL_law_333 rfl ?_
  refine vIload_n (pc := 334) hc dL_law_334 rfl ?_
  refine vIconst (pc := 335) (v := 3) hc dL_law_335 ki_3 ?_
  refine vIadd (pc := 336) hc dL_law_336 ?_
  refine vSld (pc := 337) hc hX hi3 dL_law_337 ?_
  refine vCallVi (pc := 338) (st := [(.int r319)]) hc ok_X9_times tw_877 (c_X9_times hc.2.2.2.2.2.2.1 hc.G hw) (hc.G 66 (Nat.le_of_ble_eq_true rfl)) rfl rfl rfl ⟨rfl, rfl⟩ ⟨Nat.le_of_ble_eq_true rfl, Nat.le_of_ble_eq_true rfl⟩ rfl (Nat.le_of_ble_eq_true rfl) dL_law_338 (fun r338 σ338 hw => ?_)
  refine vIcmp_eq (pc := 341) (tgt := 891) hc dL_law_341 (by decide) (fun c341 => ?_) (fun c341 => ?_)
  · have hw := hw.1 c341
    refine vIinc (pc := 891) (v := x3 + 8) (L2 := [some (.ref b), some (.ref (E.2.1 0)), some (.ref (E.2.1 66)), some (.int (x3 + 8))]) hc dL_law_891 rfl rfl rfl (Nat.le_of_ble_eq_true rfl) ?_
    refine vGoto (pc := 894) (tgt := 18) hc dL_law_894 (by decide) ?_
    exact vMono (L2 := [some (.ref b), some (.ref (E.2.1 0)), some (.ref (E.2.1 66)), some (.int (x3 + 8))]) (show subL [some (.ref b), some (.ref (E.2.1 0)), some (.ref (E.2.1 66)), some (.int (x3 + 8))] [some (.ref b), some (.ref (E.2.1 0)), some (.ref (E.2.1 66)), some (.int (x3 + 8))] from ⟨rfl, ⟨rfl, ⟨rfl, ⟨rfl, trivial⟩⟩⟩⟩) (hK18 (x3 + 8) _ hw)
  · have hw := hw.2 c341
    refine vIconst (pc := 344) (v := 0) hc dL_law_344 ki_0 ?_
    exact hw.elim
set_option maxRecDepth 100000 in
set_option maxHeartbeats 4000000 in
theorem t_L_law_J216 {p : Program} {l : Launch} {e : Env} {s : State} {m : MethodId} {below : List Frame} {meth : Method} {c : Code} {E : WD} {b Ln kc ks : Nat} {xs : Nat → Int32} (hc : Cx p room_1 s m #[Value.ref b] meth c E (fun q => s.heap.size ≤ q) cL_law RL ret 4 kc ks fdm) (hX : va_X b Ln xs s s.heap ∧ b < s.heap.size) (hlo : kc ≤ 600000) (hks : ks ≤ 7302250) {K18 : Int32 → MS → Prop} (hK18 : ∀ (x3 : Int32) (σ : MS), K18 x3 σ → V p l e room_1 s m #[Value.ref b] below meth c E (fun q => s.heap.size ≤ q) 4 kc ks (lw_Z below #[Value.ref b] s) σ 18 [some (.ref b), some (.ref (E.2.1 0)), some (.ref (E.2.1 66)), some (.int x3)] []) (x3 : Int32) (σ : MS) (hw : w_L_law_J216 Ln xs K18 x3 σ) : V p l e room_1 s m #[Value.ref b] below meth c E (fun q => s.heap.size ≤ q) 4 kc ks (lw_Z below #[Value.ref b] s) σ 216 [some (.ref b), some (.ref (E.2.1 0)), some (.ref (E.2.1 66)), some (.int x3)] [] := by
  unfold w_L_law_J216 at hw
  refine vAload_n (pc := 216) hc dL_law_216 rfl ?_
  refine vAload_n (pc := 217) hc dL_law_217 rfl ?_
  refine vIload_n (pc := 218) hc dL_law_218 rfl ?_
  refine vIconst (pc := 219) (v := 1) hc dL_law_219 ki_1 ?_
  refine vIadd (pc := 220) hc dL_law_220 ?_
  obtain ⟨hi1, hw⟩ := hw
  refine vSld (pc := 221) hc hX hi1 dL_law_221 ?_
  refine vAload_n (pc := 222) hc dL_law_222 rfl ?_
  refine vIload_n (pc := 223) hc dL_law_223 rfl ?_
  refine vIconst (pc := 224) (v := 2) hc dL_law_224 ki_2 ?_
  refine vIadd (pc := 225) hc dL_law_225 ?_
  obtain ⟨hi2, hw⟩ := hw
  refine vSld (pc := 226) hc hX hi2 dL_law_226 ?_
  refine vAload_n (pc := 227) hc dL_law_227 rfl ?_
  refine vIload_n (pc := 228) hc dL_law_228 rfl ?_
  refine vIconst (pc := 229) (v := 3) hc dL_law_229 ki_3 ?_
  refine vIadd (pc := 230) hc dL_law_230 ?_
  obtain ⟨hi3, hw⟩ := hw
  refine vSld (pc := 231) hc hX hi3 dL_law_231 ?_
  refine vAload_n (pc := 232) hc dL_law_232 rfl ?_
  refine vIload_n (pc := 233) hc dL_law_233 rfl ?_
  refine vIconst (pc := 234) (v := 4) hc dL_law_234 ki_4 ?_
  refine vIadd (pc := 235) hc dL_law_235 ?_
  obtain ⟨hi4, hw⟩ := hw
  refine vSld (pc := 236) hc hX hi4 dL_law_236 ?_
  refine vAload_n (pc := 237) hc dL_law_237 rfl ?_
  refine vIload_n (pc := 238) hc dL_law_238 rfl ?_
  refine vIconst (pc := 239) (v := 5) hc dL_law_239 ki_5 ?_
  refine vIadd (pc := 240) hc dL_law_240 ?_
  obtain ⟨hi5, hw⟩ := hw
  refine vSld (pc := 241) hc hX hi5 dL_law_241 ?_
  refine vAload_n (pc := 242) hc dL_law_242 rfl ?_
  refine vIload_n (pc := 243) hc dL_law_243 rfl ?_
  refine vBipush (pc := 244) (v := 6) hc dL_law_244 kb_6 ?_
  refine vIadd (pc := 246) hc dL_law_246 ?_
  obtain ⟨hi6, hw⟩ := hw
  refine vSld (pc := 247) hc hX hi6 dL_law_247 ?_
  refine vAload_n (pc := 248) hc dL_law_248 rfl ?_
  refine vIload_n (pc := 249) hc dL_law_249 rfl ?_
  refine vBipush (pc := 250) (v := 7) hc dL_law_250 kb_7 ?_
  refine vIadd (pc := 252) hc dL_law_252 ?_
  obtain ⟨hi7, hw⟩ := hw
  refine vSld (pc := 253) hc hX hi7 dL_law_253 ?_
  refine vCallVi (pc := 254) (st := []) hc ok_X8_person tw_359 (c_X8_person hc.2.2.2.2.2.2.1 hc.G hw) (hc.G 0 (Nat.le_of_ble_eq_true rfl)) rfl rfl rfl ⟨rfl, rfl⟩ ⟨Nat.le_of_ble_eq_true rfl, Nat.le_of_ble_eq_true rfl⟩ rfl (Nat.le_of_ble_eq_true rfl) dL_law_254 (fun r254 σ254 hw => ?_)
  refine vAload_n (pc := 257) hc dL_law_257 rfl ?_
  refine vAload_n (pc := 258) hc dL_law_258 rfl ?_
  refine vIload_n (pc := 259) hc dL_law_259 rfl ?_
  refine vIconst (pc := 260) (v := 1) hc dL_law_260 ki_1 ?_
  refine vIadd (pc := 261) hc dL_law_261 ?_
  refine vSld (pc := 262) hc hX hi1 dL_law_262 ?_
  refine vAload_n (pc := 263) hc dL_law_263 rfl ?_
  refine vIload_n (pc := 264) hc dL_law_264 rfl ?_
  refine vIconst (pc := 265) (v := 2) hc dL_law_265 ki_2 ?_
  refine vIadd (pc := 266) hc dL_law_266 ?_
  refine vSld (pc := 267) hc hX hi2 dL_law_267 ?_
  refine vAload_n (pc := 268) hc dL_law_268 rfl ?_
  refine vIload_n (pc := 269) hc dL_law_269 rfl ?_
  refine vIconst (pc := 270) (v := 3) hc dL_law_270 ki_3 ?_
  refine vIadd (pc := 271) hc dL_law_271 ?_
  refine vSld (pc := 272) hc hX hi3 dL_law_272 ?_
  refine vAload_n (pc := 273) hc dL_law_273 rfl ?_
  refine vIload_n (pc := 274) hc dL_law_274 rfl ?_
  refine vIconst (pc := 275) (v := 4) hc dL_law_275 ki_4 ?_
  refine vIadd (pc := 276) hc dL_law_276 ?_
  refine vSld (pc := 277) hc hX hi4 dL_law_277 ?_
  refine vAload_n (pc := 278) hc dL_law_278 rfl ?_
  refine vIload_n (pc := 279) hc dL_law_279 rfl ?_
  refine vIconst (pc := 280) (v := 5) hc dL_law_280 ki_5 ?_
  refine vIadd (pc := 281) hc dL_law_281 ?_
  refine vSld (pc := 282) hc hX hi5 dL_law_282 ?_
  refine vAload_n (pc := 283) hc dL_law_283 rfl ?_
  refine vIload_n (pc := 284) hc dL_law_284 rfl ?_
  refine vBipush (pc := 285) (v := 6) hc dL_law_285 kb_6 ?_
  refine vIadd (pc := 287) hc dL_law_287 ?_
  refine vSld (pc := 288) hc hX hi6 dL_law_288 ?_
  refine vAload_n (pc := 289) hc dL_law_289 rfl ?_
  refine vIload_n (pc := 290) hc dL_law_290 rfl ?_
  refine vBipush (pc := 291) (v := 7) hc dL_law_291 kb_7 ?_
  refine vIadd (pc := 293) hc dL_law_293 ?_
  refine vSld (pc := 294) hc hX hi7 dL_law_294 ?_
  refine vCallVi (pc := 295) (st := [(.int r254)]) hc ok_X9_person tw_873 (c_X9_person hc.2.2.2.2.2.2.1 hc.G hw) (hc.G 66 (Nat.le_of_ble_eq_true rfl)) rfl rfl rfl ⟨rfl, rfl⟩ ⟨Nat.le_of_ble_eq_true rfl, Nat.le_of_ble_eq_true rfl⟩ rfl (Nat.le_of_ble_eq_true rfl) dL_law_295 (fun r295 σ295 hw => ?_)
  refine vIcmp_eq (pc := 298) (tgt := 891) hc dL_law_298 (by decide) (fun c298 => ?_) (fun c298 => ?_)
  · have hw := hw.1 c298
    refine vIinc (pc := 891) (v := x3 + 8) (L2 := [some (.ref b), some (.ref (E.2.1 0)), some (.ref (E.2.1 66)), some (.int (x3 + 8))]) hc dL_law_891 rfl rfl rfl (Nat.le_of_ble_eq_true rfl) ?_
    refine vGoto (pc := 894) (tgt := 18) hc dL_law_894 (by decide) ?_
    exact vMono (L2 := [some (.ref b), some (.ref (E.2.1 0)), some (.ref (E.2.1 66)), some (.int (x3 + 8))]) (show subL [some (.ref b), some (.ref (E.2.1 0)), some (.ref (E.2.1 66)), some (.int (x3 + 8))] [some (.ref b), some (.ref (E.2.1 0)), some (.ref (E.2.1 66)), some (.int (x3 + 8))] from ⟨rfl, ⟨rfl, ⟨rfl, ⟨rfl, trivial⟩⟩⟩⟩) (hK18 (x3 + 8) _ hw)
  · have hw := hw.2 c298
    refine vIconst (pc := 301) (v := 0) hc dL_law_301 ki_0 ?_
    exact hw.elim
set_option maxRecDepth 100000 in
set_option maxHeartbeats 4000000 in
theorem t_L_law_J183 {p : Program} {l : Launch} {e : Env} {s : State} {m : MethodId} {below : List Frame} {meth : Method} {c : Code} {E : WD} {b Ln kc ks : Nat} {xs : Nat → Int32} (hc : Cx p room_1 s m #[Value.ref b] meth c E (fun q => s.heap.size ≤ q) cL_law RL ret 4 kc ks fdm) (hX : va_X b Ln xs s s.heap ∧ b < s.heap.size) (hlo : kc ≤ 600000) (hks : ks ≤ 7302250) {K18 : Int32 → MS → Prop} (hK18 : ∀ (x3 : Int32) (σ : MS), K18 x3 σ → V p l e room_1 s m #[Value.ref b] below meth c E (fun q => s.heap.size ≤ q) 4 kc ks (lw_Z below #[Value.ref b] s) σ 18 [some (.ref b), some (.ref (E.2.1 0)), some (.ref (E.2.1 66)), some (.int x3)] []) (x3 : Int32) (σ : MS) (hw : w_L_law_J183 Ln xs K18 x3 σ) : V p l e room_1 s m #[Value.ref b] below meth c E (fun q => s.heap.size ≤ q) 4 kc ks (lw_Z below #[Value.ref b] s) σ 183 [some (.ref b), some (.ref (E.2.1 0)), some (.ref (E.2.1 66)), some (.int x3)] [] := by
  unfold w_L_law_J183 at hw
  refine vAload_n (pc := 183) hc dL_law_183 rfl ?_
  refine vAload_n (pc := 184) hc dL_law_184 rfl ?_
  refine vIload_n (pc := 185) hc dL_law_185 rfl ?_
  refine vIconst (pc := 186) (v := 1) hc dL_law_186 ki_1 ?_
  refine vIadd (pc := 187) hc dL_law_187 ?_
  obtain ⟨hi1, hw⟩ := hw
  refine vSld (pc := 188) hc hX hi1 dL_law_188 ?_
  refine vAload_n (pc := 189) hc dL_law_189 rfl ?_
  refine vIload_n (pc := 190) hc dL_law_190 rfl ?_
  refine vIconst (pc := 191) (v := 2) hc dL_law_191 ki_2 ?_
  refine vIadd (pc := 192) hc dL_law_192 ?_
  obtain ⟨hi2, hw⟩ := hw
  refine vSld (pc := 193) hc hX hi2 dL_law_193 ?_
  refine vCallVi (pc := 194) (st := []) hc ok_X8_least tw_351 (c_X8_least hc.2.2.2.2.2.2.1 hc.G hw) (hc.G 0 (Nat.le_of_ble_eq_true rfl)) rfl rfl rfl ⟨rfl, rfl⟩ ⟨Nat.le_of_ble_eq_true rfl, Nat.le_of_ble_eq_true rfl⟩ rfl (Nat.le_of_ble_eq_true rfl) dL_law_194 (fun r194 σ194 hw => ?_)
  refine vAload_n (pc := 197) hc dL_law_197 rfl ?_
  refine vAload_n (pc := 198) hc dL_law_198 rfl ?_
  refine vIload_n (pc := 199) hc dL_law_199 rfl ?_
  refine vIconst (pc := 200) (v := 1) hc dL_law_200 ki_1 ?_
  refine vIadd (pc := 201) hc dL_law_201 ?_
  refine vSld (pc := 202) hc hX hi1 dL_law_202 ?_
  refine vAload_n (pc := 203) hc dL_law_203 rfl ?_
  refine vIload_n (pc := 204) hc dL_law_204 rfl ?_
  refine vIconst (pc := 205) (v := 2) hc dL_law_205 ki_2 ?_
  refine vIadd (pc := 206) hc dL_law_206 ?_
  refine vSld (pc := 207) hc hX hi2 dL_law_207 ?_
  refine vCallVi (pc := 208) (st := [(.int r194)]) hc ok_X9_least tw_865 (c_X9_least hc.2.2.2.2.2.2.1 hc.G hw) (hc.G 66 (Nat.le_of_ble_eq_true rfl)) rfl rfl rfl ⟨rfl, rfl⟩ ⟨Nat.le_of_ble_eq_true rfl, Nat.le_of_ble_eq_true rfl⟩ rfl (Nat.le_of_ble_eq_true rfl) dL_law_208 (fun r208 σ208 hw => ?_)
  refine vIcmp_eq (pc := 211) (tgt := 891) hc dL_law_211 (by decide) (fun c211 => ?_) (fun c211 => ?_)
  · have hw := hw.1 c211
    refine vIinc (pc := 891) (v := x3 + 8) (L2 := [some (.ref b), some (.ref (E.2.1 0)), some (.ref (E.2.1 66)), some (.int (x3 + 8))]) hc dL_law_891 rfl rfl rfl (Nat.le_of_ble_eq_true rfl) ?_
    refine vGoto (pc := 894) (tgt := 18) hc dL_law_894 (by decide) ?_
    exact vMono (L2 := [some (.ref b), some (.ref (E.2.1 0)), some (.ref (E.2.1 66)), some (.int (x3 + 8))]) (show subL [some (.ref b), some (.ref (E.2.1 0)), some (.ref (E.2.1 66)), some (.int (x3 + 8))] [some (.ref b), some (.ref (E.2.1 0)), some (.ref (E.2.1 66)), some (.int (x3 + 8))] from ⟨rfl, ⟨rfl, ⟨rfl, ⟨rfl, trivial⟩⟩⟩⟩) (hK18 (x3 + 8) _ hw)
  · have hw := hw.2 c211
    refine vIconst (pc := 214) (v := 0) hc dL_law_214 ki_0 ?_
    exact hw.elim
set_option maxRecDepth 100000 in
set_option maxHeartbeats 4000000 in
theorem t_L_law_J140 {p : Program} {l : Launch} {e : Env} {s : State} {m : MethodId} {below : List Frame} {meth : Method} {c : Code} {E : WD} {b Ln kc ks : Nat} {xs : Nat → Int32} (hc : Cx p room_1 s m #[Value.ref b] meth c E (fun q => s.heap.size ≤ q) cL_law RL ret 4 kc ks fdm) (hX : va_X b Ln xs s s.heap ∧ b < s.heap.size) (hlo : kc ≤ 600000) (hks : ks ≤ 7302250) {K18 : Int32 → MS → Prop} (hK18 : ∀ (x3 : Int32) (σ : MS), K18 x3 σ → V p l e room_1 s m #[Value.ref b] below meth c E (fun q => s.heap.size ≤ q) 4 kc ks (lw_Z below #[Value.ref b] s) σ 18 [some (.ref b), some (.ref (E.2.1 0)), some (.ref (E.2.1 66)), some (.int x3)] []) (x3 : Int32) (σ : MS) (hw : w_L_law_J140 Ln xs K18 x3 σ) : V p l e room_1 s m #[Value.ref b] below meth c E (fun q => s.heap.size ≤ q) 4 kc ks (lw_Z below #[Value.ref b] s) σ 140 [some (.ref b), some (.ref (E.2.1 0)), some (.ref (E.2.1 66)), some (.int x3)] [] := by
  unfold w_L_law_J140 at hw
  refine vAload_n (pc := 140) hc dL_law_140 rfl ?_
  refine vAload_n (pc := 141) hc dL_law_141 rfl ?_
  refine vIload_n (pc := 142) hc dL_law_142 rfl ?_
  refine vIconst (pc := 143) (v := 1) hc dL_law_143 ki_1 ?_
  refine vIadd (pc := 144) hc dL_law_144 ?_
  obtain ⟨hi1, hw⟩ := hw
  refine vSld (pc := 145) hc hX hi1 dL_law_145 ?_
  refine vAload_n (pc := 146) hc dL_law_146 rfl ?_
  refine vIload_n (pc := 147) hc dL_law_147 rfl ?_
  refine vIconst (pc := 148) (v := 2) hc dL_law_148 ki_2 ?_
  refine vIadd (pc := 149) hc dL_law_149 ?_
  obtain ⟨hi2, hw⟩ := hw
  refine vSld (pc := 150) hc hX hi2 dL_law_150 ?_
  refine vAload_n (pc := 151) hc dL_law_151 rfl ?_
  refine vIload_n (pc := 152) hc dL_law_152 rfl ?_
  refine vIconst (pc := 153) (v := 3) hc dL_law_153 ki_3 ?_
  refine vIadd (pc := 154) hc dL_law_154 ?_
  obtain ⟨hi3, hw⟩ := hw
  refine vSld (pc := 155) hc hX hi3 dL_law_155 ?_
  refine vCallVi (pc := 156) (st := []) hc ok_X8_minutes tw_332 (c_X8_minutes hc.2.2.2.2.2.2.1 hc.G hw) (hc.G 0 (Nat.le_of_ble_eq_true rfl)) rfl rfl rfl ⟨rfl, rfl⟩ ⟨Nat.le_of_ble_eq_true rfl, Nat.le_of_ble_eq_true rfl⟩ rfl (Nat.le_of_ble_eq_true rfl) dL_law_156 (fun r156 σ156 hw => ?_)
  refine vAload_n (pc := 159) hc dL_law_159 rfl ?_
  refine vAload_n (pc := 160) hc dL_law_160 rfl ?_
  refine vIload_n (pc := 161) hc dL_law_161 rfl ?_
  refine vIconst (pc := 162) (v := 1) hc dL_law_162 ki_1 ?_
  refine vIadd (pc := 163) hc dL_law_163 ?_
  refine vSld (pc := 164) hc hX hi1 dL_law_164 ?_
  refine vAload_n (pc := 165) hc dL_law_165 rfl ?_
  refine vIload_n (pc := 166) hc dL_law_166 rfl ?_
  refine vIconst (pc := 167) (v := 2) hc dL_law_167 ki_2 ?_
  refine vIadd (pc := 168) hc dL_law_168 ?_
  refine vSld (pc := 169) hc hX hi2 dL_law_169 ?_
  refine vAload_n (pc := 170) hc dL_law_170 rfl ?_
  refine vIload_n (pc := 171) hc dL_law_171 rfl ?_
  refine vIconst (pc := 172) (v := 3) hc dL_law_172 ki_3 ?_
  refine vIadd (pc := 173) hc dL_law_173 ?_
  refine vSld (pc := 174) hc hX hi3 dL_law_174 ?_
  refine vCallVi (pc := 175) (st := [(.int r156)]) hc ok_X9_minutes tw_854 (c_X9_minutes hc.2.2.2.2.2.2.1 hc.G hw) (hc.G 66 (Nat.le_of_ble_eq_true rfl)) rfl rfl rfl ⟨rfl, rfl⟩ ⟨Nat.le_of_ble_eq_true rfl, Nat.le_of_ble_eq_true rfl⟩ rfl (Nat.le_of_ble_eq_true rfl) dL_law_175 (fun r175 σ175 hw => ?_)
  refine vIcmp_eq (pc := 178) (tgt := 891) hc dL_law_178 (by decide) (fun c178 => ?_) (fun c178 => ?_)
  · have hw := hw.1 c178
    refine vIinc (pc := 891) (v := x3 + 8) (L2 := [some (.ref b), some (.ref (E.2.1 0)), some (.ref (E.2.1 66)), some (.int (x3 + 8))]) hc dL_law_891 rfl rfl rfl (Nat.le_of_ble_eq_true rfl) ?_
    refine vGoto (pc := 894) (tgt := 18) hc dL_law_894 (by decide) ?_
    exact vMono (L2 := [some (.ref b), some (.ref (E.2.1 0)), some (.ref (E.2.1 66)), some (.int (x3 + 8))]) (show subL [some (.ref b), some (.ref (E.2.1 0)), some (.ref (E.2.1 66)), some (.int (x3 + 8))] [some (.ref b), some (.ref (E.2.1 0)), some (.ref (E.2.1 66)), some (.int (x3 + 8))] from ⟨rfl, ⟨rfl, ⟨rfl, ⟨rfl, trivial⟩⟩⟩⟩) (hK18 (x3 + 8) _ hw)
  · have hw := hw.2 c178
    refine vIconst (pc := 181) (v := 0) hc dL_law_181 ki_0 ?_
    exact hw.elim
set_option maxRecDepth 100000 in
set_option maxHeartbeats 4000000 in
theorem t_L_law_H18 {p : Program} {l : Launch} {e : Env} {s : State} {m : MethodId} {below : List Frame} {meth : Method} {c : Code} {E : WD} {b Ln kc ks : Nat} {xs : Nat → Int32} (hc : Cx p room_1 s m #[Value.ref b] meth c E (fun q => s.heap.size ≤ q) cL_law RL ret 4 kc ks fdm) (hX : va_X b Ln xs s s.heap ∧ b < s.heap.size) (hlo : kc ≤ 600000) (hks : ks ≤ 7302250) : ∀ (n : Nat) (x3 : Int32) (σ : MS), w_L_law_H18 Ln xs n x3 σ → V p l e room_1 s m #[Value.ref b] below meth c E (fun q => s.heap.size ≤ q) 4 kc ks (lw_Z below #[Value.ref b] s) σ 18 [some (.ref b), some (.ref (E.2.1 0)), some (.ref (E.2.1 66)), some (.int x3)] [] := by
  intro n
  induction n with
  | zero =>
    intro x3 σ hw
    exact hw.elim
  | succ n ih =>
    intro x3 σ hw
    unfold w_L_law_H18 at hw
    refine vIload_n (pc := 18) hc dL_law_18 rfl ?_
    refine vAload_n (pc := 19) hc dL_law_19 rfl ?_
    refine vSlen (pc := 20) hc hX dL_law_20 ?_
    refine vBipush (pc := 21) (v := 8) hc dL_law_21 kb_8 ?_
    refine vIsub (pc := 23) hc dL_law_23 ?_
    refine vIcmp_gt (pc := 24) (tgt := 897) hc dL_law_24 (by decide) (fun c24 => ?_) (fun c24 => ?_)
    · have hw := hw.1 c24
      refine vIconst (pc := 897) (v := 1) hc dL_law_897 ki_1 ?_
      exact vLawEnd (pc := 898) hc hlo hks dL_law_898
    · have hw := hw.2 c24
      refine vAload_n (pc := 27) hc dL_law_27 rfl ?_
      refine vIload_n (pc := 28) hc dL_law_28 rfl ?_
      obtain ⟨hi1, hw⟩ := hw
      refine vSld (pc := 29) hc hX hi1 dL_law_29 ?_
      refine vBipush (pc := 30) (v := 31) hc dL_law_30 kb_31 ?_
      refine vIand (pc := 32) hc dL_law_32 ?_
      obtain ⟨z33, ez33⟩ : ∃ z : Int32, z = (xs x3.toNatClampNeg) &&& 31 := ⟨_, rfl⟩
      have hw := hw z33 ez33
      refine vTop ez33 ?_
      by_cases b33_0 : z33 = 0
      · have hw := hw.1 b33_0
        refine vTop (y := 0) b33_0.symm ?_
        refine vTabIn (pc := 33) (tgt := 140) hc dL_law_33 (by decide) (by decide) rfl (by decide) ?_
        exact vMono (L2 := [some (.ref b), some (.ref (E.2.1 0)), some (.ref (E.2.1 66)), some (.int x3)]) (show subL [some (.ref b), some (.ref (E.2.1 0)), some (.ref (E.2.1 66)), some (.int x3)] [some (.ref b), some (.ref (E.2.1 0)), some (.ref (E.2.1 66)), some (.int x3)] from ⟨rfl, ⟨rfl, ⟨rfl, ⟨rfl, trivial⟩⟩⟩⟩) (t_L_law_J140 hc hX hlo hks (fun x3 σ hw => ih x3 σ hw) x3 _ hw)
      · have hw := hw.2 b33_0
        by_cases b33_1 : z33 = 1
        · have hw := hw.1 b33_1
          refine vTop (y := 1) b33_1.symm ?_
          refine vTabIn (pc := 33) (tgt := 183) hc dL_law_33 (by decide) (by decide) rfl (by decide) ?_
          exact vMono (L2 := [some (.ref b), some (.ref (E.2.1 0)), some (.ref (E.2.1 66)), some (.int x3)]) (show subL [some (.ref b), some (.ref (E.2.1 0)), some (.ref (E.2.1 66)), some (.int x3)] [some (.ref b), some (.ref (E.2.1 0)), some (.ref (E.2.1 66)), some (.int x3)] from ⟨rfl, ⟨rfl, ⟨rfl, ⟨rfl, trivial⟩⟩⟩⟩) (t_L_law_J183 hc hX hlo hks (fun x3 σ hw => ih x3 σ hw) x3 _ hw)
        · have hw := hw.2 b33_1
          by_cases b33_2 : z33 = 2
          · have hw := hw.1 b33_2
            refine vTop (y := 2) b33_2.symm ?_
            refine vTabIn (pc := 33) (tgt := 216) hc dL_law_33 (by decide) (by decide) rfl (by decide) ?_
            exact vMono (L2 := [some (.ref b), some (.ref (E.2.1 0)), some (.ref (E.2.1 66)), some (.int x3)]) (show subL [some (.ref b), some (.ref (E.2.1 0)), some (.ref (E.2.1 66)), some (.int x3)] [some (.ref b), some (.ref (E.2.1 0)), some (.ref (E.2.1 66)), some (.int x3)] from ⟨rfl, ⟨rfl, ⟨rfl, ⟨rfl, trivial⟩⟩⟩⟩) (t_L_law_J216 hc hX hlo hks (fun x3 σ hw => ih x3 σ hw) x3 _ hw)
          · have hw := hw.2 b33_2
            by_cases b33_3 : z33 = 3
            · have hw := hw.1 b33_3
              refine vTop (y := 3) b33_3.symm ?_
              refine vTabIn (pc := 33) (tgt := 303) hc dL_law_33 (by decide) (by decide) rfl (by decide) ?_
              exact vMono (L2 := [some (.ref b), some (.ref (E.2.1 0)), some (.ref (E.2.1 66)), some (.int x3)]) (show subL [some (.ref b), some (.ref (E.2.1 0)), some (.ref (E.2.1 66)), some (.int x3)] [some (.ref b), some (.ref (E.2.1 0)), some (.ref (E.2.1 66)), some (.int x3)] from ⟨rfl, ⟨rfl, ⟨rfl, ⟨rfl, trivial⟩⟩⟩⟩) (t_L_law_J303 hc hX hlo hks (fun x3 σ hw => ih x3 σ hw) x3 _ hw)
            · have hw := hw.2 b33_3
              by_cases b33_4 : z33 = 4
              · have hw := hw.1 b33_4
                refine vTop (y := 4) b33_4.symm ?_
                refine vTabIn (pc := 33) (tgt := 346) hc dL_law_33 (by decide) (by decide) rfl (by decide) ?_
                exact vMono (L2 := [some (.ref b), some (.ref (E.2.1 0)), some (.ref (E.2.1 66)), some (.int x3)]) (show subL [some (.ref b), some (.ref (E.2.1 0)), some (.ref (E.2.1 66)), some (.int x3)] [some (.ref b), some (.ref (E.2.1 0)), some (.ref (E.2.1 66)), some (.int x3)] from ⟨rfl, ⟨rfl, ⟨rfl, ⟨rfl, trivial⟩⟩⟩⟩) (t_L_law_J346 hc hX hlo hks (fun x3 σ hw => ih x3 σ hw) x3 _ hw)
              · have hw := hw.2 b33_4
                by_cases b33_5 : z33 = 5
                · have hw := hw.1 b33_5
                  refine vTop (y := 5) b33_5.symm ?_
                  refine vTabIn (pc := 33) (tgt := 405) hc dL_law_33 (by decide) (by decide) rfl (by decide) ?_
                  exact vMono (L2 := [some (.ref b), some (.ref (E.2.1 0)), some (.ref (E.2.1 66)), some (.int x3)]) (show subL [some (.ref b), some (.ref (E.2.1 0)), some (.ref (E.2.1 66)), some (.int x3)] [some (.ref b), some (.ref (E.2.1 0)), some (.ref (E.2.1 66)), some (.int x3)] from ⟨rfl, ⟨rfl, ⟨rfl, ⟨rfl, trivial⟩⟩⟩⟩) (t_L_law_J405 hc hX hlo hks (fun x3 σ hw => ih x3 σ hw) x3 _ hw)
                · have hw := hw.2 b33_5
                  by_cases b33_6 : z33 = 6
                  · have hw := hw.1 b33_6
                    refine vTop (y := 6) b33_6.symm ?_
                    refine vTabIn (pc := 33) (tgt := 454) hc dL_law_33 (by decide) (by decide) rfl (by decide) ?_
                    exact vMono (L2 := [some (.ref b), some (.ref (E.2.1 0)), some (.ref (E.2.1 66)), some (.int x3)]) (show subL [some (.ref b), some (.ref (E.2.1 0)), some (.ref (E.2.1 66)), some (.int x3)] [some (.ref b), some (.ref (E.2.1 0)), some (.ref (E.2.1 66)), some (.int x3)] from ⟨rfl, ⟨rfl, ⟨rfl, ⟨rfl, trivial⟩⟩⟩⟩) (t_L_law_J454 hc hX hlo hks (fun x3 σ hw => ih x3 σ hw) x3 _ hw)
                  · have hw := hw.2 b33_6
                    by_cases b33_7 : z33 = 7
                    · have hw := hw.1 b33_7
                      refine vTop (y := 7) b33_7.symm ?_
                      refine vTabIn (pc := 33) (tgt := 503) hc dL_law_33 (by decide) (by decide) rfl (by decide) ?_
                      exact vMono (L2 := [some (.ref b), some (.ref (E.2.1 0)), some (.ref (E.2.1 66)), some (.int x3)]) (show subL [some (.ref b), some (.ref (E.2.1 0)), some (.ref (E.2.1 66)), some (.int x3)] [some (.ref b), some (.ref (E.2.1 0)), some (.ref (E.2.1 66)), some (.int x3)] from ⟨rfl, ⟨rfl, ⟨rfl, ⟨rfl, trivial⟩⟩⟩⟩) (t_L_law_J503 hc hX hlo hks (fun x3 σ hw => ih x3 σ hw) x3 _ hw)
                    · have hw := hw.2 b33_7
                      by_cases b33_8 : z33 = 8
                      · have hw := hw.1 b33_8
                        refine vTop (y := 8) b33_8.symm ?_
                        refine vTabIn (pc := 33) (tgt := 536) hc dL_law_33 (by decide) (by decide) rfl (by decide) ?_
                        exact vMono (L2 := [some (.ref b), some (.ref (E.2.1 0)), some (.ref (E.2.1 66)), some (.int x3)]) (show subL [some (.ref b), some (.ref (E.2.1 0)), some (.ref (E.2.1 66)), some (.int x3)] [some (.ref b), some (.ref (E.2.1 0)), some (.ref (E.2.1 66)), some (.int x3)] from ⟨rfl, ⟨rfl, ⟨rfl, ⟨rfl, trivial⟩⟩⟩⟩) (t_L_law_J536 hc hX hlo hks (fun x3 σ hw => ih x3 σ hw) x3 _ hw)
                      · have hw := hw.2 b33_8
                        by_cases b33_9 : z33 = 9
                        · have hw := hw.1 b33_9
                          refine vTop (y := 9) b33_9.symm ?_
                          refine vTabIn (pc := 33) (tgt := 569) hc dL_law_33 (by decide) (by decide) rfl (by decide) ?_
                          exact vMono (L2 := [some (.ref b), some (.ref (E.2.1 0)), some (.ref (E.2.1 66)), some (.int x3)]) (show subL [some (.ref b), some (.ref (E.2.1 0)), some (.ref (E.2.1 66)), some (.int x3)] [some (.ref b), some (.ref (E.2.1 0)), some (.ref (E.2.1 66)), some (.int x3)] from ⟨rfl, ⟨rfl, ⟨rfl, ⟨rfl, trivial⟩⟩⟩⟩) (t_L_law_J569 hc hX hlo hks (fun x3 σ hw => ih x3 σ hw) x3 _ hw)
                        · have hw := hw.2 b33_9
                          by_cases b33_10 : z33 = 10
                          · have hw := hw.1 b33_10
                            refine vTop (y := 10) b33_10.symm ?_
                            refine vTabIn (pc := 33) (tgt := 612) hc dL_law_33 (by decide) (by decide) rfl (by decide) ?_
                            exact vMono (L2 := [some (.ref b), some (.ref (E.2.1 0)), some (.ref (E.2.1 66)), some (.int x3)]) (show subL [some (.ref b), some (.ref (E.2.1 0)), some (.ref (E.2.1 66)), some (.int x3)] [some (.ref b), some (.ref (E.2.1 0)), some (.ref (E.2.1 66)), some (.int x3)] from ⟨rfl, ⟨rfl, ⟨rfl, ⟨rfl, trivial⟩⟩⟩⟩) (t_L_law_J612 hc hX hlo hks (fun x3 σ hw => ih x3 σ hw) x3 _ hw)
                          · have hw := hw.2 b33_10
                            by_cases b33_11 : z33 = 11
                            · have hw := hw.1 b33_11
                              refine vTop (y := 11) b33_11.symm ?_
                              refine vTabIn (pc := 33) (tgt := 635) hc dL_law_33 (by decide) (by decide) rfl (by decide) ?_
                              exact vMono (L2 := [some (.ref b), some (.ref (E.2.1 0)), some (.ref (E.2.1 66)), some (.int x3)]) (show subL [some (.ref b), some (.ref (E.2.1 0)), some (.ref (E.2.1 66)), some (.int x3)] [some (.ref b), some (.ref (E.2.1 0)), some (.ref (E.2.1 66)), some (.int x3)] from ⟨rfl, ⟨rfl, ⟨rfl, ⟨rfl, trivial⟩⟩⟩⟩) (t_L_law_J635 hc hX hlo hks (fun x3 σ hw => ih x3 σ hw) x3 _ hw)
                            · have hw := hw.2 b33_11
                              by_cases b33_12 : z33 = 12
                              · have hw := hw.1 b33_12
                                refine vTop (y := 12) b33_12.symm ?_
                                refine vTabIn (pc := 33) (tgt := 658) hc dL_law_33 (by decide) (by decide) rfl (by decide) ?_
                                exact vMono (L2 := [some (.ref b), some (.ref (E.2.1 0)), some (.ref (E.2.1 66)), some (.int x3)]) (show subL [some (.ref b), some (.ref (E.2.1 0)), some (.ref (E.2.1 66)), some (.int x3)] [some (.ref b), some (.ref (E.2.1 0)), some (.ref (E.2.1 66)), some (.int x3)] from ⟨rfl, ⟨rfl, ⟨rfl, ⟨rfl, trivial⟩⟩⟩⟩) (t_L_law_J658 hc hX hlo hks (fun x3 σ hw => ih x3 σ hw) x3 _ hw)
                              · have hw := hw.2 b33_12
                                by_cases b33_13 : z33 = 13
                                · have hw := hw.1 b33_13
                                  refine vTop (y := 13) b33_13.symm ?_
                                  refine vTabIn (pc := 33) (tgt := 681) hc dL_law_33 (by decide) (by decide) rfl (by decide) ?_
                                  exact vMono (L2 := [some (.ref b), some (.ref (E.2.1 0)), some (.ref (E.2.1 66)), some (.int x3)]) (show subL [some (.ref b), some (.ref (E.2.1 0)), some (.ref (E.2.1 66)), some (.int x3)] [some (.ref b), some (.ref (E.2.1 0)), some (.ref (E.2.1 66)), some (.int x3)] from ⟨rfl, ⟨rfl, ⟨rfl, ⟨rfl, trivial⟩⟩⟩⟩) (t_L_law_J681 hc hX hlo hks (fun x3 σ hw => ih x3 σ hw) x3 _ hw)
                                · have hw := hw.2 b33_13
                                  by_cases b33_14 : z33 = 14
                                  · have hw := hw.1 b33_14
                                    refine vTop (y := 14) b33_14.symm ?_
                                    refine vTabIn (pc := 33) (tgt := 694) hc dL_law_33 (by decide) (by decide) rfl (by decide) ?_
                                    exact vMono (L2 := [some (.ref b), some (.ref (E.2.1 0)), some (.ref (E.2.1 66)), some (.int x3)]) (show subL [some (.ref b), some (.ref (E.2.1 0)), some (.ref (E.2.1 66)), some (.int x3)] [some (.ref b), some (.ref (E.2.1 0)), some (.ref (E.2.1 66)), some (.int x3)] from ⟨rfl, ⟨rfl, ⟨rfl, ⟨rfl, trivial⟩⟩⟩⟩) (t_L_law_J694 hc hX hlo hks (fun x3 σ hw => ih x3 σ hw) x3 _ hw)
                                  · have hw := hw.2 b33_14
                                    by_cases b33_15 : z33 = 15
                                    · have hw := hw.1 b33_15
                                      refine vTop (y := 15) b33_15.symm ?_
                                      refine vTabIn (pc := 33) (tgt := 717) hc dL_law_33 (by decide) (by decide) rfl (by decide) ?_
                                      exact vMono (L2 := [some (.ref b), some (.ref (E.2.1 0)), some (.ref (E.2.1 66)), some (.int x3)]) (show subL [some (.ref b), some (.ref (E.2.1 0)), some (.ref (E.2.1 66)), some (.int x3)] [some (.ref b), some (.ref (E.2.1 0)), some (.ref (E.2.1 66)), some (.int x3)] from ⟨rfl, ⟨rfl, ⟨rfl, ⟨rfl, trivial⟩⟩⟩⟩) (t_L_law_J717 hc hX hlo hks (fun x3 σ hw => ih x3 σ hw) x3 _ hw)
                                    · have hw := hw.2 b33_15
                                      by_cases b33_16 : z33 = 16
                                      · have hw := hw.1 b33_16
                                        refine vTop (y := 16) b33_16.symm ?_
                                        refine vTabIn (pc := 33) (tgt := 750) hc dL_law_33 (by decide) (by decide) rfl (by decide) ?_
                                        exact vMono (L2 := [some (.ref b), some (.ref (E.2.1 0)), some (.ref (E.2.1 66)), some (.int x3)]) (show subL [some (.ref b), some (.ref (E.2.1 0)), some (.ref (E.2.1 66)), some (.int x3)] [some (.ref b), some (.ref (E.2.1 0)), some (.ref (E.2.1 66)), some (.int x3)] from ⟨rfl, ⟨rfl, ⟨rfl, ⟨rfl, trivial⟩⟩⟩⟩) (t_L_law_J750 hc hX hlo hks (fun x3 σ hw => ih x3 σ hw) x3 _ hw)
                                      · have hw := hw.2 b33_16
                                        by_cases b33_17 : z33 = 17
                                        · have hw := hw.1 b33_17
                                          refine vTop (y := 17) b33_17.symm ?_
                                          refine vTabIn (pc := 33) (tgt := 763) hc dL_law_33 (by decide) (by decide) rfl (by decide) ?_
                                          exact vMono (L2 := [some (.ref b), some (.ref (E.2.1 0)), some (.ref (E.2.1 66)), some (.int x3)]) (show subL [some (.ref b), some (.ref (E.2.1 0)), some (.ref (E.2.1 66)), some (.int x3)] [some (.ref b), some (.ref (E.2.1 0)), some (.ref (E.2.1 66)), some (.int x3)] from ⟨rfl, ⟨rfl, ⟨rfl, ⟨rfl, trivial⟩⟩⟩⟩) (t_L_law_J763 hc hX hlo hks (fun x3 σ hw => ih x3 σ hw) x3 _ hw)
                                        · have hw := hw.2 b33_17
                                          by_cases b33_18 : z33 = 18
                                          · have hw := hw.1 b33_18
                                            refine vTop (y := 18) b33_18.symm ?_
                                            refine vTabIn (pc := 33) (tgt := 776) hc dL_law_33 (by decide) (by decide) rfl (by decide) ?_
                                            exact vMono (L2 := [some (.ref b), some (.ref (E.2.1 0)), some (.ref (E.2.1 66)), some (.int x3)]) (show subL [some (.ref b), some (.ref (E.2.1 0)), some (.ref (E.2.1 66)), some (.int x3)] [some (.ref b), some (.ref (E.2.1 0)), some (.ref (E.2.1 66)), some (.int x3)] from ⟨rfl, ⟨rfl, ⟨rfl, ⟨rfl, trivial⟩⟩⟩⟩) (t_L_law_J776 hc hX hlo hks (fun x3 σ hw => ih x3 σ hw) x3 _ hw)
                                          · have hw := hw.2 b33_18
                                            by_cases b33_19 : z33 = 19
                                            · have hw := hw.1 b33_19
                                              refine vTop (y := 19) b33_19.symm ?_
                                              refine vTabIn (pc := 33) (tgt := 799) hc dL_law_33 (by decide) (by decide) rfl (by decide) ?_
                                              exact vMono (L2 := [some (.ref b), some (.ref (E.2.1 0)), some (.ref (E.2.1 66)), some (.int x3)]) (show subL [some (.ref b), some (.ref (E.2.1 0)), some (.ref (E.2.1 66)), some (.int x3)] [some (.ref b), some (.ref (E.2.1 0)), some (.ref (E.2.1 66)), some (.int x3)] from ⟨rfl, ⟨rfl, ⟨rfl, ⟨rfl, trivial⟩⟩⟩⟩) (t_L_law_J799 hc hX hlo hks (fun x3 σ hw => ih x3 σ hw) x3 _ hw)
                                            · have hw := hw.2 b33_19
                                              by_cases b33_20 : z33 = 20
                                              · have hw := hw.1 b33_20
                                                refine vTop (y := 20) b33_20.symm ?_
                                                refine vTabIn (pc := 33) (tgt := 822) hc dL_law_33 (by decide) (by decide) rfl (by decide) ?_
                                                exact vMono (L2 := [some (.ref b), some (.ref (E.2.1 0)), some (.ref (E.2.1 66)), some (.int x3)]) (show subL [some (.ref b), some (.ref (E.2.1 0)), some (.ref (E.2.1 66)), some (.int x3)] [some (.ref b), some (.ref (E.2.1 0)), some (.ref (E.2.1 66)), some (.int x3)] from ⟨rfl, ⟨rfl, ⟨rfl, ⟨rfl, trivial⟩⟩⟩⟩) (t_L_law_J822 hc hX hlo hks (fun x3 σ hw => ih x3 σ hw) x3 _ hw)
                                              · have hw := hw.2 b33_20
                                                by_cases b33_21 : z33 = 21
                                                · have hw := hw.1 b33_21
                                                  refine vTop (y := 21) b33_21.symm ?_
                                                  refine vTabIn (pc := 33) (tgt := 835) hc dL_law_33 (by decide) (by decide) rfl (by decide) ?_
                                                  exact vMono (L2 := [some (.ref b), some (.ref (E.2.1 0)), some (.ref (E.2.1 66)), some (.int x3)]) (show subL [some (.ref b), some (.ref (E.2.1 0)), some (.ref (E.2.1 66)), some (.int x3)] [some (.ref b), some (.ref (E.2.1 0)), some (.ref (E.2.1 66)), some (.int x3)] from ⟨rfl, ⟨rfl, ⟨rfl, ⟨rfl, trivial⟩⟩⟩⟩) (t_L_law_J835 hc hX hlo hks (fun x3 σ hw => ih x3 σ hw) x3 _ hw)
                                                · have hw := hw.2 b33_21
                                                  by_cases b33_22 : z33 = 22
                                                  · have hw := hw.1 b33_22
                                                    refine vTop (y := 22) b33_22.symm ?_
                                                    refine vTabIn (pc := 33) (tgt := 868) hc dL_law_33 (by decide) (by decide) rfl (by decide) ?_
                                                    exact vMono (L2 := [some (.ref b), some (.ref (E.2.1 0)), some (.ref (E.2.1 66)), some (.int x3)]) (show subL [some (.ref b), some (.ref (E.2.1 0)), some (.ref (E.2.1 66)), some (.int x3)] [some (.ref b), some (.ref (E.2.1 0)), some (.ref (E.2.1 66)), some (.int x3)] from ⟨rfl, ⟨rfl, ⟨rfl, ⟨rfl, trivial⟩⟩⟩⟩) (t_L_law_J868 hc hX hlo hks (fun x3 σ hw => ih x3 σ hw) x3 _ hw)
                                                  · have hw := hw.2 b33_22
                                                    refine vTabOut (pc := 33) (tgt := 891) hc dL_law_33 (by
                                                      have f0 := lv_neT b33_0 (by decide : (0 : Int32).toInt = 0)
                                                      have f1 := lv_neT b33_1 (by decide : (1 : Int32).toInt = 1)
                                                      have f2 := lv_neT b33_2 (by decide : (2 : Int32).toInt = 2)
                                                      have f3 := lv_neT b33_3 (by decide : (3 : Int32).toInt = 3)
                                                      have f4 := lv_neT b33_4 (by decide : (4 : Int32).toInt = 4)
                                                      have f5 := lv_neT b33_5 (by decide : (5 : Int32).toInt = 5)
                                                      have f6 := lv_neT b33_6 (by decide : (6 : Int32).toInt = 6)
                                                      have f7 := lv_neT b33_7 (by decide : (7 : Int32).toInt = 7)
                                                      have f8 := lv_neT b33_8 (by decide : (8 : Int32).toInt = 8)
                                                      have f9 := lv_neT b33_9 (by decide : (9 : Int32).toInt = 9)
                                                      have f10 := lv_neT b33_10 (by decide : (10 : Int32).toInt = 10)
                                                      have f11 := lv_neT b33_11 (by decide : (11 : Int32).toInt = 11)
                                                      have f12 := lv_neT b33_12 (by decide : (12 : Int32).toInt = 12)
                                                      have f13 := lv_neT b33_13 (by decide : (13 : Int32).toInt = 13)
                                                      have f14 := lv_neT b33_14 (by decide : (14 : Int32).toInt = 14)
                                                      have f15 := lv_neT b33_15 (by decide : (15 : Int32).toInt = 15)
                                                      have f16 := lv_neT b33_16 (by decide : (16 : Int32).toInt = 16)
                                                      have f17 := lv_neT b33_17 (by decide : (17 : Int32).toInt = 17)
                                                      have f18 := lv_neT b33_18 (by decide : (18 : Int32).toInt = 18)
                                                      have f19 := lv_neT b33_19 (by decide : (19 : Int32).toInt = 19)
                                                      have f20 := lv_neT b33_20 (by decide : (20 : Int32).toInt = 20)
                                                      have f21 := lv_neT b33_21 (by decide : (21 : Int32).toInt = 21)
                                                      have f22 := lv_neT b33_22 (by decide : (22 : Int32).toInt = 22)
                                                      omega) (by decide) ?_
                                                    refine vIinc (pc := 891) (v := x3 + 8) (L2 := [some (.ref b), some (.ref (E.2.1 0)), some (.ref (E.2.1 66)), some (.int (x3 + 8))]) hc dL_law_891 rfl rfl rfl (Nat.le_of_ble_eq_true rfl) ?_
                                                    refine vGoto (pc := 894) (tgt := 18) hc dL_law_894 (by decide) ?_
                                                    exact vMono (L2 := [some (.ref b), some (.ref (E.2.1 0)), some (.ref (E.2.1 66)), some (.int (x3 + 8))]) (show subL [some (.ref b), some (.ref (E.2.1 0)), some (.ref (E.2.1 66)), some (.int (x3 + 8))] [some (.ref b), some (.ref (E.2.1 0)), some (.ref (E.2.1 66)), some (.int (x3 + 8))] from ⟨rfl, ⟨rfl, ⟨rfl, ⟨rfl, trivial⟩⟩⟩⟩) (ih (x3 + 8) _ hw)
