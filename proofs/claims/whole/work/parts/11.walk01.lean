def w_X0_minutesFor_E (Q : Int32 → MS → Prop) (x1 : Int32) (σ : MS) : Prop := ((vp_in x1 512) ∧ Q (σ 28 x1.toNatClampNeg) σ)
abbrev w_X0_minutesFor (x1 : Int32) (σ : MS) (Q : Int32 → MS → Prop) : Prop := w_X0_minutesFor_E Q x1 σ
abbrev rm_X0_minutesFor : Room := { frames := 0, cells := 0, slots := 0, locals := 0 }
theorem ok_X0_minutesFor : OkV yX0_minutesFor RX0 cX0_minutesFor 2 (some .int) 1 := ⟨tw_518, tw_519, tw_54, tw_520, rfl, by decide, by decide, by decide +kernel⟩
set_option maxRecDepth 100000 in
set_option maxHeartbeats 4000000 in
theorem t_X0_minutesFor_E {p : Program} {l : Launch} {e : Env} {s : State} {m : MethodId} {args : Array Value} {below : List Frame} {meth : Method} {c : Code} {E : WD} {Q : Int32 → MS → Prop} (hc : Cx p rm_X0_minutesFor s m args meth c E (AD E) cX0_minutesFor RX0 (some .int) 2 0 0 fdm) (x1 : Int32) (σ : MS) (hw : w_X0_minutesFor_E Q x1 σ) : V p l e rm_X0_minutesFor s m args below meth c E (AD E) 2 0 0 (MQ below (va_Qi Q (BW E) (AD E)) args s 0 0 (AD E)) σ 0 [some (.ref (E.2.1 9)), some (.int x1)] [] := by
  unfold w_X0_minutesFor_E at hw
  refine vAload_n (pc := 0) hc dX0_minutesFor_0 rfl ?_
  refine vGetR (pc := 1) (k := 9) (j := 1) hc rfl inG0 (hc.G 9 (Nat.le_of_ble_eq_true rfl)) rfl (Nat.le_of_ble_eq_true rfl) tw_254 rfl dX0_minutesFor_1 ?_
  refine vIload_n (pc := 4) hc dX0_minutesFor_4 rfl ?_
  obtain ⟨hi1, hw⟩ := hw
  refine vIald (pc := 5) (k := 28) hc (hc.G 28 (Nat.le_of_ble_eq_true rfl)) rfl rfl hi1 dX0_minutesFor_5 ?_
  exact vIret (pc := 6) hc dX0_minutesFor_6 hw
set_option maxRecDepth 100000 in
set_option maxHeartbeats 4000000 in
theorem c_X0_minutesFor {l : Launch} {E : WD} (hE : inj E) (hG : ∀ k, fdm k → k ∈ E.2.2.2) {x1 : Int32} {σ : MS} {Q : Int32 → MS → Prop} (hw : w_X0_minutesFor x1 σ Q) : Ci l E yX0_minutesFor cX0_minutesFor 2 (some .int) rm_X0_minutesFor [.ref (E.2.1 9), .int x1] σ Q :=
  Ct_of (by decide) rfl (by
    intro v hv
    simp only [List.mem_cons, List.not_mem_nil, or_false] at hv
    rcases hv with rfl | rfl <;> rfl) (Nat.le_of_ble_eq_true rfl) hE hG (fun p e s m below meth c hc => t_X0_minutesFor_E hc x1 σ hw)
def w_X0_driverFor_E (Q : Int32 → MS → Prop) (x1 : Int32) (σ : MS) : Prop := ((vp_in x1 512) ∧ Q (σ 29 x1.toNatClampNeg) σ)
abbrev w_X0_driverFor (x1 : Int32) (σ : MS) (Q : Int32 → MS → Prop) : Prop := w_X0_driverFor_E Q x1 σ
abbrev rm_X0_driverFor : Room := { frames := 0, cells := 0, slots := 0, locals := 0 }
theorem ok_X0_driverFor : OkV yX0_driverFor RX0 cX0_driverFor 2 (some .int) 1 := ⟨tw_526, tw_527, tw_54, tw_528, rfl, by decide, by decide, by decide +kernel⟩
set_option maxRecDepth 100000 in
set_option maxHeartbeats 4000000 in
theorem t_X0_driverFor_E {p : Program} {l : Launch} {e : Env} {s : State} {m : MethodId} {args : Array Value} {below : List Frame} {meth : Method} {c : Code} {E : WD} {Q : Int32 → MS → Prop} (hc : Cx p rm_X0_driverFor s m args meth c E (AD E) cX0_driverFor RX0 (some .int) 2 0 0 fdm) (x1 : Int32) (σ : MS) (hw : w_X0_driverFor_E Q x1 σ) : V p l e rm_X0_driverFor s m args below meth c E (AD E) 2 0 0 (MQ below (va_Qi Q (BW E) (AD E)) args s 0 0 (AD E)) σ 0 [some (.ref (E.2.1 9)), some (.int x1)] [] := by
  unfold w_X0_driverFor_E at hw
  refine vAload_n (pc := 0) hc dX0_driverFor_0 rfl ?_
  refine vGetR (pc := 1) (k := 9) (j := 2) hc rfl inG0 (hc.G 9 (Nat.le_of_ble_eq_true rfl)) rfl (Nat.le_of_ble_eq_true rfl) tw_255 rfl dX0_driverFor_1 ?_
  refine vIload_n (pc := 4) hc dX0_driverFor_4 rfl ?_
  obtain ⟨hi1, hw⟩ := hw
  refine vIald (pc := 5) (k := 29) hc (hc.G 29 (Nat.le_of_ble_eq_true rfl)) rfl rfl hi1 dX0_driverFor_5 ?_
  exact vIret (pc := 6) hc dX0_driverFor_6 hw
set_option maxRecDepth 100000 in
set_option maxHeartbeats 4000000 in
theorem c_X0_driverFor {l : Launch} {E : WD} (hE : inj E) (hG : ∀ k, fdm k → k ∈ E.2.2.2) {x1 : Int32} {σ : MS} {Q : Int32 → MS → Prop} (hw : w_X0_driverFor x1 σ Q) : Ci l E yX0_driverFor cX0_driverFor 2 (some .int) rm_X0_driverFor [.ref (E.2.1 9), .int x1] σ Q :=
  Ct_of (by decide) rfl (by
    intro v hv
    simp only [List.mem_cons, List.not_mem_nil, or_false] at hv
    rcases hv with rfl | rfl <;> rfl) (Nat.le_of_ble_eq_true rfl) hE hG (fun p e s m below meth c hc => t_X0_driverFor_E hc x1 σ hw)
def w_X0_forgetWith_H2 (Q : MS → Prop) : Nat → Int32 → Int32 → MS → Prop
  | 0, _, _, _ => False
  | n + 1, x1, x2, σ => ((512 ≤ x2 → Q σ) ∧ (¬ 512 ≤ x2 → ((¬ (x2 &&& x1) = x1 → w_X0_forgetWith_H2 Q n x1 (x2 + 1) σ) ∧ ((x2 &&& x1) = x1 → ((vp_in x2 512) ∧ (∀ σ22, σ22 = mst σ 28 x2.toNatClampNeg (-1) → w_X0_forgetWith_H2 Q n x1 (x2 + 1) σ22))))))
def w_X0_forgetWith_E (Q : MS → Prop) (x1 : Int32) (σ : MS) : Prop := (∃ n2, w_X0_forgetWith_H2 Q n2 x1 0 σ)
abbrev w_X0_forgetWith (x1 : Int32) (σ : MS) (Q : MS → Prop) : Prop := w_X0_forgetWith_E Q x1 σ
abbrev rm_X0_forgetWith : Room := { frames := 0, cells := 0, slots := 0, locals := 0 }
theorem ok_X0_forgetWith : OkV yX0_forgetWith RX0 cX0_forgetWith 3 none 1 := ⟨tw_348, tw_349, tw_54, tw_350, rfl, by decide, by decide, by decide +kernel⟩
set_option maxRecDepth 100000 in
set_option maxHeartbeats 4000000 in
theorem t_X0_forgetWith_H2 {p : Program} {l : Launch} {e : Env} {s : State} {m : MethodId} {args : Array Value} {below : List Frame} {meth : Method} {c : Code} {E : WD} {Q : MS → Prop} (hc : Cx p rm_X0_forgetWith s m args meth c E (AD E) cX0_forgetWith RX0 none 3 0 0 fdm) : ∀ (n : Nat) (x1 x2 : Int32) (σ : MS), w_X0_forgetWith_H2 Q n x1 x2 σ → V p l e rm_X0_forgetWith s m args below meth c E (AD E) 3 0 0 (MQ below (va_Qv Q (BW E) (AD E)) args s 0 0 (AD E)) σ 2 [some (.ref (E.2.1 9)), some (.int x1), some (.int x2)] [] := by
  intro n
  induction n with
  | zero =>
    intro x1 x2 σ hw
    exact hw.elim
  | succ n ih =>
    intro x1 x2 σ hw
    unfold w_X0_forgetWith_H2 at hw
    refine vIload_n (pc := 2) hc dX0_forgetWith_2 rfl ?_
    refine vSipush (pc := 3) (v := 512) hc dX0_forgetWith_3 ks_512 ?_
    refine vIcmp_ge (pc := 6) (tgt := 29) hc dX0_forgetWith_6 (by decide) (fun c6 => ?_) (fun c6 => ?_)
    · have hw := hw.1 c6
      exact vVret (pc := 29) hc dX0_forgetWith_29 hw
    · have hw := hw.2 c6
      refine vIload_n (pc := 9) hc dX0_forgetWith_9 rfl ?_
      refine vIload_n (pc := 10) hc dX0_forgetWith_10 rfl ?_
      refine vIand (pc := 11) hc dX0_forgetWith_11 ?_
      refine vIload_n (pc := 12) hc dX0_forgetWith_12 rfl ?_
      refine vIcmp_ne (pc := 13) (tgt := 23) hc dX0_forgetWith_13 (by decide) (fun c13 => ?_) (fun c13 => ?_)
      · have hw := hw.1 c13
        refine vIinc (pc := 23) (v := x2 + 1) (L2 := [some (.ref (E.2.1 9)), some (.int x1), some (.int (x2 + 1))]) hc dX0_forgetWith_23 rfl rfl rfl (Nat.le_of_ble_eq_true rfl) ?_
        refine vGoto (pc := 26) (tgt := 2) hc dX0_forgetWith_26 (by decide) ?_
        exact vMono (L2 := [some (.ref (E.2.1 9)), some (.int x1), some (.int (x2 + 1))]) (show subL [some (.ref (E.2.1 9)), some (.int x1), some (.int (x2 + 1))] [some (.ref (E.2.1 9)), some (.int x1), some (.int (x2 + 1))] from ⟨rfl, ⟨rfl, ⟨rfl, trivial⟩⟩⟩) (ih x1 (x2 + 1) _ hw)
      · have hw := hw.2 c13
        refine vAload_n (pc := 16) hc dX0_forgetWith_16 rfl ?_
        refine vGetR (pc := 17) (k := 9) (j := 1) hc rfl inG0 (hc.G 9 (Nat.le_of_ble_eq_true rfl)) rfl (Nat.le_of_ble_eq_true rfl) tw_254 rfl dX0_forgetWith_17 ?_
        refine vIload_n (pc := 20) hc dX0_forgetWith_20 rfl ?_
        refine vIconst (pc := 21) (v := (-1)) hc dX0_forgetWith_21 ki_m1 ?_
        obtain ⟨hi1, hw⟩ := hw
        refine vIast (pc := 22) (k := 28) hc (hc.G 28 (Nat.le_of_ble_eq_true rfl)) rfl rfl hi1 dX0_forgetWith_22 (fun σ22 eσ22 => ?_)
        have hw := hw σ22 eσ22
        refine vIinc (pc := 23) (v := x2 + 1) (L2 := [some (.ref (E.2.1 9)), some (.int x1), some (.int (x2 + 1))]) hc dX0_forgetWith_23 rfl rfl rfl (Nat.le_of_ble_eq_true rfl) ?_
        refine vGoto (pc := 26) (tgt := 2) hc dX0_forgetWith_26 (by decide) ?_
        exact vMono (L2 := [some (.ref (E.2.1 9)), some (.int x1), some (.int (x2 + 1))]) (show subL [some (.ref (E.2.1 9)), some (.int x1), some (.int (x2 + 1))] [some (.ref (E.2.1 9)), some (.int x1), some (.int (x2 + 1))] from ⟨rfl, ⟨rfl, ⟨rfl, trivial⟩⟩⟩) (ih x1 (x2 + 1) _ hw)
set_option maxRecDepth 100000 in
set_option maxHeartbeats 4000000 in
theorem t_X0_forgetWith_E {p : Program} {l : Launch} {e : Env} {s : State} {m : MethodId} {args : Array Value} {below : List Frame} {meth : Method} {c : Code} {E : WD} {Q : MS → Prop} (hc : Cx p rm_X0_forgetWith s m args meth c E (AD E) cX0_forgetWith RX0 none 3 0 0 fdm) (x1 : Int32) (σ : MS) (hw : w_X0_forgetWith_E Q x1 σ) : V p l e rm_X0_forgetWith s m args below meth c E (AD E) 3 0 0 (MQ below (va_Qv Q (BW E) (AD E)) args s 0 0 (AD E)) σ 0 [some (.ref (E.2.1 9)), some (.int x1), none] [] := by
  unfold w_X0_forgetWith_E at hw
  refine vIconst (pc := 0) (v := 0) hc dX0_forgetWith_0 ki_0 ?_
  refine vIstore_n (pc := 1) (L2 := [some (.ref (E.2.1 9)), some (.int x1), some (.int 0)]) hc dX0_forgetWith_1 rfl (Nat.le_of_ble_eq_true rfl) ?_
  obtain ⟨n2, hw⟩ := hw
  exact vMono (L2 := [some (.ref (E.2.1 9)), some (.int x1), some (.int 0)]) (show subL [some (.ref (E.2.1 9)), some (.int x1), some (.int 0)] [some (.ref (E.2.1 9)), some (.int x1), some (.int 0)] from ⟨rfl, ⟨rfl, ⟨rfl, trivial⟩⟩⟩) (t_X0_forgetWith_H2 hc  n2 x1 0 _ hw)
set_option maxRecDepth 100000 in
set_option maxHeartbeats 4000000 in
theorem c_X0_forgetWith {l : Launch} {E : WD} (hE : inj E) (hG : ∀ k, fdm k → k ∈ E.2.2.2) {x1 : Int32} {σ : MS} {Q : MS → Prop} (hw : w_X0_forgetWith x1 σ Q) : Cv l E yX0_forgetWith cX0_forgetWith 3 none rm_X0_forgetWith [.ref (E.2.1 9), .int x1] σ Q :=
  Ct_of (by decide) rfl (by
    intro v hv
    simp only [List.mem_cons, List.not_mem_nil, or_false] at hv
    rcases hv with rfl | rfl <;> rfl) (Nat.le_of_ble_eq_true rfl) hE hG (fun p e s m below meth c hc => t_X0_forgetWith_E hc x1 σ hw)
def w_J6_bitCount_0f7a4_E (Q : Int32 → MS → Prop) (x0 : Int32) (σ : MS) : Prop := (∀ x0_9 : Int32, x0_9 = (x0 - (((x0.toUInt32 >>> ((1 : Int32).toUInt32 &&& Int32.toUInt32 31)).toInt32) &&& 1431655765)) → (∀ x0_23 : Int32, x0_23 = ((x0_9 &&& 858993459) + (((x0_9.toUInt32 >>> ((2 : Int32).toUInt32 &&& Int32.toUInt32 31)).toInt32) &&& 858993459)) → (∀ x0_33 : Int32, x0_33 = ((x0_23 + ((x0_23.toUInt32 >>> ((4 : Int32).toUInt32 &&& Int32.toUInt32 31)).toInt32)) &&& 252645135) → (∀ x0_40 : Int32, x0_40 = (x0_33 + ((x0_33.toUInt32 >>> ((8 : Int32).toUInt32 &&& Int32.toUInt32 31)).toInt32)) → (∀ x0_47 : Int32, x0_47 = (x0_40 + ((x0_40.toUInt32 >>> ((16 : Int32).toUInt32 &&& Int32.toUInt32 31)).toInt32)) → Q (x0_47 &&& 63) σ)))))
abbrev w_J6_bitCount_0f7a4 (x0 : Int32) (σ : MS) (Q : Int32 → MS → Prop) : Prop := w_J6_bitCount_0f7a4_E Q x0 σ
abbrev rm_J6_bitCount_0f7a4 : Room := { frames := 0, cells := 0, slots := 0, locals := 0 }
theorem ok_J6_bitCount_0f7a4 : OkS yJ6_bitCount_0f7a4 cJ6_bitCount_0f7a4 1 (some .int) 1 := ⟨tw_419, tw_58, tw_420, by decide, by decide, by decide +kernel⟩
set_option maxRecDepth 100000 in
set_option maxHeartbeats 4000000 in
theorem t_J6_bitCount_0f7a4_E {p : Program} {l : Launch} {e : Env} {s : State} {m : MethodId} {args : Array Value} {below : List Frame} {meth : Method} {c : Code} {E : WD} {Q : Int32 → MS → Prop} (hc : Cx p rm_J6_bitCount_0f7a4 s m args meth c E (AD E) cJ6_bitCount_0f7a4 RJ6 (some .int) 1 0 0 fdm) (x0 : Int32) (σ : MS) (hw : w_J6_bitCount_0f7a4_E Q x0 σ) : V p l e rm_J6_bitCount_0f7a4 s m args below meth c E (AD E) 1 0 0 (MQ below (va_Qi Q (BW E) (AD E)) args s 0 0 (AD E)) σ 0 [some (.int x0)] [] := by
  unfold w_J6_bitCount_0f7a4_E at hw
  refine vIload_n (pc := 0) hc dJ6_bitCount_0f7a4_0 rfl ?_
  refine vIload_n (pc := 1) hc dJ6_bitCount_0f7a4_1 rfl ?_
  refine vIconst (pc := 2) (v := 1) hc dJ6_bitCount_0f7a4_2 ki_1 ?_
  refine vIushr (pc := 3) hc dJ6_bitCount_0f7a4_3 ?_
  refine vLdcw (pc := 4) hc tw_421 dJ6_bitCount_0f7a4_4 ?_
  refine vIand (pc := 7) hc dJ6_bitCount_0f7a4_7 ?_
  refine vIsub (pc := 8) hc dJ6_bitCount_0f7a4_8 ?_
  obtain ⟨x0_9, ex0_9⟩ : ∃ z : Int32, z = x0 - (((x0.toUInt32 >>> ((1 : Int32).toUInt32 &&& Int32.toUInt32 31)).toInt32) &&& 1431655765) := ⟨_, rfl⟩
  have hw := hw x0_9 ex0_9
  refine vTop ex0_9 ?_
  refine vIstore_n (pc := 9) (L2 := [some (.int x0_9)]) hc dJ6_bitCount_0f7a4_9 rfl (Nat.le_of_ble_eq_true rfl) ?_
  refine vIload_n (pc := 10) hc dJ6_bitCount_0f7a4_10 rfl ?_
  refine vLdcw (pc := 11) hc tw_422 dJ6_bitCount_0f7a4_11 ?_
  refine vIand (pc := 14) hc dJ6_bitCount_0f7a4_14 ?_
  refine vIload_n (pc := 15) hc dJ6_bitCount_0f7a4_15 rfl ?_
  refine vIconst (pc := 16) (v := 2) hc dJ6_bitCount_0f7a4_16 ki_2 ?_
  refine vIushr (pc := 17) hc dJ6_bitCount_0f7a4_17 ?_
  refine vLdcw (pc := 18) hc tw_422 dJ6_bitCount_0f7a4_18 ?_
  refine vIand (pc := 21) hc dJ6_bitCount_0f7a4_21 ?_
  refine vIadd (pc := 22) hc dJ6_bitCount_0f7a4_22 ?_
  obtain ⟨x0_23, ex0_23⟩ : ∃ z : Int32, z = (x0_9 &&& 858993459) + (((x0_9.toUInt32 >>> ((2 : Int32).toUInt32 &&& Int32.toUInt32 31)).toInt32) &&& 858993459) := ⟨_, rfl⟩
  have hw := hw x0_23 ex0_23
  refine vTop ex0_23 ?_
  refine vIstore_n (pc := 23) (L2 := [some (.int x0_23)]) hc dJ6_bitCount_0f7a4_23 rfl (Nat.le_of_ble_eq_true rfl) ?_
  refine vIload_n (pc := 24) hc dJ6_bitCount_0f7a4_24 rfl ?_
  refine vIload_n (pc := 25) hc dJ6_bitCount_0f7a4_25 rfl ?_
  refine vIconst (pc := 26) (v := 4) hc dJ6_bitCount_0f7a4_26 ki_4 ?_
  refine vIushr (pc := 27) hc dJ6_bitCount_0f7a4_27 ?_
  refine vIadd (pc := 28) hc dJ6_bitCount_0f7a4_28 ?_
  refine vLdcw (pc := 29) hc tw_423 dJ6_bitCount_0f7a4_29 ?_
  refine vIand (pc := 32) hc dJ6_bitCount_0f7a4_32 ?_
  obtain ⟨x0_33, ex0_33⟩ : ∃ z : Int32, z = (x0_23 + ((x0_23.toUInt32 >>> ((4 : Int32).toUInt32 &&& Int32.toUInt32 31)).toInt32)) &&& 252645135 := ⟨_, rfl⟩
  have hw := hw x0_33 ex0_33
  refine vTop ex0_33 ?_
  refine vIstore_n (pc := 33) (L2 := [some (.int x0_33)]) hc dJ6_bitCount_0f7a4_33 rfl (Nat.le_of_ble_eq_true rfl) ?_
  refine vIload_n (pc := 34) hc dJ6_bitCount_0f7a4_34 rfl ?_
  refine vIload_n (pc := 35) hc dJ6_bitCount_0f7a4_35 rfl ?_
  refine vBipush (pc := 36) (v := 8) hc dJ6_bitCount_0f7a4_36 kb_8 ?_
  refine vIushr (pc := 38) hc dJ6_bitCount_0f7a4_38 ?_
  refine vIadd (pc := 39) hc dJ6_bitCount_0f7a4_39 ?_
  obtain ⟨x0_40, ex0_40⟩ : ∃ z : Int32, z = x0_33 + ((x0_33.toUInt32 >>> ((8 : Int32).toUInt32 &&& Int32.toUInt32 31)).toInt32) := ⟨_, rfl⟩
  have hw := hw x0_40 ex0_40
  refine vTop ex0_40 ?_
  refine vIstore_n (pc := 40) (L2 := [some (.int x0_40)]) hc dJ6_bitCount_0f7a4_40 rfl (Nat.le_of_ble_eq_true rfl) ?_
  refine vIload_n (pc := 41) hc dJ6_bitCount_0f7a4_41 rfl ?_
  refine vIload_n (pc := 42) hc dJ6_bitCount_0f7a4_42 rfl ?_
  refine vBipush (pc := 43) (v := 16) hc dJ6_bitCount_0f7a4_43 kb_16 ?_
  refine vIushr (pc := 45) hc dJ6_bitCount_0f7a4_45 ?_
  refine vIadd (pc := 46) hc dJ6_bitCount_0f7a4_46 ?_
  obtain ⟨x0_47, ex0_47⟩ : ∃ z : Int32, z = x0_40 + ((x0_40.toUInt32 >>> ((16 : Int32).toUInt32 &&& Int32.toUInt32 31)).toInt32) := ⟨_, rfl⟩
  have hw := hw x0_47 ex0_47
  refine vTop ex0_47 ?_
  refine vIstore_n (pc := 47) (L2 := [some (.int x0_47)]) hc dJ6_bitCount_0f7a4_47 rfl (Nat.le_of_ble_eq_true rfl) ?_
  refine vIload_n (pc := 48) hc dJ6_bitCount_0f7a4_48 rfl ?_
  refine vBipush (pc := 49) (v := 63) hc dJ6_bitCount_0f7a4_49 kb_63 ?_
  refine vIand (pc := 51) hc dJ6_bitCount_0f7a4_51 ?_
  exact vIret (pc := 52) hc dJ6_bitCount_0f7a4_52 hw
set_option maxRecDepth 100000 in
set_option maxHeartbeats 4000000 in
theorem c_J6_bitCount_0f7a4 {l : Launch} {E : WD} (hE : inj E) (hG : ∀ k, fdm k → k ∈ E.2.2.2) {x0 : Int32} {σ : MS} {Q : Int32 → MS → Prop} (hw : w_J6_bitCount_0f7a4 x0 σ Q) : Ci l E yJ6_bitCount_0f7a4 cJ6_bitCount_0f7a4 1 (some .int) rm_J6_bitCount_0f7a4 [.int x0] σ Q :=
  Ct_of (by decide) rfl (by
    intro v hv
    simp only [List.mem_cons, List.not_mem_nil, or_false] at hv
    rcases hv with rfl <;> rfl) (Nat.le_of_ble_eq_true rfl) hE hG (fun p e s m below meth c hc => t_J6_bitCount_0f7a4_E hc x0 σ hw)
def w_X8_contains_E (Q : Int32 → MS → Prop) (x0 x1 : Int32) (σ : MS) : Prop := ((((x0 >>> (x1 &&& 31)) &&& 1) = 0 → Q 0 σ) ∧ (¬ ((x0 >>> (x1 &&& 31)) &&& 1) = 0 → Q 1 σ))
abbrev w_X8_contains (x0 x1 : Int32) (σ : MS) (Q : Int32 → MS → Prop) : Prop := w_X8_contains_E Q x0 x1 σ
abbrev rm_X8_contains : Room := { frames := 0, cells := 0, slots := 0, locals := 0 }
theorem ok_X8_contains : OkS yX8_contains cX8_contains 2 (some .boolean) 2 := ⟨tw_388, tw_45, tw_389, by decide, by decide, by decide +kernel⟩
set_option maxRecDepth 100000 in
set_option maxHeartbeats 4000000 in
theorem t_X8_contains_E {p : Program} {l : Launch} {e : Env} {s : State} {m : MethodId} {args : Array Value} {below : List Frame} {meth : Method} {c : Code} {E : WD} {Q : Int32 → MS → Prop} (hc : Cx p rm_X8_contains s m args meth c E (AD E) cX8_contains RX8 (some .boolean) 2 0 0 fdm) (x0 x1 : Int32) (σ : MS) (hw : w_X8_contains_E Q x0 x1 σ) : V p l e rm_X8_contains s m args below meth c E (AD E) 2 0 0 (MQ below (va_Qi Q (BW E) (AD E)) args s 0 0 (AD E)) σ 0 [some (.int x0), some (.int x1)] [] := by
  unfold w_X8_contains_E at hw
  refine vIload_n (pc := 0) hc dX8_contains_0 rfl ?_
  refine vIload_n (pc := 1) hc dX8_contains_1 rfl ?_
  refine vIshr (pc := 2) hc dX8_contains_2 ?_
  refine vIconst (pc := 3) (v := 1) hc dX8_contains_3 ki_1 ?_
  refine vIand (pc := 4) hc dX8_contains_4 ?_
  refine vIf_eq (pc := 5) (tgt := 12) hc dX8_contains_5 (by decide) (fun c5 => ?_) (fun c5 => ?_)
  · have hw := hw.1 c5
    refine vIconst (pc := 12) (v := 0) hc dX8_contains_12 ki_0 ?_
    exact vZret (pc := 13) hc dX8_contains_13 (Or.inl rfl) hw
  · have hw := hw.2 c5
    refine vIconst (pc := 8) (v := 1) hc dX8_contains_8 ki_1 ?_
    refine vGoto (pc := 9) (tgt := 13) hc dX8_contains_9 (by decide) ?_
    exact vZret (pc := 13) hc dX8_contains_13 (Or.inr rfl) hw
set_option maxRecDepth 100000 in
set_option maxHeartbeats 4000000 in
theorem c_X8_contains {l : Launch} {E : WD} (hE : inj E) (hG : ∀ k, fdm k → k ∈ E.2.2.2) {x0 x1 : Int32} {σ : MS} {Q : Int32 → MS → Prop} (hw : w_X8_contains x0 x1 σ Q) : Ci l E yX8_contains cX8_contains 2 (some .boolean) rm_X8_contains [.int x0, .int x1] σ Q :=
  Ct_of (by decide) rfl (by
    intro v hv
    simp only [List.mem_cons, List.not_mem_nil, or_false] at hv
    rcases hv with rfl | rfl <;> rfl) (Nat.le_of_ble_eq_true rfl) hE hG (fun p e s m below meth c hc => t_X8_contains_E hc x0 x1 σ hw)
def w_X2_has_E (Q : Int32 → MS → Prop) (x1 : Int32) (σ : MS) : Prop := ((x1 < 0 → Q 0 σ) ∧ (¬ x1 < 0 → (((σ 4 1) ≤ x1 → Q 0 σ) ∧ (¬ (σ 4 1) ≤ x1 → Q 1 σ))))
abbrev w_X2_has (x1 : Int32) (σ : MS) (Q : Int32 → MS → Prop) : Prop := w_X2_has_E Q x1 σ
abbrev rm_X2_has : Room := { frames := 0, cells := 0, slots := 0, locals := 0 }
theorem ok_X2_has : OkV yX2_has RX2 cX2_has 2 (some .boolean) 1 := ⟨tw_380, tw_381, tw_50, tw_382, rfl, by decide, by decide, by decide +kernel⟩
set_option maxRecDepth 100000 in
set_option maxHeartbeats 4000000 in
theorem t_X2_has_E {p : Program} {l : Launch} {e : Env} {s : State} {m : MethodId} {args : Array Value} {below : List Frame} {meth : Method} {c : Code} {E : WD} {Q : Int32 → MS → Prop} (hc : Cx p rm_X2_has s m args meth c E (AD E) cX2_has RX2 (some .boolean) 2 0 0 fdm) (x1 : Int32) (σ : MS) (hw : w_X2_has_E Q x1 σ) : V p l e rm_X2_has s m args below meth c E (AD E) 2 0 0 (MQ below (va_Qi Q (BW E) (AD E)) args s 0 0 (AD E)) σ 0 [some (.ref (E.2.1 4)), some (.int x1)] [] := by
  unfold w_X2_has_E at hw
  refine vIload_n (pc := 0) hc dX2_has_0 rfl ?_
  refine vIf_lt (pc := 1) (tgt := 16) hc dX2_has_1 (by decide) (fun c1 => ?_) (fun c1 => ?_)
  · have hw := hw.1 c1
    refine vIconst (pc := 16) (v := 0) hc dX2_has_16 ki_0 ?_
    exact vZret (pc := 17) hc dX2_has_17 (Or.inl rfl) hw
  · have hw := hw.2 c1
    refine vIload_n (pc := 4) hc dX2_has_4 rfl ?_
    refine vAload_n (pc := 5) hc dX2_has_5 rfl ?_
    refine vGetI (pc := 6) (k := 4) (j := 1) hc rfl inG2 (hc.G 4 (Nat.le_of_ble_eq_true rfl)) rfl (Nat.le_of_ble_eq_true rfl) tw_159 rfl dX2_has_6 ?_
    refine vIcmp_ge (pc := 9) (tgt := 16) hc dX2_has_9 (by decide) (fun c9 => ?_) (fun c9 => ?_)
    · have hw := hw.1 c9
      refine vIconst (pc := 16) (v := 0) hc dX2_has_16 ki_0 ?_
      exact vZret (pc := 17) hc dX2_has_17 (Or.inl rfl) hw
    · have hw := hw.2 c9
      refine vIconst (pc := 12) (v := 1) hc dX2_has_12 ki_1 ?_
      refine vGoto (pc := 13) (tgt := 17) hc dX2_has_13 (by decide) ?_
      exact vZret (pc := 17) hc dX2_has_17 (Or.inr rfl) hw
set_option maxRecDepth 100000 in
set_option maxHeartbeats 4000000 in
theorem c_X2_has {l : Launch} {E : WD} (hE : inj E) (hG : ∀ k, fdm k → k ∈ E.2.2.2) {x1 : Int32} {σ : MS} {Q : Int32 → MS → Prop} (hw : w_X2_has x1 σ Q) : Ci l E yX2_has cX2_has 2 (some .boolean) rm_X2_has [.ref (E.2.1 4), .int x1] σ Q :=
  Ct_of (by decide) rfl (by
    intro v hv
    simp only [List.mem_cons, List.not_mem_nil, or_false] at hv
    rcases hv with rfl | rfl <;> rfl) (Nat.le_of_ble_eq_true rfl) hE hG (fun p e s m below meth c hc => t_X2_has_E hc x1 σ hw)
def w_X2_at_E (Q : Nat → MS → Prop) (x1 : Int32) (σ : MS) : Prop := ((vp_in x1 9) ∧ Q (37 + x1.toNatClampNeg) σ)
abbrev w_X2_at (x1 : Int32) (σ : MS) (Q : Nat → MS → Prop) : Prop := w_X2_at_E Q x1 σ
abbrev rm_X2_at : Room := { frames := 0, cells := 0, slots := 0, locals := 0 }
theorem ok_X2_at : OkV yX2_at RX2 cX2_at 2 (some (.object "RidePools$Person")) 1 := ⟨tw_372, tw_373, tw_50, tw_374, rfl, by decide, by decide, by decide +kernel⟩
set_option maxRecDepth 100000 in
set_option maxHeartbeats 4000000 in
theorem t_X2_at_E {p : Program} {l : Launch} {e : Env} {s : State} {m : MethodId} {args : Array Value} {below : List Frame} {meth : Method} {c : Code} {E : WD} {Q : Nat → MS → Prop} (hc : Cx p rm_X2_at s m args meth c E (AD E) cX2_at RX2 (some (.object "RidePools$Person")) 2 0 0 fdm) (x1 : Int32) (σ : MS) (hw : w_X2_at_E Q x1 σ) : V p l e rm_X2_at s m args below meth c E (AD E) 2 0 0 (MQ below (va_Qr (fun u : Nat × MS => Q u.1 u.2) (fun u a t => a = E.2.1 u.1 ∧ BW E u.2 t) (AD E)) args s 0 0 (AD E)) σ 0 [some (.ref (E.2.1 4)), some (.int x1)] [] := by
  unfold w_X2_at_E at hw
  refine vAload_n (pc := 0) hc dX2_at_0 rfl ?_
  refine vGetR (pc := 1) (k := 4) (j := 0) hc rfl inG2 (hc.G 4 (Nat.le_of_ble_eq_true rfl)) rfl (Nat.le_of_ble_eq_true rfl) tw_158 rfl dX2_at_1 ?_
  refine vIload_n (pc := 4) hc dX2_at_4 rfl ?_
  obtain ⟨hi1, hw⟩ := hw
  refine vAaldP (pc := 5) hc (hc.G 5 (Nat.le_of_ble_eq_true rfl)) hi1 dX2_at_5 ?_
  exact vAret (pc := 6) (k := (37 + x1.toNatClampNeg)) hc dX2_at_6 hw
set_option maxRecDepth 100000 in
set_option maxHeartbeats 4000000 in
theorem c_X2_at {l : Launch} {E : WD} (hE : inj E) (hG : ∀ k, fdm k → k ∈ E.2.2.2) {x1 : Int32} {σ : MS} {Q : Nat → MS → Prop} (hw : w_X2_at x1 σ Q) : Cr l E yX2_at cX2_at 2 (some (.object "RidePools$Person")) rm_X2_at [.ref (E.2.1 4), .int x1] σ Q :=
  Ct_of (by decide) rfl (by
    intro v hv
    simp only [List.mem_cons, List.not_mem_nil, or_false] at hv
    rcases hv with rfl | rfl <;> rfl) (Nat.le_of_ble_eq_true rfl) hE hG (fun p e s m below meth c hc => t_X2_at_E hc x1 σ hw)
def w_X3_hasCar_E (Q : Int32 → MS → Prop) (k0 : Nat) (σ : MS) : Prop := ((37 ≤ k0 ∧ k0 < 46) ∧ (((σ k0 6) ≤ 0 → Q 0 σ) ∧ (¬ (σ k0 6) ≤ 0 → ((¬ (σ k0 8) = 0 → Q 0 σ) ∧ ((σ k0 8) = 0 → Q 1 σ)))))
abbrev w_X3_hasCar (k0 : Nat) (σ : MS) (Q : Int32 → MS → Prop) : Prop := w_X3_hasCar_E Q k0 σ
abbrev rm_X3_hasCar : Room := { frames := 0, cells := 0, slots := 0, locals := 0 }
theorem ok_X3_hasCar : OkV yX3_hasCar RX3 cX3_hasCar 1 (some .boolean) 0 := ⟨tw_439, tw_440, tw_51, tw_441, rfl, by decide, by decide, by decide +kernel⟩
set_option maxRecDepth 100000 in
set_option maxHeartbeats 4000000 in
theorem t_X3_hasCar_E {p : Program} {l : Launch} {e : Env} {s : State} {m : MethodId} {args : Array Value} {below : List Frame} {meth : Method} {c : Code} {E : WD} {Q : Int32 → MS → Prop} (hc : Cx p rm_X3_hasCar s m args meth c E (AD E) cX3_hasCar RX3 (some .boolean) 1 0 0 fdm) (k0 : Nat) (σ : MS) (hw : w_X3_hasCar_E Q k0 σ) : V p l e rm_X3_hasCar s m args below meth c E (AD E) 1 0 0 (MQ below (va_Qi Q (BW E) (AD E)) args s 0 0 (AD E)) σ 0 [some (.ref (E.2.1 k0))] [] := by
  unfold w_X3_hasCar_E at hw
  refine vAload_n (pc := 0) hc dX3_hasCar_0 rfl ?_
  obtain ⟨hp1, hw⟩ := hw
  refine vGetI (pc := 1) (k := k0) (j := 6) hc (pn_c hp1) inG3 (hc.G _ (pn_N hp1)) (pn_0 hp1) (Nat.le_of_ble_eq_true rfl) tw_125 (pn_j hp1 rfl) dX3_hasCar_1 ?_
  refine vIf_le (pc := 4) (tgt := 18) hc dX3_hasCar_4 (by decide) (fun c4 => ?_) (fun c4 => ?_)
  · have hw := hw.1 c4
    refine vIconst (pc := 18) (v := 0) hc dX3_hasCar_18 ki_0 ?_
    exact vZret (pc := 19) hc dX3_hasCar_19 (Or.inl rfl) hw
  · have hw := hw.2 c4
    refine vAload_n (pc := 7) hc dX3_hasCar_7 rfl ?_
    refine vGetI (pc := 8) (k := k0) (j := 8) hc (pn_c hp1) inG3 (hc.G _ (pn_N hp1)) (pn_0 hp1) (Nat.le_of_ble_eq_true rfl) tw_130 (pn_j hp1 rfl) dX3_hasCar_8 ?_
    refine vIf_ne (pc := 11) (tgt := 18) hc dX3_hasCar_11 (by decide) (fun c11 => ?_) (fun c11 => ?_)
    · have hw := hw.1 c11
      refine vIconst (pc := 18) (v := 0) hc dX3_hasCar_18 ki_0 ?_
      exact vZret (pc := 19) hc dX3_hasCar_19 (Or.inl rfl) hw
    · have hw := hw.2 c11
      refine vIconst (pc := 14) (v := 1) hc dX3_hasCar_14 ki_1 ?_
      refine vGoto (pc := 15) (tgt := 19) hc dX3_hasCar_15 (by decide) ?_
      exact vZret (pc := 19) hc dX3_hasCar_19 (Or.inr rfl) hw
set_option maxRecDepth 100000 in
set_option maxHeartbeats 4000000 in
theorem c_X3_hasCar {l : Launch} {E : WD} (hE : inj E) (hG : ∀ k, fdm k → k ∈ E.2.2.2) {k0 : Nat} {σ : MS} {Q : Int32 → MS → Prop} (hw : w_X3_hasCar k0 σ Q) : Ci l E yX3_hasCar cX3_hasCar 1 (some .boolean) rm_X3_hasCar [.ref (E.2.1 k0)] σ Q :=
  Ct_of (by decide) rfl (by
    intro v hv
    simp only [List.mem_cons, List.not_mem_nil, or_false] at hv
    rcases hv with rfl <;> rfl) (Nat.le_of_ble_eq_true rfl) hE hG (fun p e s m below meth c hc => t_X3_hasCar_E hc k0 σ hw)
def w_X3_seatsTaken_E (Q : Int32 → MS → Prop) (k0 : Nat) (σ : MS) : Prop := ((37 ≤ k0 ∧ k0 < 46) ∧ ((¬ (σ k0 0) = 1 → Q 1 σ) ∧ ((σ k0 0) = 1 → Q 2 σ)))
abbrev w_X3_seatsTaken (k0 : Nat) (σ : MS) (Q : Int32 → MS → Prop) : Prop := w_X3_seatsTaken_E Q k0 σ
abbrev rm_X3_seatsTaken : Room := { frames := 0, cells := 0, slots := 0, locals := 0 }
theorem ok_X3_seatsTaken : OkV yX3_seatsTaken RX3 cX3_seatsTaken 1 (some .int) 0 := ⟨tw_448, tw_449, tw_51, tw_450, rfl, by decide, by decide, by decide +kernel⟩
set_option maxRecDepth 100000 in
set_option maxHeartbeats 4000000 in
theorem t_X3_seatsTaken_E {p : Program} {l : Launch} {e : Env} {s : State} {m : MethodId} {args : Array Value} {below : List Frame} {meth : Method} {c : Code} {E : WD} {Q : Int32 → MS → Prop} (hc : Cx p rm_X3_seatsTaken s m args meth c E (AD E) cX3_seatsTaken RX3 (some .int) 1 0 0 fdm) (k0 : Nat) (σ : MS) (hw : w_X3_seatsTaken_E Q k0 σ) : V p l e rm_X3_seatsTaken s m args below meth c E (AD E) 1 0 0 (MQ below (va_Qi Q (BW E) (AD E)) args s 0 0 (AD E)) σ 0 [some (.ref (E.2.1 k0))] [] := by
  unfold w_X3_seatsTaken_E at hw
  refine vAload_n (pc := 0) hc dX3_seatsTaken_0 rfl ?_
  obtain ⟨hp1, hw⟩ := hw
  refine vGetI (pc := 1) (k := k0) (j := 0) hc (pn_c hp1) inG3 (hc.G _ (pn_N hp1)) (pn_0 hp1) (Nat.le_of_ble_eq_true rfl) tw_113 (pn_j hp1 rfl) dX3_seatsTaken_1 ?_
  refine vIconst (pc := 4) (v := 1) hc dX3_seatsTaken_4 ki_1 ?_
  refine vIcmp_ne (pc := 5) (tgt := 12) hc dX3_seatsTaken_5 (by decide) (fun c5 => ?_) (fun c5 => ?_)
  · have hw := hw.1 c5
    refine vIconst (pc := 12) (v := 1) hc dX3_seatsTaken_12 ki_1 ?_
    exact vIret (pc := 13) hc dX3_seatsTaken_13 hw
  · have hw := hw.2 c5
    refine vIconst (pc := 8) (v := 2) hc dX3_seatsTaken_8 ki_2 ?_
    refine vGoto (pc := 9) (tgt := 13) hc dX3_seatsTaken_9 (by decide) ?_
    exact vIret (pc := 13) hc dX3_seatsTaken_13 hw
set_option maxRecDepth 100000 in
set_option maxHeartbeats 4000000 in
theorem c_X3_seatsTaken {l : Launch} {E : WD} (hE : inj E) (hG : ∀ k, fdm k → k ∈ E.2.2.2) {k0 : Nat} {σ : MS} {Q : Int32 → MS → Prop} (hw : w_X3_seatsTaken k0 σ Q) : Ci l E yX3_seatsTaken cX3_seatsTaken 1 (some .int) rm_X3_seatsTaken [.ref (E.2.1 k0)] σ Q :=
  Ct_of (by decide) rfl (by
    intro v hv
    simp only [List.mem_cons, List.not_mem_nil, or_false] at hv
    rcases hv with rfl <;> rfl) (Nat.le_of_ble_eq_true rfl) hE hG (fun p e s m below meth c hc => t_X3_seatsTaken_E hc k0 σ hw)
def w_X2_seatsSuffice_J42 (Q : Int32 → MS → Prop) (x2 x3 : Int32) (σ : MS) : Prop := ((vp_in x2 9) ∧ ((37 ≤ (37 + x2.toNatClampNeg) ∧ (37 + x2.toNatClampNeg) < 46) ∧ (((σ (37 + x2.toNatClampNeg) 6) < x3 → Q 0 σ) ∧ (¬ (σ (37 + x2.toNatClampNeg) 6) < x3 → Q 1 σ))))
def w_X2_seatsSuffice_H5 (Q : Int32 → MS → Prop) : Nat → Int32 → Int32 → Int32 → Int32 → MS → Prop
  | 0, _, _, _, _, _ => False
  | n + 1, x1, x2, x3, x4, σ => (((σ 4 1) ≤ x4 → w_X2_seatsSuffice_J42 Q x2 x3 σ) ∧ (¬ (σ 4 1) ≤ x4 → w_X8_contains x1 x4 σ (fun r17 σ17 => ((r17 = 0 → w_X2_seatsSuffice_H5 Q n x1 x2 x3 (x4 + 1) σ17) ∧ (¬ r17 = 0 → ((vp_in x4 9) ∧ ((37 ≤ (37 + x4.toNatClampNeg) ∧ (37 + x4.toNatClampNeg) < 46) ∧ w_X3_seatsTaken (37 + x4.toNatClampNeg) σ17 (fun r31 σ31 => (∀ x3_35 : Int32, x3_35 = (x3 + r31) → w_X2_seatsSuffice_H5 Q n x1 x2 x3_35 (x4 + 1) σ31)))))))))
def w_X2_seatsSuffice_E (Q : Int32 → MS → Prop) (x1 x2 : Int32) (σ : MS) : Prop := (∃ n5, w_X2_seatsSuffice_H5 Q n5 x1 x2 0 0 σ)
abbrev w_X2_seatsSuffice (x1 x2 : Int32) (σ : MS) (Q : Int32 → MS → Prop) : Prop := w_X2_seatsSuffice_E Q x1 x2 σ
abbrev rm_X2_seatsSuffice : Room := { frames := 1, cells := 0, slots := 0, locals := 21 }
theorem ok_X2_seatsSuffice : OkV yX2_seatsSuffice RX2 cX2_seatsSuffice 5 (some .boolean) 2 := ⟨tw_443, tw_444, tw_50, tw_445, rfl, by decide, by decide, by decide +kernel⟩
set_option maxRecDepth 100000 in
set_option maxHeartbeats 4000000 in
theorem t_X2_seatsSuffice_J42 {p : Program} {l : Launch} {e : Env} {s : State} {m : MethodId} {args : Array Value} {below : List Frame} {meth : Method} {c : Code} {E : WD} {Q : Int32 → MS → Prop} (hc : Cx p rm_X2_seatsSuffice s m args meth c E (AD E) cX2_seatsSuffice RX2 (some .boolean) 5 0 0 fdm) (x2 x3 : Int32) (σ : MS) (hw : w_X2_seatsSuffice_J42 Q x2 x3 σ) : V p l e rm_X2_seatsSuffice s m args below meth c E (AD E) 5 0 0 (MQ below (va_Qi Q (BW E) (AD E)) args s 0 0 (AD E)) σ 42 [some (.ref (E.2.1 4)), none, some (.int x2), some (.int x3), none] [] := by
  unfold w_X2_seatsSuffice_J42 at hw
  refine vIload_n (pc := 42) hc dX2_seatsSuffice_42 rfl ?_
  refine vAload_n (pc := 43) hc dX2_seatsSuffice_43 rfl ?_
  refine vGetR (pc := 44) (k := 4) (j := 0) hc rfl inG2 (hc.G 4 (Nat.le_of_ble_eq_true rfl)) rfl (Nat.le_of_ble_eq_true rfl) tw_158 rfl dX2_seatsSuffice_44 ?_
  refine vIload_n (pc := 47) hc dX2_seatsSuffice_47 rfl ?_
  obtain ⟨hi1, hw⟩ := hw
  refine vAaldP (pc := 48) hc (hc.G 5 (Nat.le_of_ble_eq_true rfl)) hi1 dX2_seatsSuffice_48 ?_
  obtain ⟨hp2, hw⟩ := hw
  refine vGetIN (pc := 49) (k := (37 + x2.toNatClampNeg)) (j := 6) hc (pn_c hp2) inG3 (hc.G _ (pn_N hp2)) (pn_0 hp2) (Nat.le_of_ble_eq_true rfl) nw_13 (pn_j hp2 rfl) dX2_seatsSuffice_49 ?_
  refine vIcmp_gt (pc := 52) (tgt := 59) hc dX2_seatsSuffice_52 (by decide) (fun c52 => ?_) (fun c52 => ?_)
  · have hw := hw.1 c52
    refine vIconst (pc := 59) (v := 0) hc dX2_seatsSuffice_59 ki_0 ?_
    exact vZret (pc := 60) hc dX2_seatsSuffice_60 (Or.inl rfl) hw
  · have hw := hw.2 c52
    refine vIconst (pc := 55) (v := 1) hc dX2_seatsSuffice_55 ki_1 ?_
    refine vGoto (pc := 56) (tgt := 60) hc dX2_seatsSuffice_56 (by decide) ?_
    exact vZret (pc := 60) hc dX2_seatsSuffice_60 (Or.inr rfl) hw
set_option maxRecDepth 100000 in
set_option maxHeartbeats 4000000 in
theorem t_X2_seatsSuffice_H5 {p : Program} {l : Launch} {e : Env} {s : State} {m : MethodId} {args : Array Value} {below : List Frame} {meth : Method} {c : Code} {E : WD} {Q : Int32 → MS → Prop} (hc : Cx p rm_X2_seatsSuffice s m args meth c E (AD E) cX2_seatsSuffice RX2 (some .boolean) 5 0 0 fdm) : ∀ (n : Nat) (x1 x2 x3 x4 : Int32) (σ : MS), w_X2_seatsSuffice_H5 Q n x1 x2 x3 x4 σ → V p l e rm_X2_seatsSuffice s m args below meth c E (AD E) 5 0 0 (MQ below (va_Qi Q (BW E) (AD E)) args s 0 0 (AD E)) σ 5 [some (.ref (E.2.1 4)), some (.int x1), some (.int x2), some (.int x3), some (.int x4)] [] := by
  intro n
  induction n with
  | zero =>
    intro x1 x2 x3 x4 σ hw
    exact hw.elim
  | succ n ih =>
    intro x1 x2 x3 x4 σ hw
    unfold w_X2_seatsSuffice_H5 at hw
    refine vIload (pc := 5) hc dX2_seatsSuffice_5 rfl ?_
    refine vAload_n (pc := 7) hc dX2_seatsSuffice_7 rfl ?_
    refine vGetI (pc := 8) (k := 4) (j := 1) hc rfl inG2 (hc.G 4 (Nat.le_of_ble_eq_true rfl)) rfl (Nat.le_of_ble_eq_true rfl) tw_159 rfl dX2_seatsSuffice_8 ?_
    refine vIcmp_ge (pc := 11) (tgt := 42) hc dX2_seatsSuffice_11 (by decide) (fun c11 => ?_) (fun c11 => ?_)
    · have hw := hw.1 c11
      exact vMono (L2 := [some (.ref (E.2.1 4)), none, some (.int x2), some (.int x3), none]) (show subL [some (.ref (E.2.1 4)), none, some (.int x2), some (.int x3), none] [some (.ref (E.2.1 4)), some (.int x1), some (.int x2), some (.int x3), some (.int x4)] from ⟨rfl, ⟨rfl, ⟨rfl, trivial⟩⟩⟩) (t_X2_seatsSuffice_J42 hc  x2 x3 _ hw)
    · have hw := hw.2 c11
      refine vIload_n (pc := 14) hc dX2_seatsSuffice_14 rfl ?_
      refine vIload (pc := 15) hc dX2_seatsSuffice_15 rfl ?_
      refine vCallSNi (pc := 17) (st := []) hc ok_X8_contains nw_37 (c_X8_contains hc.2.2.2.2.2.2.1 hc.G hw) rfl ⟨rfl, rfl⟩ ⟨Nat.le_of_ble_eq_true rfl, Nat.le_of_ble_eq_true rfl⟩ rfl (Nat.le_of_ble_eq_true rfl) dX2_seatsSuffice_17 (fun r17 σ17 hw => ?_)
      refine vIf_eq (pc := 20) (tgt := 36) hc dX2_seatsSuffice_20 (by decide) (fun c20 => ?_) (fun c20 => ?_)
      · have hw := hw.1 c20
        refine vIinc (pc := 36) (v := x4 + 1) (L2 := [some (.ref (E.2.1 4)), some (.int x1), some (.int x2), some (.int x3), some (.int (x4 + 1))]) hc dX2_seatsSuffice_36 rfl rfl rfl (Nat.le_of_ble_eq_true rfl) ?_
        refine vGoto (pc := 39) (tgt := 5) hc dX2_seatsSuffice_39 (by decide) ?_
        exact vMono (L2 := [some (.ref (E.2.1 4)), some (.int x1), some (.int x2), some (.int x3), some (.int (x4 + 1))]) (show subL [some (.ref (E.2.1 4)), some (.int x1), some (.int x2), some (.int x3), some (.int (x4 + 1))] [some (.ref (E.2.1 4)), some (.int x1), some (.int x2), some (.int x3), some (.int (x4 + 1))] from ⟨rfl, ⟨rfl, ⟨rfl, ⟨rfl, ⟨rfl, trivial⟩⟩⟩⟩⟩) (ih x1 x2 x3 (x4 + 1) _ hw)
      · have hw := hw.2 c20
        refine vIload_n (pc := 23) hc dX2_seatsSuffice_23 rfl ?_
        refine vAload_n (pc := 24) hc dX2_seatsSuffice_24 rfl ?_
        refine vGetR (pc := 25) (k := 4) (j := 0) hc rfl inG2 (hc.G 4 (Nat.le_of_ble_eq_true rfl)) rfl (Nat.le_of_ble_eq_true rfl) tw_158 rfl dX2_seatsSuffice_25 ?_
        refine vIload (pc := 28) hc dX2_seatsSuffice_28 rfl ?_
        obtain ⟨hi1, hw⟩ := hw
        refine vAaldP (pc := 30) hc (hc.G 5 (Nat.le_of_ble_eq_true rfl)) hi1 dX2_seatsSuffice_30 ?_
        obtain ⟨hp2, hw⟩ := hw
        refine vCallVi (pc := 31) (st := [(.int x3)]) hc ok_X3_seatsTaken tw_447 (c_X3_seatsTaken hc.2.2.2.2.2.2.1 hc.G hw) (hc.G _ (pn_N hp2)) (pn_0 hp2) (pn_c hp2) rfl ⟨rfl, rfl⟩ ⟨Nat.le_of_ble_eq_true rfl, Nat.le_of_ble_eq_true rfl⟩ rfl (Nat.le_of_ble_eq_true rfl) dX2_seatsSuffice_31 (fun r31 σ31 hw => ?_)
        refine vIadd (pc := 34) hc dX2_seatsSuffice_34 ?_
        obtain ⟨x3_35, ex3_35⟩ : ∃ z : Int32, z = x3 + r31 := ⟨_, rfl⟩
        have hw := hw x3_35 ex3_35
        refine vTop ex3_35 ?_
        refine vIstore_n (pc := 35) (L2 := [some (.ref (E.2.1 4)), some (.int x1), some (.int x2), some (.int x3_35), some (.int x4)]) hc dX2_seatsSuffice_35 rfl (Nat.le_of_ble_eq_true rfl) ?_
        refine vIinc (pc := 36) (v := x4 + 1) (L2 := [some (.ref (E.2.1 4)), some (.int x1), some (.int x2), some (.int x3_35), some (.int (x4 + 1))]) hc dX2_seatsSuffice_36 rfl rfl rfl (Nat.le_of_ble_eq_true rfl) ?_
        refine vGoto (pc := 39) (tgt := 5) hc dX2_seatsSuffice_39 (by decide) ?_
        exact vMono (L2 := [some (.ref (E.2.1 4)), some (.int x1), some (.int x2), some (.int x3_35), some (.int (x4 + 1))]) (show subL [some (.ref (E.2.1 4)), some (.int x1), some (.int x2), some (.int x3_35), some (.int (x4 + 1))] [some (.ref (E.2.1 4)), some (.int x1), some (.int x2), some (.int x3_35), some (.int (x4 + 1))] from ⟨rfl, ⟨rfl, ⟨rfl, ⟨rfl, ⟨rfl, trivial⟩⟩⟩⟩⟩) (ih x1 x2 x3_35 (x4 + 1) _ hw)
set_option maxRecDepth 100000 in
set_option maxHeartbeats 4000000 in
theorem t_X2_seatsSuffice_E {p : Program} {l : Launch} {e : Env} {s : State} {m : MethodId} {args : Array Value} {below : List Frame} {meth : Method} {c : Code} {E : WD} {Q : Int32 → MS → Prop} (hc : Cx p rm_X2_seatsSuffice s m args meth c E (AD E) cX2_seatsSuffice RX2 (some .boolean) 5 0 0 fdm) (x1 x2 : Int32) (σ : MS) (hw : w_X2_seatsSuffice_E Q x1 x2 σ) : V p l e rm_X2_seatsSuffice s m args below meth c E (AD E) 5 0 0 (MQ below (va_Qi Q (BW E) (AD E)) args s 0 0 (AD E)) σ 0 [some (.ref (E.2.1 4)), some (.int x1), some (.int x2), none, none] [] := by
  unfold w_X2_seatsSuffice_E at hw
  refine vIconst (pc := 0) (v := 0) hc dX2_seatsSuffice_0 ki_0 ?_
  refine vIstore_n (pc := 1) (L2 := [some (.ref (E.2.1 4)), some (.int x1), some (.int x2), some (.int 0), none]) hc dX2_seatsSuffice_1 rfl (Nat.le_of_ble_eq_true rfl) ?_
  refine vIconst (pc := 2) (v := 0) hc dX2_seatsSuffice_2 ki_0 ?_
  refine vIstore (pc := 3) (L2 := [some (.ref (E.2.1 4)), some (.int x1), some (.int x2), some (.int 0), some (.int 0)]) hc dX2_seatsSuffice_3 rfl (Nat.le_of_ble_eq_true rfl) ?_
  obtain ⟨n5, hw⟩ := hw
  exact vMono (L2 := [some (.ref (E.2.1 4)), some (.int x1), some (.int x2), some (.int 0), some (.int 0)]) (show subL [some (.ref (E.2.1 4)), some (.int x1), some (.int x2), some (.int 0), some (.int 0)] [some (.ref (E.2.1 4)), some (.int x1), some (.int x2), some (.int 0), some (.int 0)] from ⟨rfl, ⟨rfl, ⟨rfl, ⟨rfl, ⟨rfl, trivial⟩⟩⟩⟩⟩) (t_X2_seatsSuffice_H5 hc  n5 x1 x2 0 0 _ hw)
set_option maxRecDepth 100000 in
set_option maxHeartbeats 4000000 in
theorem c_X2_seatsSuffice {l : Launch} {E : WD} (hE : inj E) (hG : ∀ k, fdm k → k ∈ E.2.2.2) {x1 x2 : Int32} {σ : MS} {Q : Int32 → MS → Prop} (hw : w_X2_seatsSuffice x1 x2 σ Q) : Ci l E yX2_seatsSuffice cX2_seatsSuffice 5 (some .boolean) rm_X2_seatsSuffice [.ref (E.2.1 4), .int x1, .int x2] σ Q :=
  Ct_of (by decide) rfl (by
    intro v hv
    simp only [List.mem_cons, List.not_mem_nil, or_false] at hv
    rcases hv with rfl | rfl | rfl <;> rfl) (Nat.le_of_ble_eq_true rfl) hE hG (fun p e s m below meth c hc => t_X2_seatsSuffice_E hc x1 x2 σ hw)
def w_X2_hasBar_H2 (Q : Int32 → MS → Prop) : Nat → Int32 → Int32 → MS → Prop
  | 0, _, _, _ => False
  | n + 1, x1, x2, σ => (((σ 4 1) ≤ x2 → Q 0 σ) ∧ (¬ (σ 4 1) ≤ x2 → w_X8_contains x1 x2 σ (fun r12 σ12 => ((r12 = 0 → w_X2_hasBar_H2 Q n x1 (x2 + 1) σ12) ∧ (¬ r12 = 0 → ((vp_in x2 9) ∧ ((37 ≤ (37 + x2.toNatClampNeg) ∧ (37 + x2.toNatClampNeg) < 46) ∧ ((((σ12 (37 + x2.toNatClampNeg) 9) &&& x1) = 0 → w_X2_hasBar_H2 Q n x1 (x2 + 1) σ12) ∧ (¬ ((σ12 (37 + x2.toNatClampNeg) 9) &&& x1) = 0 → Q 1 σ12)))))))))
def w_X2_hasBar_E (Q : Int32 → MS → Prop) (x1 : Int32) (σ : MS) : Prop := (∃ n2, w_X2_hasBar_H2 Q n2 x1 0 σ)
abbrev w_X2_hasBar (x1 : Int32) (σ : MS) (Q : Int32 → MS → Prop) : Prop := w_X2_hasBar_E Q x1 σ
abbrev rm_X2_hasBar : Room := { frames := 1, cells := 0, slots := 0, locals := 21 }
theorem ok_X2_hasBar : OkV yX2_hasBar RX2 cX2_hasBar 3 (some .boolean) 1 := ⟨tw_452, tw_453, tw_50, tw_454, rfl, by decide, by decide, by decide +kernel⟩
set_option maxRecDepth 100000 in
set_option maxHeartbeats 4000000 in
theorem t_X2_hasBar_H2 {p : Program} {l : Launch} {e : Env} {s : State} {m : MethodId} {args : Array Value} {below : List Frame} {meth : Method} {c : Code} {E : WD} {Q : Int32 → MS → Prop} (hc : Cx p rm_X2_hasBar s m args meth c E (AD E) cX2_hasBar RX2 (some .boolean) 3 0 0 fdm) : ∀ (n : Nat) (x1 x2 : Int32) (σ : MS), w_X2_hasBar_H2 Q n x1 x2 σ → V p l e rm_X2_hasBar s m args below meth c E (AD E) 3 0 0 (MQ below (va_Qi Q (BW E) (AD E)) args s 0 0 (AD E)) σ 2 [some (.ref (E.2.1 4)), some (.int x1), some (.int x2)] [] := by
  intro n
  induction n with
  | zero =>
    intro x1 x2 σ hw
    exact hw.elim
  | succ n ih =>
    intro x1 x2 σ hw
    unfold w_X2_hasBar_H2 at hw
    refine vIload_n (pc := 2) hc dX2_hasBar_2 rfl ?_
    refine vAload_n (pc := 3) hc dX2_hasBar_3 rfl ?_
    refine vGetI (pc := 4) (k := 4) (j := 1) hc rfl inG2 (hc.G 4 (Nat.le_of_ble_eq_true rfl)) rfl (Nat.le_of_ble_eq_true rfl) tw_159 rfl dX2_hasBar_4 ?_
    refine vIcmp_ge (pc := 7) (tgt := 40) hc dX2_hasBar_7 (by decide) (fun c7 => ?_) (fun c7 => ?_)
    · have hw := hw.1 c7
      refine vIconst (pc := 40) (v := 0) hc dX2_hasBar_40 ki_0 ?_
      exact vZret (pc := 41) hc dX2_hasBar_41 (Or.inl rfl) hw
    · have hw := hw.2 c7
      refine vIload_n (pc := 10) hc dX2_hasBar_10 rfl ?_
      refine vIload_n (pc := 11) hc dX2_hasBar_11 rfl ?_
      refine vCallSNi (pc := 12) (st := []) hc ok_X8_contains nw_37 (c_X8_contains hc.2.2.2.2.2.2.1 hc.G hw) rfl ⟨rfl, rfl⟩ ⟨Nat.le_of_ble_eq_true rfl, Nat.le_of_ble_eq_true rfl⟩ rfl (Nat.le_of_ble_eq_true rfl) dX2_hasBar_12 (fun r12 σ12 hw => ?_)
      refine vIf_eq (pc := 15) (tgt := 34) hc dX2_hasBar_15 (by decide) (fun c15 => ?_) (fun c15 => ?_)
      · have hw := hw.1 c15
        refine vIinc (pc := 34) (v := x2 + 1) (L2 := [some (.ref (E.2.1 4)), some (.int x1), some (.int (x2 + 1))]) hc dX2_hasBar_34 rfl rfl rfl (Nat.le_of_ble_eq_true rfl) ?_
        refine vGoto (pc := 37) (tgt := 2) hc dX2_hasBar_37 (by decide) ?_
        exact vMono (L2 := [some (.ref (E.2.1 4)), some (.int x1), some (.int (x2 + 1))]) (show subL [some (.ref (E.2.1 4)), some (.int x1), some (.int (x2 + 1))] [some (.ref (E.2.1 4)), some (.int x1), some (.int (x2 + 1))] from ⟨rfl, ⟨rfl, ⟨rfl, trivial⟩⟩⟩) (ih x1 (x2 + 1) _ hw)
      · have hw := hw.2 c15
        refine vAload_n (pc := 18) hc dX2_hasBar_18 rfl ?_
        refine vGetR (pc := 19) (k := 4) (j := 0) hc rfl inG2 (hc.G 4 (Nat.le_of_ble_eq_true rfl)) rfl (Nat.le_of_ble_eq_true rfl) tw_158 rfl dX2_hasBar_19 ?_
        refine vIload_n (pc := 22) hc dX2_hasBar_22 rfl ?_
        obtain ⟨hi1, hw⟩ := hw
        refine vAaldP (pc := 23) hc (hc.G 5 (Nat.le_of_ble_eq_true rfl)) hi1 dX2_hasBar_23 ?_
        obtain ⟨hp2, hw⟩ := hw
        refine vGetIN (pc := 24) (k := (37 + x2.toNatClampNeg)) (j := 9) hc (pn_c hp2) inG3 (hc.G _ (pn_N hp2)) (pn_0 hp2) (Nat.le_of_ble_eq_true rfl) nw_18 (pn_j hp2 rfl) dX2_hasBar_24 ?_
        refine vIload_n (pc := 27) hc dX2_hasBar_27 rfl ?_
        refine vIand (pc := 28) hc dX2_hasBar_28 ?_
        refine vIf_eq (pc := 29) (tgt := 34) hc dX2_hasBar_29 (by decide) (fun c29 => ?_) (fun c29 => ?_)
        · have hw := hw.1 c29
          refine vIinc (pc := 34) (v := x2 + 1) (L2 := [some (.ref (E.2.1 4)), some (.int x1), some (.int (x2 + 1))]) hc dX2_hasBar_34 rfl rfl rfl (Nat.le_of_ble_eq_true rfl) ?_
          refine vGoto (pc := 37) (tgt := 2) hc dX2_hasBar_37 (by decide) ?_
          exact vMono (L2 := [some (.ref (E.2.1 4)), some (.int x1), some (.int (x2 + 1))]) (show subL [some (.ref (E.2.1 4)), some (.int x1), some (.int (x2 + 1))] [some (.ref (E.2.1 4)), some (.int x1), some (.int (x2 + 1))] from ⟨rfl, ⟨rfl, ⟨rfl, trivial⟩⟩⟩) (ih x1 (x2 + 1) _ hw)
        · have hw := hw.2 c29
          refine vIconst (pc := 32) (v := 1) hc dX2_hasBar_32 ki_1 ?_
          exact vZret (pc := 33) hc dX2_hasBar_33 (Or.inr rfl) hw
set_option maxRecDepth 100000 in
set_option maxHeartbeats 4000000 in
theorem t_X2_hasBar_E {p : Program} {l : Launch} {e : Env} {s : State} {m : MethodId} {args : Array Value} {below : List Frame} {meth : Method} {c : Code} {E : WD} {Q : Int32 → MS → Prop} (hc : Cx p rm_X2_hasBar s m args meth c E (AD E) cX2_hasBar RX2 (some .boolean) 3 0 0 fdm) (x1 : Int32) (σ : MS) (hw : w_X2_hasBar_E Q x1 σ) : V p l e rm_X2_hasBar s m args below meth c E (AD E) 3 0 0 (MQ below (va_Qi Q (BW E) (AD E)) args s 0 0 (AD E)) σ 0 [some (.ref (E.2.1 4)), some (.int x1), none] [] := by
  unfold w_X2_hasBar_E at hw
  refine vIconst (pc := 0) (v := 0) hc dX2_hasBar_0 ki_0 ?_
  refine vIstore_n (pc := 1) (L2 := [some (.ref (E.2.1 4)), some (.int x1), some (.int 0)]) hc dX2_hasBar_1 rfl (Nat.le_of_ble_eq_true rfl) ?_
  obtain ⟨n2, hw⟩ := hw
  exact vMono (L2 := [some (.ref (E.2.1 4)), some (.int x1), some (.int 0)]) (show subL [some (.ref (E.2.1 4)), some (.int x1), some (.int 0)] [some (.ref (E.2.1 4)), some (.int x1), some (.int 0)] from ⟨rfl, ⟨rfl, ⟨rfl, trivial⟩⟩⟩) (t_X2_hasBar_H2 hc  n2 x1 0 _ hw)
set_option maxRecDepth 100000 in
set_option maxHeartbeats 4000000 in
theorem c_X2_hasBar {l : Launch} {E : WD} (hE : inj E) (hG : ∀ k, fdm k → k ∈ E.2.2.2) {x1 : Int32} {σ : MS} {Q : Int32 → MS → Prop} (hw : w_X2_hasBar x1 σ Q) : Ci l E yX2_hasBar cX2_hasBar 3 (some .boolean) rm_X2_hasBar [.ref (E.2.1 4), .int x1] σ Q :=
  Ct_of (by decide) rfl (by
    intro v hv
    simp only [List.mem_cons, List.not_mem_nil, or_false] at hv
    rcases hv with rfl | rfl <;> rfl) (Nat.le_of_ble_eq_true rfl) hE hG (fun p e s m below meth c hc => t_X2_hasBar_E hc x1 σ hw)
def w_X5_shortest_E (Q : Int32 → MS → Prop) (x1 x2 : Int32) (σ : MS) : Prop := ((vp_in x1 10) ∧ ((46 ≤ (56 + x1.toNatClampNeg) ∧ (56 + x1.toNatClampNeg) < 66) ∧ ((vp_in x2 10) ∧ Q (σ (56 + x1.toNatClampNeg) x2.toNatClampNeg) σ)))
abbrev w_X5_shortest (x1 x2 : Int32) (σ : MS) (Q : Int32 → MS → Prop) : Prop := w_X5_shortest_E Q x1 x2 σ
abbrev rm_X5_shortest : Room := { frames := 0, cells := 0, slots := 0, locals := 0 }
theorem ok_X5_shortest : OkV yX5_shortest RX5 cX5_shortest 3 (some .int) 2 := ⟨tw_356, tw_357, tw_46, tw_358, rfl, by decide, by decide, by decide +kernel⟩
set_option maxRecDepth 100000 in
set_option maxHeartbeats 4000000 in
theorem t_X5_shortest_E {p : Program} {l : Launch} {e : Env} {s : State} {m : MethodId} {args : Array Value} {below : List Frame} {meth : Method} {c : Code} {E : WD} {Q : Int32 → MS → Prop} (hc : Cx p rm_X5_shortest s m args meth c E (AD E) cX5_shortest RX5 (some .int) 3 0 0 fdm) (x1 x2 : Int32) (σ : MS) (hw : w_X5_shortest_E Q x1 x2 σ) : V p l e rm_X5_shortest s m args below meth c E (AD E) 3 0 0 (MQ below (va_Qi Q (BW E) (AD E)) args s 0 0 (AD E)) σ 0 [some (.ref (E.2.1 1)), some (.int x1), some (.int x2)] [] := by
  unfold w_X5_shortest_E at hw
  refine vAload_n (pc := 0) hc dX5_shortest_0 rfl ?_
  refine vGetR (pc := 1) (k := 1) (j := 1) hc rfl inG5 (hc.G 1 (Nat.le_of_ble_eq_true rfl)) rfl (Nat.le_of_ble_eq_true rfl) tw_93 rfl dX5_shortest_1 ?_
  refine vIload_n (pc := 4) hc dX5_shortest_4 rfl ?_
  obtain ⟨hi1, hw⟩ := hw
  refine vAaldF (pc := 5) hc (hc.G 3 (Nat.le_of_ble_eq_true rfl)) hi1 dX5_shortest_5 ?_
  refine vIload_n (pc := 6) hc dX5_shortest_6 rfl ?_
  obtain ⟨hp2, hw⟩ := hw
  obtain ⟨hi3, hw⟩ := hw
  refine vIald (pc := 7) (k := (56 + x1.toNatClampNeg)) hc (hc.G _ (rw_N hp2)) (rw_1 hp2) (rw_n hp2) hi3 dX5_shortest_7 ?_
  exact vIret (pc := 8) hc dX5_shortest_8 hw
set_option maxRecDepth 100000 in
set_option maxHeartbeats 4000000 in
theorem c_X5_shortest {l : Launch} {E : WD} (hE : inj E) (hG : ∀ k, fdm k → k ∈ E.2.2.2) {x1 x2 : Int32} {σ : MS} {Q : Int32 → MS → Prop} (hw : w_X5_shortest x1 x2 σ Q) : Ci l E yX5_shortest cX5_shortest 3 (some .int) rm_X5_shortest [.ref (E.2.1 1), .int x1, .int x2] σ Q :=
  Ct_of (by decide) rfl (by
    intro v hv
    simp only [List.mem_cons, List.not_mem_nil, or_false] at hv
    rcases hv with rfl | rfl | rfl <;> rfl) (Nat.le_of_ble_eq_true rfl) hE hG (fun p e s m below meth c hc => t_X5_shortest_E hc x1 x2 σ hw)
def w_X7_loadOne_E (Q : MS → Prop) (x1 x2 : Int32) (σ : MS) : Prop := w_X2_at x2 σ (fun r5 σ5 => ((vp_in x1 4) ∧ (∀ σ18, σ18 = mst σ5 13 x1.toNatClampNeg x2 → ((37 ≤ r5 ∧ r5 < 46) ∧ (∀ σ28, σ28 = mst σ18 23 x1.toNatClampNeg (σ18 r5 1) → (∀ σ38, σ38 = mst σ28 24 x1.toNatClampNeg (σ28 r5 2) → (∀ σ48, σ48 = mst σ38 25 x1.toNatClampNeg (σ38 r5 3) → (∀ σ58, σ58 = mst σ48 26 x1.toNatClampNeg (σ48 r5 4) → w_X5_shortest (σ58 r5 1) (σ58 r5 2) σ58 (fun r76 σ76 => (∀ σ84, σ84 = mst σ76 27 x1.toNatClampNeg (r76 + (σ76 r5 5)) → Q σ84))))))))))
abbrev w_X7_loadOne (x1 x2 : Int32) (σ : MS) (Q : MS → Prop) : Prop := w_X7_loadOne_E Q x1 x2 σ
abbrev rm_X7_loadOne : Room := { frames := 1, cells := 0, slots := 0, locals := 22 }
theorem ok_X7_loadOne : OkV yX7_loadOne RX7 cX7_loadOne 4 none 2 := ⟨tw_462, tw_7, tw_52, tw_463, rfl, by decide, by decide, by decide +kernel⟩
set_option maxRecDepth 100000 in
set_option maxHeartbeats 4000000 in
theorem t_X7_loadOne_E {p : Program} {l : Launch} {e : Env} {s : State} {m : MethodId} {args : Array Value} {below : List Frame} {meth : Method} {c : Code} {E : WD} {Q : MS → Prop} (hc : Cx p rm_X7_loadOne s m args meth c E (AD E) cX7_loadOne RX7 none 4 0 0 fdm) (x1 x2 : Int32) (σ : MS) (hw : w_X7_loadOne_E Q x1 x2 σ) : V p l e rm_X7_loadOne s m args below meth c E (AD E) 4 0 0 (MQ below (va_Qv Q (BW E) (AD E)) args s 0 0 (AD E)) σ 0 [some (.ref (E.2.1 6)), some (.int x1), some (.int x2), none] [] := by
  unfold w_X7_loadOne_E at hw
  refine vAload_n (pc := 0) hc dX7_loadOne_0 rfl ?_
  refine vGetR (pc := 1) (k := 6) (j := 1) hc rfl inG7 (hc.G 6 (Nat.le_of_ble_eq_true rfl)) rfl (Nat.le_of_ble_eq_true rfl) tw_219 rfl dX7_loadOne_1 ?_
  refine vIload_n (pc := 4) hc dX7_loadOne_4 rfl ?_
  refine vCallVr (pc := 5) (st := []) hc ok_X2_at tw_437 (c_X2_at hc.2.2.2.2.2.2.1 hc.G hw) (hc.G 4 (Nat.le_of_ble_eq_true rfl)) rfl rfl rfl ⟨rfl, rfl⟩ ⟨Nat.le_of_ble_eq_true rfl, Nat.le_of_ble_eq_true rfl⟩ rfl (Nat.le_of_ble_eq_true rfl) dX7_loadOne_5 (fun r5 σ5 hw => ?_)
  refine vAstore_n (pc := 8) (L2 := [some (.ref (E.2.1 6)), some (.int x1), some (.int x2), some (.ref (E.2.1 r5))]) hc dX7_loadOne_8 rfl (Nat.le_of_ble_eq_true rfl) ?_
  refine vAload_n (pc := 9) hc dX7_loadOne_9 rfl ?_
  refine vGetR (pc := 10) (k := 6) (j := 2) hc rfl inG7 (hc.G 6 (Nat.le_of_ble_eq_true rfl)) rfl (Nat.le_of_ble_eq_true rfl) tw_220 rfl dX7_loadOne_10 ?_
  refine vGetRN (pc := 13) (k := 7) (j := 1) hc rfl inG6 (hc.G 7 (Nat.le_of_ble_eq_true rfl)) rfl (Nat.le_of_ble_eq_true rfl) nw_24 rfl dX7_loadOne_13 ?_
  refine vIload_n (pc := 16) hc dX7_loadOne_16 rfl ?_
  refine vIload_n (pc := 17) hc dX7_loadOne_17 rfl ?_
  obtain ⟨hi1, hw⟩ := hw
  refine vIast (pc := 18) (k := 13) hc (hc.G 13 (Nat.le_of_ble_eq_true rfl)) rfl rfl hi1 dX7_loadOne_18 (fun σ18 eσ18 => ?_)
  have hw := hw σ18 eσ18
  refine vAload_n (pc := 19) hc dX7_loadOne_19 rfl ?_
  refine vGetR (pc := 20) (k := 6) (j := 4) hc rfl inG7 (hc.G 6 (Nat.le_of_ble_eq_true rfl)) rfl (Nat.le_of_ble_eq_true rfl) tw_222 rfl dX7_loadOne_20 ?_
  refine vIload_n (pc := 23) hc dX7_loadOne_23 rfl ?_
  refine vAload_n (pc := 24) hc dX7_loadOne_24 rfl ?_
  obtain ⟨hp2, hw⟩ := hw
  refine vGetIN (pc := 25) (k := r5) (j := 1) hc (pn_c hp2) inG3 (hc.G _ (pn_N hp2)) (pn_0 hp2) (Nat.le_of_ble_eq_true rfl) nw_3 (pn_j hp2 rfl) dX7_loadOne_25 ?_
  refine vIast (pc := 28) (k := 23) hc (hc.G 23 (Nat.le_of_ble_eq_true rfl)) rfl rfl hi1 dX7_loadOne_28 (fun σ28 eσ28 => ?_)
  have hw := hw σ28 eσ28
  refine vAload_n (pc := 29) hc dX7_loadOne_29 rfl ?_
  refine vGetR (pc := 30) (k := 6) (j := 5) hc rfl inG7 (hc.G 6 (Nat.le_of_ble_eq_true rfl)) rfl (Nat.le_of_ble_eq_true rfl) tw_223 rfl dX7_loadOne_30 ?_
  refine vIload_n (pc := 33) hc dX7_loadOne_33 rfl ?_
  refine vAload_n (pc := 34) hc dX7_loadOne_34 rfl ?_
  refine vGetIN (pc := 35) (k := r5) (j := 2) hc (pn_c hp2) inG3 (hc.G _ (pn_N hp2)) (pn_0 hp2) (Nat.le_of_ble_eq_true rfl) nw_5 (pn_j hp2 rfl) dX7_loadOne_35 ?_
  refine vIast (pc := 38) (k := 24) hc (hc.G 24 (Nat.le_of_ble_eq_true rfl)) rfl rfl hi1 dX7_loadOne_38 (fun σ38 eσ38 => ?_)
  have hw := hw σ38 eσ38
  refine vAload_n (pc := 39) hc dX7_loadOne_39 rfl ?_
  refine vGetR (pc := 40) (k := 6) (j := 6) hc rfl inG7 (hc.G 6 (Nat.le_of_ble_eq_true rfl)) rfl (Nat.le_of_ble_eq_true rfl) tw_224 rfl dX7_loadOne_40 ?_
  refine vIload_n (pc := 43) hc dX7_loadOne_43 rfl ?_
  refine vAload_n (pc := 44) hc dX7_loadOne_44 rfl ?_
  refine vGetIN (pc := 45) (k := r5) (j := 3) hc (pn_c hp2) inG3 (hc.G _ (pn_N hp2)) (pn_0 hp2) (Nat.le_of_ble_eq_true rfl) nw_7 (pn_j hp2 rfl) dX7_loadOne_45 ?_
  refine vIast (pc := 48) (k := 25) hc (hc.G 25 (Nat.le_of_ble_eq_true rfl)) rfl rfl hi1 dX7_loadOne_48 (fun σ48 eσ48 => ?_)
  have hw := hw σ48 eσ48
  refine vAload_n (pc := 49) hc dX7_loadOne_49 rfl ?_
  refine vGetR (pc := 50) (k := 6) (j := 7) hc rfl inG7 (hc.G 6 (Nat.le_of_ble_eq_true rfl)) rfl (Nat.le_of_ble_eq_true rfl) tw_225 rfl dX7_loadOne_50 ?_
  refine vIload_n (pc := 53) hc dX7_loadOne_53 rfl ?_
  refine vAload_n (pc := 54) hc dX7_loadOne_54 rfl ?_
  refine vGetIN (pc := 55) (k := r5) (j := 4) hc (pn_c hp2) inG3 (hc.G _ (pn_N hp2)) (pn_0 hp2) (Nat.le_of_ble_eq_true rfl) nw_9 (pn_j hp2 rfl) dX7_loadOne_55 ?_
  refine vIast (pc := 58) (k := 26) hc (hc.G 26 (Nat.le_of_ble_eq_true rfl)) rfl rfl hi1 dX7_loadOne_58 (fun σ58 eσ58 => ?_)
  have hw := hw σ58 eσ58
  refine vAload_n (pc := 59) hc dX7_loadOne_59 rfl ?_
  refine vGetR (pc := 60) (k := 6) (j := 8) hc rfl inG7 (hc.G 6 (Nat.le_of_ble_eq_true rfl)) rfl (Nat.le_of_ble_eq_true rfl) tw_226 rfl dX7_loadOne_60 ?_
  refine vIload_n (pc := 63) hc dX7_loadOne_63 rfl ?_
  refine vAload_n (pc := 64) hc dX7_loadOne_64 rfl ?_
  refine vGetR (pc := 65) (k := 6) (j := 0) hc rfl inG7 (hc.G 6 (Nat.le_of_ble_eq_true rfl)) rfl (Nat.le_of_ble_eq_true rfl) tw_218 rfl dX7_loadOne_65 ?_
  refine vAload_n (pc := 68) hc dX7_loadOne_68 rfl ?_
  refine vGetIN (pc := 69) (k := r5) (j := 1) hc (pn_c hp2) inG3 (hc.G _ (pn_N hp2)) (pn_0 hp2) (Nat.le_of_ble_eq_true rfl) nw_3 (pn_j hp2 rfl) dX7_loadOne_69 ?_
  refine vAload_n (pc := 72) hc dX7_loadOne_72 rfl ?_
  refine vGetIN (pc := 73) (k := r5) (j := 2) hc (pn_c hp2) inG3 (hc.G _ (pn_N hp2)) (pn_0 hp2) (Nat.le_of_ble_eq_true rfl) nw_5 (pn_j hp2 rfl) dX7_loadOne_73 ?_
  refine vCallVi (pc := 76) (st := [(.int x1), (.ref (E.2.1 27))]) hc ok_X5_shortest tw_464 (c_X5_shortest hc.2.2.2.2.2.2.1 hc.G hw) (hc.G 1 (Nat.le_of_ble_eq_true rfl)) rfl rfl rfl ⟨rfl, rfl⟩ ⟨Nat.le_of_ble_eq_true rfl, Nat.le_of_ble_eq_true rfl⟩ rfl (Nat.le_of_ble_eq_true rfl) dX7_loadOne_76 (fun r76 σ76 hw => ?_)
  refine vAload_n (pc := 79) hc dX7_loadOne_79 rfl ?_
  refine vGetIN (pc := 80) (k := r5) (j := 5) hc (pn_c hp2) inG3 (hc.G _ (pn_N hp2)) (pn_0 hp2) (Nat.le_of_ble_eq_true rfl) nw_11 (pn_j hp2 rfl) dX7_loadOne_80 ?_
  refine vIadd (pc := 83) hc dX7_loadOne_83 ?_
  refine vIast (pc := 84) (k := 27) hc (hc.G 27 (Nat.le_of_ble_eq_true rfl)) rfl rfl hi1 dX7_loadOne_84 (fun σ84 eσ84 => ?_)
  have hw := hw σ84 eσ84
  exact vVret (pc := 85) hc dX7_loadOne_85 hw
set_option maxRecDepth 100000 in
set_option maxHeartbeats 4000000 in
theorem c_X7_loadOne {l : Launch} {E : WD} (hE : inj E) (hG : ∀ k, fdm k → k ∈ E.2.2.2) {x1 x2 : Int32} {σ : MS} {Q : MS → Prop} (hw : w_X7_loadOne x1 x2 σ Q) : Cv l E yX7_loadOne cX7_loadOne 4 none rm_X7_loadOne [.ref (E.2.1 6), .int x1, .int x2] σ Q :=
  Ct_of (by decide) rfl (by
    intro v hv
    simp only [List.mem_cons, List.not_mem_nil, or_false] at hv
    rcases hv with rfl | rfl | rfl <;> rfl) (Nat.le_of_ble_eq_true rfl) hE hG (fun p e s m below meth c hc => t_X7_loadOne_E hc x1 x2 σ hw)
def w_X7_load_H10 (Q : MS → Prop) : Nat → Int32 → Int32 → MS → Prop
  | 0, _, _, _ => False
  | n + 1, x1, x2, σ => ((9 ≤ x2 → Q σ) ∧ (¬ 9 ≤ x2 → w_X8_contains x1 x2 σ (fun r18 σ18 => ((r18 = 0 → w_X7_load_H10 Q n x1 (x2 + 1) σ18) ∧ (¬ r18 = 0 → ((4 ≤ (σ18 7 0) → w_X7_load_H10 Q n x1 (x2 + 1) σ18) ∧ (¬ 4 ≤ (σ18 7 0) → w_X7_loadOne (σ18 7 0) x2 σ18 (fun σ44 => (∀ σ57, σ57 = mst σ44 7 0 ((σ44 7 0) + 1) → w_X7_load_H10 Q n x1 (x2 + 1) σ57)))))))))
def w_X7_load_E (Q : MS → Prop) (x1 : Int32) (σ : MS) : Prop := (∀ σ5, σ5 = mst σ 7 0 0 → (∃ n10, w_X7_load_H10 Q n10 x1 0 σ5))
abbrev w_X7_load (x1 : Int32) (σ : MS) (Q : MS → Prop) : Prop := w_X7_load_E Q x1 σ
abbrev rm_X7_load : Room := { frames := 2, cells := 0, slots := 0, locals := 45 }
theorem ok_X7_load : OkV yX7_load RX7 cX7_load 3 none 1 := ⟨tw_457, tw_6, tw_52, tw_458, rfl, by decide, by decide, by decide +kernel⟩
set_option maxRecDepth 100000 in
set_option maxHeartbeats 4000000 in
theorem t_X7_load_H10 {p : Program} {l : Launch} {e : Env} {s : State} {m : MethodId} {args : Array Value} {below : List Frame} {meth : Method} {c : Code} {E : WD} {Q : MS → Prop} (hc : Cx p rm_X7_load s m args meth c E (AD E) cX7_load RX7 none 3 0 0 fdm) : ∀ (n : Nat) (x1 x2 : Int32) (σ : MS), w_X7_load_H10 Q n x1 x2 σ → V p l e rm_X7_load s m args below meth c E (AD E) 3 0 0 (MQ below (va_Qv Q (BW E) (AD E)) args s 0 0 (AD E)) σ 10 [some (.ref (E.2.1 6)), some (.int x1), some (.int x2)] [] := by
  intro n
  induction n with
  | zero =>
    intro x1 x2 σ hw
    exact hw.elim
  | succ n ih =>
    intro x1 x2 σ hw
    unfold w_X7_load_H10 at hw
    refine vIload_n (pc := 10) hc dX7_load_10 rfl ?_
    refine vBipush (pc := 11) (v := 9) hc dX7_load_11 kb_9 ?_
    refine vIcmp_ge (pc := 13) (tgt := 66) hc dX7_load_13 (by decide) (fun c13 => ?_) (fun c13 => ?_)
    · have hw := hw.1 c13
      exact vVret (pc := 66) hc dX7_load_66 hw
    · have hw := hw.2 c13
      refine vIload_n (pc := 16) hc dX7_load_16 rfl ?_
      refine vIload_n (pc := 17) hc dX7_load_17 rfl ?_
      refine vCallSNi (pc := 18) (st := []) hc ok_X8_contains nw_38 (c_X8_contains hc.2.2.2.2.2.2.1 hc.G hw) rfl ⟨rfl, rfl⟩ ⟨Nat.le_of_ble_eq_true rfl, Nat.le_of_ble_eq_true rfl⟩ rfl (Nat.le_of_ble_eq_true rfl) dX7_load_18 (fun r18 σ18 hw => ?_)
      refine vIf_eq (pc := 21) (tgt := 60) hc dX7_load_21 (by decide) (fun c21 => ?_) (fun c21 => ?_)
      · have hw := hw.1 c21
        refine vIinc (pc := 60) (v := x2 + 1) (L2 := [some (.ref (E.2.1 6)), some (.int x1), some (.int (x2 + 1))]) hc dX7_load_60 rfl rfl rfl (Nat.le_of_ble_eq_true rfl) ?_
        refine vGoto (pc := 63) (tgt := 10) hc dX7_load_63 (by decide) ?_
        exact vMono (L2 := [some (.ref (E.2.1 6)), some (.int x1), some (.int (x2 + 1))]) (show subL [some (.ref (E.2.1 6)), some (.int x1), some (.int (x2 + 1))] [some (.ref (E.2.1 6)), some (.int x1), some (.int (x2 + 1))] from ⟨rfl, ⟨rfl, ⟨rfl, trivial⟩⟩⟩) (ih x1 (x2 + 1) _ hw)
      · have hw := hw.2 c21
        refine vAload_n (pc := 24) hc dX7_load_24 rfl ?_
        refine vGetR (pc := 25) (k := 6) (j := 2) hc rfl inG7 (hc.G 6 (Nat.le_of_ble_eq_true rfl)) rfl (Nat.le_of_ble_eq_true rfl) tw_220 rfl dX7_load_25 ?_
        refine vGetIN (pc := 28) (k := 7) (j := 0) hc rfl inG6 (hc.G 7 (Nat.le_of_ble_eq_true rfl)) rfl (Nat.le_of_ble_eq_true rfl) nw_21 rfl dX7_load_28 ?_
        refine vIconst (pc := 31) (v := 4) hc dX7_load_31 ki_4 ?_
        refine vIcmp_ge (pc := 32) (tgt := 60) hc dX7_load_32 (by decide) (fun c32 => ?_) (fun c32 => ?_)
        · have hw := hw.1 c32
          refine vIinc (pc := 60) (v := x2 + 1) (L2 := [some (.ref (E.2.1 6)), some (.int x1), some (.int (x2 + 1))]) hc dX7_load_60 rfl rfl rfl (Nat.le_of_ble_eq_true rfl) ?_
          refine vGoto (pc := 63) (tgt := 10) hc dX7_load_63 (by decide) ?_
          exact vMono (L2 := [some (.ref (E.2.1 6)), some (.int x1), some (.int (x2 + 1))]) (show subL [some (.ref (E.2.1 6)), some (.int x1), some (.int (x2 + 1))] [some (.ref (E.2.1 6)), some (.int x1), some (.int (x2 + 1))] from ⟨rfl, ⟨rfl, ⟨rfl, trivial⟩⟩⟩) (ih x1 (x2 + 1) _ hw)
        · have hw := hw.2 c32
          refine vAload_n (pc := 35) hc dX7_load_35 rfl ?_
          refine vAload_n (pc := 36) hc dX7_load_36 rfl ?_
          refine vGetR (pc := 37) (k := 6) (j := 2) hc rfl inG7 (hc.G 6 (Nat.le_of_ble_eq_true rfl)) rfl (Nat.le_of_ble_eq_true rfl) tw_220 rfl dX7_load_37 ?_
          refine vGetIN (pc := 40) (k := 7) (j := 0) hc rfl inG6 (hc.G 7 (Nat.le_of_ble_eq_true rfl)) rfl (Nat.le_of_ble_eq_true rfl) nw_21 rfl dX7_load_40 ?_
          refine vIload_n (pc := 43) hc dX7_load_43 rfl ?_
          refine vCallVv (pc := 44) (st := []) hc ok_X7_loadOne tw_460 (c_X7_loadOne hc.2.2.2.2.2.2.1 hc.G hw) (hc.G 6 (Nat.le_of_ble_eq_true rfl)) rfl rfl rfl ⟨rfl, rfl⟩ ⟨Nat.le_of_ble_eq_true rfl, Nat.le_of_ble_eq_true rfl⟩ rfl (Nat.le_of_ble_eq_true rfl) dX7_load_44 (fun σ44 hw => ?_)
          refine vAload_n (pc := 47) hc dX7_load_47 rfl ?_
          refine vGetR (pc := 48) (k := 6) (j := 2) hc rfl inG7 (hc.G 6 (Nat.le_of_ble_eq_true rfl)) rfl (Nat.le_of_ble_eq_true rfl) tw_220 rfl dX7_load_48 ?_
          refine vDup (pc := 51) hc dX7_load_51 rfl ?_
          refine vGetIN (pc := 52) (k := 7) (j := 0) hc rfl inG6 (hc.G 7 (Nat.le_of_ble_eq_true rfl)) rfl (Nat.le_of_ble_eq_true rfl) nw_21 rfl dX7_load_52 ?_
          refine vIconst (pc := 55) (v := 1) hc dX7_load_55 ki_1 ?_
          refine vIadd (pc := 56) hc dX7_load_56 ?_
          refine vPutN (pc := 57) (k := 7) (j := 0) hc rfl inG6 (hc.G 7 (Nat.le_of_ble_eq_true rfl)) rfl (Nat.le_of_ble_eq_true rfl) tyX6 tyX6_ok nmX6 nw_21 rfl rfl rfl rfl dX7_load_57 (fun σ57 eσ57 => ?_)
          have hw := hw σ57 eσ57
          refine vIinc (pc := 60) (v := x2 + 1) (L2 := [some (.ref (E.2.1 6)), some (.int x1), some (.int (x2 + 1))]) hc dX7_load_60 rfl rfl rfl (Nat.le_of_ble_eq_true rfl) ?_
          refine vGoto (pc := 63) (tgt := 10) hc dX7_load_63 (by decide) ?_
          exact vMono (L2 := [some (.ref (E.2.1 6)), some (.int x1), some (.int (x2 + 1))]) (show subL [some (.ref (E.2.1 6)), some (.int x1), some (.int (x2 + 1))] [some (.ref (E.2.1 6)), some (.int x1), some (.int (x2 + 1))] from ⟨rfl, ⟨rfl, ⟨rfl, trivial⟩⟩⟩) (ih x1 (x2 + 1) _ hw)
set_option maxRecDepth 100000 in
set_option maxHeartbeats 4000000 in
theorem t_X7_load_E {p : Program} {l : Launch} {e : Env} {s : State} {m : MethodId} {args : Array Value} {below : List Frame} {meth : Method} {c : Code} {E : WD} {Q : MS → Prop} (hc : Cx p rm_X7_load s m args meth c E (AD E) cX7_load RX7 none 3 0 0 fdm) (x1 : Int32) (σ : MS) (hw : w_X7_load_E Q x1 σ) : V p l e rm_X7_load s m args below meth c E (AD E) 3 0 0 (MQ below (va_Qv Q (BW E) (AD E)) args s 0 0 (AD E)) σ 0 [some (.ref (E.2.1 6)), some (.int x1), none] [] := by
  unfold w_X7_load_E at hw
  refine vAload_n (pc := 0) hc dX7_load_0 rfl ?_
  refine vGetR (pc := 1) (k := 6) (j := 2) hc rfl inG7 (hc.G 6 (Nat.le_of_ble_eq_true rfl)) rfl (Nat.le_of_ble_eq_true rfl) tw_220 rfl dX7_load_1 ?_
  refine vIconst (pc := 4) (v := 0) hc dX7_load_4 ki_0 ?_
  refine vPutN (pc := 5) (k := 7) (j := 0) hc rfl inG6 (hc.G 7 (Nat.le_of_ble_eq_true rfl)) rfl (Nat.le_of_ble_eq_true rfl) tyX6 tyX6_ok nmX6 nw_21 rfl rfl rfl rfl dX7_load_5 (fun σ5 eσ5 => ?_)
  have hw := hw σ5 eσ5
  refine vIconst (pc := 8) (v := 0) hc dX7_load_8 ki_0 ?_
  refine vIstore_n (pc := 9) (L2 := [some (.ref (E.2.1 6)), some (.int x1), some (.int 0)]) hc dX7_load_9 rfl (Nat.le_of_ble_eq_true rfl) ?_
  obtain ⟨n10, hw⟩ := hw
  exact vMono (L2 := [some (.ref (E.2.1 6)), some (.int x1), some (.int 0)]) (show subL [some (.ref (E.2.1 6)), some (.int x1), some (.int 0)] [some (.ref (E.2.1 6)), some (.int x1), some (.int 0)] from ⟨rfl, ⟨rfl, ⟨rfl, trivial⟩⟩⟩) (t_X7_load_H10 hc  n10 x1 0 _ hw)
set_option maxRecDepth 100000 in
set_option maxHeartbeats 4000000 in
theorem c_X7_load {l : Launch} {E : WD} (hE : inj E) (hG : ∀ k, fdm k → k ∈ E.2.2.2) {x1 : Int32} {σ : MS} {Q : MS → Prop} (hw : w_X7_load x1 σ Q) : Cv l E yX7_load cX7_load 3 none rm_X7_load [.ref (E.2.1 6), .int x1] σ Q :=
  Ct_of (by decide) rfl (by
    intro v hv
    simp only [List.mem_cons, List.not_mem_nil, or_false] at hv
    rcases hv with rfl | rfl <;> rfl) (Nat.le_of_ble_eq_true rfl) hE hG (fun p e s m below meth c hc => t_X7_load_E hc x1 σ hw)
def w_X7_allPlaces_E (Q : Int32 → MS → Prop) (σ : MS) : Prop := Q (((1 : Int32) <<< ((σ 7 0) &&& 31)) - 1) σ
abbrev w_X7_allPlaces (σ : MS) (Q : Int32 → MS → Prop) : Prop := w_X7_allPlaces_E Q  σ
abbrev rm_X7_allPlaces : Room := { frames := 0, cells := 0, slots := 0, locals := 0 }
theorem ok_X7_allPlaces : OkV yX7_allPlaces RX7 cX7_allPlaces 1 (some .int) 0 := ⟨tw_468, tw_8, tw_52, tw_469, rfl, by decide, by decide, by decide +kernel⟩
set_option maxRecDepth 100000 in
set_option maxHeartbeats 4000000 in
theorem t_X7_allPlaces_E {p : Program} {l : Launch} {e : Env} {s : State} {m : MethodId} {args : Array Value} {below : List Frame} {meth : Method} {c : Code} {E : WD} {Q : Int32 → MS → Prop} (hc : Cx p rm_X7_allPlaces s m args meth c E (AD E) cX7_allPlaces RX7 (some .int) 1 0 0 fdm) (σ : MS) (hw : w_X7_allPlaces_E Q  σ) : V p l e rm_X7_allPlaces s m args below meth c E (AD E) 1 0 0 (MQ below (va_Qi Q (BW E) (AD E)) args s 0 0 (AD E)) σ 0 [some (.ref (E.2.1 6))] [] := by
  unfold w_X7_allPlaces_E at hw
  refine vIconst (pc := 0) (v := 1) hc dX7_allPlaces_0 ki_1 ?_
  refine vAload_n (pc := 1) hc dX7_allPlaces_1 rfl ?_
  refine vGetR (pc := 2) (k := 6) (j := 2) hc rfl inG7 (hc.G 6 (Nat.le_of_ble_eq_true rfl)) rfl (Nat.le_of_ble_eq_true rfl) tw_220 rfl dX7_allPlaces_2 ?_
  refine vGetIN (pc := 5) (k := 7) (j := 0) hc rfl inG6 (hc.G 7 (Nat.le_of_ble_eq_true rfl)) rfl (Nat.le_of_ble_eq_true rfl) nw_21 rfl dX7_allPlaces_5 ?_
  refine vIshl (pc := 8) hc dX7_allPlaces_8 ?_
  refine vIconst (pc := 9) (v := 1) hc dX7_allPlaces_9 ki_1 ?_
  refine vIsub (pc := 10) hc dX7_allPlaces_10 ?_
  exact vIret (pc := 11) hc dX7_allPlaces_11 hw
set_option maxRecDepth 100000 in
set_option maxHeartbeats 4000000 in
theorem c_X7_allPlaces {l : Launch} {E : WD} (hE : inj E) (hG : ∀ k, fdm k → k ∈ E.2.2.2) {σ : MS} {Q : Int32 → MS → Prop} (hw : w_X7_allPlaces  σ Q) : Ci l E yX7_allPlaces cX7_allPlaces 1 (some .int) rm_X7_allPlaces [.ref (E.2.1 6)] σ Q :=
  Ct_of (by decide) rfl (by
    intro v hv
    simp only [List.mem_cons, List.not_mem_nil, or_false] at hv
    rcases hv with rfl <;> rfl) (Nat.le_of_ble_eq_true rfl) hE hG (fun p e s m below meth c hc => t_X7_allPlaces_E hc  σ hw)
def w_X6_copyOf_H26 (Q : MS → Prop) : Nat → Int32 → MS → Prop
  | 0, _, _ => False
  | n + 1, x2, σ => ((4 ≤ x2 → Q σ) ∧ (¬ 4 ≤ x2 → ((vp_in x2 4) ∧ (∀ σ42, σ42 = mst σ 18 x2.toNatClampNeg (σ 13 x2.toNatClampNeg) → (∀ σ54, σ54 = mst σ42 19 x2.toNatClampNeg (σ42 14 x2.toNatClampNeg) → (∀ σ66, σ66 = mst σ54 20 x2.toNatClampNeg (σ54 15 x2.toNatClampNeg) → (∀ σ78, σ78 = mst σ66 21 x2.toNatClampNeg (σ66 16 x2.toNatClampNeg) → (∀ σ90, σ90 = mst σ78 22 x2.toNatClampNeg (σ78 17 x2.toNatClampNeg) → w_X6_copyOf_H26 Q n (x2 + 1) σ90))))))))
def w_X6_copyOf_E (Q : MS → Prop) (σ : MS) : Prop := (∀ σ5, σ5 = mst σ 8 0 (σ 7 0) → (∀ σ13, σ13 = mst σ5 8 6 (σ5 7 6) → (∀ σ21, σ21 = mst σ13 8 7 (σ13 7 7) → (∃ n26, w_X6_copyOf_H26 Q n26 0 σ21))))
abbrev w_X6_copyOf (σ : MS) (Q : MS → Prop) : Prop := w_X6_copyOf_E Q  σ
abbrev rm_X6_copyOf : Room := { frames := 0, cells := 0, slots := 0, locals := 0 }
theorem ok_X6_copyOf : OkV yX6_copyOf RX6 cX6_copyOf 3 none 1 := ⟨tw_479, tw_480, tw_53, tw_481, rfl, by decide, by decide, by decide +kernel⟩
set_option maxRecDepth 100000 in
set_option maxHeartbeats 4000000 in
theorem t_X6_copyOf_H26 {p : Program} {l : Launch} {e : Env} {s : State} {m : MethodId} {args : Array Value} {below : List Frame} {meth : Method} {c : Code} {E : WD} {Q : MS → Prop} (hc : Cx p rm_X6_copyOf s m args meth c E (AD E) cX6_copyOf RX6 none 3 0 0 fdm) : ∀ (n : Nat) (x2 : Int32) (σ : MS), w_X6_copyOf_H26 Q n x2 σ → V p l e rm_X6_copyOf s m args below meth c E (AD E) 3 0 0 (MQ below (va_Qv Q (BW E) (AD E)) args s 0 0 (AD E)) σ 26 [some (.ref (E.2.1 8)), some (.ref (E.2.1 7)), some (.int x2)] [] := by
  intro n
  induction n with
  | zero =>
    intro x2 σ hw
    exact hw.elim
  | succ n ih =>
    intro x2 σ hw
    unfold w_X6_copyOf_H26 at hw
    refine vIload_n (pc := 26) hc dX6_copyOf_26 rfl ?_
    refine vIconst (pc := 27) (v := 4) hc dX6_copyOf_27 ki_4 ?_
    refine vIcmp_ge (pc := 28) (tgt := 97) hc dX6_copyOf_28 (by decide) (fun c28 => ?_) (fun c28 => ?_)
    · have hw := hw.1 c28
      exact vVret (pc := 97) hc dX6_copyOf_97 hw
    · have hw := hw.2 c28
      refine vAload_n (pc := 31) hc dX6_copyOf_31 rfl ?_
      refine vGetR (pc := 32) (k := 8) (j := 1) hc rfl inG6 (hc.G 8 (Nat.le_of_ble_eq_true rfl)) rfl (Nat.le_of_ble_eq_true rfl) tw_180 rfl dX6_copyOf_32 ?_
      refine vIload_n (pc := 35) hc dX6_copyOf_35 rfl ?_
      refine vAload_n (pc := 36) hc dX6_copyOf_36 rfl ?_
      refine vGetR (pc := 37) (k := 7) (j := 1) hc rfl inG6 (hc.G 7 (Nat.le_of_ble_eq_true rfl)) rfl (Nat.le_of_ble_eq_true rfl) tw_180 rfl dX6_copyOf_37 ?_
      refine vIload_n (pc := 40) hc dX6_copyOf_40 rfl ?_
      obtain ⟨hi1, hw⟩ := hw
      refine vIald (pc := 41) (k := 13) hc (hc.G 13 (Nat.le_of_ble_eq_true rfl)) rfl rfl hi1 dX6_copyOf_41 ?_
      refine vIast (pc := 42) (k := 18) hc (hc.G 18 (Nat.le_of_ble_eq_true rfl)) rfl rfl hi1 dX6_copyOf_42 (fun σ42 eσ42 => ?_)
      have hw := hw σ42 eσ42
      refine vAload_n (pc := 43) hc dX6_copyOf_43 rfl ?_
      refine vGetR (pc := 44) (k := 8) (j := 2) hc rfl inG6 (hc.G 8 (Nat.le_of_ble_eq_true rfl)) rfl (Nat.le_of_ble_eq_true rfl) tw_183 rfl dX6_copyOf_44 ?_
      refine vIload_n (pc := 47) hc dX6_copyOf_47 rfl ?_
      refine vAload_n (pc := 48) hc dX6_copyOf_48 rfl ?_
      refine vGetR (pc := 49) (k := 7) (j := 2) hc rfl inG6 (hc.G 7 (Nat.le_of_ble_eq_true rfl)) rfl (Nat.le_of_ble_eq_true rfl) tw_183 rfl dX6_copyOf_49 ?_
      refine vIload_n (pc := 52) hc dX6_copyOf_52 rfl ?_
      refine vIald (pc := 53) (k := 14) hc (hc.G 14 (Nat.le_of_ble_eq_true rfl)) rfl rfl hi1 dX6_copyOf_53 ?_
      refine vIast (pc := 54) (k := 19) hc (hc.G 19 (Nat.le_of_ble_eq_true rfl)) rfl rfl hi1 dX6_copyOf_54 (fun σ54 eσ54 => ?_)
      have hw := hw σ54 eσ54
      refine vAload_n (pc := 55) hc dX6_copyOf_55 rfl ?_
      refine vGetR (pc := 56) (k := 8) (j := 3) hc rfl inG6 (hc.G 8 (Nat.le_of_ble_eq_true rfl)) rfl (Nat.le_of_ble_eq_true rfl) tw_185 rfl dX6_copyOf_56 ?_
      refine vIload_n (pc := 59) hc dX6_copyOf_59 rfl ?_
      refine vAload_n (pc := 60) hc dX6_copyOf_60 rfl ?_
      refine vGetR (pc := 61) (k := 7) (j := 3) hc rfl inG6 (hc.G 7 (Nat.le_of_ble_eq_true rfl)) rfl (Nat.le_of_ble_eq_true rfl) tw_185 rfl dX6_copyOf_61 ?_
      refine vIload_n (pc := 64) hc dX6_copyOf_64 rfl ?_
      refine vIald (pc := 65) (k := 15) hc (hc.G 15 (Nat.le_of_ble_eq_true rfl)) rfl rfl hi1 dX6_copyOf_65 ?_
      refine vIast (pc := 66) (k := 20) hc (hc.G 20 (Nat.le_of_ble_eq_true rfl)) rfl rfl hi1 dX6_copyOf_66 (fun σ66 eσ66 => ?_)
      have hw := hw σ66 eσ66
      refine vAload_n (pc := 67) hc dX6_copyOf_67 rfl ?_
      refine vGetR (pc := 68) (k := 8) (j := 4) hc rfl inG6 (hc.G 8 (Nat.le_of_ble_eq_true rfl)) rfl (Nat.le_of_ble_eq_true rfl) tw_187 rfl dX6_copyOf_68 ?_
      refine vIload_n (pc := 71) hc dX6_copyOf_71 rfl ?_
      refine vAload_n (pc := 72) hc dX6_copyOf_72 rfl ?_
      refine vGetR (pc := 73) (k := 7) (j := 4) hc rfl inG6 (hc.G 7 (Nat.le_of_ble_eq_true rfl)) rfl (Nat.le_of_ble_eq_true rfl) tw_187 rfl dX6_copyOf_73 ?_
      refine vIload_n (pc := 76) hc dX6_copyOf_76 rfl ?_
      refine vIald (pc := 77) (k := 16) hc (hc.G 16 (Nat.le_of_ble_eq_true rfl)) rfl rfl hi1 dX6_copyOf_77 ?_
      refine vIast (pc := 78) (k := 21) hc (hc.G 21 (Nat.le_of_ble_eq_true rfl)) rfl rfl hi1 dX6_copyOf_78 (fun σ78 eσ78 => ?_)
      have hw := hw σ78 eσ78
      refine vAload_n (pc := 79) hc dX6_copyOf_79 rfl ?_
      refine vGetR (pc := 80) (k := 8) (j := 5) hc rfl inG6 (hc.G 8 (Nat.le_of_ble_eq_true rfl)) rfl (Nat.le_of_ble_eq_true rfl) tw_190 rfl dX6_copyOf_80 ?_
      refine vIload_n (pc := 83) hc dX6_copyOf_83 rfl ?_
      refine vAload_n (pc := 84) hc dX6_copyOf_84 rfl ?_
      refine vGetR (pc := 85) (k := 7) (j := 5) hc rfl inG6 (hc.G 7 (Nat.le_of_ble_eq_true rfl)) rfl (Nat.le_of_ble_eq_true rfl) tw_190 rfl dX6_copyOf_85 ?_
      refine vIload_n (pc := 88) hc dX6_copyOf_88 rfl ?_
      refine vIald (pc := 89) (k := 17) hc (hc.G 17 (Nat.le_of_ble_eq_true rfl)) rfl rfl hi1 dX6_copyOf_89 ?_
      refine vIast (pc := 90) (k := 22) hc (hc.G 22 (Nat.le_of_ble_eq_true rfl)) rfl rfl hi1 dX6_copyOf_90 (fun σ90 eσ90 => ?_)
      have hw := hw σ90 eσ90
      refine vIinc (pc := 91) (v := x2 + 1) (L2 := [some (.ref (E.2.1 8)), some (.ref (E.2.1 7)), some (.int (x2 + 1))]) hc dX6_copyOf_91 rfl rfl rfl (Nat.le_of_ble_eq_true rfl) ?_
      refine vGoto (pc := 94) (tgt := 26) hc dX6_copyOf_94 (by decide) ?_
      exact vMono (L2 := [some (.ref (E.2.1 8)), some (.ref (E.2.1 7)), some (.int (x2 + 1))]) (show subL [some (.ref (E.2.1 8)), some (.ref (E.2.1 7)), some (.int (x2 + 1))] [some (.ref (E.2.1 8)), some (.ref (E.2.1 7)), some (.int (x2 + 1))] from ⟨rfl, ⟨rfl, ⟨rfl, trivial⟩⟩⟩) (ih (x2 + 1) _ hw)
set_option maxRecDepth 100000 in
set_option maxHeartbeats 4000000 in
theorem t_X6_copyOf_E {p : Program} {l : Launch} {e : Env} {s : State} {m : MethodId} {args : Array Value} {below : List Frame} {meth : Method} {c : Code} {E : WD} {Q : MS → Prop} (hc : Cx p rm_X6_copyOf s m args meth c E (AD E) cX6_copyOf RX6 none 3 0 0 fdm) (σ : MS) (hw : w_X6_copyOf_E Q  σ) : V p l e rm_X6_copyOf s m args below meth c E (AD E) 3 0 0 (MQ below (va_Qv Q (BW E) (AD E)) args s 0 0 (AD E)) σ 0 [some (.ref (E.2.1 8)), some (.ref (E.2.1 7)), none] [] := by
  unfold w_X6_copyOf_E at hw
  refine vAload_n (pc := 0) hc dX6_copyOf_0 rfl ?_
  refine vAload_n (pc := 1) hc dX6_copyOf_1 rfl ?_
  refine vGetI (pc := 2) (k := 7) (j := 0) hc rfl inG6 (hc.G 7 (Nat.le_of_ble_eq_true rfl)) rfl (Nat.le_of_ble_eq_true rfl) tw_177 rfl dX6_copyOf_2 ?_
  refine vPut (pc := 5) (k := 8) (j := 0) hc rfl inG6 (hc.G 8 (Nat.le_of_ble_eq_true rfl)) rfl (Nat.le_of_ble_eq_true rfl) tyX6 tyX6_ok nmX6 tw_177 rfl rfl rfl rfl dX6_copyOf_5 (fun σ5 eσ5 => ?_)
  have hw := hw σ5 eσ5
  refine vAload_n (pc := 8) hc dX6_copyOf_8 rfl ?_
  refine vAload_n (pc := 9) hc dX6_copyOf_9 rfl ?_
  refine vGetI (pc := 10) (k := 7) (j := 6) hc rfl inG6 (hc.G 7 (Nat.le_of_ble_eq_true rfl)) rfl (Nat.le_of_ble_eq_true rfl) tw_194 rfl dX6_copyOf_10 ?_
  refine vPut (pc := 13) (k := 8) (j := 6) hc rfl inG6 (hc.G 8 (Nat.le_of_ble_eq_true rfl)) rfl (Nat.le_of_ble_eq_true rfl) tyX6 tyX6_ok nmX6 tw_194 rfl rfl rfl rfl dX6_copyOf_13 (fun σ13 eσ13 => ?_)
  have hw := hw σ13 eσ13
  refine vAload_n (pc := 16) hc dX6_copyOf_16 rfl ?_
  refine vAload_n (pc := 17) hc dX6_copyOf_17 rfl ?_
  refine vGetI (pc := 18) (k := 7) (j := 7) hc rfl inG6 (hc.G 7 (Nat.le_of_ble_eq_true rfl)) rfl (Nat.le_of_ble_eq_true rfl) tw_198 rfl dX6_copyOf_18 ?_
  refine vPut (pc := 21) (k := 8) (j := 7) hc rfl inG6 (hc.G 8 (Nat.le_of_ble_eq_true rfl)) rfl (Nat.le_of_ble_eq_true rfl) tyX6 tyX6_ok nmX6 tw_198 rfl rfl rfl rfl dX6_copyOf_21 (fun σ21 eσ21 => ?_)
  have hw := hw σ21 eσ21
  refine vIconst (pc := 24) (v := 0) hc dX6_copyOf_24 ki_0 ?_
  refine vIstore_n (pc := 25) (L2 := [some (.ref (E.2.1 8)), some (.ref (E.2.1 7)), some (.int 0)]) hc dX6_copyOf_25 rfl (Nat.le_of_ble_eq_true rfl) ?_
  obtain ⟨n26, hw⟩ := hw
  exact vMono (L2 := [some (.ref (E.2.1 8)), some (.ref (E.2.1 7)), some (.int 0)]) (show subL [some (.ref (E.2.1 8)), some (.ref (E.2.1 7)), some (.int 0)] [some (.ref (E.2.1 8)), some (.ref (E.2.1 7)), some (.int 0)] from ⟨rfl, ⟨rfl, ⟨rfl, trivial⟩⟩⟩) (t_X6_copyOf_H26 hc  n26 0 _ hw)
set_option maxRecDepth 100000 in
set_option maxHeartbeats 4000000 in
theorem c_X6_copyOf {l : Launch} {E : WD} (hE : inj E) (hG : ∀ k, fdm k → k ∈ E.2.2.2) {σ : MS} {Q : MS → Prop} (hw : w_X6_copyOf  σ Q) : Cv l E yX6_copyOf cX6_copyOf 3 none rm_X6_copyOf [.ref (E.2.1 8), .ref (E.2.1 7)] σ Q :=
  Ct_of (by decide) rfl (by
    intro v hv
    simp only [List.mem_cons, List.not_mem_nil, or_false] at hv
    rcases hv with rfl | rfl <;> rfl) (Nat.le_of_ble_eq_true rfl) hE hG (fun p e s m below meth c hc => t_X6_copyOf_E hc  σ hw)
def w_X7_bringNext_J130 (Rc : Int32 → Int32 → Int32 → Int32 → Int32 → Int32 → MS → (MS → Prop) → Prop) (K44 : Int32 → Int32 → Int32 → Int32 → Int32 → Int32 → Int32 → MS → Prop) (Q : MS → Prop) (x1 x2 x3 x4 x5 x6 x7 x8 x9 s0 : Int32) (σ : MS) : Prop := ((s0 = 0 → K44 x1 x2 x3 x4 x5 x6 (x7 + 1) σ) ∧ (¬ s0 = 0 → (((σ 8 6) ≤ x8 → K44 x1 x2 x3 x4 x5 x6 (x7 + 1) σ) ∧ (¬ (σ 8 6) ≤ x8 → ((x9 < x5 → K44 x1 x2 x3 x4 x5 x6 (x7 + 1) σ) ∧ (¬ x9 < x5 → ((vp_in x1 4) ∧ (∀ σ166, σ166 = mst σ 15 x1.toNatClampNeg x7 → ((vp_in x7 4) ∧ (∀ σ178, σ178 = mst σ166 17 x7.toNatClampNeg x8 → Rc (x1 + 1) (x2 &&& (((1 : Int32) <<< (x7 &&& 31)) ^^^ (-1))) (σ178 24 x7.toNatClampNeg) x8 x5 x9 σ178 (fun σ204 => K44 x1 x2 x3 x4 x5 x6 (x7 + 1) σ204)))))))))))
def w_X7_bringNext_H44 (Rc : Int32 → Int32 → Int32 → Int32 → Int32 → Int32 → MS → (MS → Prop) → Prop) (Q : MS → Prop) : Nat → Int32 → Int32 → Int32 → Int32 → Int32 → Int32 → Int32 → MS → Prop
  | 0, _, _, _, _, _, _, _, _ => False
  | n + 1, x1, x2, x3, x4, x5, x6, x7, σ => (((σ 7 0) ≤ x7 → Q σ) ∧ (¬ (σ 7 0) ≤ x7 → w_X8_contains x2 x7 σ (fun r59 σ59 => ((r59 = 0 → w_X7_bringNext_H44 Rc Q n x1 x2 x3 x4 x5 x6 (x7 + 1) σ59) ∧ (¬ r59 = 0 → ((vp_in x7 4) ∧ w_X5_shortest x3 (σ59 24 x7.toNatClampNeg) σ59 (fun r79 σ79 => (∀ x8_83 : Int32, x8_83 = (x4 + r79) → (∀ x9_100 : Int32, x9_100 = (if ((σ79 26 x7.toNatClampNeg) - x8_83) < x6 then ((σ79 26 x7.toNatClampNeg) - x8_83) else x6) → (((σ79 27 x7.toNatClampNeg) < (x8_83 - (σ79 16 x7.toNatClampNeg)) → w_X7_bringNext_J130 Rc (fun x1 x2 x3 x4 x5 x6 x7 σ => w_X7_bringNext_H44 Rc Q n x1 x2 x3 x4 x5 x6 x7 σ) Q x1 x2 x3 x4 x5 x6 x7 x8_83 x9_100 0 σ79) ∧ (¬ (σ79 27 x7.toNatClampNeg) < (x8_83 - (σ79 16 x7.toNatClampNeg)) → w_X7_bringNext_J130 Rc (fun x1 x2 x3 x4 x5 x6 x7 σ => w_X7_bringNext_H44 Rc Q n x1 x2 x3 x4 x5 x6 x7 σ) Q x1 x2 x3 x4 x5 x6 x7 x8_83 x9_100 1 σ79)))))))))))
def w_X7_bringNext_E (Rc : Int32 → Int32 → Int32 → Int32 → Int32 → Int32 → MS → (MS → Prop) → Prop) (Q : MS → Prop) (x1 x2 x3 x4 x5 x6 : Int32) (σ : MS) : Prop := ((x1 < (σ 7 0) → (∃ n44, w_X7_bringNext_H44 Rc Q n44 x1 x2 x3 x4 x5 x6 0 σ)) ∧ (¬ x1 < (σ 7 0) → (∀ σ17, σ17 = mst σ 7 6 x4 → (∀ σ26, σ26 = mst σ17 7 7 x6 → w_X6_copyOf  σ26 (fun σ37 => Q σ37)))))
def w_X7_bringNext : Nat → Int32 → Int32 → Int32 → Int32 → Int32 → Int32 → MS → (MS → Prop) → Prop
  | 0, _, _, _, _, _, _, _, _ => False
  | d + 1, x1, x2, x3, x4, x5, x6, σ, Q => w_X7_bringNext_E (w_X7_bringNext d) Q x1 x2 x3 x4 x5 x6 σ
def rm_X7_bringNext (d : Nat) : Room := { frames := 1 + d, cells := 0, slots := 0, locals := 60 + 30 * d }
theorem ok_X7_bringNext : OkV yX7_bringNext RX7 cX7_bringNext 11 none 6 := ⟨tw_476, tw_10, tw_52, tw_477, rfl, by decide, by decide, by decide +kernel⟩
set_option maxRecDepth 100000 in
set_option maxHeartbeats 4000000 in
theorem t_X7_bringNext_J130 {p : Program} {l : Launch} {e : Env} {s : State} {m : MethodId} {args : Array Value} {below : List Frame} {meth : Method} {c : Code} {E : WD} {Q : MS → Prop} {d : Nat} {Rc : Int32 → Int32 → Int32 → Int32 → Int32 → Int32 → MS → (MS → Prop) → Prop} (hc : Cx p (rm_X7_bringNext (d + 1)) s m args meth c E (AD E) cX7_bringNext RX7 none 11 0 0 fdm) (hRc : ∀ (x1 x2 x3 x4 x5 x6 : Int32) (σ : MS) (Q : MS → Prop), Rc x1 x2 x3 x4 x5 x6 σ Q → Cv l E yX7_bringNext cX7_bringNext 11 none (rm_X7_bringNext d) [.ref (E.2.1 6), .int x1, .int x2, .int x3, .int x4, .int x5, .int x6] σ Q) {K44 : Int32 → Int32 → Int32 → Int32 → Int32 → Int32 → Int32 → MS → Prop} (hK44 : ∀ (x1 x2 x3 x4 x5 x6 x7 : Int32) (σ : MS), K44 x1 x2 x3 x4 x5 x6 x7 σ → V p l e (rm_X7_bringNext (d + 1)) s m args below meth c E (AD E) 11 0 0 (MQ below (va_Qv Q (BW E) (AD E)) args s 0 0 (AD E)) σ 44 [some (.ref (E.2.1 6)), some (.int x1), some (.int x2), some (.int x3), some (.int x4), some (.int x5), some (.int x6), some (.int x7), none, none, none] []) (x1 x2 x3 x4 x5 x6 x7 x8 x9 s0 : Int32) (σ : MS) (hw : w_X7_bringNext_J130 Rc K44 Q x1 x2 x3 x4 x5 x6 x7 x8 x9 s0 σ) : V p l e (rm_X7_bringNext (d + 1)) s m args below meth c E (AD E) 11 0 0 (MQ below (va_Qv Q (BW E) (AD E)) args s 0 0 (AD E)) σ 130 [some (.ref (E.2.1 6)), some (.int x1), some (.int x2), some (.int x3), some (.int x4), some (.int x5), some (.int x6), some (.int x7), some (.int x8), some (.int x9), none] [(.int s0)] := by
  unfold w_X7_bringNext_J130 at hw
  refine vIstore (pc := 130) (L2 := [some (.ref (E.2.1 6)), some (.int x1), some (.int x2), some (.int x3), some (.int x4), some (.int x5), some (.int x6), some (.int x7), some (.int x8), some (.int x9), some (.int s0)]) hc dX7_bringNext_130 rfl (Nat.le_of_ble_eq_true rfl) ?_
  refine vIload (pc := 132) hc dX7_bringNext_132 rfl ?_
  refine vIf_eq (pc := 134) (tgt := 207) hc dX7_bringNext_134 (by decide) (fun c134 => ?_) (fun c134 => ?_)
  · have hw := hw.1 c134
    refine vIinc (pc := 207) (v := x7 + 1) (L2 := [some (.ref (E.2.1 6)), some (.int x1), some (.int x2), some (.int x3), some (.int x4), some (.int x5), some (.int x6), some (.int (x7 + 1)), some (.int x8), some (.int x9), some (.int s0)]) hc dX7_bringNext_207 rfl rfl rfl (Nat.le_of_ble_eq_true rfl) ?_
    refine vGoto (pc := 210) (tgt := 44) hc dX7_bringNext_210 (by decide) ?_
    exact vMono (L2 := [some (.ref (E.2.1 6)), some (.int x1), some (.int x2), some (.int x3), some (.int x4), some (.int x5), some (.int x6), some (.int (x7 + 1)), none, none, none]) (show subL [some (.ref (E.2.1 6)), some (.int x1), some (.int x2), some (.int x3), some (.int x4), some (.int x5), some (.int x6), some (.int (x7 + 1)), none, none, none] [some (.ref (E.2.1 6)), some (.int x1), some (.int x2), some (.int x3), some (.int x4), some (.int x5), some (.int x6), some (.int (x7 + 1)), some (.int x8), some (.int x9), some (.int s0)] from ⟨rfl, ⟨rfl, ⟨rfl, ⟨rfl, ⟨rfl, ⟨rfl, ⟨rfl, ⟨rfl, trivial⟩⟩⟩⟩⟩⟩⟩⟩) (hK44 x1 x2 x3 x4 x5 x6 (x7 + 1) _ hw)
  · have hw := hw.2 c134
    refine vIload (pc := 137) hc dX7_bringNext_137 rfl ?_
    refine vAload_n (pc := 139) hc dX7_bringNext_139 rfl ?_
    refine vGetR (pc := 140) (k := 6) (j := 3) hc rfl inG7 (hc.G 6 (Nat.le_of_ble_eq_true rfl)) rfl (Nat.le_of_ble_eq_true rfl) tw_221 rfl dX7_bringNext_140 ?_
    refine vGetIN (pc := 143) (k := 8) (j := 6) hc rfl inG6 (hc.G 8 (Nat.le_of_ble_eq_true rfl)) rfl (Nat.le_of_ble_eq_true rfl) nw_31 rfl dX7_bringNext_143 ?_
    refine vIcmp_ge (pc := 146) (tgt := 207) hc dX7_bringNext_146 (by decide) (fun c146 => ?_) (fun c146 => ?_)
    · have hw := hw.1 c146
      refine vIinc (pc := 207) (v := x7 + 1) (L2 := [some (.ref (E.2.1 6)), some (.int x1), some (.int x2), some (.int x3), some (.int x4), some (.int x5), some (.int x6), some (.int (x7 + 1)), some (.int x8), some (.int x9), some (.int s0)]) hc dX7_bringNext_207 rfl rfl rfl (Nat.le_of_ble_eq_true rfl) ?_
      refine vGoto (pc := 210) (tgt := 44) hc dX7_bringNext_210 (by decide) ?_
      exact vMono (L2 := [some (.ref (E.2.1 6)), some (.int x1), some (.int x2), some (.int x3), some (.int x4), some (.int x5), some (.int x6), some (.int (x7 + 1)), none, none, none]) (show subL [some (.ref (E.2.1 6)), some (.int x1), some (.int x2), some (.int x3), some (.int x4), some (.int x5), some (.int x6), some (.int (x7 + 1)), none, none, none] [some (.ref (E.2.1 6)), some (.int x1), some (.int x2), some (.int x3), some (.int x4), some (.int x5), some (.int x6), some (.int (x7 + 1)), some (.int x8), some (.int x9), some (.int s0)] from ⟨rfl, ⟨rfl, ⟨rfl, ⟨rfl, ⟨rfl, ⟨rfl, ⟨rfl, ⟨rfl, trivial⟩⟩⟩⟩⟩⟩⟩⟩) (hK44 x1 x2 x3 x4 x5 x6 (x7 + 1) _ hw)
    · have hw := hw.2 c146
      refine vIload (pc := 149) hc dX7_bringNext_149 rfl ?_
      refine vIload (pc := 151) hc dX7_bringNext_151 rfl ?_
      refine vIcmp_gt (pc := 153) (tgt := 207) hc dX7_bringNext_153 (by decide) (fun c153 => ?_) (fun c153 => ?_)
      · have hw := hw.1 c153
        refine vIinc (pc := 207) (v := x7 + 1) (L2 := [some (.ref (E.2.1 6)), some (.int x1), some (.int x2), some (.int x3), some (.int x4), some (.int x5), some (.int x6), some (.int (x7 + 1)), some (.int x8), some (.int x9), some (.int s0)]) hc dX7_bringNext_207 rfl rfl rfl (Nat.le_of_ble_eq_true rfl) ?_
        refine vGoto (pc := 210) (tgt := 44) hc dX7_bringNext_210 (by decide) ?_
        exact vMono (L2 := [some (.ref (E.2.1 6)), some (.int x1), some (.int x2), some (.int x3), some (.int x4), some (.int x5), some (.int x6), some (.int (x7 + 1)), none, none, none]) (show subL [some (.ref (E.2.1 6)), some (.int x1), some (.int x2), some (.int x3), some (.int x4), some (.int x5), some (.int x6), some (.int (x7 + 1)), none, none, none] [some (.ref (E.2.1 6)), some (.int x1), some (.int x2), some (.int x3), some (.int x4), some (.int x5), some (.int x6), some (.int (x7 + 1)), some (.int x8), some (.int x9), some (.int s0)] from ⟨rfl, ⟨rfl, ⟨rfl, ⟨rfl, ⟨rfl, ⟨rfl, ⟨rfl, ⟨rfl, trivial⟩⟩⟩⟩⟩⟩⟩⟩) (hK44 x1 x2 x3 x4 x5 x6 (x7 + 1) _ hw)
      · have hw := hw.2 c153
        refine vAload_n (pc := 156) hc dX7_bringNext_156 rfl ?_
        refine vGetR (pc := 157) (k := 6) (j := 2) hc rfl inG7 (hc.G 6 (Nat.le_of_ble_eq_true rfl)) rfl (Nat.le_of_ble_eq_true rfl) tw_220 rfl dX7_bringNext_157 ?_
        refine vGetRN (pc := 160) (k := 7) (j := 3) hc rfl inG6 (hc.G 7 (Nat.le_of_ble_eq_true rfl)) rfl (Nat.le_of_ble_eq_true rfl) nw_26 rfl dX7_bringNext_160 ?_
        refine vIload_n (pc := 163) hc dX7_bringNext_163 rfl ?_
        refine vIload (pc := 164) hc dX7_bringNext_164 rfl ?_
        obtain ⟨hi1, hw⟩ := hw
        refine vIast (pc := 166) (k := 15) hc (hc.G 15 (Nat.le_of_ble_eq_true rfl)) rfl rfl hi1 dX7_bringNext_166 (fun σ166 eσ166 => ?_)
        have hw := hw σ166 eσ166
        refine vAload_n (pc := 167) hc dX7_bringNext_167 rfl ?_
        refine vGetR (pc := 168) (k := 6) (j := 2) hc rfl inG7 (hc.G 6 (Nat.le_of_ble_eq_true rfl)) rfl (Nat.le_of_ble_eq_true rfl) tw_220 rfl dX7_bringNext_168 ?_
        refine vGetRN (pc := 171) (k := 7) (j := 5) hc rfl inG6 (hc.G 7 (Nat.le_of_ble_eq_true rfl)) rfl (Nat.le_of_ble_eq_true rfl) nw_30 rfl dX7_bringNext_171 ?_
        refine vIload (pc := 174) hc dX7_bringNext_174 rfl ?_
        refine vIload (pc := 176) hc dX7_bringNext_176 rfl ?_
        obtain ⟨hi2, hw⟩ := hw
        refine vIast (pc := 178) (k := 17) hc (hc.G 17 (Nat.le_of_ble_eq_true rfl)) rfl rfl hi2 dX7_bringNext_178 (fun σ178 eσ178 => ?_)
        have hw := hw σ178 eσ178
        refine vAload_n (pc := 179) hc dX7_bringNext_179 rfl ?_
        refine vIload_n (pc := 180) hc dX7_bringNext_180 rfl ?_
        refine vIconst (pc := 181) (v := 1) hc dX7_bringNext_181 ki_1 ?_
        refine vIadd (pc := 182) hc dX7_bringNext_182 ?_
        refine vIload_n (pc := 183) hc dX7_bringNext_183 rfl ?_
        refine vIconst (pc := 184) (v := 1) hc dX7_bringNext_184 ki_1 ?_
        refine vIload (pc := 185) hc dX7_bringNext_185 rfl ?_
        refine vIshl (pc := 187) hc dX7_bringNext_187 ?_
        refine vIconst (pc := 188) (v := (-1)) hc dX7_bringNext_188 ki_m1 ?_
        refine vIxor (pc := 189) hc dX7_bringNext_189 ?_
        refine vIand (pc := 190) hc dX7_bringNext_190 ?_
        refine vAload_n (pc := 191) hc dX7_bringNext_191 rfl ?_
        refine vGetR (pc := 192) (k := 6) (j := 5) hc rfl inG7 (hc.G 6 (Nat.le_of_ble_eq_true rfl)) rfl (Nat.le_of_ble_eq_true rfl) tw_223 rfl dX7_bringNext_192 ?_
        refine vIload (pc := 195) hc dX7_bringNext_195 rfl ?_
        refine vIald (pc := 197) (k := 24) hc (hc.G 24 (Nat.le_of_ble_eq_true rfl)) rfl rfl hi2 dX7_bringNext_197 ?_
        refine vIload (pc := 198) hc dX7_bringNext_198 rfl ?_
        refine vIload (pc := 200) hc dX7_bringNext_200 rfl ?_
        refine vIload (pc := 202) hc dX7_bringNext_202 rfl ?_
        refine vCallVv (pc := 204) (st := []) hc ok_X7_bringNext tw_474 (hRc (x1 + 1) (x2 &&& (((1 : Int32) <<< (x7 &&& 31)) ^^^ (-1))) (σ178 24 x7.toNatClampNeg) x8 x5 x9 _ _ hw) (hc.G 6 (Nat.le_of_ble_eq_true rfl)) rfl rfl rfl ⟨rfl, rfl⟩ (by constructor <;> simp [rm_X7_bringNext] <;> omega) rfl (Nat.le_of_ble_eq_true rfl) dX7_bringNext_204 (fun σ204 hw => ?_)
        refine vIinc (pc := 207) (v := x7 + 1) (L2 := [some (.ref (E.2.1 6)), some (.int x1), some (.int x2), some (.int x3), some (.int x4), some (.int x5), some (.int x6), some (.int (x7 + 1)), some (.int x8), some (.int x9), some (.int s0)]) hc dX7_bringNext_207 rfl rfl rfl (Nat.le_of_ble_eq_true rfl) ?_
        refine vGoto (pc := 210) (tgt := 44) hc dX7_bringNext_210 (by decide) ?_
        exact vMono (L2 := [some (.ref (E.2.1 6)), some (.int x1), some (.int x2), some (.int x3), some (.int x4), some (.int x5), some (.int x6), some (.int (x7 + 1)), none, none, none]) (show subL [some (.ref (E.2.1 6)), some (.int x1), some (.int x2), some (.int x3), some (.int x4), some (.int x5), some (.int x6), some (.int (x7 + 1)), none, none, none] [some (.ref (E.2.1 6)), some (.int x1), some (.int x2), some (.int x3), some (.int x4), some (.int x5), some (.int x6), some (.int (x7 + 1)), some (.int x8), some (.int x9), some (.int s0)] from ⟨rfl, ⟨rfl, ⟨rfl, ⟨rfl, ⟨rfl, ⟨rfl, ⟨rfl, ⟨rfl, trivial⟩⟩⟩⟩⟩⟩⟩⟩) (hK44 x1 x2 x3 x4 x5 x6 (x7 + 1) _ hw)
set_option maxRecDepth 100000 in
set_option maxHeartbeats 4000000 in
theorem t_X7_bringNext_H44 {p : Program} {l : Launch} {e : Env} {s : State} {m : MethodId} {args : Array Value} {below : List Frame} {meth : Method} {c : Code} {E : WD} {Q : MS → Prop} {d : Nat} {Rc : Int32 → Int32 → Int32 → Int32 → Int32 → Int32 → MS → (MS → Prop) → Prop} (hc : Cx p (rm_X7_bringNext (d + 1)) s m args meth c E (AD E) cX7_bringNext RX7 none 11 0 0 fdm) (hRc : ∀ (x1 x2 x3 x4 x5 x6 : Int32) (σ : MS) (Q : MS → Prop), Rc x1 x2 x3 x4 x5 x6 σ Q → Cv l E yX7_bringNext cX7_bringNext 11 none (rm_X7_bringNext d) [.ref (E.2.1 6), .int x1, .int x2, .int x3, .int x4, .int x5, .int x6] σ Q) : ∀ (n : Nat) (x1 x2 x3 x4 x5 x6 x7 : Int32) (σ : MS), w_X7_bringNext_H44 Rc Q n x1 x2 x3 x4 x5 x6 x7 σ → V p l e (rm_X7_bringNext (d + 1)) s m args below meth c E (AD E) 11 0 0 (MQ below (va_Qv Q (BW E) (AD E)) args s 0 0 (AD E)) σ 44 [some (.ref (E.2.1 6)), some (.int x1), some (.int x2), some (.int x3), some (.int x4), some (.int x5), some (.int x6), some (.int x7), none, none, none] [] := by
  intro n
  induction n with
  | zero =>
    intro x1 x2 x3 x4 x5 x6 x7 σ hw
    exact hw.elim
  | succ n ih =>
    intro x1 x2 x3 x4 x5 x6 x7 σ hw
    unfold w_X7_bringNext_H44 at hw
    refine vIload (pc := 44) hc dX7_bringNext_44 rfl ?_
    refine vAload_n (pc := 46) hc dX7_bringNext_46 rfl ?_
    refine vGetR (pc := 47) (k := 6) (j := 2) hc rfl inG7 (hc.G 6 (Nat.le_of_ble_eq_true rfl)) rfl (Nat.le_of_ble_eq_true rfl) tw_220 rfl dX7_bringNext_47 ?_
    refine vGetIN (pc := 50) (k := 7) (j := 0) hc rfl inG6 (hc.G 7 (Nat.le_of_ble_eq_true rfl)) rfl (Nat.le_of_ble_eq_true rfl) nw_21 rfl dX7_bringNext_50 ?_
    refine vIcmp_ge (pc := 53) (tgt := 213) hc dX7_bringNext_53 (by decide) (fun c53 => ?_) (fun c53 => ?_)
    · have hw := hw.1 c53
      exact vVret (pc := 213) hc dX7_bringNext_213 hw
    · have hw := hw.2 c53
      refine vIload_n (pc := 56) hc dX7_bringNext_56 rfl ?_
      refine vIload (pc := 57) hc dX7_bringNext_57 rfl ?_
      refine vCallSNi (pc := 59) (st := []) hc ok_X8_contains nw_38 (c_X8_contains hc.2.2.2.2.2.2.1 hc.G hw) rfl ⟨rfl, rfl⟩ (by constructor <;> simp [rm_X7_bringNext, rm_X8_contains] <;> omega) rfl (Nat.le_of_ble_eq_true rfl) dX7_bringNext_59 (fun r59 σ59 hw => ?_)
      refine vIf_eq (pc := 62) (tgt := 207) hc dX7_bringNext_62 (by decide) (fun c62 => ?_) (fun c62 => ?_)
      · have hw := hw.1 c62
        refine vIinc (pc := 207) (v := x7 + 1) (L2 := [some (.ref (E.2.1 6)), some (.int x1), some (.int x2), some (.int x3), some (.int x4), some (.int x5), some (.int x6), some (.int (x7 + 1)), none, none, none]) hc dX7_bringNext_207 rfl rfl rfl (Nat.le_of_ble_eq_true rfl) ?_
        refine vGoto (pc := 210) (tgt := 44) hc dX7_bringNext_210 (by decide) ?_
        exact vMono (L2 := [some (.ref (E.2.1 6)), some (.int x1), some (.int x2), some (.int x3), some (.int x4), some (.int x5), some (.int x6), some (.int (x7 + 1)), none, none, none]) (show subL [some (.ref (E.2.1 6)), some (.int x1), some (.int x2), some (.int x3), some (.int x4), some (.int x5), some (.int x6), some (.int (x7 + 1)), none, none, none] [some (.ref (E.2.1 6)), some (.int x1), some (.int x2), some (.int x3), some (.int x4), some (.int x5), some (.int x6), some (.int (x7 + 1)), none, none, none] from ⟨rfl, ⟨rfl, ⟨rfl, ⟨rfl, ⟨rfl, ⟨rfl, ⟨rfl, ⟨rfl, trivial⟩⟩⟩⟩⟩⟩⟩⟩) (ih x1 x2 x3 x4 x5 x6 (x7 + 1) _ hw)
      · have hw := hw.2 c62
        refine vIload (pc := 65) hc dX7_bringNext_65 rfl ?_
        refine vAload_n (pc := 67) hc dX7_bringNext_67 rfl ?_
        refine vGetR (pc := 68) (k := 6) (j := 0) hc rfl inG7 (hc.G 6 (Nat.le_of_ble_eq_true rfl)) rfl (Nat.le_of_ble_eq_true rfl) tw_218 rfl dX7_bringNext_68 ?_
        refine vIload_n (pc := 71) hc dX7_bringNext_71 rfl ?_
        refine vAload_n (pc := 72) hc dX7_bringNext_72 rfl ?_
        refine vGetR (pc := 73) (k := 6) (j := 5) hc rfl inG7 (hc.G 6 (Nat.le_of_ble_eq_true rfl)) rfl (Nat.le_of_ble_eq_true rfl) tw_223 rfl dX7_bringNext_73 ?_
        refine vIload (pc := 76) hc dX7_bringNext_76 rfl ?_
        obtain ⟨hi1, hw⟩ := hw
        refine vIald (pc := 78) (k := 24) hc (hc.G 24 (Nat.le_of_ble_eq_true rfl)) rfl rfl hi1 dX7_bringNext_78 ?_
        refine vCallVi (pc := 79) (st := [(.int x4)]) hc ok_X5_shortest tw_464 (c_X5_shortest hc.2.2.2.2.2.2.1 hc.G hw) (hc.G 1 (Nat.le_of_ble_eq_true rfl)) rfl rfl rfl ⟨rfl, rfl⟩ (by constructor <;> simp [rm_X7_bringNext, rm_X5_shortest] <;> omega) rfl (Nat.le_of_ble_eq_true rfl) dX7_bringNext_79 (fun r79 σ79 hw => ?_)
        refine vIadd (pc := 82) hc dX7_bringNext_82 ?_
        obtain ⟨x8_83, ex8_83⟩ : ∃ z : Int32, z = x4 + r79 := ⟨_, rfl⟩
        have hw := hw x8_83 ex8_83
        refine vTop ex8_83 ?_
        refine vIstore (pc := 83) (L2 := [some (.ref (E.2.1 6)), some (.int x1), some (.int x2), some (.int x3), some (.int x4), some (.int x5), some (.int x6), some (.int x7), some (.int x8_83), none, none]) hc dX7_bringNext_83 rfl (Nat.le_of_ble_eq_true rfl) ?_
        refine vIload (pc := 85) hc dX7_bringNext_85 rfl ?_
        refine vAload_n (pc := 87) hc dX7_bringNext_87 rfl ?_
        refine vGetR (pc := 88) (k := 6) (j := 7) hc rfl inG7 (hc.G 6 (Nat.le_of_ble_eq_true rfl)) rfl (Nat.le_of_ble_eq_true rfl) tw_225 rfl dX7_bringNext_88 ?_
        refine vIload (pc := 91) hc dX7_bringNext_91 rfl ?_
        refine vIald (pc := 93) (k := 26) hc (hc.G 26 (Nat.le_of_ble_eq_true rfl)) rfl rfl hi1 dX7_bringNext_93 ?_
        refine vIload (pc := 94) hc dX7_bringNext_94 rfl ?_
        refine vIsub (pc := 96) hc dX7_bringNext_96 ?_
        refine vMin (pc := 97) hc tw_482 tw_90 tw_49 tw_91 (by constructor <;> simp [rm_X7_bringNext, Value.category] <;> omega) dX7_bringNext_97 ?_
        obtain ⟨x9_100, ex9_100⟩ : ∃ z : Int32, z = if ((σ79 26 x7.toNatClampNeg) - x8_83) < x6 then ((σ79 26 x7.toNatClampNeg) - x8_83) else x6 := ⟨_, rfl⟩
        have hw := hw x9_100 ex9_100
        refine vTop ex9_100 ?_
        refine vIstore (pc := 100) (L2 := [some (.ref (E.2.1 6)), some (.int x1), some (.int x2), some (.int x3), some (.int x4), some (.int x5), some (.int x6), some (.int x7), some (.int x8_83), some (.int x9_100), none]) hc dX7_bringNext_100 rfl (Nat.le_of_ble_eq_true rfl) ?_
        refine vIload (pc := 102) hc dX7_bringNext_102 rfl ?_
        refine vAload_n (pc := 104) hc dX7_bringNext_104 rfl ?_
        refine vGetR (pc := 105) (k := 6) (j := 2) hc rfl inG7 (hc.G 6 (Nat.le_of_ble_eq_true rfl)) rfl (Nat.le_of_ble_eq_true rfl) tw_220 rfl dX7_bringNext_105 ?_
        refine vGetRN (pc := 108) (k := 7) (j := 4) hc rfl inG6 (hc.G 7 (Nat.le_of_ble_eq_true rfl)) rfl (Nat.le_of_ble_eq_true rfl) nw_27 rfl dX7_bringNext_108 ?_
        refine vIload (pc := 111) hc dX7_bringNext_111 rfl ?_
        refine vIald (pc := 113) (k := 16) hc (hc.G 16 (Nat.le_of_ble_eq_true rfl)) rfl rfl hi1 dX7_bringNext_113 ?_
        refine vIsub (pc := 114) hc dX7_bringNext_114 ?_
        refine vAload_n (pc := 115) hc dX7_bringNext_115 rfl ?_
        refine vGetR (pc := 116) (k := 6) (j := 8) hc rfl inG7 (hc.G 6 (Nat.le_of_ble_eq_true rfl)) rfl (Nat.le_of_ble_eq_true rfl) tw_226 rfl dX7_bringNext_116 ?_
        refine vIload (pc := 119) hc dX7_bringNext_119 rfl ?_
        refine vIald (pc := 121) (k := 27) hc (hc.G 27 (Nat.le_of_ble_eq_true rfl)) rfl rfl hi1 dX7_bringNext_121 ?_
        refine vIcmp_gt (pc := 122) (tgt := 129) hc dX7_bringNext_122 (by decide) (fun c122 => ?_) (fun c122 => ?_)
        · have hw := hw.1 c122
          refine vIconst (pc := 129) (v := 0) hc dX7_bringNext_129 ki_0 ?_
          exact vMono (L2 := [some (.ref (E.2.1 6)), some (.int x1), some (.int x2), some (.int x3), some (.int x4), some (.int x5), some (.int x6), some (.int x7), some (.int x8_83), some (.int x9_100), none]) (show subL [some (.ref (E.2.1 6)), some (.int x1), some (.int x2), some (.int x3), some (.int x4), some (.int x5), some (.int x6), some (.int x7), some (.int x8_83), some (.int x9_100), none] [some (.ref (E.2.1 6)), some (.int x1), some (.int x2), some (.int x3), some (.int x4), some (.int x5), some (.int x6), some (.int x7), some (.int x8_83), some (.int x9_100), none] from ⟨rfl, ⟨rfl, ⟨rfl, ⟨rfl, ⟨rfl, ⟨rfl, ⟨rfl, ⟨rfl, ⟨rfl, ⟨rfl, trivial⟩⟩⟩⟩⟩⟩⟩⟩⟩⟩) (t_X7_bringNext_J130 hc hRc (fun x1 x2 x3 x4 x5 x6 x7 σ hw => ih x1 x2 x3 x4 x5 x6 x7 σ hw) x1 x2 x3 x4 x5 x6 x7 x8_83 x9_100 0 _ hw)
        · have hw := hw.2 c122
          refine vIconst (pc := 125) (v := 1) hc dX7_bringNext_125 ki_1 ?_
          refine vGoto (pc := 126) (tgt := 130) hc dX7_bringNext_126 (by decide) ?_
          exact vMono (L2 := [some (.ref (E.2.1 6)), some (.int x1), some (.int x2), some (.int x3), some (.int x4), some (.int x5), some (.int x6), some (.int x7), some (.int x8_83), some (.int x9_100), none]) (show subL [some (.ref (E.2.1 6)), some (.int x1), some (.int x2), some (.int x3), some (.int x4), some (.int x5), some (.int x6), some (.int x7), some (.int x8_83), some (.int x9_100), none] [some (.ref (E.2.1 6)), some (.int x1), some (.int x2), some (.int x3), some (.int x4), some (.int x5), some (.int x6), some (.int x7), some (.int x8_83), some (.int x9_100), none] from ⟨rfl, ⟨rfl, ⟨rfl, ⟨rfl, ⟨rfl, ⟨rfl, ⟨rfl, ⟨rfl, ⟨rfl, ⟨rfl, trivial⟩⟩⟩⟩⟩⟩⟩⟩⟩⟩) (t_X7_bringNext_J130 hc hRc (fun x1 x2 x3 x4 x5 x6 x7 σ hw => ih x1 x2 x3 x4 x5 x6 x7 σ hw) x1 x2 x3 x4 x5 x6 x7 x8_83 x9_100 1 _ hw)
set_option maxRecDepth 100000 in
set_option maxHeartbeats 4000000 in
theorem t_X7_bringNext_E {p : Program} {l : Launch} {e : Env} {s : State} {m : MethodId} {args : Array Value} {below : List Frame} {meth : Method} {c : Code} {E : WD} {Q : MS → Prop} {d : Nat} {Rc : Int32 → Int32 → Int32 → Int32 → Int32 → Int32 → MS → (MS → Prop) → Prop} (hc : Cx p (rm_X7_bringNext (d + 1)) s m args meth c E (AD E) cX7_bringNext RX7 none 11 0 0 fdm) (hRc : ∀ (x1 x2 x3 x4 x5 x6 : Int32) (σ : MS) (Q : MS → Prop), Rc x1 x2 x3 x4 x5 x6 σ Q → Cv l E yX7_bringNext cX7_bringNext 11 none (rm_X7_bringNext d) [.ref (E.2.1 6), .int x1, .int x2, .int x3, .int x4, .int x5, .int x6] σ Q) (x1 x2 x3 x4 x5 x6 : Int32) (σ : MS) (hw : w_X7_bringNext_E Rc Q x1 x2 x3 x4 x5 x6 σ) : V p l e (rm_X7_bringNext (d + 1)) s m args below meth c E (AD E) 11 0 0 (MQ below (va_Qv Q (BW E) (AD E)) args s 0 0 (AD E)) σ 0 [some (.ref (E.2.1 6)), some (.int x1), some (.int x2), some (.int x3), some (.int x4), some (.int x5), some (.int x6), none, none, none, none] [] := by
  unfold w_X7_bringNext_E at hw
  refine vIload_n (pc := 0) hc dX7_bringNext_0 rfl ?_
  refine vAload_n (pc := 1) hc dX7_bringNext_1 rfl ?_
  refine vGetR (pc := 2) (k := 6) (j := 2) hc rfl inG7 (hc.G 6 (Nat.le_of_ble_eq_true rfl)) rfl (Nat.le_of_ble_eq_true rfl) tw_220 rfl dX7_bringNext_2 ?_
  refine vGetIN (pc := 5) (k := 7) (j := 0) hc rfl inG6 (hc.G 7 (Nat.le_of_ble_eq_true rfl)) rfl (Nat.le_of_ble_eq_true rfl) nw_21 rfl dX7_bringNext_5 ?_
  refine vIcmp_lt (pc := 8) (tgt := 41) hc dX7_bringNext_8 (by decide) (fun c8 => ?_) (fun c8 => ?_)
  · have hw := hw.1 c8
    refine vIconst (pc := 41) (v := 0) hc dX7_bringNext_41 ki_0 ?_
    refine vIstore (pc := 42) (L2 := [some (.ref (E.2.1 6)), some (.int x1), some (.int x2), some (.int x3), some (.int x4), some (.int x5), some (.int x6), some (.int 0), none, none, none]) hc dX7_bringNext_42 rfl (Nat.le_of_ble_eq_true rfl) ?_
    obtain ⟨n44, hw⟩ := hw
    exact vMono (L2 := [some (.ref (E.2.1 6)), some (.int x1), some (.int x2), some (.int x3), some (.int x4), some (.int x5), some (.int x6), some (.int 0), none, none, none]) (show subL [some (.ref (E.2.1 6)), some (.int x1), some (.int x2), some (.int x3), some (.int x4), some (.int x5), some (.int x6), some (.int 0), none, none, none] [some (.ref (E.2.1 6)), some (.int x1), some (.int x2), some (.int x3), some (.int x4), some (.int x5), some (.int x6), some (.int 0), none, none, none] from ⟨rfl, ⟨rfl, ⟨rfl, ⟨rfl, ⟨rfl, ⟨rfl, ⟨rfl, ⟨rfl, trivial⟩⟩⟩⟩⟩⟩⟩⟩) (t_X7_bringNext_H44 hc hRc n44 x1 x2 x3 x4 x5 x6 0 _ hw)
  · have hw := hw.2 c8
    refine vAload_n (pc := 11) hc dX7_bringNext_11 rfl ?_
    refine vGetR (pc := 12) (k := 6) (j := 2) hc rfl inG7 (hc.G 6 (Nat.le_of_ble_eq_true rfl)) rfl (Nat.le_of_ble_eq_true rfl) tw_220 rfl dX7_bringNext_12 ?_
    refine vIload (pc := 15) hc dX7_bringNext_15 rfl ?_
    refine vPutN (pc := 17) (k := 7) (j := 6) hc rfl inG6 (hc.G 7 (Nat.le_of_ble_eq_true rfl)) rfl (Nat.le_of_ble_eq_true rfl) tyX6 tyX6_ok nmX6 nw_31 rfl rfl rfl rfl dX7_bringNext_17 (fun σ17 eσ17 => ?_)
    have hw := hw σ17 eσ17
    refine vAload_n (pc := 20) hc dX7_bringNext_20 rfl ?_
    refine vGetR (pc := 21) (k := 6) (j := 2) hc rfl inG7 (hc.G 6 (Nat.le_of_ble_eq_true rfl)) rfl (Nat.le_of_ble_eq_true rfl) tw_220 rfl dX7_bringNext_21 ?_
    refine vIload (pc := 24) hc dX7_bringNext_24 rfl ?_
    refine vPutN (pc := 26) (k := 7) (j := 7) hc rfl inG6 (hc.G 7 (Nat.le_of_ble_eq_true rfl)) rfl (Nat.le_of_ble_eq_true rfl) tyX6 tyX6_ok nmX6 nw_36 rfl rfl rfl rfl dX7_bringNext_26 (fun σ26 eσ26 => ?_)
    have hw := hw σ26 eσ26
    refine vAload_n (pc := 29) hc dX7_bringNext_29 rfl ?_
    refine vGetR (pc := 30) (k := 6) (j := 3) hc rfl inG7 (hc.G 6 (Nat.le_of_ble_eq_true rfl)) rfl (Nat.le_of_ble_eq_true rfl) tw_221 rfl dX7_bringNext_30 ?_
    refine vAload_n (pc := 33) hc dX7_bringNext_33 rfl ?_
    refine vGetR (pc := 34) (k := 6) (j := 2) hc rfl inG7 (hc.G 6 (Nat.le_of_ble_eq_true rfl)) rfl (Nat.le_of_ble_eq_true rfl) tw_220 rfl dX7_bringNext_34 ?_
    refine vCallVv (pc := 37) (st := []) hc ok_X6_copyOf tw_478 (c_X6_copyOf hc.2.2.2.2.2.2.1 hc.G hw) (hc.G 8 (Nat.le_of_ble_eq_true rfl)) rfl rfl rfl ⟨rfl, rfl⟩ (by constructor <;> simp [rm_X7_bringNext, rm_X6_copyOf] <;> omega) rfl (Nat.le_of_ble_eq_true rfl) dX7_bringNext_37 (fun σ37 hw => ?_)
    exact vVret (pc := 40) hc dX7_bringNext_40 hw
set_option maxRecDepth 100000 in
set_option maxHeartbeats 4000000 in
theorem c_X7_bringNext {l : Launch} {E : WD} (hE : inj E) (hG : ∀ k, fdm k → k ∈ E.2.2.2) : ∀ (d : Nat) (x1 x2 x3 x4 x5 x6 : Int32) (σ : MS) (Q : MS → Prop), w_X7_bringNext d x1 x2 x3 x4 x5 x6 σ Q → Cv l E yX7_bringNext cX7_bringNext 11 none (rm_X7_bringNext d) [.ref (E.2.1 6), .int x1, .int x2, .int x3, .int x4, .int x5, .int x6] σ Q := by
  intro d
  induction d with
  | zero =>
    intro x1 x2 x3 x4 x5 x6 σ Q hw
    exact hw.elim
  | succ d ih =>
    intro x1 x2 x3 x4 x5 x6 σ Q hw
    exact Ct_of (by decide) rfl (by
        intro v hv
        simp only [List.mem_cons, List.not_mem_nil, or_false] at hv
        rcases hv with rfl | rfl | rfl | rfl | rfl | rfl | rfl <;> rfl) (Nat.le_of_ble_eq_true rfl) hE hG (fun p e s m below meth c hc => t_X7_bringNext_E hc ih x1 x2 x3 x4 x5 x6 σ hw)
def w_X7_pickNext_H50 (Rc : Int32 → Int32 → Int32 → Int32 → MS → (MS → Prop) → Prop) (Q : MS → Prop) : Nat → Int32 → Int32 → Int32 → Int32 → Int32 → Int32 → MS → Prop
  | 0, _, _, _, _, _, _, _ => False
  | n + 1, x1, x2, x3, x4, x5, x6, σ => (((σ 7 0) ≤ x6 → Q σ) ∧ (¬ (σ 7 0) ≤ x6 → w_X8_contains x2 x6 σ (fun r65 σ65 => ((r65 = 0 → w_X7_pickNext_H50 Rc Q n x1 x2 x3 x4 x5 (x6 + 1) σ65) ∧ (¬ r65 = 0 → ((vp_in x6 4) ∧ w_X5_shortest x5 (σ65 23 x6.toNatClampNeg) σ65 (fun r85 σ85 => (∀ x7_89 : Int32, x7_89 = (x3 + r85) → (((σ85 8 6) ≤ x7_89 → w_X7_pickNext_H50 Rc Q n x1 x2 x3 x4 x5 (x6 + 1) σ85) ∧ (¬ (σ85 8 6) ≤ x7_89 → ((vp_in x1 4) ∧ (∀ σ113, σ113 = mst σ85 14 x1.toNatClampNeg x6 → (∀ σ125, σ125 = mst σ113 16 x6.toNatClampNeg x7_89 → Rc (x1 + 1) (x2 &&& (((1 : Int32) <<< (x6 &&& 31)) ^^^ (-1))) x7_89 (if x4 < ((σ125 25 x6.toNatClampNeg) - x7_89) then ((σ125 25 x6.toNatClampNeg) - x7_89) else x4) σ125 (fun σ155 => w_X7_pickNext_H50 Rc Q n x1 x2 x3 x4 x5 (x6 + 1) σ155))))))))))))))
def w_X7_pickNext_E (Rc : Int32 → Int32 → Int32 → Int32 → MS → (MS → Prop) → Prop) (Q : MS → Prop) (x1 x2 x3 x4 : Int32) (σ : MS) : Prop := ((vp_in (x1 - 1) 4) ∧ ((vp_in (σ 14 (x1 - 1).toNatClampNeg) 4) ∧ (∀ x5_16 : Int32, x5_16 = (σ 23 (σ 14 (x1 - 1).toNatClampNeg).toNatClampNeg) → ((x1 < (σ 7 0) → (∃ n50, w_X7_pickNext_H50 Rc Q n50 x1 x2 x3 x4 x5_16 0 σ)) ∧ (¬ x1 < (σ 7 0) → w_X7_allPlaces  σ (fun r32 σ32 => w_X7_bringNext 6 0 r32 x5_16 x3 x4 1440 σ32 (fun σ43 => Q σ43)))))))
def w_X7_pickNext : Nat → Int32 → Int32 → Int32 → Int32 → MS → (MS → Prop) → Prop
  | 0, _, _, _, _, _, _ => False
  | d + 1, x1, x2, x3, x4, σ, Q => w_X7_pickNext_E (w_X7_pickNext d) Q x1 x2 x3 x4 σ
def rm_X7_pickNext (d : Nat) : Room := { frames := 8 + d, cells := 0, slots := 0, locals := 270 + 27 * d }
theorem ok_X7_pickNext : OkV yX7_pickNext RX7 cX7_pickNext 8 none 4 := ⟨tw_472, tw_9, tw_52, tw_473, rfl, by decide, by decide, by decide +kernel⟩
set_option maxRecDepth 100000 in
set_option maxHeartbeats 4000000 in
theorem t_X7_pickNext_H50 {p : Program} {l : Launch} {e : Env} {s : State} {m : MethodId} {args : Array Value} {below : List Frame} {meth : Method} {c : Code} {E : WD} {Q : MS → Prop} {d : Nat} {Rc : Int32 → Int32 → Int32 → Int32 → MS → (MS → Prop) → Prop} (hc : Cx p (rm_X7_pickNext (d + 1)) s m args meth c E (AD E) cX7_pickNext RX7 none 8 0 0 fdm) (hRc : ∀ (x1 x2 x3 x4 : Int32) (σ : MS) (Q : MS → Prop), Rc x1 x2 x3 x4 σ Q → Cv l E yX7_pickNext cX7_pickNext 8 none (rm_X7_pickNext d) [.ref (E.2.1 6), .int x1, .int x2, .int x3, .int x4] σ Q) : ∀ (n : Nat) (x1 x2 x3 x4 x5 x6 : Int32) (σ : MS), w_X7_pickNext_H50 Rc Q n x1 x2 x3 x4 x5 x6 σ → V p l e (rm_X7_pickNext (d + 1)) s m args below meth c E (AD E) 8 0 0 (MQ below (va_Qv Q (BW E) (AD E)) args s 0 0 (AD E)) σ 50 [some (.ref (E.2.1 6)), some (.int x1), some (.int x2), some (.int x3), some (.int x4), some (.int x5), some (.int x6), none] [] := by
  intro n
  induction n with
  | zero =>
    intro x1 x2 x3 x4 x5 x6 σ hw
    exact hw.elim
  | succ n ih =>
    intro x1 x2 x3 x4 x5 x6 σ hw
    unfold w_X7_pickNext_H50 at hw
    refine vIload (pc := 50) hc dX7_pickNext_50 rfl ?_
    refine vAload_n (pc := 52) hc dX7_pickNext_52 rfl ?_
    refine vGetR (pc := 53) (k := 6) (j := 2) hc rfl inG7 (hc.G 6 (Nat.le_of_ble_eq_true rfl)) rfl (Nat.le_of_ble_eq_true rfl) tw_220 rfl dX7_pickNext_53 ?_
    refine vGetIN (pc := 56) (k := 7) (j := 0) hc rfl inG6 (hc.G 7 (Nat.le_of_ble_eq_true rfl)) rfl (Nat.le_of_ble_eq_true rfl) nw_21 rfl dX7_pickNext_56 ?_
    refine vIcmp_ge (pc := 59) (tgt := 164) hc dX7_pickNext_59 (by decide) (fun c59 => ?_) (fun c59 => ?_)
    · have hw := hw.1 c59
      exact vVret (pc := 164) hc dX7_pickNext_164 hw
    · have hw := hw.2 c59
      refine vIload_n (pc := 62) hc dX7_pickNext_62 rfl ?_
      refine vIload (pc := 63) hc dX7_pickNext_63 rfl ?_
      refine vCallSNi (pc := 65) (st := []) hc ok_X8_contains nw_38 (c_X8_contains hc.2.2.2.2.2.2.1 hc.G hw) rfl ⟨rfl, rfl⟩ (by constructor <;> simp [rm_X7_pickNext, rm_X8_contains] <;> omega) rfl (Nat.le_of_ble_eq_true rfl) dX7_pickNext_65 (fun r65 σ65 hw => ?_)
      refine vIf_eq (pc := 68) (tgt := 158) hc dX7_pickNext_68 (by decide) (fun c68 => ?_) (fun c68 => ?_)
      · have hw := hw.1 c68
        refine vIinc (pc := 158) (v := x6 + 1) (L2 := [some (.ref (E.2.1 6)), some (.int x1), some (.int x2), some (.int x3), some (.int x4), some (.int x5), some (.int (x6 + 1)), none]) hc dX7_pickNext_158 rfl rfl rfl (Nat.le_of_ble_eq_true rfl) ?_
        refine vGoto (pc := 161) (tgt := 50) hc dX7_pickNext_161 (by decide) ?_
        exact vMono (L2 := [some (.ref (E.2.1 6)), some (.int x1), some (.int x2), some (.int x3), some (.int x4), some (.int x5), some (.int (x6 + 1)), none]) (show subL [some (.ref (E.2.1 6)), some (.int x1), some (.int x2), some (.int x3), some (.int x4), some (.int x5), some (.int (x6 + 1)), none] [some (.ref (E.2.1 6)), some (.int x1), some (.int x2), some (.int x3), some (.int x4), some (.int x5), some (.int (x6 + 1)), none] from ⟨rfl, ⟨rfl, ⟨rfl, ⟨rfl, ⟨rfl, ⟨rfl, ⟨rfl, trivial⟩⟩⟩⟩⟩⟩⟩) (ih x1 x2 x3 x4 x5 (x6 + 1) _ hw)
      · have hw := hw.2 c68
        refine vIload_n (pc := 71) hc dX7_pickNext_71 rfl ?_
        refine vAload_n (pc := 72) hc dX7_pickNext_72 rfl ?_
        refine vGetR (pc := 73) (k := 6) (j := 0) hc rfl inG7 (hc.G 6 (Nat.le_of_ble_eq_true rfl)) rfl (Nat.le_of_ble_eq_true rfl) tw_218 rfl dX7_pickNext_73 ?_
        refine vIload (pc := 76) hc dX7_pickNext_76 rfl ?_
        refine vAload_n (pc := 78) hc dX7_pickNext_78 rfl ?_
        refine vGetR (pc := 79) (k := 6) (j := 4) hc rfl inG7 (hc.G 6 (Nat.le_of_ble_eq_true rfl)) rfl (Nat.le_of_ble_eq_true rfl) tw_222 rfl dX7_pickNext_79 ?_
        refine vIload (pc := 82) hc dX7_pickNext_82 rfl ?_
        obtain ⟨hi1, hw⟩ := hw
        refine vIald (pc := 84) (k := 23) hc (hc.G 23 (Nat.le_of_ble_eq_true rfl)) rfl rfl hi1 dX7_pickNext_84 ?_
        refine vCallVi (pc := 85) (st := [(.int x3)]) hc ok_X5_shortest tw_464 (c_X5_shortest hc.2.2.2.2.2.2.1 hc.G hw) (hc.G 1 (Nat.le_of_ble_eq_true rfl)) rfl rfl rfl ⟨rfl, rfl⟩ (by constructor <;> simp [rm_X7_pickNext, rm_X5_shortest] <;> omega) rfl (Nat.le_of_ble_eq_true rfl) dX7_pickNext_85 (fun r85 σ85 hw => ?_)
        refine vIadd (pc := 88) hc dX7_pickNext_88 ?_
        obtain ⟨x7_89, ex7_89⟩ : ∃ z : Int32, z = x3 + r85 := ⟨_, rfl⟩
        have hw := hw x7_89 ex7_89
        refine vTop ex7_89 ?_
        refine vIstore (pc := 89) (L2 := [some (.ref (E.2.1 6)), some (.int x1), some (.int x2), some (.int x3), some (.int x4), some (.int x5), some (.int x6), some (.int x7_89)]) hc dX7_pickNext_89 rfl (Nat.le_of_ble_eq_true rfl) ?_
        refine vIload (pc := 91) hc dX7_pickNext_91 rfl ?_
        refine vAload_n (pc := 93) hc dX7_pickNext_93 rfl ?_
        refine vGetR (pc := 94) (k := 6) (j := 3) hc rfl inG7 (hc.G 6 (Nat.le_of_ble_eq_true rfl)) rfl (Nat.le_of_ble_eq_true rfl) tw_221 rfl dX7_pickNext_94 ?_
        refine vGetIN (pc := 97) (k := 8) (j := 6) hc rfl inG6 (hc.G 8 (Nat.le_of_ble_eq_true rfl)) rfl (Nat.le_of_ble_eq_true rfl) nw_31 rfl dX7_pickNext_97 ?_
        refine vIcmp_ge (pc := 100) (tgt := 158) hc dX7_pickNext_100 (by decide) (fun c100 => ?_) (fun c100 => ?_)
        · have hw := hw.1 c100
          refine vIinc (pc := 158) (v := x6 + 1) (L2 := [some (.ref (E.2.1 6)), some (.int x1), some (.int x2), some (.int x3), some (.int x4), some (.int x5), some (.int (x6 + 1)), some (.int x7_89)]) hc dX7_pickNext_158 rfl rfl rfl (Nat.le_of_ble_eq_true rfl) ?_
          refine vGoto (pc := 161) (tgt := 50) hc dX7_pickNext_161 (by decide) ?_
          exact vMono (L2 := [some (.ref (E.2.1 6)), some (.int x1), some (.int x2), some (.int x3), some (.int x4), some (.int x5), some (.int (x6 + 1)), none]) (show subL [some (.ref (E.2.1 6)), some (.int x1), some (.int x2), some (.int x3), some (.int x4), some (.int x5), some (.int (x6 + 1)), none] [some (.ref (E.2.1 6)), some (.int x1), some (.int x2), some (.int x3), some (.int x4), some (.int x5), some (.int (x6 + 1)), some (.int x7_89)] from ⟨rfl, ⟨rfl, ⟨rfl, ⟨rfl, ⟨rfl, ⟨rfl, ⟨rfl, trivial⟩⟩⟩⟩⟩⟩⟩) (ih x1 x2 x3 x4 x5 (x6 + 1) _ hw)
        · have hw := hw.2 c100
          refine vAload_n (pc := 103) hc dX7_pickNext_103 rfl ?_
          refine vGetR (pc := 104) (k := 6) (j := 2) hc rfl inG7 (hc.G 6 (Nat.le_of_ble_eq_true rfl)) rfl (Nat.le_of_ble_eq_true rfl) tw_220 rfl dX7_pickNext_104 ?_
          refine vGetRN (pc := 107) (k := 7) (j := 2) hc rfl inG6 (hc.G 7 (Nat.le_of_ble_eq_true rfl)) rfl (Nat.le_of_ble_eq_true rfl) nw_25 rfl dX7_pickNext_107 ?_
          refine vIload_n (pc := 110) hc dX7_pickNext_110 rfl ?_
          refine vIload (pc := 111) hc dX7_pickNext_111 rfl ?_
          obtain ⟨hi2, hw⟩ := hw
          refine vIast (pc := 113) (k := 14) hc (hc.G 14 (Nat.le_of_ble_eq_true rfl)) rfl rfl hi2 dX7_pickNext_113 (fun σ113 eσ113 => ?_)
          have hw := hw σ113 eσ113
          refine vAload_n (pc := 114) hc dX7_pickNext_114 rfl ?_
          refine vGetR (pc := 115) (k := 6) (j := 2) hc rfl inG7 (hc.G 6 (Nat.le_of_ble_eq_true rfl)) rfl (Nat.le_of_ble_eq_true rfl) tw_220 rfl dX7_pickNext_115 ?_
          refine vGetRN (pc := 118) (k := 7) (j := 4) hc rfl inG6 (hc.G 7 (Nat.le_of_ble_eq_true rfl)) rfl (Nat.le_of_ble_eq_true rfl) nw_27 rfl dX7_pickNext_118 ?_
          refine vIload (pc := 121) hc dX7_pickNext_121 rfl ?_
          refine vIload (pc := 123) hc dX7_pickNext_123 rfl ?_
          refine vIast (pc := 125) (k := 16) hc (hc.G 16 (Nat.le_of_ble_eq_true rfl)) rfl rfl hi1 dX7_pickNext_125 (fun σ125 eσ125 => ?_)
          have hw := hw σ125 eσ125
          refine vAload_n (pc := 126) hc dX7_pickNext_126 rfl ?_
          refine vIload_n (pc := 127) hc dX7_pickNext_127 rfl ?_
          refine vIconst (pc := 128) (v := 1) hc dX7_pickNext_128 ki_1 ?_
          refine vIadd (pc := 129) hc dX7_pickNext_129 ?_
          refine vIload_n (pc := 130) hc dX7_pickNext_130 rfl ?_
          refine vIconst (pc := 131) (v := 1) hc dX7_pickNext_131 ki_1 ?_
          refine vIload (pc := 132) hc dX7_pickNext_132 rfl ?_
          refine vIshl (pc := 134) hc dX7_pickNext_134 ?_
          refine vIconst (pc := 135) (v := (-1)) hc dX7_pickNext_135 ki_m1 ?_
          refine vIxor (pc := 136) hc dX7_pickNext_136 ?_
          refine vIand (pc := 137) hc dX7_pickNext_137 ?_
          refine vIload (pc := 138) hc dX7_pickNext_138 rfl ?_
          refine vIload (pc := 140) hc dX7_pickNext_140 rfl ?_
          refine vAload_n (pc := 142) hc dX7_pickNext_142 rfl ?_
          refine vGetR (pc := 143) (k := 6) (j := 6) hc rfl inG7 (hc.G 6 (Nat.le_of_ble_eq_true rfl)) rfl (Nat.le_of_ble_eq_true rfl) tw_224 rfl dX7_pickNext_143 ?_
          refine vIload (pc := 146) hc dX7_pickNext_146 rfl ?_
          refine vIald (pc := 148) (k := 25) hc (hc.G 25 (Nat.le_of_ble_eq_true rfl)) rfl rfl hi1 dX7_pickNext_148 ?_
          refine vIload (pc := 149) hc dX7_pickNext_149 rfl ?_
          refine vIsub (pc := 151) hc dX7_pickNext_151 ?_
          refine vMax (pc := 152) hc tw_483 tw_484 tw_49 tw_485 (by constructor <;> simp [rm_X7_pickNext, Value.category] <;> omega) dX7_pickNext_152 ?_
          refine vCallVv (pc := 155) (st := []) hc ok_X7_pickNext tw_470 (hRc (x1 + 1) (x2 &&& (((1 : Int32) <<< (x6 &&& 31)) ^^^ (-1))) x7_89 (if x4 < ((σ125 25 x6.toNatClampNeg) - x7_89) then ((σ125 25 x6.toNatClampNeg) - x7_89) else x4) _ _ hw) (hc.G 6 (Nat.le_of_ble_eq_true rfl)) rfl rfl rfl ⟨rfl, rfl⟩ (by constructor <;> simp [rm_X7_pickNext] <;> omega) rfl (Nat.le_of_ble_eq_true rfl) dX7_pickNext_155 (fun σ155 hw => ?_)
          refine vIinc (pc := 158) (v := x6 + 1) (L2 := [some (.ref (E.2.1 6)), some (.int x1), some (.int x2), some (.int x3), some (.int x4), some (.int x5), some (.int (x6 + 1)), some (.int x7_89)]) hc dX7_pickNext_158 rfl rfl rfl (Nat.le_of_ble_eq_true rfl) ?_
          refine vGoto (pc := 161) (tgt := 50) hc dX7_pickNext_161 (by decide) ?_
          exact vMono (L2 := [some (.ref (E.2.1 6)), some (.int x1), some (.int x2), some (.int x3), some (.int x4), some (.int x5), some (.int (x6 + 1)), none]) (show subL [some (.ref (E.2.1 6)), some (.int x1), some (.int x2), some (.int x3), some (.int x4), some (.int x5), some (.int (x6 + 1)), none] [some (.ref (E.2.1 6)), some (.int x1), some (.int x2), some (.int x3), some (.int x4), some (.int x5), some (.int (x6 + 1)), some (.int x7_89)] from ⟨rfl, ⟨rfl, ⟨rfl, ⟨rfl, ⟨rfl, ⟨rfl, ⟨rfl, trivial⟩⟩⟩⟩⟩⟩⟩) (ih x1 x2 x3 x4 x5 (x6 + 1) _ hw)
set_option maxRecDepth 100000 in
set_option maxHeartbeats 4000000 in
theorem t_X7_pickNext_E {p : Program} {l : Launch} {e : Env} {s : State} {m : MethodId} {args : Array Value} {below : List Frame} {meth : Method} {c : Code} {E : WD} {Q : MS → Prop} {d : Nat} {Rc : Int32 → Int32 → Int32 → Int32 → MS → (MS → Prop) → Prop} (hc : Cx p (rm_X7_pickNext (d + 1)) s m args meth c E (AD E) cX7_pickNext RX7 none 8 0 0 fdm) (hRc : ∀ (x1 x2 x3 x4 : Int32) (σ : MS) (Q : MS → Prop), Rc x1 x2 x3 x4 σ Q → Cv l E yX7_pickNext cX7_pickNext 8 none (rm_X7_pickNext d) [.ref (E.2.1 6), .int x1, .int x2, .int x3, .int x4] σ Q) (x1 x2 x3 x4 : Int32) (σ : MS) (hw : w_X7_pickNext_E Rc Q x1 x2 x3 x4 σ) : V p l e (rm_X7_pickNext (d + 1)) s m args below meth c E (AD E) 8 0 0 (MQ below (va_Qv Q (BW E) (AD E)) args s 0 0 (AD E)) σ 0 [some (.ref (E.2.1 6)), some (.int x1), some (.int x2), some (.int x3), some (.int x4), none, none, none] [] := by
  unfold w_X7_pickNext_E at hw
  refine vAload_n (pc := 0) hc dX7_pickNext_0 rfl ?_
  refine vGetR (pc := 1) (k := 6) (j := 4) hc rfl inG7 (hc.G 6 (Nat.le_of_ble_eq_true rfl)) rfl (Nat.le_of_ble_eq_true rfl) tw_222 rfl dX7_pickNext_1 ?_
  refine vAload_n (pc := 4) hc dX7_pickNext_4 rfl ?_
  refine vGetR (pc := 5) (k := 6) (j := 2) hc rfl inG7 (hc.G 6 (Nat.le_of_ble_eq_true rfl)) rfl (Nat.le_of_ble_eq_true rfl) tw_220 rfl dX7_pickNext_5 ?_
  refine vGetRN (pc := 8) (k := 7) (j := 2) hc rfl inG6 (hc.G 7 (Nat.le_of_ble_eq_true rfl)) rfl (Nat.le_of_ble_eq_true rfl) nw_25 rfl dX7_pickNext_8 ?_
  refine vIload_n (pc := 11) hc dX7_pickNext_11 rfl ?_
  refine vIconst (pc := 12) (v := 1) hc dX7_pickNext_12 ki_1 ?_
  refine vIsub (pc := 13) hc dX7_pickNext_13 ?_
  obtain ⟨hi1, hw⟩ := hw
  refine vIald (pc := 14) (k := 14) hc (hc.G 14 (Nat.le_of_ble_eq_true rfl)) rfl rfl hi1 dX7_pickNext_14 ?_
  obtain ⟨hi2, hw⟩ := hw
  refine vIald (pc := 15) (k := 23) hc (hc.G 23 (Nat.le_of_ble_eq_true rfl)) rfl rfl hi2 dX7_pickNext_15 ?_
  obtain ⟨x5_16, ex5_16⟩ : ∃ z : Int32, z = σ 23 (σ 14 (x1 - 1).toNatClampNeg).toNatClampNeg := ⟨_, rfl⟩
  have hw := hw x5_16 ex5_16
  refine vTop ex5_16 ?_
  refine vIstore (pc := 16) (L2 := [some (.ref (E.2.1 6)), some (.int x1), some (.int x2), some (.int x3), some (.int x4), some (.int x5_16), none, none]) hc dX7_pickNext_16 rfl (Nat.le_of_ble_eq_true rfl) ?_
  refine vIload_n (pc := 18) hc dX7_pickNext_18 rfl ?_
  refine vAload_n (pc := 19) hc dX7_pickNext_19 rfl ?_
  refine vGetR (pc := 20) (k := 6) (j := 2) hc rfl inG7 (hc.G 6 (Nat.le_of_ble_eq_true rfl)) rfl (Nat.le_of_ble_eq_true rfl) tw_220 rfl dX7_pickNext_20 ?_
  refine vGetIN (pc := 23) (k := 7) (j := 0) hc rfl inG6 (hc.G 7 (Nat.le_of_ble_eq_true rfl)) rfl (Nat.le_of_ble_eq_true rfl) nw_21 rfl dX7_pickNext_23 ?_
  refine vIcmp_lt (pc := 26) (tgt := 47) hc dX7_pickNext_26 (by decide) (fun c26 => ?_) (fun c26 => ?_)
  · have hw := hw.1 c26
    refine vIconst (pc := 47) (v := 0) hc dX7_pickNext_47 ki_0 ?_
    refine vIstore (pc := 48) (L2 := [some (.ref (E.2.1 6)), some (.int x1), some (.int x2), some (.int x3), some (.int x4), some (.int x5_16), some (.int 0), none]) hc dX7_pickNext_48 rfl (Nat.le_of_ble_eq_true rfl) ?_
    obtain ⟨n50, hw⟩ := hw
    exact vMono (L2 := [some (.ref (E.2.1 6)), some (.int x1), some (.int x2), some (.int x3), some (.int x4), some (.int x5_16), some (.int 0), none]) (show subL [some (.ref (E.2.1 6)), some (.int x1), some (.int x2), some (.int x3), some (.int x4), some (.int x5_16), some (.int 0), none] [some (.ref (E.2.1 6)), some (.int x1), some (.int x2), some (.int x3), some (.int x4), some (.int x5_16), some (.int 0), none] from ⟨rfl, ⟨rfl, ⟨rfl, ⟨rfl, ⟨rfl, ⟨rfl, ⟨rfl, trivial⟩⟩⟩⟩⟩⟩⟩) (t_X7_pickNext_H50 hc hRc n50 x1 x2 x3 x4 x5_16 0 _ hw)
  · have hw := hw.2 c26
    refine vAload_n (pc := 29) hc dX7_pickNext_29 rfl ?_
    refine vIconst (pc := 30) (v := 0) hc dX7_pickNext_30 ki_0 ?_
    refine vAload_n (pc := 31) hc dX7_pickNext_31 rfl ?_
    refine vCallVi (pc := 32) (st := [(.int 0), (.ref (E.2.1 6))]) hc ok_X7_allPlaces tw_466 (c_X7_allPlaces hc.2.2.2.2.2.2.1 hc.G hw) (hc.G 6 (Nat.le_of_ble_eq_true rfl)) rfl rfl rfl ⟨rfl, rfl⟩ (by constructor <;> simp [rm_X7_pickNext, rm_X7_allPlaces] <;> omega) rfl (Nat.le_of_ble_eq_true rfl) dX7_pickNext_32 (fun r32 σ32 hw => ?_)
    refine vIload (pc := 35) hc dX7_pickNext_35 rfl ?_
    refine vIload_n (pc := 37) hc dX7_pickNext_37 rfl ?_
    refine vIload (pc := 38) hc dX7_pickNext_38 rfl ?_
    refine vSipush (pc := 40) (v := 1440) hc dX7_pickNext_40 ks_1440 ?_
    refine vCallVv (pc := 43) (st := []) hc ok_X7_bringNext tw_474 (c_X7_bringNext hc.2.2.2.2.2.2.1 hc.G 6 0 r32 x5_16 x3 x4 1440 _ _ hw) (hc.G 6 (Nat.le_of_ble_eq_true rfl)) rfl rfl rfl ⟨rfl, rfl⟩ (by constructor <;> simp [rm_X7_pickNext, rm_X7_bringNext] <;> omega) rfl (Nat.le_of_ble_eq_true rfl) dX7_pickNext_43 (fun σ43 hw => ?_)
    exact vVret (pc := 46) hc dX7_pickNext_46 hw
set_option maxRecDepth 100000 in
set_option maxHeartbeats 4000000 in
theorem c_X7_pickNext {l : Launch} {E : WD} (hE : inj E) (hG : ∀ k, fdm k → k ∈ E.2.2.2) : ∀ (d : Nat) (x1 x2 x3 x4 : Int32) (σ : MS) (Q : MS → Prop), w_X7_pickNext d x1 x2 x3 x4 σ Q → Cv l E yX7_pickNext cX7_pickNext 8 none (rm_X7_pickNext d) [.ref (E.2.1 6), .int x1, .int x2, .int x3, .int x4] σ Q := by
  intro d
  induction d with
  | zero =>
    intro x1 x2 x3 x4 σ Q hw
    exact hw.elim
  | succ d ih =>
    intro x1 x2 x3 x4 σ Q hw
    exact Ct_of (by decide) rfl (by
        intro v hv
        simp only [List.mem_cons, List.not_mem_nil, or_false] at hv
        rcases hv with rfl | rfl | rfl | rfl | rfl <;> rfl) (Nat.le_of_ble_eq_true rfl) hE hG (fun p e s m below meth c hc => t_X7_pickNext_E hc ih x1 x2 x3 x4 σ hw)
def w_X7_reasonAgainst_E (Q : Int32 → MS → Prop) (x1 x2 : Int32) (σ : MS) : Prop := w_X2_has x2 σ (fun r5 σ5 => ((r5 = 0 → Q 1 σ5) ∧ (¬ r5 = 0 → w_X2_at x2 σ5 (fun r16 σ16 => ((37 ≤ r16 ∧ r16 < 46) ∧ w_X3_hasCar r16 σ16 (fun r19 σ19 => ((¬ r19 = 0 → w_X2_seatsSuffice x1 x2 σ19 (fun r33 σ33 => ((¬ r33 = 0 → w_X2_hasBar x1 σ33 (fun r46 σ46 => ((r46 = 0 → w_X7_load x1 σ46 (fun σ56 => w_J6_bitCount_0f7a4 (x1 &&& (((1 : Int32) <<< (x2 &&& 31)) - 1)) σ56 (fun r66 σ66 => (∀ σ79, σ79 = mst σ66 14 (0 : Int32).toNatClampNeg r66 → ((vp_in r66 4) ∧ (∀ σ89, σ89 = mst σ79 16 r66.toNatClampNeg 0 → (∀ σ97, σ97 = mst σ89 8 6 1441 → w_X7_allPlaces  σ97 (fun r103 σ103 => w_X7_pickNext 6 1 (r103 &&& (((1 : Int32) <<< (r66 &&& 31)) ^^^ (-1))) 0 (σ103 25 r66.toNatClampNeg) σ103 (fun σ119 => ((¬ (σ119 8 6) = 1441 → Q 0 σ119) ∧ ((σ119 8 6) = 1441 → Q 4 σ119))))))))))) ∧ (¬ r46 = 0 → Q 3 σ46)))) ∧ (r33 = 0 → Q 2 σ33)))) ∧ (r19 = 0 → Q 1 σ19))))))))
abbrev w_X7_reasonAgainst (x1 x2 : Int32) (σ : MS) (Q : Int32 → MS → Prop) : Prop := w_X7_reasonAgainst_E Q x1 x2 σ
abbrev rm_X7_reasonAgainst : Room := { frames := 15, cells := 0, slots := 0, locals := 459 }
theorem ok_X7_reasonAgainst : OkV yX7_reasonAgainst RX7 cX7_reasonAgainst 4 (some .int) 2 := ⟨tw_433, tw_434, tw_52, tw_435, rfl, by decide, by decide, by decide +kernel⟩
set_option maxRecDepth 100000 in
set_option maxHeartbeats 4000000 in
theorem t_X7_reasonAgainst_E {p : Program} {l : Launch} {e : Env} {s : State} {m : MethodId} {args : Array Value} {below : List Frame} {meth : Method} {c : Code} {E : WD} {Q : Int32 → MS → Prop} (hc : Cx p rm_X7_reasonAgainst s m args meth c E (AD E) cX7_reasonAgainst RX7 (some .int) 4 0 0 fdm) (x1 x2 : Int32) (σ : MS) (hw : w_X7_reasonAgainst_E Q x1 x2 σ) : V p l e rm_X7_reasonAgainst s m args below meth c E (AD E) 4 0 0 (MQ below (va_Qi Q (BW E) (AD E)) args s 0 0 (AD E)) σ 0 [some (.ref (E.2.1 6)), some (.int x1), some (.int x2), none] [] := by
  unfold w_X7_reasonAgainst_E at hw
  refine vAload_n (pc := 0) hc dX7_reasonAgainst_0 rfl ?_
  refine vGetR (pc := 1) (k := 6) (j := 1) hc rfl inG7 (hc.G 6 (Nat.le_of_ble_eq_true rfl)) rfl (Nat.le_of_ble_eq_true rfl) tw_219 rfl dX7_reasonAgainst_1 ?_
  refine vIload_n (pc := 4) hc dX7_reasonAgainst_4 rfl ?_
  refine vCallVi (pc := 5) (st := []) hc ok_X2_has tw_436 (c_X2_has hc.2.2.2.2.2.2.1 hc.G hw) (hc.G 4 (Nat.le_of_ble_eq_true rfl)) rfl rfl rfl ⟨rfl, rfl⟩ ⟨Nat.le_of_ble_eq_true rfl, Nat.le_of_ble_eq_true rfl⟩ rfl (Nat.le_of_ble_eq_true rfl) dX7_reasonAgainst_5 (fun r5 σ5 hw => ?_)
  refine vIf_eq (pc := 8) (tgt := 25) hc dX7_reasonAgainst_8 (by decide) (fun c8 => ?_) (fun c8 => ?_)
  · have hw := hw.1 c8
    refine vIconst (pc := 25) (v := 1) hc dX7_reasonAgainst_25 ki_1 ?_
    exact vIret (pc := 26) hc dX7_reasonAgainst_26 hw
  · have hw := hw.2 c8
    refine vAload_n (pc := 11) hc dX7_reasonAgainst_11 rfl ?_
    refine vGetR (pc := 12) (k := 6) (j := 1) hc rfl inG7 (hc.G 6 (Nat.le_of_ble_eq_true rfl)) rfl (Nat.le_of_ble_eq_true rfl) tw_219 rfl dX7_reasonAgainst_12 ?_
    refine vIload_n (pc := 15) hc dX7_reasonAgainst_15 rfl ?_
    refine vCallVr (pc := 16) (st := []) hc ok_X2_at tw_437 (c_X2_at hc.2.2.2.2.2.2.1 hc.G hw) (hc.G 4 (Nat.le_of_ble_eq_true rfl)) rfl rfl rfl ⟨rfl, rfl⟩ ⟨Nat.le_of_ble_eq_true rfl, Nat.le_of_ble_eq_true rfl⟩ rfl (Nat.le_of_ble_eq_true rfl) dX7_reasonAgainst_16 (fun r16 σ16 hw => ?_)
    obtain ⟨hp1, hw⟩ := hw
    refine vCallVi (pc := 19) (st := []) hc ok_X3_hasCar tw_438 (c_X3_hasCar hc.2.2.2.2.2.2.1 hc.G hw) (hc.G _ (pn_N hp1)) (pn_0 hp1) (pn_c hp1) rfl ⟨rfl, rfl⟩ ⟨Nat.le_of_ble_eq_true rfl, Nat.le_of_ble_eq_true rfl⟩ rfl (Nat.le_of_ble_eq_true rfl) dX7_reasonAgainst_19 (fun r19 σ19 hw => ?_)
    refine vIf_ne (pc := 22) (tgt := 27) hc dX7_reasonAgainst_22 (by decide) (fun c22 => ?_) (fun c22 => ?_)
    · have hw := hw.1 c22
      refine vAload_n (pc := 27) hc dX7_reasonAgainst_27 rfl ?_
      refine vGetR (pc := 28) (k := 6) (j := 1) hc rfl inG7 (hc.G 6 (Nat.le_of_ble_eq_true rfl)) rfl (Nat.le_of_ble_eq_true rfl) tw_219 rfl dX7_reasonAgainst_28 ?_
      refine vIload_n (pc := 31) hc dX7_reasonAgainst_31 rfl ?_
      refine vIload_n (pc := 32) hc dX7_reasonAgainst_32 rfl ?_
      refine vCallVi (pc := 33) (st := []) hc ok_X2_seatsSuffice tw_442 (c_X2_seatsSuffice hc.2.2.2.2.2.2.1 hc.G hw) (hc.G 4 (Nat.le_of_ble_eq_true rfl)) rfl rfl rfl ⟨rfl, rfl⟩ ⟨Nat.le_of_ble_eq_true rfl, Nat.le_of_ble_eq_true rfl⟩ rfl (Nat.le_of_ble_eq_true rfl) dX7_reasonAgainst_33 (fun r33 σ33 hw => ?_)
      refine vIf_ne (pc := 36) (tgt := 41) hc dX7_reasonAgainst_36 (by decide) (fun c36 => ?_) (fun c36 => ?_)
      · have hw := hw.1 c36
        refine vAload_n (pc := 41) hc dX7_reasonAgainst_41 rfl ?_
        refine vGetR (pc := 42) (k := 6) (j := 1) hc rfl inG7 (hc.G 6 (Nat.le_of_ble_eq_true rfl)) rfl (Nat.le_of_ble_eq_true rfl) tw_219 rfl dX7_reasonAgainst_42 ?_
        refine vIload_n (pc := 45) hc dX7_reasonAgainst_45 rfl ?_
        refine vCallVi (pc := 46) (st := []) hc ok_X2_hasBar tw_451 (c_X2_hasBar hc.2.2.2.2.2.2.1 hc.G hw) (hc.G 4 (Nat.le_of_ble_eq_true rfl)) rfl rfl rfl ⟨rfl, rfl⟩ ⟨Nat.le_of_ble_eq_true rfl, Nat.le_of_ble_eq_true rfl⟩ rfl (Nat.le_of_ble_eq_true rfl) dX7_reasonAgainst_46 (fun r46 σ46 hw => ?_)
        refine vIf_eq (pc := 49) (tgt := 54) hc dX7_reasonAgainst_49 (by decide) (fun c49 => ?_) (fun c49 => ?_)
        · have hw := hw.1 c49
          refine vAload_n (pc := 54) hc dX7_reasonAgainst_54 rfl ?_
          refine vIload_n (pc := 55) hc dX7_reasonAgainst_55 rfl ?_
          refine vCallVv (pc := 56) (st := []) hc ok_X7_load tw_455 (c_X7_load hc.2.2.2.2.2.2.1 hc.G hw) (hc.G 6 (Nat.le_of_ble_eq_true rfl)) rfl rfl rfl ⟨rfl, rfl⟩ ⟨Nat.le_of_ble_eq_true rfl, Nat.le_of_ble_eq_true rfl⟩ rfl (Nat.le_of_ble_eq_true rfl) dX7_reasonAgainst_56 (fun σ56 hw => ?_)
          refine vIload_n (pc := 59) hc dX7_reasonAgainst_59 rfl ?_
          refine vIconst (pc := 60) (v := 1) hc dX7_reasonAgainst_60 ki_1 ?_
          refine vIload_n (pc := 61) hc dX7_reasonAgainst_61 rfl ?_
          refine vIshl (pc := 62) hc dX7_reasonAgainst_62 ?_
          refine vIconst (pc := 63) (v := 1) hc dX7_reasonAgainst_63 ki_1 ?_
          refine vIsub (pc := 64) hc dX7_reasonAgainst_64 ?_
          refine vIand (pc := 65) hc dX7_reasonAgainst_65 ?_
          refine vCallSi (pc := 66) (st := []) hc ok_J6_bitCount_0f7a4 tw_465 (c_J6_bitCount_0f7a4 hc.2.2.2.2.2.2.1 hc.G hw) rfl ⟨rfl, rfl⟩ ⟨Nat.le_of_ble_eq_true rfl, Nat.le_of_ble_eq_true rfl⟩ rfl (Nat.le_of_ble_eq_true rfl) dX7_reasonAgainst_66 (fun r66 σ66 hw => ?_)
          refine vIstore_n (pc := 69) (L2 := [some (.ref (E.2.1 6)), some (.int x1), some (.int x2), some (.int r66)]) hc dX7_reasonAgainst_69 rfl (Nat.le_of_ble_eq_true rfl) ?_
          refine vAload_n (pc := 70) hc dX7_reasonAgainst_70 rfl ?_
          refine vGetR (pc := 71) (k := 6) (j := 2) hc rfl inG7 (hc.G 6 (Nat.le_of_ble_eq_true rfl)) rfl (Nat.le_of_ble_eq_true rfl) tw_220 rfl dX7_reasonAgainst_71 ?_
          refine vGetRN (pc := 74) (k := 7) (j := 2) hc rfl inG6 (hc.G 7 (Nat.le_of_ble_eq_true rfl)) rfl (Nat.le_of_ble_eq_true rfl) nw_25 rfl dX7_reasonAgainst_74 ?_
          refine vIconst (pc := 77) (v := 0) hc dX7_reasonAgainst_77 ki_0 ?_
          refine vIload_n (pc := 78) hc dX7_reasonAgainst_78 rfl ?_
          refine vIast (pc := 79) (k := 14) hc (hc.G 14 (Nat.le_of_ble_eq_true rfl)) rfl rfl (vp_lit (by decide)) dX7_reasonAgainst_79 (fun σ79 eσ79 => ?_)
          have hw := hw σ79 eσ79
          refine vAload_n (pc := 80) hc dX7_reasonAgainst_80 rfl ?_
          refine vGetR (pc := 81) (k := 6) (j := 2) hc rfl inG7 (hc.G 6 (Nat.le_of_ble_eq_true rfl)) rfl (Nat.le_of_ble_eq_true rfl) tw_220 rfl dX7_reasonAgainst_81 ?_
          refine vGetRN (pc := 84) (k := 7) (j := 4) hc rfl inG6 (hc.G 7 (Nat.le_of_ble_eq_true rfl)) rfl (Nat.le_of_ble_eq_true rfl) nw_27 rfl dX7_reasonAgainst_84 ?_
          refine vIload_n (pc := 87) hc dX7_reasonAgainst_87 rfl ?_
          refine vIconst (pc := 88) (v := 0) hc dX7_reasonAgainst_88 ki_0 ?_
          obtain ⟨hi2, hw⟩ := hw
          refine vIast (pc := 89) (k := 16) hc (hc.G 16 (Nat.le_of_ble_eq_true rfl)) rfl rfl hi2 dX7_reasonAgainst_89 (fun σ89 eσ89 => ?_)
          have hw := hw σ89 eσ89
          refine vAload_n (pc := 90) hc dX7_reasonAgainst_90 rfl ?_
          refine vGetR (pc := 91) (k := 6) (j := 3) hc rfl inG7 (hc.G 6 (Nat.le_of_ble_eq_true rfl)) rfl (Nat.le_of_ble_eq_true rfl) tw_221 rfl dX7_reasonAgainst_91 ?_
          refine vSipush (pc := 94) (v := 1441) hc dX7_reasonAgainst_94 ks_1441 ?_
          refine vPutN (pc := 97) (k := 8) (j := 6) hc rfl inG6 (hc.G 8 (Nat.le_of_ble_eq_true rfl)) rfl (Nat.le_of_ble_eq_true rfl) tyX6 tyX6_ok nmX6 nw_31 rfl rfl rfl rfl dX7_reasonAgainst_97 (fun σ97 eσ97 => ?_)
          have hw := hw σ97 eσ97
          refine vAload_n (pc := 100) hc dX7_reasonAgainst_100 rfl ?_
          refine vIconst (pc := 101) (v := 1) hc dX7_reasonAgainst_101 ki_1 ?_
          refine vAload_n (pc := 102) hc dX7_reasonAgainst_102 rfl ?_
          refine vCallVi (pc := 103) (st := [(.int 1), (.ref (E.2.1 6))]) hc ok_X7_allPlaces tw_466 (c_X7_allPlaces hc.2.2.2.2.2.2.1 hc.G hw) (hc.G 6 (Nat.le_of_ble_eq_true rfl)) rfl rfl rfl ⟨rfl, rfl⟩ ⟨Nat.le_of_ble_eq_true rfl, Nat.le_of_ble_eq_true rfl⟩ rfl (Nat.le_of_ble_eq_true rfl) dX7_reasonAgainst_103 (fun r103 σ103 hw => ?_)
          refine vIconst (pc := 106) (v := 1) hc dX7_reasonAgainst_106 ki_1 ?_
          refine vIload_n (pc := 107) hc dX7_reasonAgainst_107 rfl ?_
          refine vIshl (pc := 108) hc dX7_reasonAgainst_108 ?_
          refine vIconst (pc := 109) (v := (-1)) hc dX7_reasonAgainst_109 ki_m1 ?_
          refine vIxor (pc := 110) hc dX7_reasonAgainst_110 ?_
          refine vIand (pc := 111) hc dX7_reasonAgainst_111 ?_
          refine vIconst (pc := 112) (v := 0) hc dX7_reasonAgainst_112 ki_0 ?_
          refine vAload_n (pc := 113) hc dX7_reasonAgainst_113 rfl ?_
          refine vGetR (pc := 114) (k := 6) (j := 6) hc rfl inG7 (hc.G 6 (Nat.le_of_ble_eq_true rfl)) rfl (Nat.le_of_ble_eq_true rfl) tw_224 rfl dX7_reasonAgainst_114 ?_
          refine vIload_n (pc := 117) hc dX7_reasonAgainst_117 rfl ?_
          refine vIald (pc := 118) (k := 25) hc (hc.G 25 (Nat.le_of_ble_eq_true rfl)) rfl rfl hi2 dX7_reasonAgainst_118 ?_
          refine vCallVv (pc := 119) (st := []) hc ok_X7_pickNext tw_470 (c_X7_pickNext hc.2.2.2.2.2.2.1 hc.G 6 1 (r103 &&& (((1 : Int32) <<< (r66 &&& 31)) ^^^ (-1))) 0 (σ103 25 r66.toNatClampNeg) _ _ hw) (hc.G 6 (Nat.le_of_ble_eq_true rfl)) rfl rfl rfl ⟨rfl, rfl⟩ ⟨Nat.le_of_ble_eq_true rfl, Nat.le_of_ble_eq_true rfl⟩ rfl (Nat.le_of_ble_eq_true rfl) dX7_reasonAgainst_119 (fun σ119 hw => ?_)
          refine vAload_n (pc := 122) hc dX7_reasonAgainst_122 rfl ?_
          refine vGetR (pc := 123) (k := 6) (j := 3) hc rfl inG7 (hc.G 6 (Nat.le_of_ble_eq_true rfl)) rfl (Nat.le_of_ble_eq_true rfl) tw_221 rfl dX7_reasonAgainst_123 ?_
          refine vGetIN (pc := 126) (k := 8) (j := 6) hc rfl inG6 (hc.G 8 (Nat.le_of_ble_eq_true rfl)) rfl (Nat.le_of_ble_eq_true rfl) nw_31 rfl dX7_reasonAgainst_126 ?_
          refine vSipush (pc := 129) (v := 1441) hc dX7_reasonAgainst_129 ks_1441 ?_
          refine vIcmp_ne (pc := 132) (tgt := 139) hc dX7_reasonAgainst_132 (by decide) (fun c132 => ?_) (fun c132 => ?_)
          · have hw := hw.1 c132
            refine vIconst (pc := 139) (v := 0) hc dX7_reasonAgainst_139 ki_0 ?_
            exact vIret (pc := 140) hc dX7_reasonAgainst_140 hw
          · have hw := hw.2 c132
            refine vIconst (pc := 135) (v := 4) hc dX7_reasonAgainst_135 ki_4 ?_
            refine vGoto (pc := 136) (tgt := 140) hc dX7_reasonAgainst_136 (by decide) ?_
            exact vIret (pc := 140) hc dX7_reasonAgainst_140 hw
        · have hw := hw.2 c49
          refine vIconst (pc := 52) (v := 3) hc dX7_reasonAgainst_52 ki_3 ?_
          exact vIret (pc := 53) hc dX7_reasonAgainst_53 hw
      · have hw := hw.2 c36
        refine vIconst (pc := 39) (v := 2) hc dX7_reasonAgainst_39 ki_2 ?_
        exact vIret (pc := 40) hc dX7_reasonAgainst_40 hw
    · have hw := hw.2 c22
      refine vIconst (pc := 25) (v := 1) hc dX7_reasonAgainst_25 ki_1 ?_
      exact vIret (pc := 26) hc dX7_reasonAgainst_26 hw
set_option maxRecDepth 100000 in
set_option maxHeartbeats 4000000 in
theorem c_X7_reasonAgainst {l : Launch} {E : WD} (hE : inj E) (hG : ∀ k, fdm k → k ∈ E.2.2.2) {x1 x2 : Int32} {σ : MS} {Q : Int32 → MS → Prop} (hw : w_X7_reasonAgainst x1 x2 σ Q) : Ci l E yX7_reasonAgainst cX7_reasonAgainst 4 (some .int) rm_X7_reasonAgainst [.ref (E.2.1 6), .int x1, .int x2] σ Q :=
  Ct_of (by decide) rfl (by
    intro v hv
    simp only [List.mem_cons, List.not_mem_nil, or_false] at hv
    rcases hv with rfl | rfl | rfl <;> rfl) (Nat.le_of_ble_eq_true rfl) hE hG (fun p e s m below meth c hc => t_X7_reasonAgainst_E hc x1 x2 σ hw)
def w_X7_found_E (Q : Nat → MS → Prop) (σ : MS) : Prop := Q 8 σ
abbrev w_X7_found (σ : MS) (Q : Nat → MS → Prop) : Prop := w_X7_found_E Q  σ
abbrev rm_X7_found : Room := { frames := 0, cells := 0, slots := 0, locals := 0 }
theorem ok_X7_found : OkV yX7_found RX7 cX7_found 1 (some (.object "RidePools$Way")) 0 := ⟨tw_487, tw_488, tw_52, tw_489, rfl, by decide, by decide, by decide +kernel⟩
set_option maxRecDepth 100000 in
set_option maxHeartbeats 4000000 in
theorem t_X7_found_E {p : Program} {l : Launch} {e : Env} {s : State} {m : MethodId} {args : Array Value} {below : List Frame} {meth : Method} {c : Code} {E : WD} {Q : Nat → MS → Prop} (hc : Cx p rm_X7_found s m args meth c E (AD E) cX7_found RX7 (some (.object "RidePools$Way")) 1 0 0 fdm) (σ : MS) (hw : w_X7_found_E Q  σ) : V p l e rm_X7_found s m args below meth c E (AD E) 1 0 0 (MQ below (va_Qr (fun u : Nat × MS => Q u.1 u.2) (fun u a t => a = E.2.1 u.1 ∧ BW E u.2 t) (AD E)) args s 0 0 (AD E)) σ 0 [some (.ref (E.2.1 6))] [] := by
  unfold w_X7_found_E at hw
  refine vAload_n (pc := 0) hc dX7_found_0 rfl ?_
  refine vGetR (pc := 1) (k := 6) (j := 3) hc rfl inG7 (hc.G 6 (Nat.le_of_ble_eq_true rfl)) rfl (Nat.le_of_ble_eq_true rfl) tw_221 rfl dX7_found_1 ?_
  exact vAret (pc := 4) (k := 8) hc dX7_found_4 hw
set_option maxRecDepth 100000 in
set_option maxHeartbeats 4000000 in
theorem c_X7_found {l : Launch} {E : WD} (hE : inj E) (hG : ∀ k, fdm k → k ∈ E.2.2.2) {σ : MS} {Q : Nat → MS → Prop} (hw : w_X7_found  σ Q) : Cr l E yX7_found cX7_found 1 (some (.object "RidePools$Way")) rm_X7_found [.ref (E.2.1 6)] σ Q :=
  Ct_of (by decide) rfl (by
    intro v hv
    simp only [List.mem_cons, List.not_mem_nil, or_false] at hv
    rcases hv with rfl <;> rfl) (Nat.le_of_ble_eq_true rfl) hE hG (fun p e s m below meth c hc => t_X7_found_E hc  σ hw)
def w_X0_takeIfFewer_J21 (Q : MS → Prop) (x1 x2 x3 : Int32) (σ : MS) : Prop := ((vp_in x1 512) ∧ (∀ σ27, σ27 = mst σ 28 x1.toNatClampNeg x3 → (∀ σ34, σ34 = mst σ27 29 x1.toNatClampNeg x2 → Q σ34)))
def w_X0_takeIfFewer_E (Q : MS → Prop) (x1 x2 x3 : Int32) (σ : MS) : Prop := ((vp_in x1 512) ∧ (((σ 28 x1.toNatClampNeg) = (-9) → w_X0_takeIfFewer_J21 Q x1 x2 x3 σ) ∧ (¬ (σ 28 x1.toNatClampNeg) = (-9) → (((σ 28 x1.toNatClampNeg) ≤ x3 → Q σ) ∧ (¬ (σ 28 x1.toNatClampNeg) ≤ x3 → w_X0_takeIfFewer_J21 Q x1 x2 x3 σ)))))
abbrev w_X0_takeIfFewer (x1 x2 x3 : Int32) (σ : MS) (Q : MS → Prop) : Prop := w_X0_takeIfFewer_E Q x1 x2 x3 σ
abbrev rm_X0_takeIfFewer : Room := { frames := 0, cells := 0, slots := 0, locals := 0 }
theorem ok_X0_takeIfFewer : OkV yX0_takeIfFewer RX0 cX0_takeIfFewer 4 none 3 := ⟨tw_515, tw_11, tw_54, tw_516, rfl, by decide, by decide, by decide +kernel⟩
set_option maxRecDepth 100000 in
set_option maxHeartbeats 4000000 in
theorem t_X0_takeIfFewer_J21 {p : Program} {l : Launch} {e : Env} {s : State} {m : MethodId} {args : Array Value} {below : List Frame} {meth : Method} {c : Code} {E : WD} {Q : MS → Prop} (hc : Cx p rm_X0_takeIfFewer s m args meth c E (AD E) cX0_takeIfFewer RX0 none 4 0 0 fdm) (x1 x2 x3 : Int32) (σ : MS) (hw : w_X0_takeIfFewer_J21 Q x1 x2 x3 σ) : V p l e rm_X0_takeIfFewer s m args below meth c E (AD E) 4 0 0 (MQ below (va_Qv Q (BW E) (AD E)) args s 0 0 (AD E)) σ 21 [some (.ref (E.2.1 9)), some (.int x1), some (.int x2), some (.int x3)] [] := by
  unfold w_X0_takeIfFewer_J21 at hw
  refine vAload_n (pc := 21) hc dX0_takeIfFewer_21 rfl ?_
  refine vGetR (pc := 22) (k := 9) (j := 1) hc rfl inG0 (hc.G 9 (Nat.le_of_ble_eq_true rfl)) rfl (Nat.le_of_ble_eq_true rfl) tw_254 rfl dX0_takeIfFewer_22 ?_
  refine vIload_n (pc := 25) hc dX0_takeIfFewer_25 rfl ?_
  refine vIload_n (pc := 26) hc dX0_takeIfFewer_26 rfl ?_
  obtain ⟨hi1, hw⟩ := hw
  refine vIast (pc := 27) (k := 28) hc (hc.G 28 (Nat.le_of_ble_eq_true rfl)) rfl rfl hi1 dX0_takeIfFewer_27 (fun σ27 eσ27 => ?_)
  have hw := hw σ27 eσ27
  refine vAload_n (pc := 28) hc dX0_takeIfFewer_28 rfl ?_
  refine vGetR (pc := 29) (k := 9) (j := 2) hc rfl inG0 (hc.G 9 (Nat.le_of_ble_eq_true rfl)) rfl (Nat.le_of_ble_eq_true rfl) tw_255 rfl dX0_takeIfFewer_29 ?_
  refine vIload_n (pc := 32) hc dX0_takeIfFewer_32 rfl ?_
  refine vIload_n (pc := 33) hc dX0_takeIfFewer_33 rfl ?_
  refine vIast (pc := 34) (k := 29) hc (hc.G 29 (Nat.le_of_ble_eq_true rfl)) rfl rfl hi1 dX0_takeIfFewer_34 (fun σ34 eσ34 => ?_)
  have hw := hw σ34 eσ34
  exact vVret (pc := 35) hc dX0_takeIfFewer_35 hw
set_option maxRecDepth 100000 in
set_option maxHeartbeats 4000000 in
theorem t_X0_takeIfFewer_E {p : Program} {l : Launch} {e : Env} {s : State} {m : MethodId} {args : Array Value} {below : List Frame} {meth : Method} {c : Code} {E : WD} {Q : MS → Prop} (hc : Cx p rm_X0_takeIfFewer s m args meth c E (AD E) cX0_takeIfFewer RX0 none 4 0 0 fdm) (x1 x2 x3 : Int32) (σ : MS) (hw : w_X0_takeIfFewer_E Q x1 x2 x3 σ) : V p l e rm_X0_takeIfFewer s m args below meth c E (AD E) 4 0 0 (MQ below (va_Qv Q (BW E) (AD E)) args s 0 0 (AD E)) σ 0 [some (.ref (E.2.1 9)), some (.int x1), some (.int x2), some (.int x3)] [] := by
  unfold w_X0_takeIfFewer_E at hw
  refine vAload_n (pc := 0) hc dX0_takeIfFewer_0 rfl ?_
  refine vGetR (pc := 1) (k := 9) (j := 1) hc rfl inG0 (hc.G 9 (Nat.le_of_ble_eq_true rfl)) rfl (Nat.le_of_ble_eq_true rfl) tw_254 rfl dX0_takeIfFewer_1 ?_
  refine vIload_n (pc := 4) hc dX0_takeIfFewer_4 rfl ?_
  obtain ⟨hi1, hw⟩ := hw
  refine vIald (pc := 5) (k := 28) hc (hc.G 28 (Nat.le_of_ble_eq_true rfl)) rfl rfl hi1 dX0_takeIfFewer_5 ?_
  refine vBipush (pc := 6) (v := (-9)) hc dX0_takeIfFewer_6 kb_m9 ?_
  refine vIcmp_eq (pc := 8) (tgt := 21) hc dX0_takeIfFewer_8 (by decide) (fun c8 => ?_) (fun c8 => ?_)
  · have hw := hw.1 c8
    exact vMono (L2 := [some (.ref (E.2.1 9)), some (.int x1), some (.int x2), some (.int x3)]) (show subL [some (.ref (E.2.1 9)), some (.int x1), some (.int x2), some (.int x3)] [some (.ref (E.2.1 9)), some (.int x1), some (.int x2), some (.int x3)] from ⟨rfl, ⟨rfl, ⟨rfl, ⟨rfl, trivial⟩⟩⟩⟩) (t_X0_takeIfFewer_J21 hc  x1 x2 x3 _ hw)
  · have hw := hw.2 c8
    refine vIload_n (pc := 11) hc dX0_takeIfFewer_11 rfl ?_
    refine vAload_n (pc := 12) hc dX0_takeIfFewer_12 rfl ?_
    refine vGetR (pc := 13) (k := 9) (j := 1) hc rfl inG0 (hc.G 9 (Nat.le_of_ble_eq_true rfl)) rfl (Nat.le_of_ble_eq_true rfl) tw_254 rfl dX0_takeIfFewer_13 ?_
    refine vIload_n (pc := 16) hc dX0_takeIfFewer_16 rfl ?_
    refine vIald (pc := 17) (k := 28) hc (hc.G 28 (Nat.le_of_ble_eq_true rfl)) rfl rfl hi1 dX0_takeIfFewer_17 ?_
    refine vIcmp_ge (pc := 18) (tgt := 35) hc dX0_takeIfFewer_18 (by decide) (fun c18 => ?_) (fun c18 => ?_)
    · have hw := hw.1 c18
      exact vVret (pc := 35) hc dX0_takeIfFewer_35 hw
    · have hw := hw.2 c18
      exact vMono (L2 := [some (.ref (E.2.1 9)), some (.int x1), some (.int x2), some (.int x3)]) (show subL [some (.ref (E.2.1 9)), some (.int x1), some (.int x2), some (.int x3)] [some (.ref (E.2.1 9)), some (.int x1), some (.int x2), some (.int x3)] from ⟨rfl, ⟨rfl, ⟨rfl, ⟨rfl, trivial⟩⟩⟩⟩) (t_X0_takeIfFewer_J21 hc  x1 x2 x3 _ hw)
set_option maxRecDepth 100000 in
set_option maxHeartbeats 4000000 in
theorem c_X0_takeIfFewer {l : Launch} {E : WD} (hE : inj E) (hG : ∀ k, fdm k → k ∈ E.2.2.2) {x1 x2 x3 : Int32} {σ : MS} {Q : MS → Prop} (hw : w_X0_takeIfFewer x1 x2 x3 σ Q) : Cv l E yX0_takeIfFewer cX0_takeIfFewer 4 none rm_X0_takeIfFewer [.ref (E.2.1 9), .int x1, .int x2, .int x3] σ Q :=
  Ct_of (by decide) rfl (by
    intro v hv
    simp only [List.mem_cons, List.not_mem_nil, or_false] at hv
    rcases hv with rfl | rfl | rfl | rfl <;> rfl) (Nat.le_of_ble_eq_true rfl) hE hG (fun p e s m below meth c hc => t_X0_takeIfFewer_E hc x1 x2 x3 σ hw)
def w_X0_learn_H29 (Q : MS → Prop) : Nat → Int32 → Int32 → MS → Prop
  | 0, _, _, _ => False
  | n + 1, x1, x2, σ => ((9 ≤ x2 → Q σ) ∧ (¬ 9 ≤ x2 → w_X8_contains x1 x2 σ (fun r37 σ37 => ((r37 = 0 → w_X0_learn_H29 Q n x1 (x2 + 1) σ37) ∧ (¬ r37 = 0 → w_X7_reasonAgainst x1 x2 σ37 (fun r49 σ49 => ((¬ r49 = 0 → w_X0_learn_H29 Q n x1 (x2 + 1) σ49) ∧ (r49 = 0 → w_X7_found  σ49 (fun r62 σ62 => r62 = 8 ∧ w_X0_takeIfFewer x1 x2 (σ62 8 6) σ62 (fun σ68 => w_X0_learn_H29 Q n x1 (x2 + 1) σ68))))))))))
def w_X0_learn_E (Q : MS → Prop) (x1 : Int32) (σ : MS) : Prop := ((vp_in x1 512) ∧ (((σ 28 x1.toNatClampNeg) = (-1) → (∀ σ18, σ18 = mst σ 28 x1.toNatClampNeg (-9) → (∀ σ26, σ26 = mst σ18 29 x1.toNatClampNeg (-9) → (∃ n29, w_X0_learn_H29 Q n29 x1 0 σ26)))) ∧ (¬ (σ 28 x1.toNatClampNeg) = (-1) → Q σ)))
abbrev w_X0_learn (x1 : Int32) (σ : MS) (Q : MS → Prop) : Prop := w_X0_learn_E Q x1 σ
abbrev rm_X0_learn : Room := { frames := 16, cells := 0, slots := 0, locals := 482 }
theorem ok_X0_learn : OkV yX0_learn RX0 cX0_learn 3 none 1 := ⟨tw_507, tw_508, tw_54, tw_509, rfl, by decide, by decide, by decide +kernel⟩
set_option maxRecDepth 100000 in
set_option maxHeartbeats 4000000 in
theorem t_X0_learn_H29 {p : Program} {l : Launch} {e : Env} {s : State} {m : MethodId} {args : Array Value} {below : List Frame} {meth : Method} {c : Code} {E : WD} {Q : MS → Prop} (hc : Cx p rm_X0_learn s m args meth c E (AD E) cX0_learn RX0 none 3 0 0 fdm) : ∀ (n : Nat) (x1 x2 : Int32) (σ : MS), w_X0_learn_H29 Q n x1 x2 σ → V p l e rm_X0_learn s m args below meth c E (AD E) 3 0 0 (MQ below (va_Qv Q (BW E) (AD E)) args s 0 0 (AD E)) σ 29 [some (.ref (E.2.1 9)), some (.int x1), some (.int x2)] [] := by
  intro n
  induction n with
  | zero =>
    intro x1 x2 σ hw
    exact hw.elim
  | succ n ih =>
    intro x1 x2 σ hw
    unfold w_X0_learn_H29 at hw
    refine vIload_n (pc := 29) hc dX0_learn_29 rfl ?_
    refine vBipush (pc := 30) (v := 9) hc dX0_learn_30 kb_9 ?_
    refine vIcmp_ge (pc := 32) (tgt := 77) hc dX0_learn_32 (by decide) (fun c32 => ?_) (fun c32 => ?_)
    · have hw := hw.1 c32
      exact vVret (pc := 77) hc dX0_learn_77 hw
    · have hw := hw.2 c32
      refine vIload_n (pc := 35) hc dX0_learn_35 rfl ?_
      refine vIload_n (pc := 36) hc dX0_learn_36 rfl ?_
      refine vCallSNi (pc := 37) (st := []) hc ok_X8_contains nw_39 (c_X8_contains hc.2.2.2.2.2.2.1 hc.G hw) rfl ⟨rfl, rfl⟩ ⟨Nat.le_of_ble_eq_true rfl, Nat.le_of_ble_eq_true rfl⟩ rfl (Nat.le_of_ble_eq_true rfl) dX0_learn_37 (fun r37 σ37 hw => ?_)
      refine vIf_eq (pc := 40) (tgt := 71) hc dX0_learn_40 (by decide) (fun c40 => ?_) (fun c40 => ?_)
      · have hw := hw.1 c40
        refine vIinc (pc := 71) (v := x2 + 1) (L2 := [some (.ref (E.2.1 9)), some (.int x1), some (.int (x2 + 1))]) hc dX0_learn_71 rfl rfl rfl (Nat.le_of_ble_eq_true rfl) ?_
        refine vGoto (pc := 74) (tgt := 29) hc dX0_learn_74 (by decide) ?_
        exact vMono (L2 := [some (.ref (E.2.1 9)), some (.int x1), some (.int (x2 + 1))]) (show subL [some (.ref (E.2.1 9)), some (.int x1), some (.int (x2 + 1))] [some (.ref (E.2.1 9)), some (.int x1), some (.int (x2 + 1))] from ⟨rfl, ⟨rfl, ⟨rfl, trivial⟩⟩⟩) (ih x1 (x2 + 1) _ hw)
      · have hw := hw.2 c40
        refine vAload_n (pc := 43) hc dX0_learn_43 rfl ?_
        refine vGetR (pc := 44) (k := 9) (j := 0) hc rfl inG0 (hc.G 9 (Nat.le_of_ble_eq_true rfl)) rfl (Nat.le_of_ble_eq_true rfl) tw_253 rfl dX0_learn_44 ?_
        refine vIload_n (pc := 47) hc dX0_learn_47 rfl ?_
        refine vIload_n (pc := 48) hc dX0_learn_48 rfl ?_
        refine vCallVi (pc := 49) (st := []) hc ok_X7_reasonAgainst tw_511 (c_X7_reasonAgainst hc.2.2.2.2.2.2.1 hc.G hw) (hc.G 6 (Nat.le_of_ble_eq_true rfl)) rfl rfl rfl ⟨rfl, rfl⟩ ⟨Nat.le_of_ble_eq_true rfl, Nat.le_of_ble_eq_true rfl⟩ rfl (Nat.le_of_ble_eq_true rfl) dX0_learn_49 (fun r49 σ49 hw => ?_)
        refine vIf_ne (pc := 52) (tgt := 71) hc dX0_learn_52 (by decide) (fun c52 => ?_) (fun c52 => ?_)
        · have hw := hw.1 c52
          refine vIinc (pc := 71) (v := x2 + 1) (L2 := [some (.ref (E.2.1 9)), some (.int x1), some (.int (x2 + 1))]) hc dX0_learn_71 rfl rfl rfl (Nat.le_of_ble_eq_true rfl) ?_
          refine vGoto (pc := 74) (tgt := 29) hc dX0_learn_74 (by decide) ?_
          exact vMono (L2 := [some (.ref (E.2.1 9)), some (.int x1), some (.int (x2 + 1))]) (show subL [some (.ref (E.2.1 9)), some (.int x1), some (.int (x2 + 1))] [some (.ref (E.2.1 9)), some (.int x1), some (.int (x2 + 1))] from ⟨rfl, ⟨rfl, ⟨rfl, trivial⟩⟩⟩) (ih x1 (x2 + 1) _ hw)
        · have hw := hw.2 c52
          refine vAload_n (pc := 55) hc dX0_learn_55 rfl ?_
          refine vIload_n (pc := 56) hc dX0_learn_56 rfl ?_
          refine vIload_n (pc := 57) hc dX0_learn_57 rfl ?_
          refine vAload_n (pc := 58) hc dX0_learn_58 rfl ?_
          refine vGetR (pc := 59) (k := 9) (j := 0) hc rfl inG0 (hc.G 9 (Nat.le_of_ble_eq_true rfl)) rfl (Nat.le_of_ble_eq_true rfl) tw_253 rfl dX0_learn_59 ?_
          refine vCallVr (pc := 62) (st := [(.int x2), (.int x1), (.ref (E.2.1 9))]) hc ok_X7_found tw_512 (c_X7_found hc.2.2.2.2.2.2.1 hc.G hw) (hc.G 6 (Nat.le_of_ble_eq_true rfl)) rfl rfl rfl ⟨rfl, rfl⟩ ⟨Nat.le_of_ble_eq_true rfl, Nat.le_of_ble_eq_true rfl⟩ rfl (Nat.le_of_ble_eq_true rfl) dX0_learn_62 (fun r62 σ62 hw => ?_)
          obtain ⟨er62, hw⟩ := hw
          subst er62
          refine vGetIN (pc := 65) (k := 8) (j := 6) hc rfl inG6 (hc.G 8 (Nat.le_of_ble_eq_true rfl)) rfl (Nat.le_of_ble_eq_true rfl) nw_33 rfl dX0_learn_65 ?_
          refine vCallVv (pc := 68) (st := []) hc ok_X0_takeIfFewer tw_513 (c_X0_takeIfFewer hc.2.2.2.2.2.2.1 hc.G hw) (hc.G 9 (Nat.le_of_ble_eq_true rfl)) rfl rfl rfl ⟨rfl, rfl⟩ ⟨Nat.le_of_ble_eq_true rfl, Nat.le_of_ble_eq_true rfl⟩ rfl (Nat.le_of_ble_eq_true rfl) dX0_learn_68 (fun σ68 hw => ?_)
          refine vIinc (pc := 71) (v := x2 + 1) (L2 := [some (.ref (E.2.1 9)), some (.int x1), some (.int (x2 + 1))]) hc dX0_learn_71 rfl rfl rfl (Nat.le_of_ble_eq_true rfl) ?_
          refine vGoto (pc := 74) (tgt := 29) hc dX0_learn_74 (by decide) ?_
          exact vMono (L2 := [some (.ref (E.2.1 9)), some (.int x1), some (.int (x2 + 1))]) (show subL [some (.ref (E.2.1 9)), some (.int x1), some (.int (x2 + 1))] [some (.ref (E.2.1 9)), some (.int x1), some (.int (x2 + 1))] from ⟨rfl, ⟨rfl, ⟨rfl, trivial⟩⟩⟩) (ih x1 (x2 + 1) _ hw)
set_option maxRecDepth 100000 in
set_option maxHeartbeats 4000000 in
theorem t_X0_learn_E {p : Program} {l : Launch} {e : Env} {s : State} {m : MethodId} {args : Array Value} {below : List Frame} {meth : Method} {c : Code} {E : WD} {Q : MS → Prop} (hc : Cx p rm_X0_learn s m args meth c E (AD E) cX0_learn RX0 none 3 0 0 fdm) (x1 : Int32) (σ : MS) (hw : w_X0_learn_E Q x1 σ) : V p l e rm_X0_learn s m args below meth c E (AD E) 3 0 0 (MQ below (va_Qv Q (BW E) (AD E)) args s 0 0 (AD E)) σ 0 [some (.ref (E.2.1 9)), some (.int x1), none] [] := by
  unfold w_X0_learn_E at hw
  refine vAload_n (pc := 0) hc dX0_learn_0 rfl ?_
  refine vGetR (pc := 1) (k := 9) (j := 1) hc rfl inG0 (hc.G 9 (Nat.le_of_ble_eq_true rfl)) rfl (Nat.le_of_ble_eq_true rfl) tw_254 rfl dX0_learn_1 ?_
  refine vIload_n (pc := 4) hc dX0_learn_4 rfl ?_
  obtain ⟨hi1, hw⟩ := hw
  refine vIald (pc := 5) (k := 28) hc (hc.G 28 (Nat.le_of_ble_eq_true rfl)) rfl rfl hi1 dX0_learn_5 ?_
  refine vIconst (pc := 6) (v := (-1)) hc dX0_learn_6 ki_m1 ?_
  refine vIcmp_eq (pc := 7) (tgt := 11) hc dX0_learn_7 (by decide) (fun c7 => ?_) (fun c7 => ?_)
  · have hw := hw.1 c7
    refine vAload_n (pc := 11) hc dX0_learn_11 rfl ?_
    refine vGetR (pc := 12) (k := 9) (j := 1) hc rfl inG0 (hc.G 9 (Nat.le_of_ble_eq_true rfl)) rfl (Nat.le_of_ble_eq_true rfl) tw_254 rfl dX0_learn_12 ?_
    refine vIload_n (pc := 15) hc dX0_learn_15 rfl ?_
    refine vBipush (pc := 16) (v := (-9)) hc dX0_learn_16 kb_m9 ?_
    refine vIast (pc := 18) (k := 28) hc (hc.G 28 (Nat.le_of_ble_eq_true rfl)) rfl rfl hi1 dX0_learn_18 (fun σ18 eσ18 => ?_)
    have hw := hw σ18 eσ18
    refine vAload_n (pc := 19) hc dX0_learn_19 rfl ?_
    refine vGetR (pc := 20) (k := 9) (j := 2) hc rfl inG0 (hc.G 9 (Nat.le_of_ble_eq_true rfl)) rfl (Nat.le_of_ble_eq_true rfl) tw_255 rfl dX0_learn_20 ?_
    refine vIload_n (pc := 23) hc dX0_learn_23 rfl ?_
    refine vBipush (pc := 24) (v := (-9)) hc dX0_learn_24 kb_m9 ?_
    refine vIast (pc := 26) (k := 29) hc (hc.G 29 (Nat.le_of_ble_eq_true rfl)) rfl rfl hi1 dX0_learn_26 (fun σ26 eσ26 => ?_)
    have hw := hw σ26 eσ26
    refine vIconst (pc := 27) (v := 0) hc dX0_learn_27 ki_0 ?_
    refine vIstore_n (pc := 28) (L2 := [some (.ref (E.2.1 9)), some (.int x1), some (.int 0)]) hc dX0_learn_28 rfl (Nat.le_of_ble_eq_true rfl) ?_
    obtain ⟨n29, hw⟩ := hw
    exact vMono (L2 := [some (.ref (E.2.1 9)), some (.int x1), some (.int 0)]) (show subL [some (.ref (E.2.1 9)), some (.int x1), some (.int 0)] [some (.ref (E.2.1 9)), some (.int x1), some (.int 0)] from ⟨rfl, ⟨rfl, ⟨rfl, trivial⟩⟩⟩) (t_X0_learn_H29 hc  n29 x1 0 _ hw)
  · have hw := hw.2 c7
    exact vVret (pc := 10) hc dX0_learn_10 hw
set_option maxRecDepth 100000 in
set_option maxHeartbeats 4000000 in
theorem c_X0_learn {l : Launch} {E : WD} (hE : inj E) (hG : ∀ k, fdm k → k ∈ E.2.2.2) {x1 : Int32} {σ : MS} {Q : MS → Prop} (hw : w_X0_learn x1 σ Q) : Cv l E yX0_learn cX0_learn 3 none rm_X0_learn [.ref (E.2.1 9), .int x1] σ Q :=
  Ct_of (by decide) rfl (by
    intro v hv
    simp only [List.mem_cons, List.not_mem_nil, or_false] at hv
    rcases hv with rfl | rfl <;> rfl) (Nat.le_of_ble_eq_true rfl) hE hG (fun p e s m below meth c hc => t_X0_learn_E hc x1 σ hw)
def w_X0_learnAll_H2 (Q : MS → Prop) : Nat → Int32 → Int32 → MS → Prop
  | 0, _, _, _ => False
  | n + 1, x1, x2, σ => ((x1 < x2 → Q σ) ∧ (¬ x1 < x2 → ((¬ (x2 &&& (x1 ^^^ (-1))) = 0 → w_X0_learnAll_H2 Q n x1 (x2 + 1) σ) ∧ ((x2 &&& (x1 ^^^ (-1))) = 0 → w_J6_bitCount_0f7a4 x2 σ (fun r16 σ16 => ((4 < r16 → w_X0_learnAll_H2 Q n x1 (x2 + 1) σ16) ∧ (¬ 4 < r16 → w_X0_learn x2 σ16 (fun σ25 => w_X0_learnAll_H2 Q n x1 (x2 + 1) σ25))))))))
def w_X0_learnAll_E (Q : MS → Prop) (x1 : Int32) (σ : MS) : Prop := (∃ n2, w_X0_learnAll_H2 Q n2 x1 1 σ)
abbrev w_X0_learnAll (x1 : Int32) (σ : MS) (Q : MS → Prop) : Prop := w_X0_learnAll_E Q x1 σ
abbrev rm_X0_learnAll : Room := { frames := 17, cells := 0, slots := 0, locals := 504 }
theorem ok_X0_learnAll : OkV yX0_learnAll RX0 cX0_learnAll 3 none 1 := ⟨tw_543, tw_544, tw_54, tw_545, rfl, by decide, by decide, by decide +kernel⟩
set_option maxRecDepth 100000 in
set_option maxHeartbeats 4000000 in
theorem t_X0_learnAll_H2 {p : Program} {l : Launch} {e : Env} {s : State} {m : MethodId} {args : Array Value} {below : List Frame} {meth : Method} {c : Code} {E : WD} {Q : MS → Prop} (hc : Cx p rm_X0_learnAll s m args meth c E (AD E) cX0_learnAll RX0 none 3 0 0 fdm) : ∀ (n : Nat) (x1 x2 : Int32) (σ : MS), w_X0_learnAll_H2 Q n x1 x2 σ → V p l e rm_X0_learnAll s m args below meth c E (AD E) 3 0 0 (MQ below (va_Qv Q (BW E) (AD E)) args s 0 0 (AD E)) σ 2 [some (.ref (E.2.1 9)), some (.int x1), some (.int x2)] [] := by
  intro n
  induction n with
  | zero =>
    intro x1 x2 σ hw
    exact hw.elim
  | succ n ih =>
    intro x1 x2 σ hw
    unfold w_X0_learnAll_H2 at hw
    refine vIload_n (pc := 2) hc dX0_learnAll_2 rfl ?_
    refine vIload_n (pc := 3) hc dX0_learnAll_3 rfl ?_
    refine vIcmp_gt (pc := 4) (tgt := 34) hc dX0_learnAll_4 (by decide) (fun c4 => ?_) (fun c4 => ?_)
    · have hw := hw.1 c4
      exact vVret (pc := 34) hc dX0_learnAll_34 hw
    · have hw := hw.2 c4
      refine vIload_n (pc := 7) hc dX0_learnAll_7 rfl ?_
      refine vIload_n (pc := 8) hc dX0_learnAll_8 rfl ?_
      refine vIconst (pc := 9) (v := (-1)) hc dX0_learnAll_9 ki_m1 ?_
      refine vIxor (pc := 10) hc dX0_learnAll_10 ?_
      refine vIand (pc := 11) hc dX0_learnAll_11 ?_
      refine vIf_ne (pc := 12) (tgt := 28) hc dX0_learnAll_12 (by decide) (fun c12 => ?_) (fun c12 => ?_)
      · have hw := hw.1 c12
        refine vIinc (pc := 28) (v := x2 + 1) (L2 := [some (.ref (E.2.1 9)), some (.int x1), some (.int (x2 + 1))]) hc dX0_learnAll_28 rfl rfl rfl (Nat.le_of_ble_eq_true rfl) ?_
        refine vGoto (pc := 31) (tgt := 2) hc dX0_learnAll_31 (by decide) ?_
        exact vMono (L2 := [some (.ref (E.2.1 9)), some (.int x1), some (.int (x2 + 1))]) (show subL [some (.ref (E.2.1 9)), some (.int x1), some (.int (x2 + 1))] [some (.ref (E.2.1 9)), some (.int x1), some (.int (x2 + 1))] from ⟨rfl, ⟨rfl, ⟨rfl, trivial⟩⟩⟩) (ih x1 (x2 + 1) _ hw)
      · have hw := hw.2 c12
        refine vIload_n (pc := 15) hc dX0_learnAll_15 rfl ?_
        refine vCallSi (pc := 16) (st := []) hc ok_J6_bitCount_0f7a4 tw_546 (c_J6_bitCount_0f7a4 hc.2.2.2.2.2.2.1 hc.G hw) rfl ⟨rfl, rfl⟩ ⟨Nat.le_of_ble_eq_true rfl, Nat.le_of_ble_eq_true rfl⟩ rfl (Nat.le_of_ble_eq_true rfl) dX0_learnAll_16 (fun r16 σ16 hw => ?_)
        refine vIconst (pc := 19) (v := 4) hc dX0_learnAll_19 ki_4 ?_
        refine vIcmp_gt (pc := 20) (tgt := 28) hc dX0_learnAll_20 (by decide) (fun c20 => ?_) (fun c20 => ?_)
        · have hw := hw.1 c20
          refine vIinc (pc := 28) (v := x2 + 1) (L2 := [some (.ref (E.2.1 9)), some (.int x1), some (.int (x2 + 1))]) hc dX0_learnAll_28 rfl rfl rfl (Nat.le_of_ble_eq_true rfl) ?_
          refine vGoto (pc := 31) (tgt := 2) hc dX0_learnAll_31 (by decide) ?_
          exact vMono (L2 := [some (.ref (E.2.1 9)), some (.int x1), some (.int (x2 + 1))]) (show subL [some (.ref (E.2.1 9)), some (.int x1), some (.int (x2 + 1))] [some (.ref (E.2.1 9)), some (.int x1), some (.int (x2 + 1))] from ⟨rfl, ⟨rfl, ⟨rfl, trivial⟩⟩⟩) (ih x1 (x2 + 1) _ hw)
        · have hw := hw.2 c20
          refine vAload_n (pc := 23) hc dX0_learnAll_23 rfl ?_
          refine vIload_n (pc := 24) hc dX0_learnAll_24 rfl ?_
          refine vCallVv (pc := 25) (st := []) hc ok_X0_learn tw_547 (c_X0_learn hc.2.2.2.2.2.2.1 hc.G hw) (hc.G 9 (Nat.le_of_ble_eq_true rfl)) rfl rfl rfl ⟨rfl, rfl⟩ ⟨Nat.le_of_ble_eq_true rfl, Nat.le_of_ble_eq_true rfl⟩ rfl (Nat.le_of_ble_eq_true rfl) dX0_learnAll_25 (fun σ25 hw => ?_)
          refine vIinc (pc := 28) (v := x2 + 1) (L2 := [some (.ref (E.2.1 9)), some (.int x1), some (.int (x2 + 1))]) hc dX0_learnAll_28 rfl rfl rfl (Nat.le_of_ble_eq_true rfl) ?_
          refine vGoto (pc := 31) (tgt := 2) hc dX0_learnAll_31 (by decide) ?_
          exact vMono (L2 := [some (.ref (E.2.1 9)), some (.int x1), some (.int (x2 + 1))]) (show subL [some (.ref (E.2.1 9)), some (.int x1), some (.int (x2 + 1))] [some (.ref (E.2.1 9)), some (.int x1), some (.int (x2 + 1))] from ⟨rfl, ⟨rfl, ⟨rfl, trivial⟩⟩⟩) (ih x1 (x2 + 1) _ hw)
set_option maxRecDepth 100000 in
set_option maxHeartbeats 4000000 in
theorem t_X0_learnAll_E {p : Program} {l : Launch} {e : Env} {s : State} {m : MethodId} {args : Array Value} {below : List Frame} {meth : Method} {c : Code} {E : WD} {Q : MS → Prop} (hc : Cx p rm_X0_learnAll s m args meth c E (AD E) cX0_learnAll RX0 none 3 0 0 fdm) (x1 : Int32) (σ : MS) (hw : w_X0_learnAll_E Q x1 σ) : V p l e rm_X0_learnAll s m args below meth c E (AD E) 3 0 0 (MQ below (va_Qv Q (BW E) (AD E)) args s 0 0 (AD E)) σ 0 [some (.ref (E.2.1 9)), some (.int x1), none] [] := by
  unfold w_X0_learnAll_E at hw
  refine vIconst (pc := 0) (v := 1) hc dX0_learnAll_0 ki_1 ?_
  refine vIstore_n (pc := 1) (L2 := [some (.ref (E.2.1 9)), some (.int x1), some (.int 1)]) hc dX0_learnAll_1 rfl (Nat.le_of_ble_eq_true rfl) ?_
  obtain ⟨n2, hw⟩ := hw
  exact vMono (L2 := [some (.ref (E.2.1 9)), some (.int x1), some (.int 1)]) (show subL [some (.ref (E.2.1 9)), some (.int x1), some (.int 1)] [some (.ref (E.2.1 9)), some (.int x1), some (.int 1)] from ⟨rfl, ⟨rfl, ⟨rfl, trivial⟩⟩⟩) (t_X0_learnAll_H2 hc  n2 x1 1 _ hw)
set_option maxRecDepth 100000 in
set_option maxHeartbeats 4000000 in
theorem c_X0_learnAll {l : Launch} {E : WD} (hE : inj E) (hG : ∀ k, fdm k → k ∈ E.2.2.2) {x1 : Int32} {σ : MS} {Q : MS → Prop} (hw : w_X0_learnAll x1 σ Q) : Cv l E yX0_learnAll cX0_learnAll 3 none rm_X0_learnAll [.ref (E.2.1 9), .int x1] σ Q :=
  Ct_of (by decide) rfl (by
    intro v hv
    simp only [List.mem_cons, List.not_mem_nil, or_false] at hv
    rcases hv with rfl | rfl <;> rfl) (Nat.le_of_ble_eq_true rfl) hE hG (fun p e s m below meth c hc => t_X0_learnAll_E hc x1 σ hw)
def w_X1_worthOf_E (Q : Int32 → MS → Prop) (x0 x1 x2 : Int32) (σ : MS) : Prop := Q (((x0 * 1000000) + (x1 * 10)) + x2) σ
abbrev w_X1_worthOf (x0 x1 x2 : Int32) (σ : MS) (Q : Int32 → MS → Prop) : Prop := w_X1_worthOf_E Q x0 x1 x2 σ
abbrev rm_X1_worthOf : Room := { frames := 0, cells := 0, slots := 0, locals := 0 }
theorem ok_X1_worthOf : OkS yX1_worthOf cX1_worthOf 3 (some .int) 3 := ⟨tw_634, tw_55, tw_635, by decide, by decide, by decide +kernel⟩
set_option maxRecDepth 100000 in
set_option maxHeartbeats 4000000 in
theorem t_X1_worthOf_E {p : Program} {l : Launch} {e : Env} {s : State} {m : MethodId} {args : Array Value} {below : List Frame} {meth : Method} {c : Code} {E : WD} {Q : Int32 → MS → Prop} (hc : Cx p rm_X1_worthOf s m args meth c E (AD E) cX1_worthOf RX1 (some .int) 3 0 0 fdm) (x0 x1 x2 : Int32) (σ : MS) (hw : w_X1_worthOf_E Q x0 x1 x2 σ) : V p l e rm_X1_worthOf s m args below meth c E (AD E) 3 0 0 (MQ below (va_Qi Q (BW E) (AD E)) args s 0 0 (AD E)) σ 0 [some (.int x0), some (.int x1), some (.int x2)] [] := by
  unfold w_X1_worthOf_E at hw
  refine vIload_n (pc := 0) hc dX1_worthOf_0 rfl ?_
  refine vLdc (pc := 1) hc tw_560 dX1_worthOf_1 ?_
  refine vImul (pc := 3) hc dX1_worthOf_3 ?_
  refine vIload_n (pc := 4) hc dX1_worthOf_4 rfl ?_
  refine vBipush (pc := 5) (v := 10) hc dX1_worthOf_5 kb_10 ?_
  refine vImul (pc := 7) hc dX1_worthOf_7 ?_
  refine vIadd (pc := 8) hc dX1_worthOf_8 ?_
  refine vIload_n (pc := 9) hc dX1_worthOf_9 rfl ?_
  refine vIadd (pc := 10) hc dX1_worthOf_10 ?_
  exact vIret (pc := 11) hc dX1_worthOf_11 hw
set_option maxRecDepth 100000 in
set_option maxHeartbeats 4000000 in
theorem c_X1_worthOf {l : Launch} {E : WD} (hE : inj E) (hG : ∀ k, fdm k → k ∈ E.2.2.2) {x0 x1 x2 : Int32} {σ : MS} {Q : Int32 → MS → Prop} (hw : w_X1_worthOf x0 x1 x2 σ Q) : Ci l E yX1_worthOf cX1_worthOf 3 (some .int) rm_X1_worthOf [.int x0, .int x1, .int x2] σ Q :=
  Ct_of (by decide) rfl (by
    intro v hv
    simp only [List.mem_cons, List.not_mem_nil, or_false] at hv
    rcases hv with rfl | rfl | rfl <;> rfl) (Nat.le_of_ble_eq_true rfl) hE hG (fun p e s m below meth c hc => t_X1_worthOf_E hc x0 x1 x2 σ hw)
