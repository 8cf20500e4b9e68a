def w_X1_tryPool_E (Q : MS → Prop) (x1 x2 x3 : Int32) (σ : MS) : Prop := w_J6_bitCount_0f7a4 x2 σ (fun r1 σ1 => ((r1 ≤ 4 → w_X0_minutesFor x2 σ1 (fun r14 σ14 => ((0 ≤ r14 → ((vp_in (x1 &&& (x2 ^^^ (-1))) 512) ∧ (∀ x5_42 : Int32, x5_42 = (((σ14 30 (x1 &&& (x2 ^^^ (-1))).toNatClampNeg) + (r14 * x3)) + 1) → ((vp_in x1 512) ∧ (((σ14 30 x1.toNatClampNeg) ≤ x5_42 → Q σ14) ∧ (¬ (σ14 30 x1.toNatClampNeg) ≤ x5_42 → (∀ σ62, σ62 = mst σ14 30 x1.toNatClampNeg x5_42 → (∀ σ69, σ69 = mst σ62 31 x1.toNatClampNeg x2 → Q σ69)))))))) ∧ (¬ 0 ≤ r14 → Q σ14)))) ∧ (¬ r1 ≤ 4 → Q σ1)))
abbrev w_X1_tryPool (x1 x2 x3 : Int32) (σ : MS) (Q : MS → Prop) : Prop := w_X1_tryPool_E Q x1 x2 x3 σ
abbrev rm_X1_tryPool : Room := { frames := 1, cells := 0, slots := 0, locals := 21 }
theorem ok_X1_tryPool : OkV yX1_tryPool RX1 cX1_tryPool 6 none 3 := ⟨tw_564, tw_15, tw_55, tw_565, rfl, by decide, by decide, by decide +kernel⟩
set_option maxRecDepth 100000 in
set_option maxHeartbeats 4000000 in
theorem t_X1_tryPool_E {p : Program} {l : Launch} {e : Env} {s : State} {m : MethodId} {args : Array Value} {below : List Frame} {meth : Method} {c : Code} {E : WD} {Q : MS → Prop} (hc : Cx p rm_X1_tryPool s m args meth c E (AD E) cX1_tryPool RX1 none 6 0 0 fdm) (x1 x2 x3 : Int32) (σ : MS) (hw : w_X1_tryPool_E Q x1 x2 x3 σ) : V p l e rm_X1_tryPool s m args below meth c E (AD E) 6 0 0 (MQ below (va_Qv Q (BW E) (AD E)) args s 0 0 (AD E)) σ 0 [some (.ref (E.2.1 10)), some (.int x1), some (.int x2), some (.int x3), none, none] [] := by
  unfold w_X1_tryPool_E at hw
  refine vIload_n (pc := 0) hc dX1_tryPool_0 rfl ?_
  refine vCallSi (pc := 1) (st := []) hc ok_J6_bitCount_0f7a4 tw_561 (c_J6_bitCount_0f7a4 hc.2.2.2.2.2.2.1 hc.G hw) rfl ⟨rfl, rfl⟩ ⟨Nat.le_of_ble_eq_true rfl, Nat.le_of_ble_eq_true rfl⟩ rfl (Nat.le_of_ble_eq_true rfl) dX1_tryPool_1 (fun r1 σ1 hw => ?_)
  refine vIconst (pc := 4) (v := 4) hc dX1_tryPool_4 ki_4 ?_
  refine vIcmp_le (pc := 5) (tgt := 9) hc dX1_tryPool_5 (by decide) (fun c5 => ?_) (fun c5 => ?_)
  · have hw := hw.1 c5
    refine vAload_n (pc := 9) hc dX1_tryPool_9 rfl ?_
    refine vGetR (pc := 10) (k := 10) (j := 0) hc rfl inG1 (hc.G 10 (Nat.le_of_ble_eq_true rfl)) rfl (Nat.le_of_ble_eq_true rfl) tw_269 rfl dX1_tryPool_10 ?_
    refine vIload_n (pc := 13) hc dX1_tryPool_13 rfl ?_
    refine vCallVi (pc := 14) (st := []) hc ok_X0_minutesFor tw_566 (c_X0_minutesFor hc.2.2.2.2.2.2.1 hc.G hw) (hc.G 9 (Nat.le_of_ble_eq_true rfl)) rfl rfl rfl ⟨rfl, rfl⟩ ⟨Nat.le_of_ble_eq_true rfl, Nat.le_of_ble_eq_true rfl⟩ rfl (Nat.le_of_ble_eq_true rfl) dX1_tryPool_14 (fun r14 σ14 hw => ?_)
    refine vIstore (pc := 17) (L2 := [some (.ref (E.2.1 10)), some (.int x1), some (.int x2), some (.int x3), some (.int r14), none]) hc dX1_tryPool_17 rfl (Nat.le_of_ble_eq_true rfl) ?_
    refine vIload (pc := 19) hc dX1_tryPool_19 rfl ?_
    refine vIf_ge (pc := 21) (tgt := 25) hc dX1_tryPool_21 (by decide) (fun c21 => ?_) (fun c21 => ?_)
    · have hw := hw.1 c21
      refine vAload_n (pc := 25) hc dX1_tryPool_25 rfl ?_
      refine vGetR (pc := 26) (k := 10) (j := 1) hc rfl inG1 (hc.G 10 (Nat.le_of_ble_eq_true rfl)) rfl (Nat.le_of_ble_eq_true rfl) tw_270 rfl dX1_tryPool_26 ?_
      refine vIload_n (pc := 29) hc dX1_tryPool_29 rfl ?_
      refine vIload_n (pc := 30) hc dX1_tryPool_30 rfl ?_
      refine vIconst (pc := 31) (v := (-1)) hc dX1_tryPool_31 ki_m1 ?_
      refine vIxor (pc := 32) hc dX1_tryPool_32 ?_
      refine vIand (pc := 33) hc dX1_tryPool_33 ?_
      obtain ⟨hi1, hw⟩ := hw
      refine vIald (pc := 34) (k := 30) hc (hc.G 30 (Nat.le_of_ble_eq_true rfl)) rfl rfl hi1 dX1_tryPool_34 ?_
      refine vIload (pc := 35) hc dX1_tryPool_35 rfl ?_
      refine vIload_n (pc := 37) hc dX1_tryPool_37 rfl ?_
      refine vImul (pc := 38) hc dX1_tryPool_38 ?_
      refine vIadd (pc := 39) hc dX1_tryPool_39 ?_
      refine vIconst (pc := 40) (v := 1) hc dX1_tryPool_40 ki_1 ?_
      refine vIadd (pc := 41) hc dX1_tryPool_41 ?_
      obtain ⟨x5_42, ex5_42⟩ : ∃ z : Int32, z = ((σ14 30 (x1 &&& (x2 ^^^ (-1))).toNatClampNeg) + (r14 * x3)) + 1 := ⟨_, rfl⟩
      have hw := hw x5_42 ex5_42
      refine vTop ex5_42 ?_
      refine vIstore (pc := 42) (L2 := [some (.ref (E.2.1 10)), some (.int x1), some (.int x2), some (.int x3), some (.int r14), some (.int x5_42)]) hc dX1_tryPool_42 rfl (Nat.le_of_ble_eq_true rfl) ?_
      refine vIload (pc := 44) hc dX1_tryPool_44 rfl ?_
      refine vAload_n (pc := 46) hc dX1_tryPool_46 rfl ?_
      refine vGetR (pc := 47) (k := 10) (j := 1) hc rfl inG1 (hc.G 10 (Nat.le_of_ble_eq_true rfl)) rfl (Nat.le_of_ble_eq_true rfl) tw_270 rfl dX1_tryPool_47 ?_
      refine vIload_n (pc := 50) hc dX1_tryPool_50 rfl ?_
      obtain ⟨hi2, hw⟩ := hw
      refine vIald (pc := 51) (k := 30) hc (hc.G 30 (Nat.le_of_ble_eq_true rfl)) rfl rfl hi2 dX1_tryPool_51 ?_
      refine vIcmp_ge (pc := 52) (tgt := 70) hc dX1_tryPool_52 (by decide) (fun c52 => ?_) (fun c52 => ?_)
      · have hw := hw.1 c52
        exact vVret (pc := 70) hc dX1_tryPool_70 hw
      · have hw := hw.2 c52
        refine vAload_n (pc := 55) hc dX1_tryPool_55 rfl ?_
        refine vGetR (pc := 56) (k := 10) (j := 1) hc rfl inG1 (hc.G 10 (Nat.le_of_ble_eq_true rfl)) rfl (Nat.le_of_ble_eq_true rfl) tw_270 rfl dX1_tryPool_56 ?_
        refine vIload_n (pc := 59) hc dX1_tryPool_59 rfl ?_
        refine vIload (pc := 60) hc dX1_tryPool_60 rfl ?_
        refine vIast (pc := 62) (k := 30) hc (hc.G 30 (Nat.le_of_ble_eq_true rfl)) rfl rfl hi2 dX1_tryPool_62 (fun σ62 eσ62 => ?_)
        have hw := hw σ62 eσ62
        refine vAload_n (pc := 63) hc dX1_tryPool_63 rfl ?_
        refine vGetR (pc := 64) (k := 10) (j := 2) hc rfl inG1 (hc.G 10 (Nat.le_of_ble_eq_true rfl)) rfl (Nat.le_of_ble_eq_true rfl) tw_271 rfl dX1_tryPool_64 ?_
        refine vIload_n (pc := 67) hc dX1_tryPool_67 rfl ?_
        refine vIload_n (pc := 68) hc dX1_tryPool_68 rfl ?_
        refine vIast (pc := 69) (k := 31) hc (hc.G 31 (Nat.le_of_ble_eq_true rfl)) rfl rfl hi2 dX1_tryPool_69 (fun σ69 eσ69 => ?_)
        have hw := hw σ69 eσ69
        exact vVret (pc := 70) hc dX1_tryPool_70 hw
    · have hw := hw.2 c21
      exact vVret (pc := 24) hc dX1_tryPool_24 hw
  · have hw := hw.2 c5
    exact vVret (pc := 8) hc dX1_tryPool_8 hw
set_option maxRecDepth 100000 in
set_option maxHeartbeats 4000000 in
theorem c_X1_tryPool {l : Launch} {E : WD} (hE : inj E) (hG : ∀ k, fdm k → k ∈ E.2.2.2) {x1 x2 x3 : Int32} {σ : MS} {Q : MS → Prop} (hw : w_X1_tryPool x1 x2 x3 σ Q) : Cv l E yX1_tryPool cX1_tryPool 6 none rm_X1_tryPool [.ref (E.2.1 10), .int x1, .int x2, .int x3] σ Q :=
  Ct_of (by decide) rfl (by
    intro v hv
    simp only [List.mem_cons, List.not_mem_nil, or_false] at hv
    rcases hv with rfl | rfl | rfl | rfl <;> rfl) (Nat.le_of_ble_eq_true rfl) hE hG (fun p e s m below meth c hc => t_X1_tryPool_E hc x1 x2 x3 σ hw)
def w_X1_choose_H50 (Q : MS → Prop) : Nat → Int32 → Int32 → Int32 → Int32 → Int32 → Int32 → Int32 → MS → Prop
  | 0, _, _, _, _, _, _, _, _ => False
  | n + 1, x1, x2, x3, x4, x5, x6, x7, σ => ((x5 ≤ x7 → Q σ) ∧ (¬ x5 ≤ x7 → w_X1_tryPool x1 (x3 ||| x6) x2 σ (fun σ64 => (∀ x6_75 : Int32, x6_75 = ((x6 - x4) &&& x4) → w_X1_choose_H50 Q n x1 x2 x3 x4 x5 x6_75 (x7 + 1) σ64))))
def w_X1_choose_E (Q : MS → Prop) (x1 x2 : Int32) (σ : MS) : Prop := (∀ x3_4 : Int32, x3_4 = (x1 &&& (-x1)) → (∀ x4_10 : Int32, x4_10 = (x1 &&& (x3_4 ^^^ (-1))) → ((vp_in x4_10 512) ∧ ((vp_in x1 512) ∧ (∀ σ27, σ27 = mst σ 30 x1.toNatClampNeg ((σ 30 x4_10.toNatClampNeg) + 1000000) → (∀ σ34, σ34 = mst σ27 31 x1.toNatClampNeg 0 → w_J6_bitCount_0f7a4 x4_10 σ34 (fun r38 σ38 => (∀ x5_42 : Int32, x5_42 = ((1 : Int32) <<< (r38 &&& 31)) → (∃ n50, w_X1_choose_H50 Q n50 x1 x2 x3_4 x4_10 x5_42 0 0 σ38)))))))))
abbrev w_X1_choose (x1 x2 : Int32) (σ : MS) (Q : MS → Prop) : Prop := w_X1_choose_E Q x1 x2 σ
abbrev rm_X1_choose : Room := { frames := 2, cells := 0, slots := 0, locals := 46 }
theorem ok_X1_choose : OkV yX1_choose RX1 cX1_choose 8 none 2 := ⟨tw_558, tw_14, tw_55, tw_559, rfl, by decide, by decide, by decide +kernel⟩
set_option maxRecDepth 100000 in
set_option maxHeartbeats 4000000 in
theorem t_X1_choose_H50 {p : Program} {l : Launch} {e : Env} {s : State} {m : MethodId} {args : Array Value} {below : List Frame} {meth : Method} {c : Code} {E : WD} {Q : MS → Prop} (hc : Cx p rm_X1_choose s m args meth c E (AD E) cX1_choose RX1 none 8 0 0 fdm) : ∀ (n : Nat) (x1 x2 x3 x4 x5 x6 x7 : Int32) (σ : MS), w_X1_choose_H50 Q n x1 x2 x3 x4 x5 x6 x7 σ → V p l e rm_X1_choose s m args below meth c E (AD E) 8 0 0 (MQ below (va_Qv Q (BW E) (AD E)) args s 0 0 (AD E)) σ 50 [some (.ref (E.2.1 10)), some (.int x1), some (.int x2), some (.int x3), some (.int x4), some (.int x5), some (.int x6), some (.int x7)] [] := by
  intro n
  induction n with
  | zero =>
    intro x1 x2 x3 x4 x5 x6 x7 σ hw
    exact hw.elim
  | succ n ih =>
    intro x1 x2 x3 x4 x5 x6 x7 σ hw
    unfold w_X1_choose_H50 at hw
    refine vIload (pc := 50) hc dX1_choose_50 rfl ?_
    refine vIload (pc := 52) hc dX1_choose_52 rfl ?_
    refine vIcmp_ge (pc := 54) (tgt := 83) hc dX1_choose_54 (by decide) (fun c54 => ?_) (fun c54 => ?_)
    · have hw := hw.1 c54
      exact vVret (pc := 83) hc dX1_choose_83 hw
    · have hw := hw.2 c54
      refine vAload_n (pc := 57) hc dX1_choose_57 rfl ?_
      refine vIload_n (pc := 58) hc dX1_choose_58 rfl ?_
      refine vIload_n (pc := 59) hc dX1_choose_59 rfl ?_
      refine vIload (pc := 60) hc dX1_choose_60 rfl ?_
      refine vIor (pc := 62) hc dX1_choose_62 ?_
      refine vIload_n (pc := 63) hc dX1_choose_63 rfl ?_
      refine vCallVv (pc := 64) (st := []) hc ok_X1_tryPool tw_562 (c_X1_tryPool hc.2.2.2.2.2.2.1 hc.G hw) (hc.G 10 (Nat.le_of_ble_eq_true rfl)) rfl rfl rfl ⟨rfl, rfl⟩ ⟨Nat.le_of_ble_eq_true rfl, Nat.le_of_ble_eq_true rfl⟩ rfl (Nat.le_of_ble_eq_true rfl) dX1_choose_64 (fun σ64 hw => ?_)
      refine vIload (pc := 67) hc dX1_choose_67 rfl ?_
      refine vIload (pc := 69) hc dX1_choose_69 rfl ?_
      refine vIsub (pc := 71) hc dX1_choose_71 ?_
      refine vIload (pc := 72) hc dX1_choose_72 rfl ?_
      refine vIand (pc := 74) hc dX1_choose_74 ?_
      obtain ⟨x6_75, ex6_75⟩ : ∃ z : Int32, z = (x6 - x4) &&& x4 := ⟨_, rfl⟩
      have hw := hw x6_75 ex6_75
      refine vTop ex6_75 ?_
      refine vIstore (pc := 75) (L2 := [some (.ref (E.2.1 10)), some (.int x1), some (.int x2), some (.int x3), some (.int x4), some (.int x5), some (.int x6_75), some (.int x7)]) hc dX1_choose_75 rfl (Nat.le_of_ble_eq_true rfl) ?_
      refine vIinc (pc := 77) (v := x7 + 1) (L2 := [some (.ref (E.2.1 10)), some (.int x1), some (.int x2), some (.int x3), some (.int x4), some (.int x5), some (.int x6_75), some (.int (x7 + 1))]) hc dX1_choose_77 rfl rfl rfl (Nat.le_of_ble_eq_true rfl) ?_
      refine vGoto (pc := 80) (tgt := 50) hc dX1_choose_80 (by decide) ?_
      exact vMono (L2 := [some (.ref (E.2.1 10)), some (.int x1), some (.int x2), some (.int x3), some (.int x4), some (.int x5), some (.int x6_75), some (.int (x7 + 1))]) (show subL [some (.ref (E.2.1 10)), some (.int x1), some (.int x2), some (.int x3), some (.int x4), some (.int x5), some (.int x6_75), some (.int (x7 + 1))] [some (.ref (E.2.1 10)), some (.int x1), some (.int x2), some (.int x3), some (.int x4), some (.int x5), some (.int x6_75), some (.int (x7 + 1))] from ⟨rfl, ⟨rfl, ⟨rfl, ⟨rfl, ⟨rfl, ⟨rfl, ⟨rfl, ⟨rfl, trivial⟩⟩⟩⟩⟩⟩⟩⟩) (ih x1 x2 x3 x4 x5 x6_75 (x7 + 1) _ hw)
set_option maxRecDepth 100000 in
set_option maxHeartbeats 4000000 in
theorem t_X1_choose_E {p : Program} {l : Launch} {e : Env} {s : State} {m : MethodId} {args : Array Value} {below : List Frame} {meth : Method} {c : Code} {E : WD} {Q : MS → Prop} (hc : Cx p rm_X1_choose s m args meth c E (AD E) cX1_choose RX1 none 8 0 0 fdm) (x1 x2 : Int32) (σ : MS) (hw : w_X1_choose_E Q x1 x2 σ) : V p l e rm_X1_choose s m args below meth c E (AD E) 8 0 0 (MQ below (va_Qv Q (BW E) (AD E)) args s 0 0 (AD E)) σ 0 [some (.ref (E.2.1 10)), some (.int x1), some (.int x2), none, none, none, none, none] [] := by
  unfold w_X1_choose_E at hw
  refine vIload_n (pc := 0) hc dX1_choose_0 rfl ?_
  refine vIload_n (pc := 1) hc dX1_choose_1 rfl ?_
  refine vIneg (pc := 2) hc dX1_choose_2 ?_
  refine vIand (pc := 3) hc dX1_choose_3 ?_
  obtain ⟨x3_4, ex3_4⟩ : ∃ z : Int32, z = x1 &&& (-x1) := ⟨_, rfl⟩
  have hw := hw x3_4 ex3_4
  refine vTop ex3_4 ?_
  refine vIstore_n (pc := 4) (L2 := [some (.ref (E.2.1 10)), some (.int x1), some (.int x2), some (.int x3_4), none, none, none, none]) hc dX1_choose_4 rfl (Nat.le_of_ble_eq_true rfl) ?_
  refine vIload_n (pc := 5) hc dX1_choose_5 rfl ?_
  refine vIload_n (pc := 6) hc dX1_choose_6 rfl ?_
  refine vIconst (pc := 7) (v := (-1)) hc dX1_choose_7 ki_m1 ?_
  refine vIxor (pc := 8) hc dX1_choose_8 ?_
  refine vIand (pc := 9) hc dX1_choose_9 ?_
  obtain ⟨x4_10, ex4_10⟩ : ∃ z : Int32, z = x1 &&& (x3_4 ^^^ (-1)) := ⟨_, rfl⟩
  have hw := hw x4_10 ex4_10
  refine vTop ex4_10 ?_
  refine vIstore (pc := 10) (L2 := [some (.ref (E.2.1 10)), some (.int x1), some (.int x2), some (.int x3_4), some (.int x4_10), none, none, none]) hc dX1_choose_10 rfl (Nat.le_of_ble_eq_true rfl) ?_
  refine vAload_n (pc := 12) hc dX1_choose_12 rfl ?_
  refine vGetR (pc := 13) (k := 10) (j := 1) hc rfl inG1 (hc.G 10 (Nat.le_of_ble_eq_true rfl)) rfl (Nat.le_of_ble_eq_true rfl) tw_270 rfl dX1_choose_13 ?_
  refine vIload_n (pc := 16) hc dX1_choose_16 rfl ?_
  refine vAload_n (pc := 17) hc dX1_choose_17 rfl ?_
  refine vGetR (pc := 18) (k := 10) (j := 1) hc rfl inG1 (hc.G 10 (Nat.le_of_ble_eq_true rfl)) rfl (Nat.le_of_ble_eq_true rfl) tw_270 rfl dX1_choose_18 ?_
  refine vIload (pc := 21) hc dX1_choose_21 rfl ?_
  obtain ⟨hi1, hw⟩ := hw
  refine vIald (pc := 23) (k := 30) hc (hc.G 30 (Nat.le_of_ble_eq_true rfl)) rfl rfl hi1 dX1_choose_23 ?_
  refine vLdc (pc := 24) hc tw_560 dX1_choose_24 ?_
  refine vIadd (pc := 26) hc dX1_choose_26 ?_
  obtain ⟨hi2, hw⟩ := hw
  refine vIast (pc := 27) (k := 30) hc (hc.G 30 (Nat.le_of_ble_eq_true rfl)) rfl rfl hi2 dX1_choose_27 (fun σ27 eσ27 => ?_)
  have hw := hw σ27 eσ27
  refine vAload_n (pc := 28) hc dX1_choose_28 rfl ?_
  refine vGetR (pc := 29) (k := 10) (j := 2) hc rfl inG1 (hc.G 10 (Nat.le_of_ble_eq_true rfl)) rfl (Nat.le_of_ble_eq_true rfl) tw_271 rfl dX1_choose_29 ?_
  refine vIload_n (pc := 32) hc dX1_choose_32 rfl ?_
  refine vIconst (pc := 33) (v := 0) hc dX1_choose_33 ki_0 ?_
  refine vIast (pc := 34) (k := 31) hc (hc.G 31 (Nat.le_of_ble_eq_true rfl)) rfl rfl hi2 dX1_choose_34 (fun σ34 eσ34 => ?_)
  have hw := hw σ34 eσ34
  refine vIconst (pc := 35) (v := 1) hc dX1_choose_35 ki_1 ?_
  refine vIload (pc := 36) hc dX1_choose_36 rfl ?_
  refine vCallSi (pc := 38) (st := [(.int 1)]) hc ok_J6_bitCount_0f7a4 tw_561 (c_J6_bitCount_0f7a4 hc.2.2.2.2.2.2.1 hc.G hw) rfl ⟨rfl, rfl⟩ ⟨Nat.le_of_ble_eq_true rfl, Nat.le_of_ble_eq_true rfl⟩ rfl (Nat.le_of_ble_eq_true rfl) dX1_choose_38 (fun r38 σ38 hw => ?_)
  refine vIshl (pc := 41) hc dX1_choose_41 ?_
  obtain ⟨x5_42, ex5_42⟩ : ∃ z : Int32, z = (1 : Int32) <<< (r38 &&& 31) := ⟨_, rfl⟩
  have hw := hw x5_42 ex5_42
  refine vTop ex5_42 ?_
  refine vIstore (pc := 42) (L2 := [some (.ref (E.2.1 10)), some (.int x1), some (.int x2), some (.int x3_4), some (.int x4_10), some (.int x5_42), none, none]) hc dX1_choose_42 rfl (Nat.le_of_ble_eq_true rfl) ?_
  refine vIconst (pc := 44) (v := 0) hc dX1_choose_44 ki_0 ?_
  refine vIstore (pc := 45) (L2 := [some (.ref (E.2.1 10)), some (.int x1), some (.int x2), some (.int x3_4), some (.int x4_10), some (.int x5_42), some (.int 0), none]) hc dX1_choose_45 rfl (Nat.le_of_ble_eq_true rfl) ?_
  refine vIconst (pc := 47) (v := 0) hc dX1_choose_47 ki_0 ?_
  refine vIstore (pc := 48) (L2 := [some (.ref (E.2.1 10)), some (.int x1), some (.int x2), some (.int x3_4), some (.int x4_10), some (.int x5_42), some (.int 0), some (.int 0)]) hc dX1_choose_48 rfl (Nat.le_of_ble_eq_true rfl) ?_
  obtain ⟨n50, hw⟩ := hw
  exact vMono (L2 := [some (.ref (E.2.1 10)), some (.int x1), some (.int x2), some (.int x3_4), some (.int x4_10), some (.int x5_42), some (.int 0), some (.int 0)]) (show subL [some (.ref (E.2.1 10)), some (.int x1), some (.int x2), some (.int x3_4), some (.int x4_10), some (.int x5_42), some (.int 0), some (.int 0)] [some (.ref (E.2.1 10)), some (.int x1), some (.int x2), some (.int x3_4), some (.int x4_10), some (.int x5_42), some (.int 0), some (.int 0)] from ⟨rfl, ⟨rfl, ⟨rfl, ⟨rfl, ⟨rfl, ⟨rfl, ⟨rfl, ⟨rfl, trivial⟩⟩⟩⟩⟩⟩⟩⟩) (t_X1_choose_H50 hc  n50 x1 x2 x3_4 x4_10 x5_42 0 0 _ hw)
set_option maxRecDepth 100000 in
set_option maxHeartbeats 4000000 in
theorem c_X1_choose {l : Launch} {E : WD} (hE : inj E) (hG : ∀ k, fdm k → k ∈ E.2.2.2) {x1 x2 : Int32} {σ : MS} {Q : MS → Prop} (hw : w_X1_choose x1 x2 σ Q) : Cv l E yX1_choose cX1_choose 8 none rm_X1_choose [.ref (E.2.1 10), .int x1, .int x2] σ Q :=
  Ct_of (by decide) rfl (by
    intro v hv
    simp only [List.mem_cons, List.not_mem_nil, or_false] at hv
    rcases hv with rfl | rfl | rfl <;> rfl) (Nat.le_of_ble_eq_true rfl) hE hG (fun p e s m below meth c hc => t_X1_choose_E hc x1 x2 σ hw)
def w_X1_findAll_J34 (Q : Int32 → MS → Prop) (x1 : Int32) (σ : MS) : Prop := ((vp_in x1 512) ∧ Q (σ 30 x1.toNatClampNeg) σ)
def w_X1_findAll_H9 (Q : Int32 → MS → Prop) : Nat → Int32 → Int32 → Int32 → MS → Prop
  | 0, _, _, _, _ => False
  | n + 1, x1, x2, x3, σ => ((x1 < x3 → w_X1_findAll_J34 Q x1 σ) ∧ (¬ x1 < x3 → ((¬ (x3 &&& (x1 ^^^ (-1))) = 0 → w_X1_findAll_H9 Q n x1 x2 (x3 + 1) σ) ∧ ((x3 &&& (x1 ^^^ (-1))) = 0 → w_X1_choose x3 x2 σ (fun σ25 => w_X1_findAll_H9 Q n x1 x2 (x3 + 1) σ25)))))
def w_X1_findAll_E (Q : Int32 → MS → Prop) (x1 x2 : Int32) (σ : MS) : Prop := (∀ σ6, σ6 = mst σ 30 (0 : Int32).toNatClampNeg 0 → (∃ n9, w_X1_findAll_H9 Q n9 x1 x2 1 σ6))
abbrev w_X1_findAll (x1 x2 : Int32) (σ : MS) (Q : Int32 → MS → Prop) : Prop := w_X1_findAll_E Q x1 x2 σ
abbrev rm_X1_findAll : Room := { frames := 3, cells := 0, slots := 0, locals := 73 }
theorem ok_X1_findAll : OkV yX1_findAll RX1 cX1_findAll 4 (some .int) 2 := ⟨tw_554, tw_13, tw_55, tw_555, rfl, by decide, by decide, by decide +kernel⟩
set_option maxRecDepth 100000 in
set_option maxHeartbeats 4000000 in
theorem t_X1_findAll_J34 {p : Program} {l : Launch} {e : Env} {s : State} {m : MethodId} {args : Array Value} {below : List Frame} {meth : Method} {c : Code} {E : WD} {Q : Int32 → MS → Prop} (hc : Cx p rm_X1_findAll s m args meth c E (AD E) cX1_findAll RX1 (some .int) 4 0 0 fdm) (x1 : Int32) (σ : MS) (hw : w_X1_findAll_J34 Q x1 σ) : V p l e rm_X1_findAll s m args below meth c E (AD E) 4 0 0 (MQ below (va_Qi Q (BW E) (AD E)) args s 0 0 (AD E)) σ 34 [some (.ref (E.2.1 10)), some (.int x1), none, none] [] := by
  unfold w_X1_findAll_J34 at hw
  refine vAload_n (pc := 34) hc dX1_findAll_34 rfl ?_
  refine vGetR (pc := 35) (k := 10) (j := 1) hc rfl inG1 (hc.G 10 (Nat.le_of_ble_eq_true rfl)) rfl (Nat.le_of_ble_eq_true rfl) tw_270 rfl dX1_findAll_35 ?_
  refine vIload_n (pc := 38) hc dX1_findAll_38 rfl ?_
  obtain ⟨hi1, hw⟩ := hw
  refine vIald (pc := 39) (k := 30) hc (hc.G 30 (Nat.le_of_ble_eq_true rfl)) rfl rfl hi1 dX1_findAll_39 ?_
  exact vIret (pc := 40) hc dX1_findAll_40 hw
set_option maxRecDepth 100000 in
set_option maxHeartbeats 4000000 in
theorem t_X1_findAll_H9 {p : Program} {l : Launch} {e : Env} {s : State} {m : MethodId} {args : Array Value} {below : List Frame} {meth : Method} {c : Code} {E : WD} {Q : Int32 → MS → Prop} (hc : Cx p rm_X1_findAll s m args meth c E (AD E) cX1_findAll RX1 (some .int) 4 0 0 fdm) : ∀ (n : Nat) (x1 x2 x3 : Int32) (σ : MS), w_X1_findAll_H9 Q n x1 x2 x3 σ → V p l e rm_X1_findAll s m args below meth c E (AD E) 4 0 0 (MQ below (va_Qi Q (BW E) (AD E)) args s 0 0 (AD E)) σ 9 [some (.ref (E.2.1 10)), some (.int x1), some (.int x2), some (.int x3)] [] := by
  intro n
  induction n with
  | zero =>
    intro x1 x2 x3 σ hw
    exact hw.elim
  | succ n ih =>
    intro x1 x2 x3 σ hw
    unfold w_X1_findAll_H9 at hw
    refine vIload_n (pc := 9) hc dX1_findAll_9 rfl ?_
    refine vIload_n (pc := 10) hc dX1_findAll_10 rfl ?_
    refine vIcmp_gt (pc := 11) (tgt := 34) hc dX1_findAll_11 (by decide) (fun c11 => ?_) (fun c11 => ?_)
    · have hw := hw.1 c11
      exact vMono (L2 := [some (.ref (E.2.1 10)), some (.int x1), none, none]) (show subL [some (.ref (E.2.1 10)), some (.int x1), none, none] [some (.ref (E.2.1 10)), some (.int x1), some (.int x2), some (.int x3)] from ⟨rfl, ⟨rfl, trivial⟩⟩) (t_X1_findAll_J34 hc  x1 _ hw)
    · have hw := hw.2 c11
      refine vIload_n (pc := 14) hc dX1_findAll_14 rfl ?_
      refine vIload_n (pc := 15) hc dX1_findAll_15 rfl ?_
      refine vIconst (pc := 16) (v := (-1)) hc dX1_findAll_16 ki_m1 ?_
      refine vIxor (pc := 17) hc dX1_findAll_17 ?_
      refine vIand (pc := 18) hc dX1_findAll_18 ?_
      refine vIf_ne (pc := 19) (tgt := 28) hc dX1_findAll_19 (by decide) (fun c19 => ?_) (fun c19 => ?_)
      · have hw := hw.1 c19
        refine vIinc (pc := 28) (v := x3 + 1) (L2 := [some (.ref (E.2.1 10)), some (.int x1), some (.int x2), some (.int (x3 + 1))]) hc dX1_findAll_28 rfl rfl rfl (Nat.le_of_ble_eq_true rfl) ?_
        refine vGoto (pc := 31) (tgt := 9) hc dX1_findAll_31 (by decide) ?_
        exact vMono (L2 := [some (.ref (E.2.1 10)), some (.int x1), some (.int x2), some (.int (x3 + 1))]) (show subL [some (.ref (E.2.1 10)), some (.int x1), some (.int x2), some (.int (x3 + 1))] [some (.ref (E.2.1 10)), some (.int x1), some (.int x2), some (.int (x3 + 1))] from ⟨rfl, ⟨rfl, ⟨rfl, ⟨rfl, trivial⟩⟩⟩⟩) (ih x1 x2 (x3 + 1) _ hw)
      · have hw := hw.2 c19
        refine vAload_n (pc := 22) hc dX1_findAll_22 rfl ?_
        refine vIload_n (pc := 23) hc dX1_findAll_23 rfl ?_
        refine vIload_n (pc := 24) hc dX1_findAll_24 rfl ?_
        refine vCallVv (pc := 25) (st := []) hc ok_X1_choose tw_556 (c_X1_choose hc.2.2.2.2.2.2.1 hc.G hw) (hc.G 10 (Nat.le_of_ble_eq_true rfl)) rfl rfl rfl ⟨rfl, rfl⟩ ⟨Nat.le_of_ble_eq_true rfl, Nat.le_of_ble_eq_true rfl⟩ rfl (Nat.le_of_ble_eq_true rfl) dX1_findAll_25 (fun σ25 hw => ?_)
        refine vIinc (pc := 28) (v := x3 + 1) (L2 := [some (.ref (E.2.1 10)), some (.int x1), some (.int x2), some (.int (x3 + 1))]) hc dX1_findAll_28 rfl rfl rfl (Nat.le_of_ble_eq_true rfl) ?_
        refine vGoto (pc := 31) (tgt := 9) hc dX1_findAll_31 (by decide) ?_
        exact vMono (L2 := [some (.ref (E.2.1 10)), some (.int x1), some (.int x2), some (.int (x3 + 1))]) (show subL [some (.ref (E.2.1 10)), some (.int x1), some (.int x2), some (.int (x3 + 1))] [some (.ref (E.2.1 10)), some (.int x1), some (.int x2), some (.int (x3 + 1))] from ⟨rfl, ⟨rfl, ⟨rfl, ⟨rfl, trivial⟩⟩⟩⟩) (ih x1 x2 (x3 + 1) _ hw)
set_option maxRecDepth 100000 in
set_option maxHeartbeats 4000000 in
theorem t_X1_findAll_E {p : Program} {l : Launch} {e : Env} {s : State} {m : MethodId} {args : Array Value} {below : List Frame} {meth : Method} {c : Code} {E : WD} {Q : Int32 → MS → Prop} (hc : Cx p rm_X1_findAll s m args meth c E (AD E) cX1_findAll RX1 (some .int) 4 0 0 fdm) (x1 x2 : Int32) (σ : MS) (hw : w_X1_findAll_E Q x1 x2 σ) : V p l e rm_X1_findAll s m args below meth c E (AD E) 4 0 0 (MQ below (va_Qi Q (BW E) (AD E)) args s 0 0 (AD E)) σ 0 [some (.ref (E.2.1 10)), some (.int x1), some (.int x2), none] [] := by
  unfold w_X1_findAll_E at hw
  refine vAload_n (pc := 0) hc dX1_findAll_0 rfl ?_
  refine vGetR (pc := 1) (k := 10) (j := 1) hc rfl inG1 (hc.G 10 (Nat.le_of_ble_eq_true rfl)) rfl (Nat.le_of_ble_eq_true rfl) tw_270 rfl dX1_findAll_1 ?_
  refine vIconst (pc := 4) (v := 0) hc dX1_findAll_4 ki_0 ?_
  refine vIconst (pc := 5) (v := 0) hc dX1_findAll_5 ki_0 ?_
  refine vIast (pc := 6) (k := 30) hc (hc.G 30 (Nat.le_of_ble_eq_true rfl)) rfl rfl (vp_lit (by decide)) dX1_findAll_6 (fun σ6 eσ6 => ?_)
  have hw := hw σ6 eσ6
  refine vIconst (pc := 7) (v := 1) hc dX1_findAll_7 ki_1 ?_
  refine vIstore_n (pc := 8) (L2 := [some (.ref (E.2.1 10)), some (.int x1), some (.int x2), some (.int 1)]) hc dX1_findAll_8 rfl (Nat.le_of_ble_eq_true rfl) ?_
  obtain ⟨n9, hw⟩ := hw
  exact vMono (L2 := [some (.ref (E.2.1 10)), some (.int x1), some (.int x2), some (.int 1)]) (show subL [some (.ref (E.2.1 10)), some (.int x1), some (.int x2), some (.int 1)] [some (.ref (E.2.1 10)), some (.int x1), some (.int x2), some (.int 1)] from ⟨rfl, ⟨rfl, ⟨rfl, ⟨rfl, trivial⟩⟩⟩⟩) (t_X1_findAll_H9 hc  n9 x1 x2 1 _ hw)
set_option maxRecDepth 100000 in
set_option maxHeartbeats 4000000 in
theorem c_X1_findAll {l : Launch} {E : WD} (hE : inj E) (hG : ∀ k, fdm k → k ∈ E.2.2.2) {x1 x2 : Int32} {σ : MS} {Q : Int32 → MS → Prop} (hw : w_X1_findAll x1 x2 σ Q) : Ci l E yX1_findAll cX1_findAll 4 (some .int) rm_X1_findAll [.ref (E.2.1 10), .int x1, .int x2] σ Q :=
  Ct_of (by decide) rfl (by
    intro v hv
    simp only [List.mem_cons, List.not_mem_nil, or_false] at hv
    rcases hv with rfl | rfl | rfl <;> rfl) (Nat.le_of_ble_eq_true rfl) hE hG (fun p e s m below meth c hc => t_X1_findAll_E hc x1 x2 σ hw)
def w_X1_findBest_E (Q : Int32 → MS → Prop) (x1 : Int32) (σ : MS) : Prop := w_X1_findAll x1 10 σ (fun r4 σ4 => Q r4 σ4)
abbrev w_X1_findBest (x1 : Int32) (σ : MS) (Q : Int32 → MS → Prop) : Prop := w_X1_findBest_E Q x1 σ
abbrev rm_X1_findBest : Room := { frames := 4, cells := 0, slots := 0, locals := 96 }
theorem ok_X1_findBest : OkV yX1_findBest RX1 cX1_findBest 2 (some .int) 1 := ⟨tw_549, tw_550, tw_55, tw_551, rfl, by decide, by decide, by decide +kernel⟩
set_option maxRecDepth 100000 in
set_option maxHeartbeats 4000000 in
theorem t_X1_findBest_E {p : Program} {l : Launch} {e : Env} {s : State} {m : MethodId} {args : Array Value} {below : List Frame} {meth : Method} {c : Code} {E : WD} {Q : Int32 → MS → Prop} (hc : Cx p rm_X1_findBest s m args meth c E (AD E) cX1_findBest RX1 (some .int) 2 0 0 fdm) (x1 : Int32) (σ : MS) (hw : w_X1_findBest_E Q x1 σ) : V p l e rm_X1_findBest s m args below meth c E (AD E) 2 0 0 (MQ below (va_Qi Q (BW E) (AD E)) args s 0 0 (AD E)) σ 0 [some (.ref (E.2.1 10)), some (.int x1)] [] := by
  unfold w_X1_findBest_E at hw
  refine vAload_n (pc := 0) hc dX1_findBest_0 rfl ?_
  refine vIload_n (pc := 1) hc dX1_findBest_1 rfl ?_
  refine vBipush (pc := 2) (v := 10) hc dX1_findBest_2 kb_10 ?_
  refine vCallVi (pc := 4) (st := []) hc ok_X1_findAll tw_552 (c_X1_findAll hc.2.2.2.2.2.2.1 hc.G hw) (hc.G 10 (Nat.le_of_ble_eq_true rfl)) rfl rfl rfl ⟨rfl, rfl⟩ ⟨Nat.le_of_ble_eq_true rfl, Nat.le_of_ble_eq_true rfl⟩ rfl (Nat.le_of_ble_eq_true rfl) dX1_findBest_4 (fun r4 σ4 hw => ?_)
  exact vIret (pc := 7) hc dX1_findBest_7 hw
set_option maxRecDepth 100000 in
set_option maxHeartbeats 4000000 in
theorem c_X1_findBest {l : Launch} {E : WD} (hE : inj E) (hG : ∀ k, fdm k → k ∈ E.2.2.2) {x1 : Int32} {σ : MS} {Q : Int32 → MS → Prop} (hw : w_X1_findBest x1 σ Q) : Ci l E yX1_findBest cX1_findBest 2 (some .int) rm_X1_findBest [.ref (E.2.1 10), .int x1] σ Q :=
  Ct_of (by decide) rfl (by
    intro v hv
    simp only [List.mem_cons, List.not_mem_nil, or_false] at hv
    rcases hv with rfl | rfl <;> rfl) (Nat.le_of_ble_eq_true rfl) hE hG (fun p e s m below meth c hc => t_X1_findBest_E hc x1 σ hw)
def w_X1_fewestPools_E (Q : Int32 → MS → Prop) (x1 : Int32) (σ : MS) : Prop := w_X1_findAll x1 0 σ (fun r3 σ3 => ((1000000 ≤ r3 → Q (-9) σ3) ∧ (¬ 1000000 ≤ r3 → Q r3 σ3)))
abbrev w_X1_fewestPools (x1 : Int32) (σ : MS) (Q : Int32 → MS → Prop) : Prop := w_X1_fewestPools_E Q x1 σ
abbrev rm_X1_fewestPools : Room := { frames := 4, cells := 0, slots := 0, locals := 96 }
theorem ok_X1_fewestPools : OkV yX1_fewestPools RX1 cX1_fewestPools 3 (some .int) 1 := ⟨tw_687, tw_688, tw_55, tw_689, rfl, by decide, by decide, by decide +kernel⟩
set_option maxRecDepth 100000 in
set_option maxHeartbeats 4000000 in
theorem t_X1_fewestPools_E {p : Program} {l : Launch} {e : Env} {s : State} {m : MethodId} {args : Array Value} {below : List Frame} {meth : Method} {c : Code} {E : WD} {Q : Int32 → MS → Prop} (hc : Cx p rm_X1_fewestPools s m args meth c E (AD E) cX1_fewestPools RX1 (some .int) 3 0 0 fdm) (x1 : Int32) (σ : MS) (hw : w_X1_fewestPools_E Q x1 σ) : V p l e rm_X1_fewestPools s m args below meth c E (AD E) 3 0 0 (MQ below (va_Qi Q (BW E) (AD E)) args s 0 0 (AD E)) σ 0 [some (.ref (E.2.1 10)), some (.int x1), none] [] := by
  unfold w_X1_fewestPools_E at hw
  refine vAload_n (pc := 0) hc dX1_fewestPools_0 rfl ?_
  refine vIload_n (pc := 1) hc dX1_fewestPools_1 rfl ?_
  refine vIconst (pc := 2) (v := 0) hc dX1_fewestPools_2 ki_0 ?_
  refine vCallVi (pc := 3) (st := []) hc ok_X1_findAll tw_552 (c_X1_findAll hc.2.2.2.2.2.2.1 hc.G hw) (hc.G 10 (Nat.le_of_ble_eq_true rfl)) rfl rfl rfl ⟨rfl, rfl⟩ ⟨Nat.le_of_ble_eq_true rfl, Nat.le_of_ble_eq_true rfl⟩ rfl (Nat.le_of_ble_eq_true rfl) dX1_fewestPools_3 (fun r3 σ3 hw => ?_)
  refine vIstore_n (pc := 6) (L2 := [some (.ref (E.2.1 10)), some (.int x1), some (.int r3)]) hc dX1_fewestPools_6 rfl (Nat.le_of_ble_eq_true rfl) ?_
  refine vIload_n (pc := 7) hc dX1_fewestPools_7 rfl ?_
  refine vLdc (pc := 8) hc tw_560 dX1_fewestPools_8 ?_
  refine vIcmp_ge (pc := 10) (tgt := 17) hc dX1_fewestPools_10 (by decide) (fun c10 => ?_) (fun c10 => ?_)
  · have hw := hw.1 c10
    refine vBipush (pc := 17) (v := (-9)) hc dX1_fewestPools_17 kb_m9 ?_
    exact vIret (pc := 19) hc dX1_fewestPools_19 hw
  · have hw := hw.2 c10
    refine vIload_n (pc := 13) hc dX1_fewestPools_13 rfl ?_
    refine vGoto (pc := 14) (tgt := 19) hc dX1_fewestPools_14 (by decide) ?_
    exact vIret (pc := 19) hc dX1_fewestPools_19 hw
set_option maxRecDepth 100000 in
set_option maxHeartbeats 4000000 in
theorem c_X1_fewestPools {l : Launch} {E : WD} (hE : inj E) (hG : ∀ k, fdm k → k ∈ E.2.2.2) {x1 : Int32} {σ : MS} {Q : Int32 → MS → Prop} (hw : w_X1_fewestPools x1 σ Q) : Ci l E yX1_fewestPools cX1_fewestPools 3 (some .int) rm_X1_fewestPools [.ref (E.2.1 10), .int x1] σ Q :=
  Ct_of (by decide) rfl (by
    intro v hv
    simp only [List.mem_cons, List.not_mem_nil, or_false] at hv
    rcases hv with rfl | rfl <;> rfl) (Nat.le_of_ble_eq_true rfl) hE hG (fun p e s m below meth c hc => t_X1_fewestPools_E hc x1 σ hw)
def w_X1_choiceFor_E (Q : Int32 → MS → Prop) (x1 : Int32) (σ : MS) : Prop := ((vp_in x1 512) ∧ Q (σ 31 x1.toNatClampNeg) σ)
abbrev w_X1_choiceFor (x1 : Int32) (σ : MS) (Q : Int32 → MS → Prop) : Prop := w_X1_choiceFor_E Q x1 σ
abbrev rm_X1_choiceFor : Room := { frames := 0, cells := 0, slots := 0, locals := 0 }
theorem ok_X1_choiceFor : OkV yX1_choiceFor RX1 cX1_choiceFor 2 (some .int) 1 := ⟨tw_573, tw_574, tw_55, tw_575, rfl, by decide, by decide, by decide +kernel⟩
set_option maxRecDepth 100000 in
set_option maxHeartbeats 4000000 in
theorem t_X1_choiceFor_E {p : Program} {l : Launch} {e : Env} {s : State} {m : MethodId} {args : Array Value} {below : List Frame} {meth : Method} {c : Code} {E : WD} {Q : Int32 → MS → Prop} (hc : Cx p rm_X1_choiceFor s m args meth c E (AD E) cX1_choiceFor RX1 (some .int) 2 0 0 fdm) (x1 : Int32) (σ : MS) (hw : w_X1_choiceFor_E Q x1 σ) : V p l e rm_X1_choiceFor s m args below meth c E (AD E) 2 0 0 (MQ below (va_Qi Q (BW E) (AD E)) args s 0 0 (AD E)) σ 0 [some (.ref (E.2.1 10)), some (.int x1)] [] := by
  unfold w_X1_choiceFor_E at hw
  refine vAload_n (pc := 0) hc dX1_choiceFor_0 rfl ?_
  refine vGetR (pc := 1) (k := 10) (j := 2) hc rfl inG1 (hc.G 10 (Nat.le_of_ble_eq_true rfl)) rfl (Nat.le_of_ble_eq_true rfl) tw_271 rfl dX1_choiceFor_1 ?_
  refine vIload_n (pc := 4) hc dX1_choiceFor_4 rfl ?_
  obtain ⟨hi1, hw⟩ := hw
  refine vIald (pc := 5) (k := 31) hc (hc.G 31 (Nat.le_of_ble_eq_true rfl)) rfl rfl hi1 dX1_choiceFor_5 ?_
  exact vIret (pc := 6) hc dX1_choiceFor_6 hw
set_option maxRecDepth 100000 in
set_option maxHeartbeats 4000000 in
theorem c_X1_choiceFor {l : Launch} {E : WD} (hE : inj E) (hG : ∀ k, fdm k → k ∈ E.2.2.2) {x1 : Int32} {σ : MS} {Q : Int32 → MS → Prop} (hw : w_X1_choiceFor x1 σ Q) : Ci l E yX1_choiceFor cX1_choiceFor 2 (some .int) rm_X1_choiceFor [.ref (E.2.1 10), .int x1] σ Q :=
  Ct_of (by decide) rfl (by
    intro v hv
    simp only [List.mem_cons, List.not_mem_nil, or_false] at hv
    rcases hv with rfl | rfl <;> rfl) (Nat.le_of_ble_eq_true rfl) hE hG (fun p e s m below meth c hc => t_X1_choiceFor_E hc x1 σ hw)
def w_X2_size_E (Q : Int32 → MS → Prop) (σ : MS) : Prop := Q (σ 4 1) σ
abbrev w_X2_size (σ : MS) (Q : Int32 → MS → Prop) : Prop := w_X2_size_E Q  σ
abbrev rm_X2_size : Room := { frames := 0, cells := 0, slots := 0, locals := 0 }
theorem ok_X2_size : OkV yX2_size RX2 cX2_size 1 (some .int) 0 := ⟨tw_700, tw_701, tw_50, tw_702, rfl, by decide, by decide, by decide +kernel⟩
set_option maxRecDepth 100000 in
set_option maxHeartbeats 4000000 in
theorem t_X2_size_E {p : Program} {l : Launch} {e : Env} {s : State} {m : MethodId} {args : Array Value} {below : List Frame} {meth : Method} {c : Code} {E : WD} {Q : Int32 → MS → Prop} (hc : Cx p rm_X2_size s m args meth c E (AD E) cX2_size RX2 (some .int) 1 0 0 fdm) (σ : MS) (hw : w_X2_size_E Q  σ) : V p l e rm_X2_size s m args below meth c E (AD E) 1 0 0 (MQ below (va_Qi Q (BW E) (AD E)) args s 0 0 (AD E)) σ 0 [some (.ref (E.2.1 4))] [] := by
  unfold w_X2_size_E at hw
  refine vAload_n (pc := 0) hc dX2_size_0 rfl ?_
  refine vGetI (pc := 1) (k := 4) (j := 1) hc rfl inG2 (hc.G 4 (Nat.le_of_ble_eq_true rfl)) rfl (Nat.le_of_ble_eq_true rfl) tw_159 rfl dX2_size_1 ?_
  exact vIret (pc := 4) hc dX2_size_4 hw
set_option maxRecDepth 100000 in
set_option maxHeartbeats 4000000 in
theorem c_X2_size {l : Launch} {E : WD} (hE : inj E) (hG : ∀ k, fdm k → k ∈ E.2.2.2) {σ : MS} {Q : Int32 → MS → Prop} (hw : w_X2_size  σ Q) : Ci l E yX2_size cX2_size 1 (some .int) rm_X2_size [.ref (E.2.1 4)] σ Q :=
  Ct_of (by decide) rfl (by
    intro v hv
    simp only [List.mem_cons, List.not_mem_nil, or_false] at hv
    rcases hv with rfl <;> rfl) (Nat.le_of_ble_eq_true rfl) hE hG (fun p e s m below meth c hc => t_X2_size_E hc  σ hw)
def w_X2_isFull_E (Q : Int32 → MS → Prop) (σ : MS) : Prop := (((σ 4 1) < 9 → Q 0 σ) ∧ (¬ (σ 4 1) < 9 → Q 1 σ))
abbrev w_X2_isFull (σ : MS) (Q : Int32 → MS → Prop) : Prop := w_X2_isFull_E Q  σ
abbrev rm_X2_isFull : Room := { frames := 0, cells := 0, slots := 0, locals := 0 }
theorem ok_X2_isFull : OkV yX2_isFull RX2 cX2_isFull 1 (some .boolean) 0 := ⟨tw_364, tw_365, tw_50, tw_366, rfl, by decide, by decide, by decide +kernel⟩
set_option maxRecDepth 100000 in
set_option maxHeartbeats 4000000 in
theorem t_X2_isFull_E {p : Program} {l : Launch} {e : Env} {s : State} {m : MethodId} {args : Array Value} {below : List Frame} {meth : Method} {c : Code} {E : WD} {Q : Int32 → MS → Prop} (hc : Cx p rm_X2_isFull s m args meth c E (AD E) cX2_isFull RX2 (some .boolean) 1 0 0 fdm) (σ : MS) (hw : w_X2_isFull_E Q  σ) : V p l e rm_X2_isFull s m args below meth c E (AD E) 1 0 0 (MQ below (va_Qi Q (BW E) (AD E)) args s 0 0 (AD E)) σ 0 [some (.ref (E.2.1 4))] [] := by
  unfold w_X2_isFull_E at hw
  refine vAload_n (pc := 0) hc dX2_isFull_0 rfl ?_
  refine vGetI (pc := 1) (k := 4) (j := 1) hc rfl inG2 (hc.G 4 (Nat.le_of_ble_eq_true rfl)) rfl (Nat.le_of_ble_eq_true rfl) tw_159 rfl dX2_isFull_1 ?_
  refine vBipush (pc := 4) (v := 9) hc dX2_isFull_4 kb_9 ?_
  refine vIcmp_lt (pc := 6) (tgt := 13) hc dX2_isFull_6 (by decide) (fun c6 => ?_) (fun c6 => ?_)
  · have hw := hw.1 c6
    refine vIconst (pc := 13) (v := 0) hc dX2_isFull_13 ki_0 ?_
    exact vZret (pc := 14) hc dX2_isFull_14 (Or.inl rfl) hw
  · have hw := hw.2 c6
    refine vIconst (pc := 9) (v := 1) hc dX2_isFull_9 ki_1 ?_
    refine vGoto (pc := 10) (tgt := 14) hc dX2_isFull_10 (by decide) ?_
    exact vZret (pc := 14) hc dX2_isFull_14 (Or.inr rfl) hw
set_option maxRecDepth 100000 in
set_option maxHeartbeats 4000000 in
theorem c_X2_isFull {l : Launch} {E : WD} (hE : inj E) (hG : ∀ k, fdm k → k ∈ E.2.2.2) {σ : MS} {Q : Int32 → MS → Prop} (hw : w_X2_isFull  σ Q) : Ci l E yX2_isFull cX2_isFull 1 (some .boolean) rm_X2_isFull [.ref (E.2.1 4)] σ Q :=
  Ct_of (by decide) rfl (by
    intro v hv
    simp only [List.mem_cons, List.not_mem_nil, or_false] at hv
    rcases hv with rfl <;> rfl) (Nat.le_of_ble_eq_true rfl) hE hG (fun p e s m below meth c hc => t_X2_isFull_E hc  σ hw)
def w_X2_hasAll_E (Q : Int32 → MS → Prop) (x1 : Int32) (σ : MS) : Prop := ((x1 ≤ 0 → Q 0 σ) ∧ (¬ x1 ≤ 0 → ((¬ (x1 >>> ((σ 4 1) &&& 31)) = 0 → Q 0 σ) ∧ ((x1 >>> ((σ 4 1) &&& 31)) = 0 → Q 1 σ))))
abbrev w_X2_hasAll (x1 : Int32) (σ : MS) (Q : Int32 → MS → Prop) : Prop := w_X2_hasAll_E Q x1 σ
abbrev rm_X2_hasAll : Room := { frames := 0, cells := 0, slots := 0, locals := 0 }
theorem ok_X2_hasAll : OkV yX2_hasAll RX2 cX2_hasAll 2 (some .boolean) 1 := ⟨tw_415, tw_416, tw_50, tw_417, rfl, by decide, by decide, by decide +kernel⟩
set_option maxRecDepth 100000 in
set_option maxHeartbeats 4000000 in
theorem t_X2_hasAll_E {p : Program} {l : Launch} {e : Env} {s : State} {m : MethodId} {args : Array Value} {below : List Frame} {meth : Method} {c : Code} {E : WD} {Q : Int32 → MS → Prop} (hc : Cx p rm_X2_hasAll s m args meth c E (AD E) cX2_hasAll RX2 (some .boolean) 2 0 0 fdm) (x1 : Int32) (σ : MS) (hw : w_X2_hasAll_E Q x1 σ) : V p l e rm_X2_hasAll s m args below meth c E (AD E) 2 0 0 (MQ below (va_Qi Q (BW E) (AD E)) args s 0 0 (AD E)) σ 0 [some (.ref (E.2.1 4)), some (.int x1)] [] := by
  unfold w_X2_hasAll_E at hw
  refine vIload_n (pc := 0) hc dX2_hasAll_0 rfl ?_
  refine vIf_le (pc := 1) (tgt := 17) hc dX2_hasAll_1 (by decide) (fun c1 => ?_) (fun c1 => ?_)
  · have hw := hw.1 c1
    refine vIconst (pc := 17) (v := 0) hc dX2_hasAll_17 ki_0 ?_
    exact vZret (pc := 18) hc dX2_hasAll_18 (Or.inl rfl) hw
  · have hw := hw.2 c1
    refine vIload_n (pc := 4) hc dX2_hasAll_4 rfl ?_
    refine vAload_n (pc := 5) hc dX2_hasAll_5 rfl ?_
    refine vGetI (pc := 6) (k := 4) (j := 1) hc rfl inG2 (hc.G 4 (Nat.le_of_ble_eq_true rfl)) rfl (Nat.le_of_ble_eq_true rfl) tw_159 rfl dX2_hasAll_6 ?_
    refine vIshr (pc := 9) hc dX2_hasAll_9 ?_
    refine vIf_ne (pc := 10) (tgt := 17) hc dX2_hasAll_10 (by decide) (fun c10 => ?_) (fun c10 => ?_)
    · have hw := hw.1 c10
      refine vIconst (pc := 17) (v := 0) hc dX2_hasAll_17 ki_0 ?_
      exact vZret (pc := 18) hc dX2_hasAll_18 (Or.inl rfl) hw
    · have hw := hw.2 c10
      refine vIconst (pc := 13) (v := 1) hc dX2_hasAll_13 ki_1 ?_
      refine vGoto (pc := 14) (tgt := 18) hc dX2_hasAll_14 (by decide) ?_
      exact vZret (pc := 18) hc dX2_hasAll_18 (Or.inr rfl) hw
set_option maxRecDepth 100000 in
set_option maxHeartbeats 4000000 in
theorem c_X2_hasAll {l : Launch} {E : WD} (hE : inj E) (hG : ∀ k, fdm k → k ∈ E.2.2.2) {x1 : Int32} {σ : MS} {Q : Int32 → MS → Prop} (hw : w_X2_hasAll x1 σ Q) : Ci l E yX2_hasAll cX2_hasAll 2 (some .boolean) rm_X2_hasAll [.ref (E.2.1 4), .int x1] σ Q :=
  Ct_of (by decide) rfl (by
    intro v hv
    simp only [List.mem_cons, List.not_mem_nil, or_false] at hv
    rcases hv with rfl | rfl <;> rfl) (Nat.le_of_ble_eq_true rfl) hE hG (fun p e s m below meth c hc => t_X2_hasAll_E hc x1 σ hw)
def w_X2_addOne_E (Q : Int32 → MS → Prop) (σ : MS) : Prop := (∀ σ7, σ7 = mst σ 4 1 ((σ 4 1) + 1) → Q ((σ7 4 1) - 1) σ7)
abbrev w_X2_addOne (σ : MS) (Q : Int32 → MS → Prop) : Prop := w_X2_addOne_E Q  σ
abbrev rm_X2_addOne : Room := { frames := 0, cells := 0, slots := 0, locals := 0 }
theorem ok_X2_addOne : OkV yX2_addOne RX2 cX2_addOne 1 (some .int) 0 := ⟨tw_368, tw_369, tw_50, tw_370, rfl, by decide, by decide, by decide +kernel⟩
set_option maxRecDepth 100000 in
set_option maxHeartbeats 4000000 in
theorem t_X2_addOne_E {p : Program} {l : Launch} {e : Env} {s : State} {m : MethodId} {args : Array Value} {below : List Frame} {meth : Method} {c : Code} {E : WD} {Q : Int32 → MS → Prop} (hc : Cx p rm_X2_addOne s m args meth c E (AD E) cX2_addOne RX2 (some .int) 1 0 0 fdm) (σ : MS) (hw : w_X2_addOne_E Q  σ) : V p l e rm_X2_addOne s m args below meth c E (AD E) 1 0 0 (MQ below (va_Qi Q (BW E) (AD E)) args s 0 0 (AD E)) σ 0 [some (.ref (E.2.1 4))] [] := by
  unfold w_X2_addOne_E at hw
  refine vAload_n (pc := 0) hc dX2_addOne_0 rfl ?_
  refine vDup (pc := 1) hc dX2_addOne_1 rfl ?_
  refine vGetI (pc := 2) (k := 4) (j := 1) hc rfl inG2 (hc.G 4 (Nat.le_of_ble_eq_true rfl)) rfl (Nat.le_of_ble_eq_true rfl) tw_159 rfl dX2_addOne_2 ?_
  refine vIconst (pc := 5) (v := 1) hc dX2_addOne_5 ki_1 ?_
  refine vIadd (pc := 6) hc dX2_addOne_6 ?_
  refine vPut (pc := 7) (k := 4) (j := 1) hc rfl inG2 (hc.G 4 (Nat.le_of_ble_eq_true rfl)) rfl (Nat.le_of_ble_eq_true rfl) tyX2 tyX2_ok nmX2 tw_159 rfl rfl rfl rfl dX2_addOne_7 (fun σ7 eσ7 => ?_)
  have hw := hw σ7 eσ7
  refine vAload_n (pc := 10) hc dX2_addOne_10 rfl ?_
  refine vGetI (pc := 11) (k := 4) (j := 1) hc rfl inG2 (hc.G 4 (Nat.le_of_ble_eq_true rfl)) rfl (Nat.le_of_ble_eq_true rfl) tw_159 rfl dX2_addOne_11 ?_
  refine vIconst (pc := 14) (v := 1) hc dX2_addOne_14 ki_1 ?_
  refine vIsub (pc := 15) hc dX2_addOne_15 ?_
  exact vIret (pc := 16) hc dX2_addOne_16 hw
set_option maxRecDepth 100000 in
set_option maxHeartbeats 4000000 in
theorem c_X2_addOne {l : Launch} {E : WD} (hE : inj E) (hG : ∀ k, fdm k → k ∈ E.2.2.2) {σ : MS} {Q : Int32 → MS → Prop} (hw : w_X2_addOne  σ Q) : Ci l E yX2_addOne cX2_addOne 1 (some .int) rm_X2_addOne [.ref (E.2.1 4)] σ Q :=
  Ct_of (by decide) rfl (by
    intro v hv
    simp only [List.mem_cons, List.not_mem_nil, or_false] at hv
    rcases hv with rfl <;> rfl) (Nat.le_of_ble_eq_true rfl) hE hG (fun p e s m below meth c hc => t_X2_addOne_E hc  σ hw)
def w_X2_notAway_H4 (Q : Int32 → MS → Prop) : Nat → Int32 → Int32 → MS → Prop
  | 0, _, _, _ => False
  | n + 1, x1, x2, σ => (((σ 4 1) ≤ x2 → Q x1 σ) ∧ (¬ (σ 4 1) ≤ x2 → ((vp_in x2 9) ∧ ((37 ≤ (37 + x2.toNatClampNeg) ∧ (37 + x2.toNatClampNeg) < 46) ∧ ((¬ (σ (37 + x2.toNatClampNeg) 7) = 0 → w_X2_notAway_H4 Q n x1 (x2 + 1) σ) ∧ ((σ (37 + x2.toNatClampNeg) 7) = 0 → (∀ x1_29 : Int32, x1_29 = (x1 ||| ((1 : Int32) <<< (x2 &&& 31))) → w_X2_notAway_H4 Q n x1_29 (x2 + 1) σ)))))))
def w_X2_notAway_E (Q : Int32 → MS → Prop) (σ : MS) : Prop := (∃ n4, w_X2_notAway_H4 Q n4 0 0 σ)
abbrev w_X2_notAway (σ : MS) (Q : Int32 → MS → Prop) : Prop := w_X2_notAway_E Q  σ
abbrev rm_X2_notAway : Room := { frames := 0, cells := 0, slots := 0, locals := 0 }
theorem ok_X2_notAway : OkV yX2_notAway RX2 cX2_notAway 3 (some .int) 0 := ⟨tw_429, tw_430, tw_50, tw_431, rfl, by decide, by decide, by decide +kernel⟩
set_option maxRecDepth 100000 in
set_option maxHeartbeats 4000000 in
theorem t_X2_notAway_H4 {p : Program} {l : Launch} {e : Env} {s : State} {m : MethodId} {args : Array Value} {below : List Frame} {meth : Method} {c : Code} {E : WD} {Q : Int32 → MS → Prop} (hc : Cx p rm_X2_notAway s m args meth c E (AD E) cX2_notAway RX2 (some .int) 3 0 0 fdm) : ∀ (n : Nat) (x1 x2 : Int32) (σ : MS), w_X2_notAway_H4 Q n x1 x2 σ → V p l e rm_X2_notAway s m args below meth c E (AD E) 3 0 0 (MQ below (va_Qi Q (BW E) (AD E)) args s 0 0 (AD E)) σ 4 [some (.ref (E.2.1 4)), some (.int x1), some (.int x2)] [] := by
  intro n
  induction n with
  | zero =>
    intro x1 x2 σ hw
    exact hw.elim
  | succ n ih =>
    intro x1 x2 σ hw
    unfold w_X2_notAway_H4 at hw
    refine vIload_n (pc := 4) hc dX2_notAway_4 rfl ?_
    refine vAload_n (pc := 5) hc dX2_notAway_5 rfl ?_
    refine vGetI (pc := 6) (k := 4) (j := 1) hc rfl inG2 (hc.G 4 (Nat.le_of_ble_eq_true rfl)) rfl (Nat.le_of_ble_eq_true rfl) tw_159 rfl dX2_notAway_6 ?_
    refine vIcmp_ge (pc := 9) (tgt := 36) hc dX2_notAway_9 (by decide) (fun c9 => ?_) (fun c9 => ?_)
    · have hw := hw.1 c9
      refine vIload_n (pc := 36) hc dX2_notAway_36 rfl ?_
      exact vIret (pc := 37) hc dX2_notAway_37 hw
    · have hw := hw.2 c9
      refine vAload_n (pc := 12) hc dX2_notAway_12 rfl ?_
      refine vGetR (pc := 13) (k := 4) (j := 0) hc rfl inG2 (hc.G 4 (Nat.le_of_ble_eq_true rfl)) rfl (Nat.le_of_ble_eq_true rfl) tw_158 rfl dX2_notAway_13 ?_
      refine vIload_n (pc := 16) hc dX2_notAway_16 rfl ?_
      obtain ⟨hi1, hw⟩ := hw
      refine vAaldP (pc := 17) hc (hc.G 5 (Nat.le_of_ble_eq_true rfl)) hi1 dX2_notAway_17 ?_
      obtain ⟨hp2, hw⟩ := hw
      refine vGetIN (pc := 18) (k := (37 + x2.toNatClampNeg)) (j := 7) hc (pn_c hp2) inG3 (hc.G _ (pn_N hp2)) (pn_0 hp2) (Nat.le_of_ble_eq_true rfl) nw_15 (pn_j hp2 rfl) dX2_notAway_18 ?_
      refine vIf_ne (pc := 21) (tgt := 30) hc dX2_notAway_21 (by decide) (fun c21 => ?_) (fun c21 => ?_)
      · have hw := hw.1 c21
        refine vIinc (pc := 30) (v := x2 + 1) (L2 := [some (.ref (E.2.1 4)), some (.int x1), some (.int (x2 + 1))]) hc dX2_notAway_30 rfl rfl rfl (Nat.le_of_ble_eq_true rfl) ?_
        refine vGoto (pc := 33) (tgt := 4) hc dX2_notAway_33 (by decide) ?_
        exact vMono (L2 := [some (.ref (E.2.1 4)), some (.int x1), some (.int (x2 + 1))]) (show subL [some (.ref (E.2.1 4)), some (.int x1), some (.int (x2 + 1))] [some (.ref (E.2.1 4)), some (.int x1), some (.int (x2 + 1))] from ⟨rfl, ⟨rfl, ⟨rfl, trivial⟩⟩⟩) (ih x1 (x2 + 1) _ hw)
      · have hw := hw.2 c21
        refine vIload_n (pc := 24) hc dX2_notAway_24 rfl ?_
        refine vIconst (pc := 25) (v := 1) hc dX2_notAway_25 ki_1 ?_
        refine vIload_n (pc := 26) hc dX2_notAway_26 rfl ?_
        refine vIshl (pc := 27) hc dX2_notAway_27 ?_
        refine vIor (pc := 28) hc dX2_notAway_28 ?_
        obtain ⟨x1_29, ex1_29⟩ : ∃ z : Int32, z = x1 ||| ((1 : Int32) <<< (x2 &&& 31)) := ⟨_, rfl⟩
        have hw := hw x1_29 ex1_29
        refine vTop ex1_29 ?_
        refine vIstore_n (pc := 29) (L2 := [some (.ref (E.2.1 4)), some (.int x1_29), some (.int x2)]) hc dX2_notAway_29 rfl (Nat.le_of_ble_eq_true rfl) ?_
        refine vIinc (pc := 30) (v := x2 + 1) (L2 := [some (.ref (E.2.1 4)), some (.int x1_29), some (.int (x2 + 1))]) hc dX2_notAway_30 rfl rfl rfl (Nat.le_of_ble_eq_true rfl) ?_
        refine vGoto (pc := 33) (tgt := 4) hc dX2_notAway_33 (by decide) ?_
        exact vMono (L2 := [some (.ref (E.2.1 4)), some (.int x1_29), some (.int (x2 + 1))]) (show subL [some (.ref (E.2.1 4)), some (.int x1_29), some (.int (x2 + 1))] [some (.ref (E.2.1 4)), some (.int x1_29), some (.int (x2 + 1))] from ⟨rfl, ⟨rfl, ⟨rfl, trivial⟩⟩⟩) (ih x1_29 (x2 + 1) _ hw)
set_option maxRecDepth 100000 in
set_option maxHeartbeats 4000000 in
theorem t_X2_notAway_E {p : Program} {l : Launch} {e : Env} {s : State} {m : MethodId} {args : Array Value} {below : List Frame} {meth : Method} {c : Code} {E : WD} {Q : Int32 → MS → Prop} (hc : Cx p rm_X2_notAway s m args meth c E (AD E) cX2_notAway RX2 (some .int) 3 0 0 fdm) (σ : MS) (hw : w_X2_notAway_E Q  σ) : V p l e rm_X2_notAway s m args below meth c E (AD E) 3 0 0 (MQ below (va_Qi Q (BW E) (AD E)) args s 0 0 (AD E)) σ 0 [some (.ref (E.2.1 4)), none, none] [] := by
  unfold w_X2_notAway_E at hw
  refine vIconst (pc := 0) (v := 0) hc dX2_notAway_0 ki_0 ?_
  refine vIstore_n (pc := 1) (L2 := [some (.ref (E.2.1 4)), some (.int 0), none]) hc dX2_notAway_1 rfl (Nat.le_of_ble_eq_true rfl) ?_
  refine vIconst (pc := 2) (v := 0) hc dX2_notAway_2 ki_0 ?_
  refine vIstore_n (pc := 3) (L2 := [some (.ref (E.2.1 4)), some (.int 0), some (.int 0)]) hc dX2_notAway_3 rfl (Nat.le_of_ble_eq_true rfl) ?_
  obtain ⟨n4, hw⟩ := hw
  exact vMono (L2 := [some (.ref (E.2.1 4)), some (.int 0), some (.int 0)]) (show subL [some (.ref (E.2.1 4)), some (.int 0), some (.int 0)] [some (.ref (E.2.1 4)), some (.int 0), some (.int 0)] from ⟨rfl, ⟨rfl, ⟨rfl, trivial⟩⟩⟩) (t_X2_notAway_H4 hc  n4 0 0 _ hw)
set_option maxRecDepth 100000 in
set_option maxHeartbeats 4000000 in
theorem c_X2_notAway {l : Launch} {E : WD} (hE : inj E) (hG : ∀ k, fdm k → k ∈ E.2.2.2) {σ : MS} {Q : Int32 → MS → Prop} (hw : w_X2_notAway  σ Q) : Ci l E yX2_notAway cX2_notAway 3 (some .int) rm_X2_notAway [.ref (E.2.1 4)] σ Q :=
  Ct_of (by decide) rfl (by
    intro v hv
    simp only [List.mem_cons, List.not_mem_nil, or_false] at hv
    rcases hv with rfl <;> rfl) (Nat.le_of_ble_eq_true rfl) hE hG (fun p e s m below meth c hc => t_X2_notAway_E hc  σ hw)
def w_X2_someAway_E (Q : Int32 → MS → Prop) (x1 : Int32) (σ : MS) : Prop := w_X2_notAway  σ (fun r2 σ2 => (((x1 &&& (r2 ^^^ (-1))) = 0 → Q 0 σ2) ∧ (¬ (x1 &&& (r2 ^^^ (-1))) = 0 → Q 1 σ2)))
abbrev w_X2_someAway (x1 : Int32) (σ : MS) (Q : Int32 → MS → Prop) : Prop := w_X2_someAway_E Q x1 σ
abbrev rm_X2_someAway : Room := { frames := 1, cells := 0, slots := 0, locals := 22 }
theorem ok_X2_someAway : OkV yX2_someAway RX2 cX2_someAway 2 (some .boolean) 1 := ⟨tw_425, tw_426, tw_50, tw_427, rfl, by decide, by decide, by decide +kernel⟩
set_option maxRecDepth 100000 in
set_option maxHeartbeats 4000000 in
theorem t_X2_someAway_E {p : Program} {l : Launch} {e : Env} {s : State} {m : MethodId} {args : Array Value} {below : List Frame} {meth : Method} {c : Code} {E : WD} {Q : Int32 → MS → Prop} (hc : Cx p rm_X2_someAway s m args meth c E (AD E) cX2_someAway RX2 (some .boolean) 2 0 0 fdm) (x1 : Int32) (σ : MS) (hw : w_X2_someAway_E Q x1 σ) : V p l e rm_X2_someAway s m args below meth c E (AD E) 2 0 0 (MQ below (va_Qi Q (BW E) (AD E)) args s 0 0 (AD E)) σ 0 [some (.ref (E.2.1 4)), some (.int x1)] [] := by
  unfold w_X2_someAway_E at hw
  refine vIload_n (pc := 0) hc dX2_someAway_0 rfl ?_
  refine vAload_n (pc := 1) hc dX2_someAway_1 rfl ?_
  refine vCallVi (pc := 2) (st := [(.int x1)]) hc ok_X2_notAway tw_428 (c_X2_notAway hc.2.2.2.2.2.2.1 hc.G hw) (hc.G 4 (Nat.le_of_ble_eq_true rfl)) rfl rfl rfl ⟨rfl, rfl⟩ ⟨Nat.le_of_ble_eq_true rfl, Nat.le_of_ble_eq_true rfl⟩ rfl (Nat.le_of_ble_eq_true rfl) dX2_someAway_2 (fun r2 σ2 hw => ?_)
  refine vIconst (pc := 5) (v := (-1)) hc dX2_someAway_5 ki_m1 ?_
  refine vIxor (pc := 6) hc dX2_someAway_6 ?_
  refine vIand (pc := 7) hc dX2_someAway_7 ?_
  refine vIf_eq (pc := 8) (tgt := 15) hc dX2_someAway_8 (by decide) (fun c8 => ?_) (fun c8 => ?_)
  · have hw := hw.1 c8
    refine vIconst (pc := 15) (v := 0) hc dX2_someAway_15 ki_0 ?_
    exact vZret (pc := 16) hc dX2_someAway_16 (Or.inl rfl) hw
  · have hw := hw.2 c8
    refine vIconst (pc := 11) (v := 1) hc dX2_someAway_11 ki_1 ?_
    refine vGoto (pc := 12) (tgt := 16) hc dX2_someAway_12 (by decide) ?_
    exact vZret (pc := 16) hc dX2_someAway_16 (Or.inr rfl) hw
set_option maxRecDepth 100000 in
set_option maxHeartbeats 4000000 in
theorem c_X2_someAway {l : Launch} {E : WD} (hE : inj E) (hG : ∀ k, fdm k → k ∈ E.2.2.2) {x1 : Int32} {σ : MS} {Q : Int32 → MS → Prop} (hw : w_X2_someAway x1 σ Q) : Ci l E yX2_someAway cX2_someAway 2 (some .boolean) rm_X2_someAway [.ref (E.2.1 4), .int x1] σ Q :=
  Ct_of (by decide) rfl (by
    intro v hv
    simp only [List.mem_cons, List.not_mem_nil, or_false] at hv
    rcases hv with rfl | rfl <;> rfl) (Nat.le_of_ble_eq_true rfl) hE hG (fun p e s m below meth c hc => t_X2_someAway_E hc x1 σ hw)
def w_X2_withCar_H4 (Q : Int32 → MS → Prop) : Nat → Int32 → Int32 → MS → Prop
  | 0, _, _, _ => False
  | n + 1, x1, x2, σ => (((σ 4 1) ≤ x2 → Q x1 σ) ∧ (¬ (σ 4 1) ≤ x2 → ((vp_in x2 9) ∧ ((37 ≤ (37 + x2.toNatClampNeg) ∧ (37 + x2.toNatClampNeg) < 46) ∧ w_X3_hasCar (37 + x2.toNatClampNeg) σ (fun r18 σ18 => ((r18 = 0 → w_X2_withCar_H4 Q n x1 (x2 + 1) σ18) ∧ (¬ r18 = 0 → w_X2_withCar_H4 Q n (x1 + 1) (x2 + 1) σ18)))))))
def w_X2_withCar_E (Q : Int32 → MS → Prop) (σ : MS) : Prop := (∃ n4, w_X2_withCar_H4 Q n4 0 0 σ)
abbrev w_X2_withCar (σ : MS) (Q : Int32 → MS → Prop) : Prop := w_X2_withCar_E Q  σ
abbrev rm_X2_withCar : Room := { frames := 1, cells := 0, slots := 0, locals := 20 }
theorem ok_X2_withCar : OkV yX2_withCar RX2 cX2_withCar 3 (some .int) 0 := ⟨tw_704, tw_705, tw_50, tw_706, rfl, by decide, by decide, by decide +kernel⟩
set_option maxRecDepth 100000 in
set_option maxHeartbeats 4000000 in
theorem t_X2_withCar_H4 {p : Program} {l : Launch} {e : Env} {s : State} {m : MethodId} {args : Array Value} {below : List Frame} {meth : Method} {c : Code} {E : WD} {Q : Int32 → MS → Prop} (hc : Cx p rm_X2_withCar s m args meth c E (AD E) cX2_withCar RX2 (some .int) 3 0 0 fdm) : ∀ (n : Nat) (x1 x2 : Int32) (σ : MS), w_X2_withCar_H4 Q n x1 x2 σ → V p l e rm_X2_withCar s m args below meth c E (AD E) 3 0 0 (MQ below (va_Qi Q (BW E) (AD E)) args s 0 0 (AD E)) σ 4 [some (.ref (E.2.1 4)), some (.int x1), some (.int x2)] [] := by
  intro n
  induction n with
  | zero =>
    intro x1 x2 σ hw
    exact hw.elim
  | succ n ih =>
    intro x1 x2 σ hw
    unfold w_X2_withCar_H4 at hw
    refine vIload_n (pc := 4) hc dX2_withCar_4 rfl ?_
    refine vAload_n (pc := 5) hc dX2_withCar_5 rfl ?_
    refine vGetI (pc := 6) (k := 4) (j := 1) hc rfl inG2 (hc.G 4 (Nat.le_of_ble_eq_true rfl)) rfl (Nat.le_of_ble_eq_true rfl) tw_159 rfl dX2_withCar_6 ?_
    refine vIcmp_ge (pc := 9) (tgt := 33) hc dX2_withCar_9 (by decide) (fun c9 => ?_) (fun c9 => ?_)
    · have hw := hw.1 c9
      refine vIload_n (pc := 33) hc dX2_withCar_33 rfl ?_
      exact vIret (pc := 34) hc dX2_withCar_34 hw
    · have hw := hw.2 c9
      refine vAload_n (pc := 12) hc dX2_withCar_12 rfl ?_
      refine vGetR (pc := 13) (k := 4) (j := 0) hc rfl inG2 (hc.G 4 (Nat.le_of_ble_eq_true rfl)) rfl (Nat.le_of_ble_eq_true rfl) tw_158 rfl dX2_withCar_13 ?_
      refine vIload_n (pc := 16) hc dX2_withCar_16 rfl ?_
      obtain ⟨hi1, hw⟩ := hw
      refine vAaldP (pc := 17) hc (hc.G 5 (Nat.le_of_ble_eq_true rfl)) hi1 dX2_withCar_17 ?_
      obtain ⟨hp2, hw⟩ := hw
      refine vCallVi (pc := 18) (st := []) hc ok_X3_hasCar tw_707 (c_X3_hasCar hc.2.2.2.2.2.2.1 hc.G hw) (hc.G _ (pn_N hp2)) (pn_0 hp2) (pn_c hp2) rfl ⟨rfl, rfl⟩ ⟨Nat.le_of_ble_eq_true rfl, Nat.le_of_ble_eq_true rfl⟩ rfl (Nat.le_of_ble_eq_true rfl) dX2_withCar_18 (fun r18 σ18 hw => ?_)
      refine vIf_eq (pc := 21) (tgt := 27) hc dX2_withCar_21 (by decide) (fun c21 => ?_) (fun c21 => ?_)
      · have hw := hw.1 c21
        refine vIinc (pc := 27) (v := x2 + 1) (L2 := [some (.ref (E.2.1 4)), some (.int x1), some (.int (x2 + 1))]) hc dX2_withCar_27 rfl rfl rfl (Nat.le_of_ble_eq_true rfl) ?_
        refine vGoto (pc := 30) (tgt := 4) hc dX2_withCar_30 (by decide) ?_
        exact vMono (L2 := [some (.ref (E.2.1 4)), some (.int x1), some (.int (x2 + 1))]) (show subL [some (.ref (E.2.1 4)), some (.int x1), some (.int (x2 + 1))] [some (.ref (E.2.1 4)), some (.int x1), some (.int (x2 + 1))] from ⟨rfl, ⟨rfl, ⟨rfl, trivial⟩⟩⟩) (ih x1 (x2 + 1) _ hw)
      · have hw := hw.2 c21
        refine vIinc (pc := 24) (v := x1 + 1) (L2 := [some (.ref (E.2.1 4)), some (.int (x1 + 1)), some (.int x2)]) hc dX2_withCar_24 rfl rfl rfl (Nat.le_of_ble_eq_true rfl) ?_
        refine vIinc (pc := 27) (v := x2 + 1) (L2 := [some (.ref (E.2.1 4)), some (.int (x1 + 1)), some (.int (x2 + 1))]) hc dX2_withCar_27 rfl rfl rfl (Nat.le_of_ble_eq_true rfl) ?_
        refine vGoto (pc := 30) (tgt := 4) hc dX2_withCar_30 (by decide) ?_
        exact vMono (L2 := [some (.ref (E.2.1 4)), some (.int (x1 + 1)), some (.int (x2 + 1))]) (show subL [some (.ref (E.2.1 4)), some (.int (x1 + 1)), some (.int (x2 + 1))] [some (.ref (E.2.1 4)), some (.int (x1 + 1)), some (.int (x2 + 1))] from ⟨rfl, ⟨rfl, ⟨rfl, trivial⟩⟩⟩) (ih (x1 + 1) (x2 + 1) _ hw)
set_option maxRecDepth 100000 in
set_option maxHeartbeats 4000000 in
theorem t_X2_withCar_E {p : Program} {l : Launch} {e : Env} {s : State} {m : MethodId} {args : Array Value} {below : List Frame} {meth : Method} {c : Code} {E : WD} {Q : Int32 → MS → Prop} (hc : Cx p rm_X2_withCar s m args meth c E (AD E) cX2_withCar RX2 (some .int) 3 0 0 fdm) (σ : MS) (hw : w_X2_withCar_E Q  σ) : V p l e rm_X2_withCar s m args below meth c E (AD E) 3 0 0 (MQ below (va_Qi Q (BW E) (AD E)) args s 0 0 (AD E)) σ 0 [some (.ref (E.2.1 4)), none, none] [] := by
  unfold w_X2_withCar_E at hw
  refine vIconst (pc := 0) (v := 0) hc dX2_withCar_0 ki_0 ?_
  refine vIstore_n (pc := 1) (L2 := [some (.ref (E.2.1 4)), some (.int 0), none]) hc dX2_withCar_1 rfl (Nat.le_of_ble_eq_true rfl) ?_
  refine vIconst (pc := 2) (v := 0) hc dX2_withCar_2 ki_0 ?_
  refine vIstore_n (pc := 3) (L2 := [some (.ref (E.2.1 4)), some (.int 0), some (.int 0)]) hc dX2_withCar_3 rfl (Nat.le_of_ble_eq_true rfl) ?_
  obtain ⟨n4, hw⟩ := hw
  exact vMono (L2 := [some (.ref (E.2.1 4)), some (.int 0), some (.int 0)]) (show subL [some (.ref (E.2.1 4)), some (.int 0), some (.int 0)] [some (.ref (E.2.1 4)), some (.int 0), some (.int 0)] from ⟨rfl, ⟨rfl, ⟨rfl, trivial⟩⟩⟩) (t_X2_withCar_H4 hc  n4 0 0 _ hw)
set_option maxRecDepth 100000 in
set_option maxHeartbeats 4000000 in
theorem c_X2_withCar {l : Launch} {E : WD} (hE : inj E) (hG : ∀ k, fdm k → k ∈ E.2.2.2) {σ : MS} {Q : Int32 → MS → Prop} (hw : w_X2_withCar  σ Q) : Ci l E yX2_withCar cX2_withCar 3 (some .int) rm_X2_withCar [.ref (E.2.1 4)] σ Q :=
  Ct_of (by decide) rfl (by
    intro v hv
    simp only [List.mem_cons, List.not_mem_nil, or_false] at hv
    rcases hv with rfl <;> rfl) (Nat.le_of_ble_eq_true rfl) hE hG (fun p e s m below meth c hc => t_X2_withCar_E hc  σ hw)
def w_X4_isMade_E (Q : Int32 → MS → Prop) (σ : MS) : Prop := (zb (σ 11 0) ∧ Q (σ 11 0) σ)
abbrev w_X4_isMade (σ : MS) (Q : Int32 → MS → Prop) : Prop := w_X4_isMade_E Q  σ
abbrev rm_X4_isMade : Room := { frames := 0, cells := 0, slots := 0, locals := 0 }
theorem ok_X4_isMade : OkV yX4_isMade RX4 cX4_isMade 1 (some .boolean) 0 := ⟨tw_605, tw_606, tw_56, tw_607, rfl, by decide, by decide, by decide +kernel⟩
set_option maxRecDepth 100000 in
set_option maxHeartbeats 4000000 in
theorem t_X4_isMade_E {p : Program} {l : Launch} {e : Env} {s : State} {m : MethodId} {args : Array Value} {below : List Frame} {meth : Method} {c : Code} {E : WD} {Q : Int32 → MS → Prop} (hc : Cx p rm_X4_isMade s m args meth c E (AD E) cX4_isMade RX4 (some .boolean) 1 0 0 fdm) (σ : MS) (hw : w_X4_isMade_E Q  σ) : V p l e rm_X4_isMade s m args below meth c E (AD E) 1 0 0 (MQ below (va_Qi Q (BW E) (AD E)) args s 0 0 (AD E)) σ 0 [some (.ref (E.2.1 11))] [] := by
  unfold w_X4_isMade_E at hw
  refine vAload_n (pc := 0) hc dX4_isMade_0 rfl ?_
  refine vGetI (pc := 1) (k := 11) (j := 0) hc rfl inG4 (hc.G 11 (Nat.le_of_ble_eq_true rfl)) rfl (Nat.le_of_ble_eq_true rfl) tw_285 rfl dX4_isMade_1 ?_
  exact vZret (pc := 4) hc dX4_isMade_4 hw.1 hw.2
set_option maxRecDepth 100000 in
set_option maxHeartbeats 4000000 in
theorem c_X4_isMade {l : Launch} {E : WD} (hE : inj E) (hG : ∀ k, fdm k → k ∈ E.2.2.2) {σ : MS} {Q : Int32 → MS → Prop} (hw : w_X4_isMade  σ Q) : Ci l E yX4_isMade cX4_isMade 1 (some .boolean) rm_X4_isMade [.ref (E.2.1 11)] σ Q :=
  Ct_of (by decide) rfl (by
    intro v hv
    simp only [List.mem_cons, List.not_mem_nil, or_false] at hv
    rcases hv with rfl <;> rfl) (Nat.le_of_ble_eq_true rfl) hE hG (fun p e s m below meth c hc => t_X4_isMade_E hc  σ hw)
def w_J7_fill_53178_H5 (dm : Nat → Prop) (Q : MS → Prop) : Nat → Nat → Int32 → Int32 → Int32 → MS → Prop
  | 0, _, _, _, _, _ => False
  | n + 1, k0, x1, x2, x3, σ => ((x3 ≤ x2 → Q σ) ∧ (¬ x3 ≤ x2 → ((dm k0 ∧ knd k0 = 1) ∧ ((vp_in x2 (alen k0)) ∧ (∀ σ13, σ13 = mst σ k0 x2.toNatClampNeg x1 → w_J7_fill_53178_H5 dm Q n k0 x1 (x2 + 1) x3 σ13)))))
def w_J7_fill_53178_E (dm : Nat → Prop) (Q : MS → Prop) (k0 : Nat) (x1 : Int32) (σ : MS) : Prop := ((dm k0 ∧ knd k0 = 1) ∧ (∀ x3_4 : Int32, x3_4 = (Int32.ofNat (alen k0)) → (∃ n5, w_J7_fill_53178_H5 dm Q n5 k0 x1 0 x3_4 σ)))
abbrev w_J7_fill_53178 (dm : Nat → Prop) (k0 : Nat) (x1 : Int32) (σ : MS) (Q : MS → Prop) : Prop := w_J7_fill_53178_E dm Q k0 x1 σ
abbrev rm_J7_fill_53178 : Room := { frames := 0, cells := 0, slots := 0, locals := 0 }
theorem ok_J7_fill_53178 : OkS yJ7_fill_53178 cJ7_fill_53178 4 none 2 := ⟨tw_76, tw_47, tw_77, by decide, by decide, by decide +kernel⟩
set_option maxRecDepth 100000 in
set_option maxHeartbeats 4000000 in
theorem t_J7_fill_53178_H5 {p : Program} {l : Launch} {e : Env} {s : State} {m : MethodId} {args : Array Value} {below : List Frame} {meth : Method} {c : Code} {E : WD} {Q : MS → Prop} {dm : Nat → Prop} (hc : Cx p rm_J7_fill_53178 s m args meth c E (AD E) cJ7_fill_53178 RJ7 none 4 0 0 dm) : ∀ (n : Nat) (k0 : Nat) (x1 x2 x3 : Int32) (σ : MS), w_J7_fill_53178_H5 dm Q n k0 x1 x2 x3 σ → V p l e rm_J7_fill_53178 s m args below meth c E (AD E) 4 0 0 (MQ below (va_Qv Q (BW E) (AD E)) args s 0 0 (AD E)) σ 5 [some (.ref (E.2.1 k0)), some (.int x1), some (.int x2), some (.int x3)] [] := by
  intro n
  induction n with
  | zero =>
    intro k0 x1 x2 x3 σ hw
    exact hw.elim
  | succ n ih =>
    intro k0 x1 x2 x3 σ hw
    unfold w_J7_fill_53178_H5 at hw
    refine vIload_n (pc := 5) hc dJ7_fill_53178_5 rfl ?_
    refine vIload_n (pc := 6) hc dJ7_fill_53178_6 rfl ?_
    refine vIcmp_ge (pc := 7) (tgt := 20) hc dJ7_fill_53178_7 (by decide) (fun c7 => ?_) (fun c7 => ?_)
    · have hw := hw.1 c7
      exact vVret (pc := 20) hc dJ7_fill_53178_20 hw
    · have hw := hw.2 c7
      refine vAload_n (pc := 10) hc dJ7_fill_53178_10 rfl ?_
      refine vIload_n (pc := 11) hc dJ7_fill_53178_11 rfl ?_
      refine vIload_n (pc := 12) hc dJ7_fill_53178_12 rfl ?_
      obtain ⟨hp1, hw⟩ := hw
      obtain ⟨hi2, hw⟩ := hw
      refine vIast (pc := 13) (k := k0) hc (hc.G _ hp1.1) hp1.2 rfl hi2 dJ7_fill_53178_13 (fun σ13 eσ13 => ?_)
      have hw := hw σ13 eσ13
      refine vIinc (pc := 14) (v := x2 + 1) (L2 := [some (.ref (E.2.1 k0)), some (.int x1), some (.int (x2 + 1)), some (.int x3)]) hc dJ7_fill_53178_14 rfl rfl rfl (Nat.le_of_ble_eq_true rfl) ?_
      refine vGoto (pc := 17) (tgt := 5) hc dJ7_fill_53178_17 (by decide) ?_
      exact vMono (L2 := [some (.ref (E.2.1 k0)), some (.int x1), some (.int (x2 + 1)), some (.int x3)]) (show subL [some (.ref (E.2.1 k0)), some (.int x1), some (.int (x2 + 1)), some (.int x3)] [some (.ref (E.2.1 k0)), some (.int x1), some (.int (x2 + 1)), some (.int x3)] from ⟨rfl, ⟨rfl, ⟨rfl, ⟨rfl, trivial⟩⟩⟩⟩) (ih k0 x1 (x2 + 1) x3 _ hw)
set_option maxRecDepth 100000 in
set_option maxHeartbeats 4000000 in
theorem t_J7_fill_53178_E {p : Program} {l : Launch} {e : Env} {s : State} {m : MethodId} {args : Array Value} {below : List Frame} {meth : Method} {c : Code} {E : WD} {Q : MS → Prop} {dm : Nat → Prop} (hc : Cx p rm_J7_fill_53178 s m args meth c E (AD E) cJ7_fill_53178 RJ7 none 4 0 0 dm) (k0 : Nat) (x1 : Int32) (σ : MS) (hw : w_J7_fill_53178_E dm Q k0 x1 σ) : V p l e rm_J7_fill_53178 s m args below meth c E (AD E) 4 0 0 (MQ below (va_Qv Q (BW E) (AD E)) args s 0 0 (AD E)) σ 0 [some (.ref (E.2.1 k0)), some (.int x1), none, none] [] := by
  unfold w_J7_fill_53178_E at hw
  refine vIconst (pc := 0) (v := 0) hc dJ7_fill_53178_0 ki_0 ?_
  refine vIstore_n (pc := 1) (L2 := [some (.ref (E.2.1 k0)), some (.int x1), some (.int 0), none]) hc dJ7_fill_53178_1 rfl (Nat.le_of_ble_eq_true rfl) ?_
  refine vAload_n (pc := 2) hc dJ7_fill_53178_2 rfl ?_
  obtain ⟨hp1, hw⟩ := hw
  refine vAlen (pc := 3) (k := k0) hc (hc.G _ hp1.1) hp1.2 rfl rfl dJ7_fill_53178_3 ?_
  obtain ⟨x3_4, ex3_4⟩ : ∃ z : Int32, z = Int32.ofNat (alen k0) := ⟨_, rfl⟩
  have hw := hw x3_4 ex3_4
  refine vTop ex3_4 ?_
  refine vIstore_n (pc := 4) (L2 := [some (.ref (E.2.1 k0)), some (.int x1), some (.int 0), some (.int x3_4)]) hc dJ7_fill_53178_4 rfl (Nat.le_of_ble_eq_true rfl) ?_
  obtain ⟨n5, hw⟩ := hw
  exact vMono (L2 := [some (.ref (E.2.1 k0)), some (.int x1), some (.int 0), some (.int x3_4)]) (show subL [some (.ref (E.2.1 k0)), some (.int x1), some (.int 0), some (.int x3_4)] [some (.ref (E.2.1 k0)), some (.int x1), some (.int 0), some (.int x3_4)] from ⟨rfl, ⟨rfl, ⟨rfl, ⟨rfl, trivial⟩⟩⟩⟩) (t_J7_fill_53178_H5 hc  n5 k0 x1 0 x3_4 _ hw)
set_option maxRecDepth 100000 in
set_option maxHeartbeats 4000000 in
theorem c_J7_fill_53178 {l : Launch} {E : WD} (hE : inj E) {dm : Nat → Prop} (hG : ∀ k, dm k → k ∈ E.2.2.2) {k0 : Nat} {x1 : Int32} {σ : MS} {Q : MS → Prop} (hw : w_J7_fill_53178 dm k0 x1 σ Q) : Cv l E yJ7_fill_53178 cJ7_fill_53178 4 none rm_J7_fill_53178 [.ref (E.2.1 k0), .int x1] σ Q :=
  Ct_of (by decide) rfl (by
    intro v hv
    simp only [List.mem_cons, List.not_mem_nil, or_false] at hv
    rcases hv with rfl | rfl <;> rfl) (Nat.le_of_ble_eq_true rfl) hE hG (fun p e s m below meth c hc => t_J7_fill_53178_E hc k0 x1 σ hw)
def w_X4_begin_E (Q : MS → Prop) (σ : MS) : Prop := (∀ σ2, σ2 = mst σ 11 0 1 → (∀ σ7, σ7 = mst σ2 11 1 0 → w_J7_fill_53178 fdm 32 0 σ7 (fun σ15 => Q σ15)))
abbrev w_X4_begin (σ : MS) (Q : MS → Prop) : Prop := w_X4_begin_E Q  σ
abbrev rm_X4_begin : Room := { frames := 1, cells := 0, slots := 0, locals := 23 }
theorem ok_X4_begin : OkV yX4_begin RX4 cX4_begin 1 none 0 := ⟨tw_568, tw_569, tw_56, tw_570, rfl, by decide, by decide, by decide +kernel⟩
set_option maxRecDepth 100000 in
set_option maxHeartbeats 4000000 in
theorem t_X4_begin_E {p : Program} {l : Launch} {e : Env} {s : State} {m : MethodId} {args : Array Value} {below : List Frame} {meth : Method} {c : Code} {E : WD} {Q : MS → Prop} (hc : Cx p rm_X4_begin s m args meth c E (AD E) cX4_begin RX4 none 1 0 0 fdm) (σ : MS) (hw : w_X4_begin_E Q  σ) : V p l e rm_X4_begin s m args below meth c E (AD E) 1 0 0 (MQ below (va_Qv Q (BW E) (AD E)) args s 0 0 (AD E)) σ 0 [some (.ref (E.2.1 11))] [] := by
  unfold w_X4_begin_E at hw
  refine vAload_n (pc := 0) hc dX4_begin_0 rfl ?_
  refine vIconst (pc := 1) (v := 1) hc dX4_begin_1 ki_1 ?_
  refine vPut (pc := 2) (k := 11) (j := 0) hc rfl inG4 (hc.G 11 (Nat.le_of_ble_eq_true rfl)) rfl (Nat.le_of_ble_eq_true rfl) tyX4 tyX4_ok nmX4 tw_285 rfl rfl (zb_nar (Or.inr rfl)) (zb_fit (Or.inr rfl)) dX4_begin_2 (fun σ2 eσ2 => ?_)
  have hw := hw σ2 eσ2
  refine vAload_n (pc := 5) hc dX4_begin_5 rfl ?_
  refine vIconst (pc := 6) (v := 0) hc dX4_begin_6 ki_0 ?_
  refine vPut (pc := 7) (k := 11) (j := 1) hc rfl inG4 (hc.G 11 (Nat.le_of_ble_eq_true rfl)) rfl (Nat.le_of_ble_eq_true rfl) tyX4 tyX4_ok nmX4 tw_286 rfl rfl rfl rfl dX4_begin_7 (fun σ7 eσ7 => ?_)
  have hw := hw σ7 eσ7
  refine vAload_n (pc := 10) hc dX4_begin_10 rfl ?_
  refine vGetR (pc := 11) (k := 11) (j := 2) hc rfl inG4 (hc.G 11 (Nat.le_of_ble_eq_true rfl)) rfl (Nat.le_of_ble_eq_true rfl) tw_287 rfl dX4_begin_11 ?_
  refine vIconst (pc := 14) (v := 0) hc dX4_begin_14 ki_0 ?_
  refine vCallSv (pc := 15) (st := []) hc ok_J7_fill_53178 tw_571 (c_J7_fill_53178 hc.2.2.2.2.2.2.1 hc.G hw) rfl ⟨rfl, rfl⟩ ⟨Nat.le_of_ble_eq_true rfl, Nat.le_of_ble_eq_true rfl⟩ rfl (Nat.le_of_ble_eq_true rfl) dX4_begin_15 (fun σ15 hw => ?_)
  exact vVret (pc := 18) hc dX4_begin_18 hw
set_option maxRecDepth 100000 in
set_option maxHeartbeats 4000000 in
theorem c_X4_begin {l : Launch} {E : WD} (hE : inj E) (hG : ∀ k, fdm k → k ∈ E.2.2.2) {σ : MS} {Q : MS → Prop} (hw : w_X4_begin  σ Q) : Cv l E yX4_begin cX4_begin 1 none rm_X4_begin [.ref (E.2.1 11)] σ Q :=
  Ct_of (by decide) rfl (by
    intro v hv
    simp only [List.mem_cons, List.not_mem_nil, or_false] at hv
    rcases hv with rfl <;> rfl) (Nat.le_of_ble_eq_true rfl) hE hG (fun p e s m below meth c hc => t_X4_begin_E hc  σ hw)
def w_X4_put_H3 (Q : MS → Prop) : Nat → Int32 → Int32 → Int32 → MS → Prop
  | 0, _, _, _, _ => False
  | n + 1, x1, x2, x4, σ => (((σ 8 0) ≤ x4 → Q σ) ∧ (¬ (σ 8 0) ≤ x4 → ((vp_in x4 4) ∧ (∀ x5_19 : Int32, x5_19 = (σ 18 x4.toNatClampNeg) → ((vp_in x5_19 9) ∧ (∀ σ28, σ28 = mst σ 32 x5_19.toNatClampNeg x1 → (∀ σ36, σ36 = mst σ28 33 x5_19.toNatClampNeg x2 → (∀ σ47, σ47 = mst σ36 34 x5_19.toNatClampNeg (σ36 8 6) → (∀ σ66, σ66 = mst σ47 35 x5_19.toNatClampNeg ((σ47 8 7) + (σ47 21 x4.toNatClampNeg)) → (∀ σ85, σ85 = mst σ66 36 x5_19.toNatClampNeg ((σ66 8 7) + (σ66 22 x4.toNatClampNeg)) → w_X4_put_H3 Q n x1 x2 (x4 + 1) σ85))))))))))
def w_X4_put_E (Q : MS → Prop) (x1 x2 : Int32) (σ : MS) : Prop := (∃ n3, w_X4_put_H3 Q n3 x1 x2 0 σ)
abbrev w_X4_put (x1 x2 : Int32) (σ : MS) (Q : MS → Prop) : Prop := w_X4_put_E Q x1 x2 σ
abbrev rm_X4_put : Room := { frames := 0, cells := 0, slots := 0, locals := 0 }
theorem ok_X4_put : OkV yX4_put RX4 cX4_put 6 none 3 := ⟨tw_589, tw_590, tw_56, tw_591, rfl, by decide, by decide, by decide +kernel⟩
set_option maxRecDepth 100000 in
set_option maxHeartbeats 4000000 in
theorem t_X4_put_H3 {p : Program} {l : Launch} {e : Env} {s : State} {m : MethodId} {args : Array Value} {below : List Frame} {meth : Method} {c : Code} {E : WD} {Q : MS → Prop} (hc : Cx p rm_X4_put s m args meth c E (AD E) cX4_put RX4 none 6 0 0 fdm) : ∀ (n : Nat) (x1 x2 x4 : Int32) (σ : MS), w_X4_put_H3 Q n x1 x2 x4 σ → V p l e rm_X4_put s m args below meth c E (AD E) 6 0 0 (MQ below (va_Qv Q (BW E) (AD E)) args s 0 0 (AD E)) σ 3 [some (.ref (E.2.1 11)), some (.int x1), some (.int x2), some (.ref (E.2.1 8)), some (.int x4), none] [] := by
  intro n
  induction n with
  | zero =>
    intro x1 x2 x4 σ hw
    exact hw.elim
  | succ n ih =>
    intro x1 x2 x4 σ hw
    unfold w_X4_put_H3 at hw
    refine vIload (pc := 3) hc dX4_put_3 rfl ?_
    refine vAload_n (pc := 5) hc dX4_put_5 rfl ?_
    refine vGetIN (pc := 6) (k := 8) (j := 0) hc rfl inG6 (hc.G 8 (Nat.le_of_ble_eq_true rfl)) rfl (Nat.le_of_ble_eq_true rfl) nw_22 rfl dX4_put_6 ?_
    refine vIcmp_ge (pc := 9) (tgt := 92) hc dX4_put_9 (by decide) (fun c9 => ?_) (fun c9 => ?_)
    · have hw := hw.1 c9
      exact vVret (pc := 92) hc dX4_put_92 hw
    · have hw := hw.2 c9
      refine vAload_n (pc := 12) hc dX4_put_12 rfl ?_
      refine vGetRN (pc := 13) (k := 8) (j := 1) hc rfl inG6 (hc.G 8 (Nat.le_of_ble_eq_true rfl)) rfl (Nat.le_of_ble_eq_true rfl) nw_23 rfl dX4_put_13 ?_
      refine vIload (pc := 16) hc dX4_put_16 rfl ?_
      obtain ⟨hi1, hw⟩ := hw
      refine vIald (pc := 18) (k := 18) hc (hc.G 18 (Nat.le_of_ble_eq_true rfl)) rfl rfl hi1 dX4_put_18 ?_
      obtain ⟨x5_19, ex5_19⟩ : ∃ z : Int32, z = σ 18 x4.toNatClampNeg := ⟨_, rfl⟩
      have hw := hw x5_19 ex5_19
      refine vTop ex5_19 ?_
      refine vIstore (pc := 19) (L2 := [some (.ref (E.2.1 11)), some (.int x1), some (.int x2), some (.ref (E.2.1 8)), some (.int x4), some (.int x5_19)]) hc dX4_put_19 rfl (Nat.le_of_ble_eq_true rfl) ?_
      refine vAload_n (pc := 21) hc dX4_put_21 rfl ?_
      refine vGetR (pc := 22) (k := 11) (j := 2) hc rfl inG4 (hc.G 11 (Nat.le_of_ble_eq_true rfl)) rfl (Nat.le_of_ble_eq_true rfl) tw_287 rfl dX4_put_22 ?_
      refine vIload (pc := 25) hc dX4_put_25 rfl ?_
      refine vIload_n (pc := 27) hc dX4_put_27 rfl ?_
      obtain ⟨hi2, hw⟩ := hw
      refine vIast (pc := 28) (k := 32) hc (hc.G 32 (Nat.le_of_ble_eq_true rfl)) rfl rfl hi2 dX4_put_28 (fun σ28 eσ28 => ?_)
      have hw := hw σ28 eσ28
      refine vAload_n (pc := 29) hc dX4_put_29 rfl ?_
      refine vGetR (pc := 30) (k := 11) (j := 3) hc rfl inG4 (hc.G 11 (Nat.le_of_ble_eq_true rfl)) rfl (Nat.le_of_ble_eq_true rfl) tw_288 rfl dX4_put_30 ?_
      refine vIload (pc := 33) hc dX4_put_33 rfl ?_
      refine vIload_n (pc := 35) hc dX4_put_35 rfl ?_
      refine vIast (pc := 36) (k := 33) hc (hc.G 33 (Nat.le_of_ble_eq_true rfl)) rfl rfl hi2 dX4_put_36 (fun σ36 eσ36 => ?_)
      have hw := hw σ36 eσ36
      refine vAload_n (pc := 37) hc dX4_put_37 rfl ?_
      refine vGetR (pc := 38) (k := 11) (j := 4) hc rfl inG4 (hc.G 11 (Nat.le_of_ble_eq_true rfl)) rfl (Nat.le_of_ble_eq_true rfl) tw_289 rfl dX4_put_38 ?_
      refine vIload (pc := 41) hc dX4_put_41 rfl ?_
      refine vAload_n (pc := 43) hc dX4_put_43 rfl ?_
      refine vGetIN (pc := 44) (k := 8) (j := 6) hc rfl inG6 (hc.G 8 (Nat.le_of_ble_eq_true rfl)) rfl (Nat.le_of_ble_eq_true rfl) nw_32 rfl dX4_put_44 ?_
      refine vIast (pc := 47) (k := 34) hc (hc.G 34 (Nat.le_of_ble_eq_true rfl)) rfl rfl hi2 dX4_put_47 (fun σ47 eσ47 => ?_)
      have hw := hw σ47 eσ47
      refine vAload_n (pc := 48) hc dX4_put_48 rfl ?_
      refine vGetR (pc := 49) (k := 11) (j := 5) hc rfl inG4 (hc.G 11 (Nat.le_of_ble_eq_true rfl)) rfl (Nat.le_of_ble_eq_true rfl) tw_290 rfl dX4_put_49 ?_
      refine vIload (pc := 52) hc dX4_put_52 rfl ?_
      refine vAload_n (pc := 54) hc dX4_put_54 rfl ?_
      refine vGetIN (pc := 55) (k := 8) (j := 7) hc rfl inG6 (hc.G 8 (Nat.le_of_ble_eq_true rfl)) rfl (Nat.le_of_ble_eq_true rfl) nw_35 rfl dX4_put_55 ?_
      refine vAload_n (pc := 58) hc dX4_put_58 rfl ?_
      refine vGetRN (pc := 59) (k := 8) (j := 4) hc rfl inG6 (hc.G 8 (Nat.le_of_ble_eq_true rfl)) rfl (Nat.le_of_ble_eq_true rfl) nw_28 rfl dX4_put_59 ?_
      refine vIload (pc := 62) hc dX4_put_62 rfl ?_
      refine vIald (pc := 64) (k := 21) hc (hc.G 21 (Nat.le_of_ble_eq_true rfl)) rfl rfl hi1 dX4_put_64 ?_
      refine vIadd (pc := 65) hc dX4_put_65 ?_
      refine vIast (pc := 66) (k := 35) hc (hc.G 35 (Nat.le_of_ble_eq_true rfl)) rfl rfl hi2 dX4_put_66 (fun σ66 eσ66 => ?_)
      have hw := hw σ66 eσ66
      refine vAload_n (pc := 67) hc dX4_put_67 rfl ?_
      refine vGetR (pc := 68) (k := 11) (j := 6) hc rfl inG4 (hc.G 11 (Nat.le_of_ble_eq_true rfl)) rfl (Nat.le_of_ble_eq_true rfl) tw_291 rfl dX4_put_68 ?_
      refine vIload (pc := 71) hc dX4_put_71 rfl ?_
      refine vAload_n (pc := 73) hc dX4_put_73 rfl ?_
      refine vGetIN (pc := 74) (k := 8) (j := 7) hc rfl inG6 (hc.G 8 (Nat.le_of_ble_eq_true rfl)) rfl (Nat.le_of_ble_eq_true rfl) nw_35 rfl dX4_put_74 ?_
      refine vAload_n (pc := 77) hc dX4_put_77 rfl ?_
      refine vGetRN (pc := 78) (k := 8) (j := 5) hc rfl inG6 (hc.G 8 (Nat.le_of_ble_eq_true rfl)) rfl (Nat.le_of_ble_eq_true rfl) nw_29 rfl dX4_put_78 ?_
      refine vIload (pc := 81) hc dX4_put_81 rfl ?_
      refine vIald (pc := 83) (k := 22) hc (hc.G 22 (Nat.le_of_ble_eq_true rfl)) rfl rfl hi1 dX4_put_83 ?_
      refine vIadd (pc := 84) hc dX4_put_84 ?_
      refine vIast (pc := 85) (k := 36) hc (hc.G 36 (Nat.le_of_ble_eq_true rfl)) rfl rfl hi2 dX4_put_85 (fun σ85 eσ85 => ?_)
      have hw := hw σ85 eσ85
      refine vIinc (pc := 86) (v := x4 + 1) (L2 := [some (.ref (E.2.1 11)), some (.int x1), some (.int x2), some (.ref (E.2.1 8)), some (.int (x4 + 1)), some (.int x5_19)]) hc dX4_put_86 rfl rfl rfl (Nat.le_of_ble_eq_true rfl) ?_
      refine vGoto (pc := 89) (tgt := 3) hc dX4_put_89 (by decide) ?_
      exact vMono (L2 := [some (.ref (E.2.1 11)), some (.int x1), some (.int x2), some (.ref (E.2.1 8)), some (.int (x4 + 1)), none]) (show subL [some (.ref (E.2.1 11)), some (.int x1), some (.int x2), some (.ref (E.2.1 8)), some (.int (x4 + 1)), none] [some (.ref (E.2.1 11)), some (.int x1), some (.int x2), some (.ref (E.2.1 8)), some (.int (x4 + 1)), some (.int x5_19)] from ⟨rfl, ⟨rfl, ⟨rfl, ⟨rfl, ⟨rfl, trivial⟩⟩⟩⟩⟩) (ih x1 x2 (x4 + 1) _ hw)
set_option maxRecDepth 100000 in
set_option maxHeartbeats 4000000 in
theorem t_X4_put_E {p : Program} {l : Launch} {e : Env} {s : State} {m : MethodId} {args : Array Value} {below : List Frame} {meth : Method} {c : Code} {E : WD} {Q : MS → Prop} (hc : Cx p rm_X4_put s m args meth c E (AD E) cX4_put RX4 none 6 0 0 fdm) (x1 x2 : Int32) (σ : MS) (hw : w_X4_put_E Q x1 x2 σ) : V p l e rm_X4_put s m args below meth c E (AD E) 6 0 0 (MQ below (va_Qv Q (BW E) (AD E)) args s 0 0 (AD E)) σ 0 [some (.ref (E.2.1 11)), some (.int x1), some (.int x2), some (.ref (E.2.1 8)), none, none] [] := by
  unfold w_X4_put_E at hw
  refine vIconst (pc := 0) (v := 0) hc dX4_put_0 ki_0 ?_
  refine vIstore (pc := 1) (L2 := [some (.ref (E.2.1 11)), some (.int x1), some (.int x2), some (.ref (E.2.1 8)), some (.int 0), none]) hc dX4_put_1 rfl (Nat.le_of_ble_eq_true rfl) ?_
  obtain ⟨n3, hw⟩ := hw
  exact vMono (L2 := [some (.ref (E.2.1 11)), some (.int x1), some (.int x2), some (.ref (E.2.1 8)), some (.int 0), none]) (show subL [some (.ref (E.2.1 11)), some (.int x1), some (.int x2), some (.ref (E.2.1 8)), some (.int 0), none] [some (.ref (E.2.1 11)), some (.int x1), some (.int x2), some (.ref (E.2.1 8)), some (.int 0), none] from ⟨rfl, ⟨rfl, ⟨rfl, ⟨rfl, ⟨rfl, trivial⟩⟩⟩⟩⟩) (t_X4_put_H3 hc  n3 x1 x2 0 _ hw)
set_option maxRecDepth 100000 in
set_option maxHeartbeats 4000000 in
theorem c_X4_put {l : Launch} {E : WD} (hE : inj E) (hG : ∀ k, fdm k → k ∈ E.2.2.2) {x1 x2 : Int32} {σ : MS} {Q : MS → Prop} (hw : w_X4_put x1 x2 σ Q) : Cv l E yX4_put cX4_put 6 none rm_X4_put [.ref (E.2.1 11), .int x1, .int x2, .ref (E.2.1 8)] σ Q :=
  Ct_of (by decide) rfl (by
    intro v hv
    simp only [List.mem_cons, List.not_mem_nil, or_false] at hv
    rcases hv with rfl | rfl | rfl | rfl <;> rfl) (Nat.le_of_ble_eq_true rfl) hE hG (fun p e s m below meth c hc => t_X4_put_E hc x1 x2 σ hw)
def w_X4_leave_E (Q : MS → Prop) (x1 : Int32) (σ : MS) : Prop := ((vp_in x1 9) ∧ (∀ σ6, σ6 = mst σ 32 x1.toNatClampNeg 0 → (∀ σ16, σ16 = mst σ6 11 1 ((σ6 11 1) ||| ((1 : Int32) <<< (x1 &&& 31))) → Q σ16)))
abbrev w_X4_leave (x1 : Int32) (σ : MS) (Q : MS → Prop) : Prop := w_X4_leave_E Q x1 σ
abbrev rm_X4_leave : Room := { frames := 0, cells := 0, slots := 0, locals := 0 }
theorem ok_X4_leave : OkV yX4_leave RX4 cX4_leave 2 none 1 := ⟨tw_581, tw_582, tw_56, tw_583, rfl, by decide, by decide, by decide +kernel⟩
set_option maxRecDepth 100000 in
set_option maxHeartbeats 4000000 in
theorem t_X4_leave_E {p : Program} {l : Launch} {e : Env} {s : State} {m : MethodId} {args : Array Value} {below : List Frame} {meth : Method} {c : Code} {E : WD} {Q : MS → Prop} (hc : Cx p rm_X4_leave s m args meth c E (AD E) cX4_leave RX4 none 2 0 0 fdm) (x1 : Int32) (σ : MS) (hw : w_X4_leave_E Q x1 σ) : V p l e rm_X4_leave s m args below meth c E (AD E) 2 0 0 (MQ below (va_Qv Q (BW E) (AD E)) args s 0 0 (AD E)) σ 0 [some (.ref (E.2.1 11)), some (.int x1)] [] := by
  unfold w_X4_leave_E at hw
  refine vAload_n (pc := 0) hc dX4_leave_0 rfl ?_
  refine vGetR (pc := 1) (k := 11) (j := 2) hc rfl inG4 (hc.G 11 (Nat.le_of_ble_eq_true rfl)) rfl (Nat.le_of_ble_eq_true rfl) tw_287 rfl dX4_leave_1 ?_
  refine vIload_n (pc := 4) hc dX4_leave_4 rfl ?_
  refine vIconst (pc := 5) (v := 0) hc dX4_leave_5 ki_0 ?_
  obtain ⟨hi1, hw⟩ := hw
  refine vIast (pc := 6) (k := 32) hc (hc.G 32 (Nat.le_of_ble_eq_true rfl)) rfl rfl hi1 dX4_leave_6 (fun σ6 eσ6 => ?_)
  have hw := hw σ6 eσ6
  refine vAload_n (pc := 7) hc dX4_leave_7 rfl ?_
  refine vDup (pc := 8) hc dX4_leave_8 rfl ?_
  refine vGetI (pc := 9) (k := 11) (j := 1) hc rfl inG4 (hc.G 11 (Nat.le_of_ble_eq_true rfl)) rfl (Nat.le_of_ble_eq_true rfl) tw_286 rfl dX4_leave_9 ?_
  refine vIconst (pc := 12) (v := 1) hc dX4_leave_12 ki_1 ?_
  refine vIload_n (pc := 13) hc dX4_leave_13 rfl ?_
  refine vIshl (pc := 14) hc dX4_leave_14 ?_
  refine vIor (pc := 15) hc dX4_leave_15 ?_
  refine vPut (pc := 16) (k := 11) (j := 1) hc rfl inG4 (hc.G 11 (Nat.le_of_ble_eq_true rfl)) rfl (Nat.le_of_ble_eq_true rfl) tyX4 tyX4_ok nmX4 tw_286 rfl rfl rfl rfl dX4_leave_16 (fun σ16 eσ16 => ?_)
  have hw := hw σ16 eσ16
  exact vVret (pc := 19) hc dX4_leave_19 hw
set_option maxRecDepth 100000 in
set_option maxHeartbeats 4000000 in
theorem c_X4_leave {l : Launch} {E : WD} (hE : inj E) (hG : ∀ k, fdm k → k ∈ E.2.2.2) {x1 : Int32} {σ : MS} {Q : MS → Prop} (hw : w_X4_leave x1 σ Q) : Cv l E yX4_leave cX4_leave 2 none rm_X4_leave [.ref (E.2.1 11), .int x1] σ Q :=
  Ct_of (by decide) rfl (by
    intro v hv
    simp only [List.mem_cons, List.not_mem_nil, or_false] at hv
    rcases hv with rfl | rfl <;> rfl) (Nat.le_of_ble_eq_true rfl) hE hG (fun p e s m below meth c hc => t_X4_leave_E hc x1 σ hw)
def w_X4_dissolve_H2 (Q : MS → Prop) : Nat → Int32 → Int32 → MS → Prop
  | 0, _, _, _ => False
  | n + 1, x1, x2, σ => ((9 ≤ x2 → Q σ) ∧ (¬ 9 ≤ x2 → w_X8_contains x1 x2 σ (fun r10 σ10 => ((r10 = 0 → w_X4_dissolve_H2 Q n x1 (x2 + 1) σ10) ∧ (¬ r10 = 0 → ((vp_in x2 9) ∧ (∀ σ22, σ22 = mst σ10 32 x2.toNatClampNeg 0 → w_X4_dissolve_H2 Q n x1 (x2 + 1) σ22)))))))
def w_X4_dissolve_E (Q : MS → Prop) (x1 : Int32) (σ : MS) : Prop := (∃ n2, w_X4_dissolve_H2 Q n2 x1 0 σ)
abbrev w_X4_dissolve (x1 : Int32) (σ : MS) (Q : MS → Prop) : Prop := w_X4_dissolve_E Q x1 σ
abbrev rm_X4_dissolve : Room := { frames := 1, cells := 0, slots := 0, locals := 21 }
theorem ok_X4_dissolve : OkV yX4_dissolve RX4 cX4_dissolve 3 none 1 := ⟨tw_670, tw_671, tw_56, tw_672, rfl, by decide, by decide, by decide +kernel⟩
set_option maxRecDepth 100000 in
set_option maxHeartbeats 4000000 in
theorem t_X4_dissolve_H2 {p : Program} {l : Launch} {e : Env} {s : State} {m : MethodId} {args : Array Value} {below : List Frame} {meth : Method} {c : Code} {E : WD} {Q : MS → Prop} (hc : Cx p rm_X4_dissolve s m args meth c E (AD E) cX4_dissolve RX4 none 3 0 0 fdm) : ∀ (n : Nat) (x1 x2 : Int32) (σ : MS), w_X4_dissolve_H2 Q n x1 x2 σ → V p l e rm_X4_dissolve s m args below meth c E (AD E) 3 0 0 (MQ below (va_Qv Q (BW E) (AD E)) args s 0 0 (AD E)) σ 2 [some (.ref (E.2.1 11)), some (.int x1), some (.int x2)] [] := by
  intro n
  induction n with
  | zero =>
    intro x1 x2 σ hw
    exact hw.elim
  | succ n ih =>
    intro x1 x2 σ hw
    unfold w_X4_dissolve_H2 at hw
    refine vIload_n (pc := 2) hc dX4_dissolve_2 rfl ?_
    refine vBipush (pc := 3) (v := 9) hc dX4_dissolve_3 kb_9 ?_
    refine vIcmp_ge (pc := 5) (tgt := 29) hc dX4_dissolve_5 (by decide) (fun c5 => ?_) (fun c5 => ?_)
    · have hw := hw.1 c5
      exact vVret (pc := 29) hc dX4_dissolve_29 hw
    · have hw := hw.2 c5
      refine vIload_n (pc := 8) hc dX4_dissolve_8 rfl ?_
      refine vIload_n (pc := 9) hc dX4_dissolve_9 rfl ?_
      refine vCallSNi (pc := 10) (st := []) hc ok_X8_contains nw_40 (c_X8_contains hc.2.2.2.2.2.2.1 hc.G hw) rfl ⟨rfl, rfl⟩ ⟨Nat.le_of_ble_eq_true rfl, Nat.le_of_ble_eq_true rfl⟩ rfl (Nat.le_of_ble_eq_true rfl) dX4_dissolve_10 (fun r10 σ10 hw => ?_)
      refine vIf_eq (pc := 13) (tgt := 23) hc dX4_dissolve_13 (by decide) (fun c13 => ?_) (fun c13 => ?_)
      · have hw := hw.1 c13
        refine vIinc (pc := 23) (v := x2 + 1) (L2 := [some (.ref (E.2.1 11)), some (.int x1), some (.int (x2 + 1))]) hc dX4_dissolve_23 rfl rfl rfl (Nat.le_of_ble_eq_true rfl) ?_
        refine vGoto (pc := 26) (tgt := 2) hc dX4_dissolve_26 (by decide) ?_
        exact vMono (L2 := [some (.ref (E.2.1 11)), some (.int x1), some (.int (x2 + 1))]) (show subL [some (.ref (E.2.1 11)), some (.int x1), some (.int (x2 + 1))] [some (.ref (E.2.1 11)), some (.int x1), some (.int (x2 + 1))] from ⟨rfl, ⟨rfl, ⟨rfl, trivial⟩⟩⟩) (ih x1 (x2 + 1) _ hw)
      · have hw := hw.2 c13
        refine vAload_n (pc := 16) hc dX4_dissolve_16 rfl ?_
        refine vGetR (pc := 17) (k := 11) (j := 2) hc rfl inG4 (hc.G 11 (Nat.le_of_ble_eq_true rfl)) rfl (Nat.le_of_ble_eq_true rfl) tw_287 rfl dX4_dissolve_17 ?_
        refine vIload_n (pc := 20) hc dX4_dissolve_20 rfl ?_
        refine vIconst (pc := 21) (v := 0) hc dX4_dissolve_21 ki_0 ?_
        obtain ⟨hi1, hw⟩ := hw
        refine vIast (pc := 22) (k := 32) hc (hc.G 32 (Nat.le_of_ble_eq_true rfl)) rfl rfl hi1 dX4_dissolve_22 (fun σ22 eσ22 => ?_)
        have hw := hw σ22 eσ22
        refine vIinc (pc := 23) (v := x2 + 1) (L2 := [some (.ref (E.2.1 11)), some (.int x1), some (.int (x2 + 1))]) hc dX4_dissolve_23 rfl rfl rfl (Nat.le_of_ble_eq_true rfl) ?_
        refine vGoto (pc := 26) (tgt := 2) hc dX4_dissolve_26 (by decide) ?_
        exact vMono (L2 := [some (.ref (E.2.1 11)), some (.int x1), some (.int (x2 + 1))]) (show subL [some (.ref (E.2.1 11)), some (.int x1), some (.int (x2 + 1))] [some (.ref (E.2.1 11)), some (.int x1), some (.int (x2 + 1))] from ⟨rfl, ⟨rfl, ⟨rfl, trivial⟩⟩⟩) (ih x1 (x2 + 1) _ hw)
set_option maxRecDepth 100000 in
set_option maxHeartbeats 4000000 in
theorem t_X4_dissolve_E {p : Program} {l : Launch} {e : Env} {s : State} {m : MethodId} {args : Array Value} {below : List Frame} {meth : Method} {c : Code} {E : WD} {Q : MS → Prop} (hc : Cx p rm_X4_dissolve s m args meth c E (AD E) cX4_dissolve RX4 none 3 0 0 fdm) (x1 : Int32) (σ : MS) (hw : w_X4_dissolve_E Q x1 σ) : V p l e rm_X4_dissolve s m args below meth c E (AD E) 3 0 0 (MQ below (va_Qv Q (BW E) (AD E)) args s 0 0 (AD E)) σ 0 [some (.ref (E.2.1 11)), some (.int x1), none] [] := by
  unfold w_X4_dissolve_E at hw
  refine vIconst (pc := 0) (v := 0) hc dX4_dissolve_0 ki_0 ?_
  refine vIstore_n (pc := 1) (L2 := [some (.ref (E.2.1 11)), some (.int x1), some (.int 0)]) hc dX4_dissolve_1 rfl (Nat.le_of_ble_eq_true rfl) ?_
  obtain ⟨n2, hw⟩ := hw
  exact vMono (L2 := [some (.ref (E.2.1 11)), some (.int x1), some (.int 0)]) (show subL [some (.ref (E.2.1 11)), some (.int x1), some (.int 0)] [some (.ref (E.2.1 11)), some (.int x1), some (.int 0)] from ⟨rfl, ⟨rfl, ⟨rfl, trivial⟩⟩⟩) (t_X4_dissolve_H2 hc  n2 x1 0 _ hw)
set_option maxRecDepth 100000 in
set_option maxHeartbeats 4000000 in
theorem c_X4_dissolve {l : Launch} {E : WD} (hE : inj E) (hG : ∀ k, fdm k → k ∈ E.2.2.2) {x1 : Int32} {σ : MS} {Q : MS → Prop} (hw : w_X4_dissolve x1 σ Q) : Cv l E yX4_dissolve cX4_dissolve 3 none rm_X4_dissolve [.ref (E.2.1 11), .int x1] σ Q :=
  Ct_of (by decide) rfl (by
    intro v hv
    simp only [List.mem_cons, List.not_mem_nil, or_false] at hv
    rcases hv with rfl | rfl <;> rfl) (Nat.le_of_ble_eq_true rfl) hE hG (fun p e s m below meth c hc => t_X4_dissolve_E hc x1 σ hw)
def w_X4_leads_E (Q : Int32 → MS → Prop) (x1 : Int32) (σ : MS) : Prop := ((vp_in x1 9) ∧ ((¬ ((σ 32 x1.toNatClampNeg) &&& (-(σ 32 x1.toNatClampNeg))) = ((1 : Int32) <<< (x1 &&& 31)) → Q 0 σ) ∧ (((σ 32 x1.toNatClampNeg) &&& (-(σ 32 x1.toNatClampNeg))) = ((1 : Int32) <<< (x1 &&& 31)) → Q 1 σ)))
abbrev w_X4_leads (x1 : Int32) (σ : MS) (Q : Int32 → MS → Prop) : Prop := w_X4_leads_E Q x1 σ
abbrev rm_X4_leads : Room := { frames := 0, cells := 0, slots := 0, locals := 0 }
theorem ok_X4_leads : OkV yX4_leads RX4 cX4_leads 2 (some .boolean) 1 := ⟨tw_597, tw_598, tw_56, tw_599, rfl, by decide, by decide, by decide +kernel⟩
set_option maxRecDepth 100000 in
set_option maxHeartbeats 4000000 in
theorem t_X4_leads_E {p : Program} {l : Launch} {e : Env} {s : State} {m : MethodId} {args : Array Value} {below : List Frame} {meth : Method} {c : Code} {E : WD} {Q : Int32 → MS → Prop} (hc : Cx p rm_X4_leads s m args meth c E (AD E) cX4_leads RX4 (some .boolean) 2 0 0 fdm) (x1 : Int32) (σ : MS) (hw : w_X4_leads_E Q x1 σ) : V p l e rm_X4_leads s m args below meth c E (AD E) 2 0 0 (MQ below (va_Qi Q (BW E) (AD E)) args s 0 0 (AD E)) σ 0 [some (.ref (E.2.1 11)), some (.int x1)] [] := by
  unfold w_X4_leads_E at hw
  refine vAload_n (pc := 0) hc dX4_leads_0 rfl ?_
  refine vGetR (pc := 1) (k := 11) (j := 2) hc rfl inG4 (hc.G 11 (Nat.le_of_ble_eq_true rfl)) rfl (Nat.le_of_ble_eq_true rfl) tw_287 rfl dX4_leads_1 ?_
  refine vIload_n (pc := 4) hc dX4_leads_4 rfl ?_
  obtain ⟨hi1, hw⟩ := hw
  refine vIald (pc := 5) (k := 32) hc (hc.G 32 (Nat.le_of_ble_eq_true rfl)) rfl rfl hi1 dX4_leads_5 ?_
  refine vAload_n (pc := 6) hc dX4_leads_6 rfl ?_
  refine vGetR (pc := 7) (k := 11) (j := 2) hc rfl inG4 (hc.G 11 (Nat.le_of_ble_eq_true rfl)) rfl (Nat.le_of_ble_eq_true rfl) tw_287 rfl dX4_leads_7 ?_
  refine vIload_n (pc := 10) hc dX4_leads_10 rfl ?_
  refine vIald (pc := 11) (k := 32) hc (hc.G 32 (Nat.le_of_ble_eq_true rfl)) rfl rfl hi1 dX4_leads_11 ?_
  refine vIneg (pc := 12) hc dX4_leads_12 ?_
  refine vIand (pc := 13) hc dX4_leads_13 ?_
  refine vIconst (pc := 14) (v := 1) hc dX4_leads_14 ki_1 ?_
  refine vIload_n (pc := 15) hc dX4_leads_15 rfl ?_
  refine vIshl (pc := 16) hc dX4_leads_16 ?_
  refine vIcmp_ne (pc := 17) (tgt := 24) hc dX4_leads_17 (by decide) (fun c17 => ?_) (fun c17 => ?_)
  · have hw := hw.1 c17
    refine vIconst (pc := 24) (v := 0) hc dX4_leads_24 ki_0 ?_
    exact vZret (pc := 25) hc dX4_leads_25 (Or.inl rfl) hw
  · have hw := hw.2 c17
    refine vIconst (pc := 20) (v := 1) hc dX4_leads_20 ki_1 ?_
    refine vGoto (pc := 21) (tgt := 25) hc dX4_leads_21 (by decide) ?_
    exact vZret (pc := 25) hc dX4_leads_25 (Or.inr rfl) hw
set_option maxRecDepth 100000 in
set_option maxHeartbeats 4000000 in
theorem c_X4_leads {l : Launch} {E : WD} (hE : inj E) (hG : ∀ k, fdm k → k ∈ E.2.2.2) {x1 : Int32} {σ : MS} {Q : Int32 → MS → Prop} (hw : w_X4_leads x1 σ Q) : Ci l E yX4_leads cX4_leads 2 (some .boolean) rm_X4_leads [.ref (E.2.1 11), .int x1] σ Q :=
  Ct_of (by decide) rfl (by
    intro v hv
    simp only [List.mem_cons, List.not_mem_nil, or_false] at hv
    rcases hv with rfl | rfl <;> rfl) (Nat.le_of_ble_eq_true rfl) hE hG (fun p e s m below meth c hc => t_X4_leads_E hc x1 σ hw)
def w_X4_drives_E (Q : Int32 → MS → Prop) (x1 : Int32) (σ : MS) : Prop := ((vp_in x1 9) ∧ (((σ 32 x1.toNatClampNeg) = 0 → Q 0 σ) ∧ (¬ (σ 32 x1.toNatClampNeg) = 0 → ((¬ (σ 33 x1.toNatClampNeg) = x1 → Q 0 σ) ∧ ((σ 33 x1.toNatClampNeg) = x1 → Q 1 σ)))))
abbrev w_X4_drives (x1 : Int32) (σ : MS) (Q : Int32 → MS → Prop) : Prop := w_X4_drives_E Q x1 σ
abbrev rm_X4_drives : Room := { frames := 0, cells := 0, slots := 0, locals := 0 }
theorem ok_X4_drives : OkV yX4_drives RX4 cX4_drives 2 (some .boolean) 1 := ⟨tw_666, tw_667, tw_56, tw_668, rfl, by decide, by decide, by decide +kernel⟩
set_option maxRecDepth 100000 in
set_option maxHeartbeats 4000000 in
theorem t_X4_drives_E {p : Program} {l : Launch} {e : Env} {s : State} {m : MethodId} {args : Array Value} {below : List Frame} {meth : Method} {c : Code} {E : WD} {Q : Int32 → MS → Prop} (hc : Cx p rm_X4_drives s m args meth c E (AD E) cX4_drives RX4 (some .boolean) 2 0 0 fdm) (x1 : Int32) (σ : MS) (hw : w_X4_drives_E Q x1 σ) : V p l e rm_X4_drives s m args below meth c E (AD E) 2 0 0 (MQ below (va_Qi Q (BW E) (AD E)) args s 0 0 (AD E)) σ 0 [some (.ref (E.2.1 11)), some (.int x1)] [] := by
  unfold w_X4_drives_E at hw
  refine vAload_n (pc := 0) hc dX4_drives_0 rfl ?_
  refine vGetR (pc := 1) (k := 11) (j := 2) hc rfl inG4 (hc.G 11 (Nat.le_of_ble_eq_true rfl)) rfl (Nat.le_of_ble_eq_true rfl) tw_287 rfl dX4_drives_1 ?_
  refine vIload_n (pc := 4) hc dX4_drives_4 rfl ?_
  obtain ⟨hi1, hw⟩ := hw
  refine vIald (pc := 5) (k := 32) hc (hc.G 32 (Nat.le_of_ble_eq_true rfl)) rfl rfl hi1 dX4_drives_5 ?_
  refine vIf_eq (pc := 6) (tgt := 23) hc dX4_drives_6 (by decide) (fun c6 => ?_) (fun c6 => ?_)
  · have hw := hw.1 c6
    refine vIconst (pc := 23) (v := 0) hc dX4_drives_23 ki_0 ?_
    exact vZret (pc := 24) hc dX4_drives_24 (Or.inl rfl) hw
  · have hw := hw.2 c6
    refine vAload_n (pc := 9) hc dX4_drives_9 rfl ?_
    refine vGetR (pc := 10) (k := 11) (j := 3) hc rfl inG4 (hc.G 11 (Nat.le_of_ble_eq_true rfl)) rfl (Nat.le_of_ble_eq_true rfl) tw_288 rfl dX4_drives_10 ?_
    refine vIload_n (pc := 13) hc dX4_drives_13 rfl ?_
    refine vIald (pc := 14) (k := 33) hc (hc.G 33 (Nat.le_of_ble_eq_true rfl)) rfl rfl hi1 dX4_drives_14 ?_
    refine vIload_n (pc := 15) hc dX4_drives_15 rfl ?_
    refine vIcmp_ne (pc := 16) (tgt := 23) hc dX4_drives_16 (by decide) (fun c16 => ?_) (fun c16 => ?_)
    · have hw := hw.1 c16
      refine vIconst (pc := 23) (v := 0) hc dX4_drives_23 ki_0 ?_
      exact vZret (pc := 24) hc dX4_drives_24 (Or.inl rfl) hw
    · have hw := hw.2 c16
      refine vIconst (pc := 19) (v := 1) hc dX4_drives_19 ki_1 ?_
      refine vGoto (pc := 20) (tgt := 24) hc dX4_drives_20 (by decide) ?_
      exact vZret (pc := 24) hc dX4_drives_24 (Or.inr rfl) hw
set_option maxRecDepth 100000 in
set_option maxHeartbeats 4000000 in
theorem c_X4_drives {l : Launch} {E : WD} (hE : inj E) (hG : ∀ k, fdm k → k ∈ E.2.2.2) {x1 : Int32} {σ : MS} {Q : Int32 → MS → Prop} (hw : w_X4_drives x1 σ Q) : Ci l E yX4_drives cX4_drives 2 (some .boolean) rm_X4_drives [.ref (E.2.1 11), .int x1] σ Q :=
  Ct_of (by decide) rfl (by
    intro v hv
    simp only [List.mem_cons, List.not_mem_nil, or_false] at hv
    rcases hv with rfl | rfl <;> rfl) (Nat.le_of_ble_eq_true rfl) hE hG (fun p e s m below meth c hc => t_X4_drives_E hc x1 σ hw)
def w_X4_poolAt_E (Q : Int32 → MS → Prop) (x1 : Int32) (σ : MS) : Prop := ((vp_in x1 9) ∧ Q (σ 32 x1.toNatClampNeg) σ)
abbrev w_X4_poolAt (x1 : Int32) (σ : MS) (Q : Int32 → MS → Prop) : Prop := w_X4_poolAt_E Q x1 σ
abbrev rm_X4_poolAt : Room := { frames := 0, cells := 0, slots := 0, locals := 0 }
theorem ok_X4_poolAt : OkV yX4_poolAt RX4 cX4_poolAt 2 (some .int) 1 := ⟨tw_642, tw_643, tw_56, tw_644, rfl, by decide, by decide, by decide +kernel⟩
set_option maxRecDepth 100000 in
set_option maxHeartbeats 4000000 in
theorem t_X4_poolAt_E {p : Program} {l : Launch} {e : Env} {s : State} {m : MethodId} {args : Array Value} {below : List Frame} {meth : Method} {c : Code} {E : WD} {Q : Int32 → MS → Prop} (hc : Cx p rm_X4_poolAt s m args meth c E (AD E) cX4_poolAt RX4 (some .int) 2 0 0 fdm) (x1 : Int32) (σ : MS) (hw : w_X4_poolAt_E Q x1 σ) : V p l e rm_X4_poolAt s m args below meth c E (AD E) 2 0 0 (MQ below (va_Qi Q (BW E) (AD E)) args s 0 0 (AD E)) σ 0 [some (.ref (E.2.1 11)), some (.int x1)] [] := by
  unfold w_X4_poolAt_E at hw
  refine vAload_n (pc := 0) hc dX4_poolAt_0 rfl ?_
  refine vGetR (pc := 1) (k := 11) (j := 2) hc rfl inG4 (hc.G 11 (Nat.le_of_ble_eq_true rfl)) rfl (Nat.le_of_ble_eq_true rfl) tw_287 rfl dX4_poolAt_1 ?_
  refine vIload_n (pc := 4) hc dX4_poolAt_4 rfl ?_
  obtain ⟨hi1, hw⟩ := hw
  refine vIald (pc := 5) (k := 32) hc (hc.G 32 (Nat.le_of_ble_eq_true rfl)) rfl rfl hi1 dX4_poolAt_5 ?_
  exact vIret (pc := 6) hc dX4_poolAt_6 hw
set_option maxRecDepth 100000 in
set_option maxHeartbeats 4000000 in
theorem c_X4_poolAt {l : Launch} {E : WD} (hE : inj E) (hG : ∀ k, fdm k → k ∈ E.2.2.2) {x1 : Int32} {σ : MS} {Q : Int32 → MS → Prop} (hw : w_X4_poolAt x1 σ Q) : Ci l E yX4_poolAt cX4_poolAt 2 (some .int) rm_X4_poolAt [.ref (E.2.1 11), .int x1] σ Q :=
  Ct_of (by decide) rfl (by
    intro v hv
    simp only [List.mem_cons, List.not_mem_nil, or_false] at hv
    rcases hv with rfl | rfl <;> rfl) (Nat.le_of_ble_eq_true rfl) hE hG (fun p e s m below meth c hc => t_X4_poolAt_E hc x1 σ hw)
def w_X4_driverAt_E (Q : Int32 → MS → Prop) (x1 : Int32) (σ : MS) : Prop := ((vp_in x1 9) ∧ Q (σ 33 x1.toNatClampNeg) σ)
abbrev w_X4_driverAt (x1 : Int32) (σ : MS) (Q : Int32 → MS → Prop) : Prop := w_X4_driverAt_E Q x1 σ
abbrev rm_X4_driverAt : Room := { frames := 0, cells := 0, slots := 0, locals := 0 }
theorem ok_X4_driverAt : OkV yX4_driverAt RX4 cX4_driverAt 2 (some .int) 1 := ⟨tw_646, tw_647, tw_56, tw_648, rfl, by decide, by decide, by decide +kernel⟩
set_option maxRecDepth 100000 in
set_option maxHeartbeats 4000000 in
theorem t_X4_driverAt_E {p : Program} {l : Launch} {e : Env} {s : State} {m : MethodId} {args : Array Value} {below : List Frame} {meth : Method} {c : Code} {E : WD} {Q : Int32 → MS → Prop} (hc : Cx p rm_X4_driverAt s m args meth c E (AD E) cX4_driverAt RX4 (some .int) 2 0 0 fdm) (x1 : Int32) (σ : MS) (hw : w_X4_driverAt_E Q x1 σ) : V p l e rm_X4_driverAt s m args below meth c E (AD E) 2 0 0 (MQ below (va_Qi Q (BW E) (AD E)) args s 0 0 (AD E)) σ 0 [some (.ref (E.2.1 11)), some (.int x1)] [] := by
  unfold w_X4_driverAt_E at hw
  refine vAload_n (pc := 0) hc dX4_driverAt_0 rfl ?_
  refine vGetR (pc := 1) (k := 11) (j := 3) hc rfl inG4 (hc.G 11 (Nat.le_of_ble_eq_true rfl)) rfl (Nat.le_of_ble_eq_true rfl) tw_288 rfl dX4_driverAt_1 ?_
  refine vIload_n (pc := 4) hc dX4_driverAt_4 rfl ?_
  obtain ⟨hi1, hw⟩ := hw
  refine vIald (pc := 5) (k := 33) hc (hc.G 33 (Nat.le_of_ble_eq_true rfl)) rfl rfl hi1 dX4_driverAt_5 ?_
  exact vIret (pc := 6) hc dX4_driverAt_6 hw
set_option maxRecDepth 100000 in
set_option maxHeartbeats 4000000 in
theorem c_X4_driverAt {l : Launch} {E : WD} (hE : inj E) (hG : ∀ k, fdm k → k ∈ E.2.2.2) {x1 : Int32} {σ : MS} {Q : Int32 → MS → Prop} (hw : w_X4_driverAt x1 σ Q) : Ci l E yX4_driverAt cX4_driverAt 2 (some .int) rm_X4_driverAt [.ref (E.2.1 11), .int x1] σ Q :=
  Ct_of (by decide) rfl (by
    intro v hv
    simp only [List.mem_cons, List.not_mem_nil, or_false] at hv
    rcases hv with rfl | rfl <;> rfl) (Nat.le_of_ble_eq_true rfl) hE hG (fun p e s m below meth c hc => t_X4_driverAt_E hc x1 σ hw)
def w_X4_pools_H4 (Q : Int32 → MS → Prop) : Nat → Int32 → Int32 → MS → Prop
  | 0, _, _, _ => False
  | n + 1, x1, x2, σ => ((9 ≤ x2 → Q x1 σ) ∧ (¬ 9 ≤ x2 → w_X4_leads x2 σ (fun r12 σ12 => ((r12 = 0 → w_X4_pools_H4 Q n x1 (x2 + 1) σ12) ∧ (¬ r12 = 0 → w_X4_pools_H4 Q n (x1 + 1) (x2 + 1) σ12)))))
def w_X4_pools_E (Q : Int32 → MS → Prop) (σ : MS) : Prop := (∃ n4, w_X4_pools_H4 Q n4 0 0 σ)
abbrev w_X4_pools (σ : MS) (Q : Int32 → MS → Prop) : Prop := w_X4_pools_E Q  σ
abbrev rm_X4_pools : Room := { frames := 1, cells := 0, slots := 0, locals := 21 }
theorem ok_X4_pools : OkV yX4_pools RX4 cX4_pools 3 (some .int) 0 := ⟨tw_593, tw_594, tw_56, tw_595, rfl, by decide, by decide, by decide +kernel⟩
set_option maxRecDepth 100000 in
set_option maxHeartbeats 4000000 in
theorem t_X4_pools_H4 {p : Program} {l : Launch} {e : Env} {s : State} {m : MethodId} {args : Array Value} {below : List Frame} {meth : Method} {c : Code} {E : WD} {Q : Int32 → MS → Prop} (hc : Cx p rm_X4_pools s m args meth c E (AD E) cX4_pools RX4 (some .int) 3 0 0 fdm) : ∀ (n : Nat) (x1 x2 : Int32) (σ : MS), w_X4_pools_H4 Q n x1 x2 σ → V p l e rm_X4_pools s m args below meth c E (AD E) 3 0 0 (MQ below (va_Qi Q (BW E) (AD E)) args s 0 0 (AD E)) σ 4 [some (.ref (E.2.1 11)), some (.int x1), some (.int x2)] [] := by
  intro n
  induction n with
  | zero =>
    intro x1 x2 σ hw
    exact hw.elim
  | succ n ih =>
    intro x1 x2 σ hw
    unfold w_X4_pools_H4 at hw
    refine vIload_n (pc := 4) hc dX4_pools_4 rfl ?_
    refine vBipush (pc := 5) (v := 9) hc dX4_pools_5 kb_9 ?_
    refine vIcmp_ge (pc := 7) (tgt := 27) hc dX4_pools_7 (by decide) (fun c7 => ?_) (fun c7 => ?_)
    · have hw := hw.1 c7
      refine vIload_n (pc := 27) hc dX4_pools_27 rfl ?_
      exact vIret (pc := 28) hc dX4_pools_28 hw
    · have hw := hw.2 c7
      refine vAload_n (pc := 10) hc dX4_pools_10 rfl ?_
      refine vIload_n (pc := 11) hc dX4_pools_11 rfl ?_
      refine vCallVi (pc := 12) (st := []) hc ok_X4_leads tw_596 (c_X4_leads hc.2.2.2.2.2.2.1 hc.G hw) (hc.G 11 (Nat.le_of_ble_eq_true rfl)) rfl rfl rfl ⟨rfl, rfl⟩ ⟨Nat.le_of_ble_eq_true rfl, Nat.le_of_ble_eq_true rfl⟩ rfl (Nat.le_of_ble_eq_true rfl) dX4_pools_12 (fun r12 σ12 hw => ?_)
      refine vIf_eq (pc := 15) (tgt := 21) hc dX4_pools_15 (by decide) (fun c15 => ?_) (fun c15 => ?_)
      · have hw := hw.1 c15
        refine vIinc (pc := 21) (v := x2 + 1) (L2 := [some (.ref (E.2.1 11)), some (.int x1), some (.int (x2 + 1))]) hc dX4_pools_21 rfl rfl rfl (Nat.le_of_ble_eq_true rfl) ?_
        refine vGoto (pc := 24) (tgt := 4) hc dX4_pools_24 (by decide) ?_
        exact vMono (L2 := [some (.ref (E.2.1 11)), some (.int x1), some (.int (x2 + 1))]) (show subL [some (.ref (E.2.1 11)), some (.int x1), some (.int (x2 + 1))] [some (.ref (E.2.1 11)), some (.int x1), some (.int (x2 + 1))] from ⟨rfl, ⟨rfl, ⟨rfl, trivial⟩⟩⟩) (ih x1 (x2 + 1) _ hw)
      · have hw := hw.2 c15
        refine vIinc (pc := 18) (v := x1 + 1) (L2 := [some (.ref (E.2.1 11)), some (.int (x1 + 1)), some (.int x2)]) hc dX4_pools_18 rfl rfl rfl (Nat.le_of_ble_eq_true rfl) ?_
        refine vIinc (pc := 21) (v := x2 + 1) (L2 := [some (.ref (E.2.1 11)), some (.int (x1 + 1)), some (.int (x2 + 1))]) hc dX4_pools_21 rfl rfl rfl (Nat.le_of_ble_eq_true rfl) ?_
        refine vGoto (pc := 24) (tgt := 4) hc dX4_pools_24 (by decide) ?_
        exact vMono (L2 := [some (.ref (E.2.1 11)), some (.int (x1 + 1)), some (.int (x2 + 1))]) (show subL [some (.ref (E.2.1 11)), some (.int (x1 + 1)), some (.int (x2 + 1))] [some (.ref (E.2.1 11)), some (.int (x1 + 1)), some (.int (x2 + 1))] from ⟨rfl, ⟨rfl, ⟨rfl, trivial⟩⟩⟩) (ih (x1 + 1) (x2 + 1) _ hw)
set_option maxRecDepth 100000 in
set_option maxHeartbeats 4000000 in
theorem t_X4_pools_E {p : Program} {l : Launch} {e : Env} {s : State} {m : MethodId} {args : Array Value} {below : List Frame} {meth : Method} {c : Code} {E : WD} {Q : Int32 → MS → Prop} (hc : Cx p rm_X4_pools s m args meth c E (AD E) cX4_pools RX4 (some .int) 3 0 0 fdm) (σ : MS) (hw : w_X4_pools_E Q  σ) : V p l e rm_X4_pools s m args below meth c E (AD E) 3 0 0 (MQ below (va_Qi Q (BW E) (AD E)) args s 0 0 (AD E)) σ 0 [some (.ref (E.2.1 11)), none, none] [] := by
  unfold w_X4_pools_E at hw
  refine vIconst (pc := 0) (v := 0) hc dX4_pools_0 ki_0 ?_
  refine vIstore_n (pc := 1) (L2 := [some (.ref (E.2.1 11)), some (.int 0), none]) hc dX4_pools_1 rfl (Nat.le_of_ble_eq_true rfl) ?_
  refine vIconst (pc := 2) (v := 0) hc dX4_pools_2 ki_0 ?_
  refine vIstore_n (pc := 3) (L2 := [some (.ref (E.2.1 11)), some (.int 0), some (.int 0)]) hc dX4_pools_3 rfl (Nat.le_of_ble_eq_true rfl) ?_
  obtain ⟨n4, hw⟩ := hw
  exact vMono (L2 := [some (.ref (E.2.1 11)), some (.int 0), some (.int 0)]) (show subL [some (.ref (E.2.1 11)), some (.int 0), some (.int 0)] [some (.ref (E.2.1 11)), some (.int 0), some (.int 0)] from ⟨rfl, ⟨rfl, ⟨rfl, trivial⟩⟩⟩) (t_X4_pools_H4 hc  n4 0 0 _ hw)
set_option maxRecDepth 100000 in
set_option maxHeartbeats 4000000 in
theorem c_X4_pools {l : Launch} {E : WD} (hE : inj E) (hG : ∀ k, fdm k → k ∈ E.2.2.2) {σ : MS} {Q : Int32 → MS → Prop} (hw : w_X4_pools  σ Q) : Ci l E yX4_pools cX4_pools 3 (some .int) rm_X4_pools [.ref (E.2.1 11)] σ Q :=
  Ct_of (by decide) rfl (by
    intro v hv
    simp only [List.mem_cons, List.not_mem_nil, or_false] at hv
    rcases hv with rfl <;> rfl) (Nat.le_of_ble_eq_true rfl) hE hG (fun p e s m below meth c hc => t_X4_pools_E hc  σ hw)
def w_X4_leftCount_E (Q : Int32 → MS → Prop) (σ : MS) : Prop := w_J6_bitCount_0f7a4 (σ 11 1) σ (fun r4 σ4 => Q r4 σ4)
abbrev w_X4_leftCount (σ : MS) (Q : Int32 → MS → Prop) : Prop := w_X4_leftCount_E Q  σ
abbrev rm_X4_leftCount : Room := { frames := 1, cells := 0, slots := 0, locals := 20 }
theorem ok_X4_leftCount : OkV yX4_leftCount RX4 cX4_leftCount 1 (some .int) 0 := ⟨tw_609, tw_610, tw_56, tw_611, rfl, by decide, by decide, by decide +kernel⟩
set_option maxRecDepth 100000 in
set_option maxHeartbeats 4000000 in
theorem t_X4_leftCount_E {p : Program} {l : Launch} {e : Env} {s : State} {m : MethodId} {args : Array Value} {below : List Frame} {meth : Method} {c : Code} {E : WD} {Q : Int32 → MS → Prop} (hc : Cx p rm_X4_leftCount s m args meth c E (AD E) cX4_leftCount RX4 (some .int) 1 0 0 fdm) (σ : MS) (hw : w_X4_leftCount_E Q  σ) : V p l e rm_X4_leftCount s m args below meth c E (AD E) 1 0 0 (MQ below (va_Qi Q (BW E) (AD E)) args s 0 0 (AD E)) σ 0 [some (.ref (E.2.1 11))] [] := by
  unfold w_X4_leftCount_E at hw
  refine vAload_n (pc := 0) hc dX4_leftCount_0 rfl ?_
  refine vGetI (pc := 1) (k := 11) (j := 1) hc rfl inG4 (hc.G 11 (Nat.le_of_ble_eq_true rfl)) rfl (Nat.le_of_ble_eq_true rfl) tw_286 rfl dX4_leftCount_1 ?_
  refine vCallSi (pc := 4) (st := []) hc ok_J6_bitCount_0f7a4 tw_612 (c_J6_bitCount_0f7a4 hc.2.2.2.2.2.2.1 hc.G hw) rfl ⟨rfl, rfl⟩ ⟨Nat.le_of_ble_eq_true rfl, Nat.le_of_ble_eq_true rfl⟩ rfl (Nat.le_of_ble_eq_true rfl) dX4_leftCount_4 (fun r4 σ4 hw => ?_)
  exact vIret (pc := 7) hc dX4_leftCount_7 hw
set_option maxRecDepth 100000 in
set_option maxHeartbeats 4000000 in
theorem c_X4_leftCount {l : Launch} {E : WD} (hE : inj E) (hG : ∀ k, fdm k → k ∈ E.2.2.2) {σ : MS} {Q : Int32 → MS → Prop} (hw : w_X4_leftCount  σ Q) : Ci l E yX4_leftCount cX4_leftCount 1 (some .int) rm_X4_leftCount [.ref (E.2.1 11)] σ Q :=
  Ct_of (by decide) rfl (by
    intro v hv
    simp only [List.mem_cons, List.not_mem_nil, or_false] at hv
    rcases hv with rfl <;> rfl) (Nat.le_of_ble_eq_true rfl) hE hG (fun p e s m below meth c hc => t_X4_leftCount_E hc  σ hw)
def w_X4_minutesTogether_H4 (Q : Int32 → MS → Prop) : Nat → Int32 → Int32 → MS → Prop
  | 0, _, _, _ => False
  | n + 1, x1, x2, σ => ((9 ≤ x2 → Q x1 σ) ∧ (¬ 9 ≤ x2 → w_X4_leads x2 σ (fun r12 σ12 => ((r12 = 0 → w_X4_minutesTogether_H4 Q n x1 (x2 + 1) σ12) ∧ (¬ r12 = 0 → ((vp_in x2 9) ∧ (∀ x1_26 : Int32, x1_26 = (x1 + (σ12 34 x2.toNatClampNeg)) → w_X4_minutesTogether_H4 Q n x1_26 (x2 + 1) σ12)))))))
def w_X4_minutesTogether_E (Q : Int32 → MS → Prop) (σ : MS) : Prop := (∃ n4, w_X4_minutesTogether_H4 Q n4 0 0 σ)
abbrev w_X4_minutesTogether (σ : MS) (Q : Int32 → MS → Prop) : Prop := w_X4_minutesTogether_E Q  σ
abbrev rm_X4_minutesTogether : Room := { frames := 1, cells := 0, slots := 0, locals := 21 }
theorem ok_X4_minutesTogether : OkV yX4_minutesTogether RX4 cX4_minutesTogether 3 (some .int) 0 := ⟨tw_614, tw_615, tw_56, tw_616, rfl, by decide, by decide, by decide +kernel⟩
set_option maxRecDepth 100000 in
set_option maxHeartbeats 4000000 in
theorem t_X4_minutesTogether_H4 {p : Program} {l : Launch} {e : Env} {s : State} {m : MethodId} {args : Array Value} {below : List Frame} {meth : Method} {c : Code} {E : WD} {Q : Int32 → MS → Prop} (hc : Cx p rm_X4_minutesTogether s m args meth c E (AD E) cX4_minutesTogether RX4 (some .int) 3 0 0 fdm) : ∀ (n : Nat) (x1 x2 : Int32) (σ : MS), w_X4_minutesTogether_H4 Q n x1 x2 σ → V p l e rm_X4_minutesTogether s m args below meth c E (AD E) 3 0 0 (MQ below (va_Qi Q (BW E) (AD E)) args s 0 0 (AD E)) σ 4 [some (.ref (E.2.1 11)), some (.int x1), some (.int x2)] [] := by
  intro n
  induction n with
  | zero =>
    intro x1 x2 σ hw
    exact hw.elim
  | succ n ih =>
    intro x1 x2 σ hw
    unfold w_X4_minutesTogether_H4 at hw
    refine vIload_n (pc := 4) hc dX4_minutesTogether_4 rfl ?_
    refine vBipush (pc := 5) (v := 9) hc dX4_minutesTogether_5 kb_9 ?_
    refine vIcmp_ge (pc := 7) (tgt := 33) hc dX4_minutesTogether_7 (by decide) (fun c7 => ?_) (fun c7 => ?_)
    · have hw := hw.1 c7
      refine vIload_n (pc := 33) hc dX4_minutesTogether_33 rfl ?_
      exact vIret (pc := 34) hc dX4_minutesTogether_34 hw
    · have hw := hw.2 c7
      refine vAload_n (pc := 10) hc dX4_minutesTogether_10 rfl ?_
      refine vIload_n (pc := 11) hc dX4_minutesTogether_11 rfl ?_
      refine vCallVi (pc := 12) (st := []) hc ok_X4_leads tw_596 (c_X4_leads hc.2.2.2.2.2.2.1 hc.G hw) (hc.G 11 (Nat.le_of_ble_eq_true rfl)) rfl rfl rfl ⟨rfl, rfl⟩ ⟨Nat.le_of_ble_eq_true rfl, Nat.le_of_ble_eq_true rfl⟩ rfl (Nat.le_of_ble_eq_true rfl) dX4_minutesTogether_12 (fun r12 σ12 hw => ?_)
      refine vIf_eq (pc := 15) (tgt := 27) hc dX4_minutesTogether_15 (by decide) (fun c15 => ?_) (fun c15 => ?_)
      · have hw := hw.1 c15
        refine vIinc (pc := 27) (v := x2 + 1) (L2 := [some (.ref (E.2.1 11)), some (.int x1), some (.int (x2 + 1))]) hc dX4_minutesTogether_27 rfl rfl rfl (Nat.le_of_ble_eq_true rfl) ?_
        refine vGoto (pc := 30) (tgt := 4) hc dX4_minutesTogether_30 (by decide) ?_
        exact vMono (L2 := [some (.ref (E.2.1 11)), some (.int x1), some (.int (x2 + 1))]) (show subL [some (.ref (E.2.1 11)), some (.int x1), some (.int (x2 + 1))] [some (.ref (E.2.1 11)), some (.int x1), some (.int (x2 + 1))] from ⟨rfl, ⟨rfl, ⟨rfl, trivial⟩⟩⟩) (ih x1 (x2 + 1) _ hw)
      · have hw := hw.2 c15
        refine vIload_n (pc := 18) hc dX4_minutesTogether_18 rfl ?_
        refine vAload_n (pc := 19) hc dX4_minutesTogether_19 rfl ?_
        refine vGetR (pc := 20) (k := 11) (j := 4) hc rfl inG4 (hc.G 11 (Nat.le_of_ble_eq_true rfl)) rfl (Nat.le_of_ble_eq_true rfl) tw_289 rfl dX4_minutesTogether_20 ?_
        refine vIload_n (pc := 23) hc dX4_minutesTogether_23 rfl ?_
        obtain ⟨hi1, hw⟩ := hw
        refine vIald (pc := 24) (k := 34) hc (hc.G 34 (Nat.le_of_ble_eq_true rfl)) rfl rfl hi1 dX4_minutesTogether_24 ?_
        refine vIadd (pc := 25) hc dX4_minutesTogether_25 ?_
        obtain ⟨x1_26, ex1_26⟩ : ∃ z : Int32, z = x1 + (σ12 34 x2.toNatClampNeg) := ⟨_, rfl⟩
        have hw := hw x1_26 ex1_26
        refine vTop ex1_26 ?_
        refine vIstore_n (pc := 26) (L2 := [some (.ref (E.2.1 11)), some (.int x1_26), some (.int x2)]) hc dX4_minutesTogether_26 rfl (Nat.le_of_ble_eq_true rfl) ?_
        refine vIinc (pc := 27) (v := x2 + 1) (L2 := [some (.ref (E.2.1 11)), some (.int x1_26), some (.int (x2 + 1))]) hc dX4_minutesTogether_27 rfl rfl rfl (Nat.le_of_ble_eq_true rfl) ?_
        refine vGoto (pc := 30) (tgt := 4) hc dX4_minutesTogether_30 (by decide) ?_
        exact vMono (L2 := [some (.ref (E.2.1 11)), some (.int x1_26), some (.int (x2 + 1))]) (show subL [some (.ref (E.2.1 11)), some (.int x1_26), some (.int (x2 + 1))] [some (.ref (E.2.1 11)), some (.int x1_26), some (.int (x2 + 1))] from ⟨rfl, ⟨rfl, ⟨rfl, trivial⟩⟩⟩) (ih x1_26 (x2 + 1) _ hw)
set_option maxRecDepth 100000 in
set_option maxHeartbeats 4000000 in
theorem t_X4_minutesTogether_E {p : Program} {l : Launch} {e : Env} {s : State} {m : MethodId} {args : Array Value} {below : List Frame} {meth : Method} {c : Code} {E : WD} {Q : Int32 → MS → Prop} (hc : Cx p rm_X4_minutesTogether s m args meth c E (AD E) cX4_minutesTogether RX4 (some .int) 3 0 0 fdm) (σ : MS) (hw : w_X4_minutesTogether_E Q  σ) : V p l e rm_X4_minutesTogether s m args below meth c E (AD E) 3 0 0 (MQ below (va_Qi Q (BW E) (AD E)) args s 0 0 (AD E)) σ 0 [some (.ref (E.2.1 11)), none, none] [] := by
  unfold w_X4_minutesTogether_E at hw
  refine vIconst (pc := 0) (v := 0) hc dX4_minutesTogether_0 ki_0 ?_
  refine vIstore_n (pc := 1) (L2 := [some (.ref (E.2.1 11)), some (.int 0), none]) hc dX4_minutesTogether_1 rfl (Nat.le_of_ble_eq_true rfl) ?_
  refine vIconst (pc := 2) (v := 0) hc dX4_minutesTogether_2 ki_0 ?_
  refine vIstore_n (pc := 3) (L2 := [some (.ref (E.2.1 11)), some (.int 0), some (.int 0)]) hc dX4_minutesTogether_3 rfl (Nat.le_of_ble_eq_true rfl) ?_
  obtain ⟨n4, hw⟩ := hw
  exact vMono (L2 := [some (.ref (E.2.1 11)), some (.int 0), some (.int 0)]) (show subL [some (.ref (E.2.1 11)), some (.int 0), some (.int 0)] [some (.ref (E.2.1 11)), some (.int 0), some (.int 0)] from ⟨rfl, ⟨rfl, ⟨rfl, trivial⟩⟩⟩) (t_X4_minutesTogether_H4 hc  n4 0 0 _ hw)
set_option maxRecDepth 100000 in
set_option maxHeartbeats 4000000 in
theorem c_X4_minutesTogether {l : Launch} {E : WD} (hE : inj E) (hG : ∀ k, fdm k → k ∈ E.2.2.2) {σ : MS} {Q : Int32 → MS → Prop} (hw : w_X4_minutesTogether  σ Q) : Ci l E yX4_minutesTogether cX4_minutesTogether 3 (some .int) rm_X4_minutesTogether [.ref (E.2.1 11)] σ Q :=
  Ct_of (by decide) rfl (by
    intro v hv
    simp only [List.mem_cons, List.not_mem_nil, or_false] at hv
    rcases hv with rfl <;> rfl) (Nat.le_of_ble_eq_true rfl) hE hG (fun p e s m below meth c hc => t_X4_minutesTogether_E hc  σ hw)
def w_X4_personsInPools_H4 (Q : Int32 → MS → Prop) : Nat → Int32 → Int32 → MS → Prop
  | 0, _, _, _ => False
  | n + 1, x1, x2, σ => ((9 ≤ x2 → Q x1 σ) ∧ (¬ 9 ≤ x2 → ((vp_in x2 9) ∧ (((σ 32 x2.toNatClampNeg) = 0 → w_X4_personsInPools_H4 Q n x1 (x2 + 1) σ) ∧ (¬ (σ 32 x2.toNatClampNeg) = 0 → w_X4_personsInPools_H4 Q n (x1 + 1) (x2 + 1) σ)))))
def w_X4_personsInPools_E (Q : Int32 → MS → Prop) (σ : MS) : Prop := (∃ n4, w_X4_personsInPools_H4 Q n4 0 0 σ)
abbrev w_X4_personsInPools (σ : MS) (Q : Int32 → MS → Prop) : Prop := w_X4_personsInPools_E Q  σ
abbrev rm_X4_personsInPools : Room := { frames := 0, cells := 0, slots := 0, locals := 0 }
theorem ok_X4_personsInPools : OkV yX4_personsInPools RX4 cX4_personsInPools 3 (some .int) 0 := ⟨tw_618, tw_619, tw_56, tw_620, rfl, by decide, by decide, by decide +kernel⟩
set_option maxRecDepth 100000 in
set_option maxHeartbeats 4000000 in
theorem t_X4_personsInPools_H4 {p : Program} {l : Launch} {e : Env} {s : State} {m : MethodId} {args : Array Value} {below : List Frame} {meth : Method} {c : Code} {E : WD} {Q : Int32 → MS → Prop} (hc : Cx p rm_X4_personsInPools s m args meth c E (AD E) cX4_personsInPools RX4 (some .int) 3 0 0 fdm) : ∀ (n : Nat) (x1 x2 : Int32) (σ : MS), w_X4_personsInPools_H4 Q n x1 x2 σ → V p l e rm_X4_personsInPools s m args below meth c E (AD E) 3 0 0 (MQ below (va_Qi Q (BW E) (AD E)) args s 0 0 (AD E)) σ 4 [some (.ref (E.2.1 11)), some (.int x1), some (.int x2)] [] := by
  intro n
  induction n with
  | zero =>
    intro x1 x2 σ hw
    exact hw.elim
  | succ n ih =>
    intro x1 x2 σ hw
    unfold w_X4_personsInPools_H4 at hw
    refine vIload_n (pc := 4) hc dX4_personsInPools_4 rfl ?_
    refine vBipush (pc := 5) (v := 9) hc dX4_personsInPools_5 kb_9 ?_
    refine vIcmp_ge (pc := 7) (tgt := 28) hc dX4_personsInPools_7 (by decide) (fun c7 => ?_) (fun c7 => ?_)
    · have hw := hw.1 c7
      refine vIload_n (pc := 28) hc dX4_personsInPools_28 rfl ?_
      exact vIret (pc := 29) hc dX4_personsInPools_29 hw
    · have hw := hw.2 c7
      refine vAload_n (pc := 10) hc dX4_personsInPools_10 rfl ?_
      refine vGetR (pc := 11) (k := 11) (j := 2) hc rfl inG4 (hc.G 11 (Nat.le_of_ble_eq_true rfl)) rfl (Nat.le_of_ble_eq_true rfl) tw_287 rfl dX4_personsInPools_11 ?_
      refine vIload_n (pc := 14) hc dX4_personsInPools_14 rfl ?_
      obtain ⟨hi1, hw⟩ := hw
      refine vIald (pc := 15) (k := 32) hc (hc.G 32 (Nat.le_of_ble_eq_true rfl)) rfl rfl hi1 dX4_personsInPools_15 ?_
      refine vIf_eq (pc := 16) (tgt := 22) hc dX4_personsInPools_16 (by decide) (fun c16 => ?_) (fun c16 => ?_)
      · have hw := hw.1 c16
        refine vIinc (pc := 22) (v := x2 + 1) (L2 := [some (.ref (E.2.1 11)), some (.int x1), some (.int (x2 + 1))]) hc dX4_personsInPools_22 rfl rfl rfl (Nat.le_of_ble_eq_true rfl) ?_
        refine vGoto (pc := 25) (tgt := 4) hc dX4_personsInPools_25 (by decide) ?_
        exact vMono (L2 := [some (.ref (E.2.1 11)), some (.int x1), some (.int (x2 + 1))]) (show subL [some (.ref (E.2.1 11)), some (.int x1), some (.int (x2 + 1))] [some (.ref (E.2.1 11)), some (.int x1), some (.int (x2 + 1))] from ⟨rfl, ⟨rfl, ⟨rfl, trivial⟩⟩⟩) (ih x1 (x2 + 1) _ hw)
      · have hw := hw.2 c16
        refine vIinc (pc := 19) (v := x1 + 1) (L2 := [some (.ref (E.2.1 11)), some (.int (x1 + 1)), some (.int x2)]) hc dX4_personsInPools_19 rfl rfl rfl (Nat.le_of_ble_eq_true rfl) ?_
        refine vIinc (pc := 22) (v := x2 + 1) (L2 := [some (.ref (E.2.1 11)), some (.int (x1 + 1)), some (.int (x2 + 1))]) hc dX4_personsInPools_22 rfl rfl rfl (Nat.le_of_ble_eq_true rfl) ?_
        refine vGoto (pc := 25) (tgt := 4) hc dX4_personsInPools_25 (by decide) ?_
        exact vMono (L2 := [some (.ref (E.2.1 11)), some (.int (x1 + 1)), some (.int (x2 + 1))]) (show subL [some (.ref (E.2.1 11)), some (.int (x1 + 1)), some (.int (x2 + 1))] [some (.ref (E.2.1 11)), some (.int (x1 + 1)), some (.int (x2 + 1))] from ⟨rfl, ⟨rfl, ⟨rfl, trivial⟩⟩⟩) (ih (x1 + 1) (x2 + 1) _ hw)
set_option maxRecDepth 100000 in
set_option maxHeartbeats 4000000 in
theorem t_X4_personsInPools_E {p : Program} {l : Launch} {e : Env} {s : State} {m : MethodId} {args : Array Value} {below : List Frame} {meth : Method} {c : Code} {E : WD} {Q : Int32 → MS → Prop} (hc : Cx p rm_X4_personsInPools s m args meth c E (AD E) cX4_personsInPools RX4 (some .int) 3 0 0 fdm) (σ : MS) (hw : w_X4_personsInPools_E Q  σ) : V p l e rm_X4_personsInPools s m args below meth c E (AD E) 3 0 0 (MQ below (va_Qi Q (BW E) (AD E)) args s 0 0 (AD E)) σ 0 [some (.ref (E.2.1 11)), none, none] [] := by
  unfold w_X4_personsInPools_E at hw
  refine vIconst (pc := 0) (v := 0) hc dX4_personsInPools_0 ki_0 ?_
  refine vIstore_n (pc := 1) (L2 := [some (.ref (E.2.1 11)), some (.int 0), none]) hc dX4_personsInPools_1 rfl (Nat.le_of_ble_eq_true rfl) ?_
  refine vIconst (pc := 2) (v := 0) hc dX4_personsInPools_2 ki_0 ?_
  refine vIstore_n (pc := 3) (L2 := [some (.ref (E.2.1 11)), some (.int 0), some (.int 0)]) hc dX4_personsInPools_3 rfl (Nat.le_of_ble_eq_true rfl) ?_
  obtain ⟨n4, hw⟩ := hw
  exact vMono (L2 := [some (.ref (E.2.1 11)), some (.int 0), some (.int 0)]) (show subL [some (.ref (E.2.1 11)), some (.int 0), some (.int 0)] [some (.ref (E.2.1 11)), some (.int 0), some (.int 0)] from ⟨rfl, ⟨rfl, ⟨rfl, trivial⟩⟩⟩) (t_X4_personsInPools_H4 hc  n4 0 0 _ hw)
set_option maxRecDepth 100000 in
set_option maxHeartbeats 4000000 in
theorem c_X4_personsInPools {l : Launch} {E : WD} (hE : inj E) (hG : ∀ k, fdm k → k ∈ E.2.2.2) {σ : MS} {Q : Int32 → MS → Prop} (hw : w_X4_personsInPools  σ Q) : Ci l E yX4_personsInPools cX4_personsInPools 3 (some .int) rm_X4_personsInPools [.ref (E.2.1 11)] σ Q :=
  Ct_of (by decide) rfl (by
    intro v hv
    simp only [List.mem_cons, List.not_mem_nil, or_false] at hv
    rcases hv with rfl <;> rfl) (Nat.le_of_ble_eq_true rfl) hE hG (fun p e s m below meth c hc => t_X4_personsInPools_E hc  σ hw)
def w_X4_pointsEachMorning_E (Q : Int32 → MS → Prop) (x1 : Int32) (σ : MS) : Prop := ((vp_in x1 9) ∧ w_J6_bitCount_0f7a4 (σ 32 x1.toNatClampNeg) σ (fun r6 σ6 => (∀ x2_11 : Int32, x2_11 = (r6 - 1) → ((1 ≤ x2_11 → ((¬ (σ6 33 x1.toNatClampNeg) = x1 → Q (-1) σ6) ∧ ((σ6 33 x1.toNatClampNeg) = x1 → Q x2_11 σ6))) ∧ (¬ 1 ≤ x2_11 → Q 0 σ6)))))
abbrev w_X4_pointsEachMorning (x1 : Int32) (σ : MS) (Q : Int32 → MS → Prop) : Prop := w_X4_pointsEachMorning_E Q x1 σ
abbrev rm_X4_pointsEachMorning : Room := { frames := 1, cells := 0, slots := 0, locals := 20 }
theorem ok_X4_pointsEachMorning : OkV yX4_pointsEachMorning RX4 cX4_pointsEachMorning 3 (some .int) 1 := ⟨tw_658, tw_659, tw_56, tw_660, rfl, by decide, by decide, by decide +kernel⟩
set_option maxRecDepth 100000 in
set_option maxHeartbeats 4000000 in
theorem t_X4_pointsEachMorning_E {p : Program} {l : Launch} {e : Env} {s : State} {m : MethodId} {args : Array Value} {below : List Frame} {meth : Method} {c : Code} {E : WD} {Q : Int32 → MS → Prop} (hc : Cx p rm_X4_pointsEachMorning s m args meth c E (AD E) cX4_pointsEachMorning RX4 (some .int) 3 0 0 fdm) (x1 : Int32) (σ : MS) (hw : w_X4_pointsEachMorning_E Q x1 σ) : V p l e rm_X4_pointsEachMorning s m args below meth c E (AD E) 3 0 0 (MQ below (va_Qi Q (BW E) (AD E)) args s 0 0 (AD E)) σ 0 [some (.ref (E.2.1 11)), some (.int x1), none] [] := by
  unfold w_X4_pointsEachMorning_E at hw
  refine vAload_n (pc := 0) hc dX4_pointsEachMorning_0 rfl ?_
  refine vGetR (pc := 1) (k := 11) (j := 2) hc rfl inG4 (hc.G 11 (Nat.le_of_ble_eq_true rfl)) rfl (Nat.le_of_ble_eq_true rfl) tw_287 rfl dX4_pointsEachMorning_1 ?_
  refine vIload_n (pc := 4) hc dX4_pointsEachMorning_4 rfl ?_
  obtain ⟨hi1, hw⟩ := hw
  refine vIald (pc := 5) (k := 32) hc (hc.G 32 (Nat.le_of_ble_eq_true rfl)) rfl rfl hi1 dX4_pointsEachMorning_5 ?_
  refine vCallSi (pc := 6) (st := []) hc ok_J6_bitCount_0f7a4 tw_612 (c_J6_bitCount_0f7a4 hc.2.2.2.2.2.2.1 hc.G hw) rfl ⟨rfl, rfl⟩ ⟨Nat.le_of_ble_eq_true rfl, Nat.le_of_ble_eq_true rfl⟩ rfl (Nat.le_of_ble_eq_true rfl) dX4_pointsEachMorning_6 (fun r6 σ6 hw => ?_)
  refine vIconst (pc := 9) (v := 1) hc dX4_pointsEachMorning_9 ki_1 ?_
  refine vIsub (pc := 10) hc dX4_pointsEachMorning_10 ?_
  obtain ⟨x2_11, ex2_11⟩ : ∃ z : Int32, z = r6 - 1 := ⟨_, rfl⟩
  have hw := hw x2_11 ex2_11
  refine vTop ex2_11 ?_
  refine vIstore_n (pc := 11) (L2 := [some (.ref (E.2.1 11)), some (.int x1), some (.int x2_11)]) hc dX4_pointsEachMorning_11 rfl (Nat.le_of_ble_eq_true rfl) ?_
  refine vIload_n (pc := 12) hc dX4_pointsEachMorning_12 rfl ?_
  refine vIconst (pc := 13) (v := 1) hc dX4_pointsEachMorning_13 ki_1 ?_
  refine vIcmp_ge (pc := 14) (tgt := 19) hc dX4_pointsEachMorning_14 (by decide) (fun c14 => ?_) (fun c14 => ?_)
  · have hw := hw.1 c14
    refine vAload_n (pc := 19) hc dX4_pointsEachMorning_19 rfl ?_
    refine vGetR (pc := 20) (k := 11) (j := 3) hc rfl inG4 (hc.G 11 (Nat.le_of_ble_eq_true rfl)) rfl (Nat.le_of_ble_eq_true rfl) tw_288 rfl dX4_pointsEachMorning_20 ?_
    refine vIload_n (pc := 23) hc dX4_pointsEachMorning_23 rfl ?_
    refine vIald (pc := 24) (k := 33) hc (hc.G 33 (Nat.le_of_ble_eq_true rfl)) rfl rfl hi1 dX4_pointsEachMorning_24 ?_
    refine vIload_n (pc := 25) hc dX4_pointsEachMorning_25 rfl ?_
    refine vIcmp_ne (pc := 26) (tgt := 33) hc dX4_pointsEachMorning_26 (by decide) (fun c26 => ?_) (fun c26 => ?_)
    · have hw := hw.1 c26
      refine vIconst (pc := 33) (v := (-1)) hc dX4_pointsEachMorning_33 ki_m1 ?_
      exact vIret (pc := 34) hc dX4_pointsEachMorning_34 hw
    · have hw := hw.2 c26
      refine vIload_n (pc := 29) hc dX4_pointsEachMorning_29 rfl ?_
      refine vGoto (pc := 30) (tgt := 34) hc dX4_pointsEachMorning_30 (by decide) ?_
      exact vIret (pc := 34) hc dX4_pointsEachMorning_34 hw
  · have hw := hw.2 c14
    refine vIconst (pc := 17) (v := 0) hc dX4_pointsEachMorning_17 ki_0 ?_
    exact vIret (pc := 18) hc dX4_pointsEachMorning_18 hw
set_option maxRecDepth 100000 in
set_option maxHeartbeats 4000000 in
theorem c_X4_pointsEachMorning {l : Launch} {E : WD} (hE : inj E) (hG : ∀ k, fdm k → k ∈ E.2.2.2) {x1 : Int32} {σ : MS} {Q : Int32 → MS → Prop} (hw : w_X4_pointsEachMorning x1 σ Q) : Ci l E yX4_pointsEachMorning cX4_pointsEachMorning 3 (some .int) rm_X4_pointsEachMorning [.ref (E.2.1 11), .int x1] σ Q :=
  Ct_of (by decide) rfl (by
    intro v hv
    simp only [List.mem_cons, List.not_mem_nil, or_false] at hv
    rcases hv with rfl | rfl <;> rfl) (Nat.le_of_ble_eq_true rfl) hE hG (fun p e s m below meth c hc => t_X4_pointsEachMorning_E hc x1 σ hw)
def w_X4_tell_E (Q : Int32 → MS → Prop) (x1 x2 : Int32) (σ : MS) : Prop := ((¬ x2 = 0 → ((vp_in x1 9) ∧ ((¬ (σ 32 x1.toNatClampNeg) = 0 → ((x2 = 1 → Q (σ 33 x1.toNatClampNeg) σ) ∧ (¬ x2 = 1 → ((x2 = 2 → Q (σ 35 x1.toNatClampNeg) σ) ∧ (¬ x2 = 2 → ((x2 = 3 → Q (σ 36 x1.toNatClampNeg) σ) ∧ (¬ x2 = 3 → Q (-9) σ))))))) ∧ ((σ 32 x1.toNatClampNeg) = 0 → Q (-9) σ)))) ∧ (x2 = 0 → ((vp_in x1 9) ∧ Q (σ 32 x1.toNatClampNeg) σ)))
abbrev w_X4_tell (x1 x2 : Int32) (σ : MS) (Q : Int32 → MS → Prop) : Prop := w_X4_tell_E Q x1 x2 σ
abbrev rm_X4_tell : Room := { frames := 0, cells := 0, slots := 0, locals := 0 }
theorem ok_X4_tell : OkV yX4_tell RX4 cX4_tell 3 (some .int) 2 := ⟨tw_626, tw_627, tw_56, tw_628, rfl, by decide, by decide, by decide +kernel⟩
set_option maxRecDepth 100000 in
set_option maxHeartbeats 4000000 in
theorem t_X4_tell_E {p : Program} {l : Launch} {e : Env} {s : State} {m : MethodId} {args : Array Value} {below : List Frame} {meth : Method} {c : Code} {E : WD} {Q : Int32 → MS → Prop} (hc : Cx p rm_X4_tell s m args meth c E (AD E) cX4_tell RX4 (some .int) 3 0 0 fdm) (x1 x2 : Int32) (σ : MS) (hw : w_X4_tell_E Q x1 x2 σ) : V p l e rm_X4_tell s m args below meth c E (AD E) 3 0 0 (MQ below (va_Qi Q (BW E) (AD E)) args s 0 0 (AD E)) σ 0 [some (.ref (E.2.1 11)), some (.int x1), some (.int x2)] [] := by
  unfold w_X4_tell_E at hw
  refine vIload_n (pc := 0) hc dX4_tell_0 rfl ?_
  refine vIf_ne (pc := 1) (tgt := 11) hc dX4_tell_1 (by decide) (fun c1 => ?_) (fun c1 => ?_)
  · have hw := hw.1 c1
    refine vAload_n (pc := 11) hc dX4_tell_11 rfl ?_
    refine vGetR (pc := 12) (k := 11) (j := 2) hc rfl inG4 (hc.G 11 (Nat.le_of_ble_eq_true rfl)) rfl (Nat.le_of_ble_eq_true rfl) tw_287 rfl dX4_tell_12 ?_
    refine vIload_n (pc := 15) hc dX4_tell_15 rfl ?_
    obtain ⟨hi1, hw⟩ := hw
    refine vIald (pc := 16) (k := 32) hc (hc.G 32 (Nat.le_of_ble_eq_true rfl)) rfl rfl hi1 dX4_tell_16 ?_
    refine vIf_ne (pc := 17) (tgt := 23) hc dX4_tell_17 (by decide) (fun c17 => ?_) (fun c17 => ?_)
    · have hw := hw.1 c17
      refine vIload_n (pc := 23) hc dX4_tell_23 rfl ?_
      by_cases b24_1 : x2 = 1
      · have hw := hw.1 b24_1
        refine vTop (y := 1) b24_1.symm ?_
        refine vTabIn (pc := 24) (tgt := 52) hc dX4_tell_24 (by decide) (by decide) rfl (by decide) ?_
        refine vAload_n (pc := 52) hc dX4_tell_52 rfl ?_
        refine vGetR (pc := 53) (k := 11) (j := 3) hc rfl inG4 (hc.G 11 (Nat.le_of_ble_eq_true rfl)) rfl (Nat.le_of_ble_eq_true rfl) tw_288 rfl dX4_tell_53 ?_
        refine vIload_n (pc := 56) hc dX4_tell_56 rfl ?_
        refine vIald (pc := 57) (k := 33) hc (hc.G 33 (Nat.le_of_ble_eq_true rfl)) rfl rfl hi1 dX4_tell_57 ?_
        exact vIret (pc := 58) hc dX4_tell_58 hw
      · have hw := hw.2 b24_1
        by_cases b24_2 : x2 = 2
        · have hw := hw.1 b24_2
          refine vTop (y := 2) b24_2.symm ?_
          refine vTabIn (pc := 24) (tgt := 59) hc dX4_tell_24 (by decide) (by decide) rfl (by decide) ?_
          refine vAload_n (pc := 59) hc dX4_tell_59 rfl ?_
          refine vGetR (pc := 60) (k := 11) (j := 5) hc rfl inG4 (hc.G 11 (Nat.le_of_ble_eq_true rfl)) rfl (Nat.le_of_ble_eq_true rfl) tw_290 rfl dX4_tell_60 ?_
          refine vIload_n (pc := 63) hc dX4_tell_63 rfl ?_
          refine vIald (pc := 64) (k := 35) hc (hc.G 35 (Nat.le_of_ble_eq_true rfl)) rfl rfl hi1 dX4_tell_64 ?_
          exact vIret (pc := 65) hc dX4_tell_65 hw
        · have hw := hw.2 b24_2
          by_cases b24_3 : x2 = 3
          · have hw := hw.1 b24_3
            refine vTop (y := 3) b24_3.symm ?_
            refine vTabIn (pc := 24) (tgt := 66) hc dX4_tell_24 (by decide) (by decide) rfl (by decide) ?_
            refine vAload_n (pc := 66) hc dX4_tell_66 rfl ?_
            refine vGetR (pc := 67) (k := 11) (j := 6) hc rfl inG4 (hc.G 11 (Nat.le_of_ble_eq_true rfl)) rfl (Nat.le_of_ble_eq_true rfl) tw_291 rfl dX4_tell_67 ?_
            refine vIload_n (pc := 70) hc dX4_tell_70 rfl ?_
            refine vIald (pc := 71) (k := 36) hc (hc.G 36 (Nat.le_of_ble_eq_true rfl)) rfl rfl hi1 dX4_tell_71 ?_
            exact vIret (pc := 72) hc dX4_tell_72 hw
          · have hw := hw.2 b24_3
            refine vTabOut (pc := 24) (tgt := 73) hc dX4_tell_24 (by
              have f0 := lv_neT b24_1 (by decide : (1 : Int32).toInt = 1)
              have f1 := lv_neT b24_2 (by decide : (2 : Int32).toInt = 2)
              have f2 := lv_neT b24_3 (by decide : (3 : Int32).toInt = 3)
              omega) (by decide) ?_
            refine vBipush (pc := 73) (v := (-9)) hc dX4_tell_73 kb_m9 ?_
            exact vIret (pc := 75) hc dX4_tell_75 hw
    · have hw := hw.2 c17
      refine vBipush (pc := 20) (v := (-9)) hc dX4_tell_20 kb_m9 ?_
      exact vIret (pc := 22) hc dX4_tell_22 hw
  · have hw := hw.2 c1
    refine vAload_n (pc := 4) hc dX4_tell_4 rfl ?_
    refine vGetR (pc := 5) (k := 11) (j := 2) hc rfl inG4 (hc.G 11 (Nat.le_of_ble_eq_true rfl)) rfl (Nat.le_of_ble_eq_true rfl) tw_287 rfl dX4_tell_5 ?_
    refine vIload_n (pc := 8) hc dX4_tell_8 rfl ?_
    obtain ⟨hi2, hw⟩ := hw
    refine vIald (pc := 9) (k := 32) hc (hc.G 32 (Nat.le_of_ble_eq_true rfl)) rfl rfl hi2 dX4_tell_9 ?_
    exact vIret (pc := 10) hc dX4_tell_10 hw
set_option maxRecDepth 100000 in
set_option maxHeartbeats 4000000 in
theorem c_X4_tell {l : Launch} {E : WD} (hE : inj E) (hG : ∀ k, fdm k → k ∈ E.2.2.2) {x1 x2 : Int32} {σ : MS} {Q : Int32 → MS → Prop} (hw : w_X4_tell x1 x2 σ Q) : Ci l E yX4_tell cX4_tell 3 (some .int) rm_X4_tell [.ref (E.2.1 11), .int x1, .int x2] σ Q :=
  Ct_of (by decide) rfl (by
    intro v hv
    simp only [List.mem_cons, List.not_mem_nil, or_false] at hv
    rcases hv with rfl | rfl | rfl <;> rfl) (Nat.le_of_ble_eq_true rfl) hE hG (fun p e s m below meth c hc => t_X4_tell_E hc x1 x2 σ hw)
def w_X5_shortenBy_H2 (Q : MS → Prop) : Nat → Int32 → Nat → Int32 → MS → Prop
  | 0, _, _, _, _ => False
  | n + 1, x1, k2, x3, σ => ((10 ≤ x3 → Q σ) ∧ (¬ 10 ≤ x3 → ((46 ≤ k2 ∧ k2 < 66) ∧ ((vp_in x3 10) ∧ ((vp_in x1 10) ∧ ((46 ≤ (56 + x1.toNatClampNeg) ∧ (56 + x1.toNatClampNeg) < 66) ∧ (∀ σ28, σ28 = mst σ k2 x3.toNatClampNeg (if ((σ k2 x1.toNatClampNeg) + (σ (56 + x1.toNatClampNeg) x3.toNatClampNeg)) < (σ k2 x3.toNatClampNeg) then ((σ k2 x1.toNatClampNeg) + (σ (56 + x1.toNatClampNeg) x3.toNatClampNeg)) else (σ k2 x3.toNatClampNeg)) → w_X5_shortenBy_H2 Q n x1 k2 (x3 + 1) σ28)))))))
def w_X5_shortenBy_E (Q : MS → Prop) (x1 : Int32) (k2 : Nat) (σ : MS) : Prop := (∃ n2, w_X5_shortenBy_H2 Q n2 x1 k2 0 σ)
abbrev w_X5_shortenBy (x1 : Int32) (k2 : Nat) (σ : MS) (Q : MS → Prop) : Prop := w_X5_shortenBy_E Q x1 k2 σ
abbrev rm_X5_shortenBy : Room := { frames := 1, cells := 0, slots := 0, locals := 60 }
theorem ok_X5_shortenBy : OkV yX5_shortenBy RX5 cX5_shortenBy 4 none 2 := ⟨tw_87, tw_1, tw_46, tw_88, rfl, by decide, by decide, by decide +kernel⟩
set_option maxRecDepth 100000 in
set_option maxHeartbeats 4000000 in
theorem t_X5_shortenBy_H2 {p : Program} {l : Launch} {e : Env} {s : State} {m : MethodId} {args : Array Value} {below : List Frame} {meth : Method} {c : Code} {E : WD} {Q : MS → Prop} (hc : Cx p rm_X5_shortenBy s m args meth c E (AD E) cX5_shortenBy RX5 none 4 0 0 rdm) : ∀ (n : Nat) (x1 : Int32) (k2 : Nat) (x3 : Int32) (σ : MS), w_X5_shortenBy_H2 Q n x1 k2 x3 σ → V p l e rm_X5_shortenBy s m args below meth c E (AD E) 4 0 0 (MQ below (va_Qv Q (BW E) (AD E)) args s 0 0 (AD E)) σ 2 [some (.ref (E.2.1 1)), some (.int x1), some (.ref (E.2.1 k2)), some (.int x3)] [] := by
  intro n
  induction n with
  | zero =>
    intro x1 k2 x3 σ hw
    exact hw.elim
  | succ n ih =>
    intro x1 k2 x3 σ hw
    unfold w_X5_shortenBy_H2 at hw
    refine vIload_n (pc := 2) hc dX5_shortenBy_2 rfl ?_
    refine vBipush (pc := 3) (v := 10) hc dX5_shortenBy_3 kb_10 ?_
    refine vIcmp_ge (pc := 5) (tgt := 35) hc dX5_shortenBy_5 (by decide) (fun c5 => ?_) (fun c5 => ?_)
    · have hw := hw.1 c5
      exact vVret (pc := 35) hc dX5_shortenBy_35 hw
    · have hw := hw.2 c5
      refine vAload_n (pc := 8) hc dX5_shortenBy_8 rfl ?_
      refine vIload_n (pc := 9) hc dX5_shortenBy_9 rfl ?_
      refine vAload_n (pc := 10) hc dX5_shortenBy_10 rfl ?_
      refine vIload_n (pc := 11) hc dX5_shortenBy_11 rfl ?_
      obtain ⟨hp1, hw⟩ := hw
      obtain ⟨hi2, hw⟩ := hw
      refine vIald (pc := 12) (k := k2) hc (hc.G _ (rdm_r hp1)) (rw_1 hp1) (rw_n hp1) hi2 dX5_shortenBy_12 ?_
      refine vAload_n (pc := 13) hc dX5_shortenBy_13 rfl ?_
      refine vIload_n (pc := 14) hc dX5_shortenBy_14 rfl ?_
      obtain ⟨hi3, hw⟩ := hw
      refine vIald (pc := 15) (k := k2) hc (hc.G _ (rdm_r hp1)) (rw_1 hp1) (rw_n hp1) hi3 dX5_shortenBy_15 ?_
      refine vAload_n (pc := 16) hc dX5_shortenBy_16 rfl ?_
      refine vGetR (pc := 17) (k := 1) (j := 1) hc rfl inG5 (hc.G 1 (by decide)) rfl (Nat.le_of_ble_eq_true rfl) tw_93 rfl dX5_shortenBy_17 ?_
      refine vIload_n (pc := 20) hc dX5_shortenBy_20 rfl ?_
      refine vAaldF (pc := 21) hc (hc.G 3 (by decide)) hi3 dX5_shortenBy_21 ?_
      refine vIload_n (pc := 22) hc dX5_shortenBy_22 rfl ?_
      obtain ⟨hp4, hw⟩ := hw
      refine vIald (pc := 23) (k := (56 + x1.toNatClampNeg)) hc (hc.G _ (rdm_r hp4)) (rw_1 hp4) (rw_n hp4) hi2 dX5_shortenBy_23 ?_
      refine vIadd (pc := 24) hc dX5_shortenBy_24 ?_
      refine vMin (pc := 25) hc tw_89 tw_90 tw_49 tw_91 ⟨Nat.le_of_ble_eq_true rfl, Nat.le_of_ble_eq_true rfl⟩ dX5_shortenBy_25 ?_
      refine vIast (pc := 28) (k := k2) hc (hc.G _ (rdm_r hp1)) (rw_1 hp1) (rw_n hp1) hi2 dX5_shortenBy_28 (fun σ28 eσ28 => ?_)
      have hw := hw σ28 eσ28
      refine vIinc (pc := 29) (v := x3 + 1) (L2 := [some (.ref (E.2.1 1)), some (.int x1), some (.ref (E.2.1 k2)), some (.int (x3 + 1))]) hc dX5_shortenBy_29 rfl rfl rfl (Nat.le_of_ble_eq_true rfl) ?_
      refine vGoto (pc := 32) (tgt := 2) hc dX5_shortenBy_32 (by decide) ?_
      exact vMono (L2 := [some (.ref (E.2.1 1)), some (.int x1), some (.ref (E.2.1 k2)), some (.int (x3 + 1))]) (show subL [some (.ref (E.2.1 1)), some (.int x1), some (.ref (E.2.1 k2)), some (.int (x3 + 1))] [some (.ref (E.2.1 1)), some (.int x1), some (.ref (E.2.1 k2)), some (.int (x3 + 1))] from ⟨rfl, ⟨rfl, ⟨rfl, ⟨rfl, trivial⟩⟩⟩⟩) (ih x1 k2 (x3 + 1) _ hw)
set_option maxRecDepth 100000 in
set_option maxHeartbeats 4000000 in
theorem t_X5_shortenBy_E {p : Program} {l : Launch} {e : Env} {s : State} {m : MethodId} {args : Array Value} {below : List Frame} {meth : Method} {c : Code} {E : WD} {Q : MS → Prop} (hc : Cx p rm_X5_shortenBy s m args meth c E (AD E) cX5_shortenBy RX5 none 4 0 0 rdm) (x1 : Int32) (k2 : Nat) (σ : MS) (hw : w_X5_shortenBy_E Q x1 k2 σ) : V p l e rm_X5_shortenBy s m args below meth c E (AD E) 4 0 0 (MQ below (va_Qv Q (BW E) (AD E)) args s 0 0 (AD E)) σ 0 [some (.ref (E.2.1 1)), some (.int x1), some (.ref (E.2.1 k2)), none] [] := by
  unfold w_X5_shortenBy_E at hw
  refine vIconst (pc := 0) (v := 0) hc dX5_shortenBy_0 ki_0 ?_
  refine vIstore_n (pc := 1) (L2 := [some (.ref (E.2.1 1)), some (.int x1), some (.ref (E.2.1 k2)), some (.int 0)]) hc dX5_shortenBy_1 rfl (Nat.le_of_ble_eq_true rfl) ?_
  obtain ⟨n2, hw⟩ := hw
  exact vMono (L2 := [some (.ref (E.2.1 1)), some (.int x1), some (.ref (E.2.1 k2)), some (.int 0)]) (show subL [some (.ref (E.2.1 1)), some (.int x1), some (.ref (E.2.1 k2)), some (.int 0)] [some (.ref (E.2.1 1)), some (.int x1), some (.ref (E.2.1 k2)), some (.int 0)] from ⟨rfl, ⟨rfl, ⟨rfl, ⟨rfl, trivial⟩⟩⟩⟩) (t_X5_shortenBy_H2 hc  n2 x1 k2 0 _ hw)
set_option maxRecDepth 100000 in
set_option maxHeartbeats 4000000 in
theorem c_X5_shortenBy {l : Launch} {E : WD} (hE : inj E) (hG : ∀ k, rdm k → k ∈ E.2.2.2) {x1 : Int32} {k2 : Nat} {σ : MS} {Q : MS → Prop} (hw : w_X5_shortenBy x1 k2 σ Q) : Cv l E yX5_shortenBy cX5_shortenBy 4 none rm_X5_shortenBy [.ref (E.2.1 1), .int x1, .ref (E.2.1 k2)] σ Q :=
  Ct_of (by decide) rfl (by
    intro v hv
    simp only [List.mem_cons, List.not_mem_nil, or_false] at hv
    rcases hv with rfl | rfl | rfl <;> rfl) (Nat.le_of_ble_eq_true rfl) hE hG (fun p e s m below meth c hc => t_X5_shortenBy_E hc x1 k2 σ hw)
def w_X5_renew_H43 (K35 : Int32 → MS → Prop) (Q : MS → Prop) : Nat → Int32 → Int32 → MS → Prop
  | 0, _, _, _ => False
  | n + 1, x1, x2, σ => ((10 ≤ x2 → K35 (x1 + 1) σ) ∧ (¬ 10 ≤ x2 → ((vp_in x2 10) ∧ w_X5_shortenBy x1 (56 + x2.toNatClampNeg) σ (fun σ57 => w_X5_renew_H43 K35 Q n x1 (x2 + 1) σ57))))
def w_X5_renew_H35 (Q : MS → Prop) : Nat → Int32 → MS → Prop
  | 0, _, _ => False
  | n + 1, x1, σ => ((10 ≤ x1 → Q σ) ∧ (¬ 10 ≤ x1 → (∃ n43, w_X5_renew_H43 (fun x1 σ => w_X5_renew_H35 Q n x1 σ) Q n43 x1 0 σ)))
def w_X5_renew_H2 (Q : MS → Prop) : Nat → Int32 → MS → Prop
  | 0, _, _ => False
  | n + 1, x1, σ => ((10 ≤ x1 → (∃ n35, w_X5_renew_H35 Q n35 0 σ)) ∧ (¬ 10 ≤ x1 → ((vp_in x1 10) ∧ ((46 ≤ (46 + x1.toNatClampNeg) ∧ (46 + x1.toNatClampNeg) < 66) ∧ ((46 ≤ (56 + x1.toNatClampNeg) ∧ (56 + x1.toNatClampNeg) < 66) ∧ (∀ σ24, σ24 = mcp σ (46 + x1.toNatClampNeg) (56 + x1.toNatClampNeg) 0 0 10 → w_X5_renew_H2 Q n (x1 + 1) σ24))))))
def w_X5_renew_E (Q : MS → Prop) (σ : MS) : Prop := (∃ n2, w_X5_renew_H2 Q n2 0 σ)
abbrev w_X5_renew (σ : MS) (Q : MS → Prop) : Prop := w_X5_renew_E Q  σ
abbrev rm_X5_renew : Room := { frames := 2, cells := 0, slots := 0, locals := 83 }
theorem ok_X5_renew : OkV yX5_renew RX5 cX5_renew 3 none 0 := ⟨tw_80, tw_0, tw_46, tw_81, rfl, by decide, by decide, by decide +kernel⟩
set_option maxRecDepth 100000 in
set_option maxHeartbeats 4000000 in
theorem t_X5_renew_H43 {p : Program} {l : Launch} {e : Env} {s : State} {m : MethodId} {args : Array Value} {below : List Frame} {meth : Method} {c : Code} {E : WD} {Q : MS → Prop} (hc : Cx p rm_X5_renew s m args meth c E (AD E) cX5_renew RX5 none 3 0 0 rdm) {K35 : Int32 → MS → Prop} (hK35 : ∀ (x1 : Int32) (σ : MS), K35 x1 σ → V p l e rm_X5_renew s m args below meth c E (AD E) 3 0 0 (MQ below (va_Qv Q (BW E) (AD E)) args s 0 0 (AD E)) σ 35 [some (.ref (E.2.1 1)), some (.int x1), none] []) : ∀ (n : Nat) (x1 x2 : Int32) (σ : MS), w_X5_renew_H43 K35 Q n x1 x2 σ → V p l e rm_X5_renew s m args below meth c E (AD E) 3 0 0 (MQ below (va_Qv Q (BW E) (AD E)) args s 0 0 (AD E)) σ 43 [some (.ref (E.2.1 1)), some (.int x1), some (.int x2)] [] := by
  intro n
  induction n with
  | zero =>
    intro x1 x2 σ hw
    exact hw.elim
  | succ n ih =>
    intro x1 x2 σ hw
    unfold w_X5_renew_H43 at hw
    refine vIload_n (pc := 43) hc dX5_renew_43 rfl ?_
    refine vBipush (pc := 44) (v := 10) hc dX5_renew_44 kb_10 ?_
    refine vIcmp_ge (pc := 46) (tgt := 66) hc dX5_renew_46 (by decide) (fun c46 => ?_) (fun c46 => ?_)
    · have hw := hw.1 c46
      refine vIinc (pc := 66) (v := x1 + 1) (L2 := [some (.ref (E.2.1 1)), some (.int (x1 + 1)), some (.int x2)]) hc dX5_renew_66 rfl rfl rfl (Nat.le_of_ble_eq_true rfl) ?_
      refine vGoto (pc := 69) (tgt := 35) hc dX5_renew_69 (by decide) ?_
      exact vMono (L2 := [some (.ref (E.2.1 1)), some (.int (x1 + 1)), none]) (show subL [some (.ref (E.2.1 1)), some (.int (x1 + 1)), none] [some (.ref (E.2.1 1)), some (.int (x1 + 1)), some (.int x2)] from ⟨rfl, ⟨rfl, trivial⟩⟩) (hK35 (x1 + 1) _ hw)
    · have hw := hw.2 c46
      refine vAload_n (pc := 49) hc dX5_renew_49 rfl ?_
      refine vIload_n (pc := 50) hc dX5_renew_50 rfl ?_
      refine vAload_n (pc := 51) hc dX5_renew_51 rfl ?_
      refine vGetR (pc := 52) (k := 1) (j := 1) hc rfl inG5 (hc.G 1 (by decide)) rfl (Nat.le_of_ble_eq_true rfl) tw_93 rfl dX5_renew_52 ?_
      refine vIload_n (pc := 55) hc dX5_renew_55 rfl ?_
      obtain ⟨hi1, hw⟩ := hw
      refine vAaldF (pc := 56) hc (hc.G 3 (by decide)) hi1 dX5_renew_56 ?_
      refine vCallVv (pc := 57) (st := []) hc ok_X5_shortenBy tw_85 (c_X5_shortenBy hc.2.2.2.2.2.2.1 hc.G hw) (hc.G 1 (by decide)) rfl rfl rfl ⟨rfl, rfl⟩ ⟨Nat.le_of_ble_eq_true rfl, Nat.le_of_ble_eq_true rfl⟩ rfl (Nat.le_of_ble_eq_true rfl) dX5_renew_57 (fun σ57 hw => ?_)
      refine vIinc (pc := 60) (v := x2 + 1) (L2 := [some (.ref (E.2.1 1)), some (.int x1), some (.int (x2 + 1))]) hc dX5_renew_60 rfl rfl rfl (Nat.le_of_ble_eq_true rfl) ?_
      refine vGoto (pc := 63) (tgt := 43) hc dX5_renew_63 (by decide) ?_
      exact vMono (L2 := [some (.ref (E.2.1 1)), some (.int x1), some (.int (x2 + 1))]) (show subL [some (.ref (E.2.1 1)), some (.int x1), some (.int (x2 + 1))] [some (.ref (E.2.1 1)), some (.int x1), some (.int (x2 + 1))] from ⟨rfl, ⟨rfl, ⟨rfl, trivial⟩⟩⟩) (ih x1 (x2 + 1) _ hw)
set_option maxRecDepth 100000 in
set_option maxHeartbeats 4000000 in
theorem t_X5_renew_H35 {p : Program} {l : Launch} {e : Env} {s : State} {m : MethodId} {args : Array Value} {below : List Frame} {meth : Method} {c : Code} {E : WD} {Q : MS → Prop} (hc : Cx p rm_X5_renew s m args meth c E (AD E) cX5_renew RX5 none 3 0 0 rdm) : ∀ (n : Nat) (x1 : Int32) (σ : MS), w_X5_renew_H35 Q n x1 σ → V p l e rm_X5_renew s m args below meth c E (AD E) 3 0 0 (MQ below (va_Qv Q (BW E) (AD E)) args s 0 0 (AD E)) σ 35 [some (.ref (E.2.1 1)), some (.int x1), none] [] := by
  intro n
  induction n with
  | zero =>
    intro x1 σ hw
    exact hw.elim
  | succ n ih =>
    intro x1 σ hw
    unfold w_X5_renew_H35 at hw
    refine vIload_n (pc := 35) hc dX5_renew_35 rfl ?_
    refine vBipush (pc := 36) (v := 10) hc dX5_renew_36 kb_10 ?_
    refine vIcmp_ge (pc := 38) (tgt := 72) hc dX5_renew_38 (by decide) (fun c38 => ?_) (fun c38 => ?_)
    · have hw := hw.1 c38
      exact vVret (pc := 72) hc dX5_renew_72 hw
    · have hw := hw.2 c38
      refine vIconst (pc := 41) (v := 0) hc dX5_renew_41 ki_0 ?_
      refine vIstore_n (pc := 42) (L2 := [some (.ref (E.2.1 1)), some (.int x1), some (.int 0)]) hc dX5_renew_42 rfl (Nat.le_of_ble_eq_true rfl) ?_
      obtain ⟨n43, hw⟩ := hw
      exact vMono (L2 := [some (.ref (E.2.1 1)), some (.int x1), some (.int 0)]) (show subL [some (.ref (E.2.1 1)), some (.int x1), some (.int 0)] [some (.ref (E.2.1 1)), some (.int x1), some (.int 0)] from ⟨rfl, ⟨rfl, ⟨rfl, trivial⟩⟩⟩) (t_X5_renew_H43 hc (fun x1 σ hw => ih x1 σ hw) n43 x1 0 _ hw)
set_option maxRecDepth 100000 in
set_option maxHeartbeats 4000000 in
theorem t_X5_renew_H2 {p : Program} {l : Launch} {e : Env} {s : State} {m : MethodId} {args : Array Value} {below : List Frame} {meth : Method} {c : Code} {E : WD} {Q : MS → Prop} (hc : Cx p rm_X5_renew s m args meth c E (AD E) cX5_renew RX5 none 3 0 0 rdm) : ∀ (n : Nat) (x1 : Int32) (σ : MS), w_X5_renew_H2 Q n x1 σ → V p l e rm_X5_renew s m args below meth c E (AD E) 3 0 0 (MQ below (va_Qv Q (BW E) (AD E)) args s 0 0 (AD E)) σ 2 [some (.ref (E.2.1 1)), some (.int x1), none] [] := by
  intro n
  induction n with
  | zero =>
    intro x1 σ hw
    exact hw.elim
  | succ n ih =>
    intro x1 σ hw
    unfold w_X5_renew_H2 at hw
    refine vIload_n (pc := 2) hc dX5_renew_2 rfl ?_
    refine vBipush (pc := 3) (v := 10) hc dX5_renew_3 kb_10 ?_
    refine vIcmp_ge (pc := 5) (tgt := 33) hc dX5_renew_5 (by decide) (fun c5 => ?_) (fun c5 => ?_)
    · have hw := hw.1 c5
      refine vIconst (pc := 33) (v := 0) hc dX5_renew_33 ki_0 ?_
      refine vIstore_n (pc := 34) (L2 := [some (.ref (E.2.1 1)), some (.int 0), none]) hc dX5_renew_34 rfl (Nat.le_of_ble_eq_true rfl) ?_
      obtain ⟨n35, hw⟩ := hw
      exact vMono (L2 := [some (.ref (E.2.1 1)), some (.int 0), none]) (show subL [some (.ref (E.2.1 1)), some (.int 0), none] [some (.ref (E.2.1 1)), some (.int 0), none] from ⟨rfl, ⟨rfl, trivial⟩⟩) (t_X5_renew_H35 hc  n35 0 _ hw)
    · have hw := hw.2 c5
      refine vAload_n (pc := 8) hc dX5_renew_8 rfl ?_
      refine vGetR (pc := 9) (k := 1) (j := 0) hc rfl inG5 (hc.G 1 (by decide)) rfl (Nat.le_of_ble_eq_true rfl) tw_92 rfl dX5_renew_9 ?_
      refine vIload_n (pc := 12) hc dX5_renew_12 rfl ?_
      obtain ⟨hi1, hw⟩ := hw
      refine vAaldD (pc := 13) hc (hc.G 2 (by decide)) hi1 dX5_renew_13 ?_
      refine vIconst (pc := 14) (v := 0) hc dX5_renew_14 ki_0 ?_
      refine vAload_n (pc := 15) hc dX5_renew_15 rfl ?_
      refine vGetR (pc := 16) (k := 1) (j := 1) hc rfl inG5 (hc.G 1 (by decide)) rfl (Nat.le_of_ble_eq_true rfl) tw_93 rfl dX5_renew_16 ?_
      refine vIload_n (pc := 19) hc dX5_renew_19 rfl ?_
      refine vAaldF (pc := 20) hc (hc.G 3 (by decide)) hi1 dX5_renew_20 ?_
      refine vIconst (pc := 21) (v := 0) hc dX5_renew_21 ki_0 ?_
      refine vBipush (pc := 22) (v := 10) hc dX5_renew_22 kb_10 ?_
      obtain ⟨hp2, hw⟩ := hw
      obtain ⟨hp3, hw⟩ := hw
      refine vCopy (pc := 24) (k := (46 + x1.toNatClampNeg)) (k2 := (56 + x1.toNatClampNeg)) hc tw_82 tw_nat tw_83 tw_48 (hc.G _ (rdm_r hp2)) (rw_1 hp2) (hc.G _ (rdm_r hp3)) (rw_1 hp3) (rw_n hp2) (rw_n hp3) (by decide) (by decide) (by decide) (by decide) (by decide) ⟨Nat.le_of_ble_eq_true rfl, by decide⟩ dX5_renew_24 (fun σ24 eσ24 => ?_)
      have hw := hw σ24 eσ24
      refine vIinc (pc := 27) (v := x1 + 1) (L2 := [some (.ref (E.2.1 1)), some (.int (x1 + 1)), none]) hc dX5_renew_27 rfl rfl rfl (Nat.le_of_ble_eq_true rfl) ?_
      refine vGoto (pc := 30) (tgt := 2) hc dX5_renew_30 (by decide) ?_
      exact vMono (L2 := [some (.ref (E.2.1 1)), some (.int (x1 + 1)), none]) (show subL [some (.ref (E.2.1 1)), some (.int (x1 + 1)), none] [some (.ref (E.2.1 1)), some (.int (x1 + 1)), none] from ⟨rfl, ⟨rfl, trivial⟩⟩) (ih (x1 + 1) _ hw)
set_option maxRecDepth 100000 in
set_option maxHeartbeats 4000000 in
theorem t_X5_renew_E {p : Program} {l : Launch} {e : Env} {s : State} {m : MethodId} {args : Array Value} {below : List Frame} {meth : Method} {c : Code} {E : WD} {Q : MS → Prop} (hc : Cx p rm_X5_renew s m args meth c E (AD E) cX5_renew RX5 none 3 0 0 rdm) (σ : MS) (hw : w_X5_renew_E Q  σ) : V p l e rm_X5_renew s m args below meth c E (AD E) 3 0 0 (MQ below (va_Qv Q (BW E) (AD E)) args s 0 0 (AD E)) σ 0 [some (.ref (E.2.1 1)), none, none] [] := by
  unfold w_X5_renew_E at hw
  refine vIconst (pc := 0) (v := 0) hc dX5_renew_0 ki_0 ?_
  refine vIstore_n (pc := 1) (L2 := [some (.ref (E.2.1 1)), some (.int 0), none]) hc dX5_renew_1 rfl (Nat.le_of_ble_eq_true rfl) ?_
  obtain ⟨n2, hw⟩ := hw
  exact vMono (L2 := [some (.ref (E.2.1 1)), some (.int 0), none]) (show subL [some (.ref (E.2.1 1)), some (.int 0), none] [some (.ref (E.2.1 1)), some (.int 0), none] from ⟨rfl, ⟨rfl, trivial⟩⟩) (t_X5_renew_H2 hc  n2 0 _ hw)
set_option maxRecDepth 100000 in
set_option maxHeartbeats 4000000 in
theorem c_X5_renew {l : Launch} {E : WD} (hE : inj E) (hG : ∀ k, rdm k → k ∈ E.2.2.2) {σ : MS} {Q : MS → Prop} (hw : w_X5_renew  σ Q) : Cv l E yX5_renew cX5_renew 3 none rm_X5_renew [.ref (E.2.1 1)] σ Q :=
  Ct_of (by decide) rfl (by
    intro v hv
    simp only [List.mem_cons, List.not_mem_nil, or_false] at hv
    rcases hv with rfl <;> rfl) (Nat.le_of_ble_eq_true rfl) hE hG (fun p e s m below meth c hc => t_X5_renew_E hc  σ hw)
def w_X5_change_E (Q : Int32 → MS → Prop) (x1 x2 x3 : Int32) (σ : MS) : Prop := ((vp_in x1 10) ∧ ((46 ≤ (46 + x1.toNatClampNeg) ∧ (46 + x1.toNatClampNeg) < 66) ∧ ((vp_in x2 10) ∧ (∀ x4_8 : Int32, x4_8 = (σ (46 + x1.toNatClampNeg) x2.toNatClampNeg) → (∀ σ18, σ18 = mst σ (46 + x1.toNatClampNeg) x2.toNatClampNeg x3 → ((x4_8 = x3 → Q x4_8 σ18) ∧ (¬ x4_8 = x3 → w_X5_renew  σ18 (fun σ26 => Q x4_8 σ26))))))))
abbrev w_X5_change (x1 x2 x3 : Int32) (σ : MS) (Q : Int32 → MS → Prop) : Prop := w_X5_change_E Q x1 x2 x3 σ
abbrev rm_X5_change : Room := { frames := 3, cells := 0, slots := 0, locals := 105 }
theorem ok_X5_change : OkV yX5_change RX5 cX5_change 5 (some .int) 3 := ⟨tw_344, tw_345, tw_46, tw_346, rfl, by decide, by decide, by decide +kernel⟩
set_option maxRecDepth 100000 in
set_option maxHeartbeats 4000000 in
theorem t_X5_change_E {p : Program} {l : Launch} {e : Env} {s : State} {m : MethodId} {args : Array Value} {below : List Frame} {meth : Method} {c : Code} {E : WD} {Q : Int32 → MS → Prop} (hc : Cx p rm_X5_change s m args meth c E (AD E) cX5_change RX5 (some .int) 5 0 0 fdm) (x1 x2 x3 : Int32) (σ : MS) (hw : w_X5_change_E Q x1 x2 x3 σ) : V p l e rm_X5_change s m args below meth c E (AD E) 5 0 0 (MQ below (va_Qi Q (BW E) (AD E)) args s 0 0 (AD E)) σ 0 [some (.ref (E.2.1 1)), some (.int x1), some (.int x2), some (.int x3), none] [] := by
  unfold w_X5_change_E at hw
  refine vAload_n (pc := 0) hc dX5_change_0 rfl ?_
  refine vGetR (pc := 1) (k := 1) (j := 0) hc rfl inG5 (hc.G 1 (Nat.le_of_ble_eq_true rfl)) rfl (Nat.le_of_ble_eq_true rfl) tw_92 rfl dX5_change_1 ?_
  refine vIload_n (pc := 4) hc dX5_change_4 rfl ?_
  obtain ⟨hi1, hw⟩ := hw
  refine vAaldD (pc := 5) hc (hc.G 2 (Nat.le_of_ble_eq_true rfl)) hi1 dX5_change_5 ?_
  refine vIload_n (pc := 6) hc dX5_change_6 rfl ?_
  obtain ⟨hp2, hw⟩ := hw
  obtain ⟨hi3, hw⟩ := hw
  refine vIald (pc := 7) (k := (46 + x1.toNatClampNeg)) hc (hc.G _ (rw_N hp2)) (rw_1 hp2) (rw_n hp2) hi3 dX5_change_7 ?_
  obtain ⟨x4_8, ex4_8⟩ : ∃ z : Int32, z = σ (46 + x1.toNatClampNeg) x2.toNatClampNeg := ⟨_, rfl⟩
  have hw := hw x4_8 ex4_8
  refine vTop ex4_8 ?_
  refine vIstore (pc := 8) (L2 := [some (.ref (E.2.1 1)), some (.int x1), some (.int x2), some (.int x3), some (.int x4_8)]) hc dX5_change_8 rfl (Nat.le_of_ble_eq_true rfl) ?_
  refine vAload_n (pc := 10) hc dX5_change_10 rfl ?_
  refine vGetR (pc := 11) (k := 1) (j := 0) hc rfl inG5 (hc.G 1 (Nat.le_of_ble_eq_true rfl)) rfl (Nat.le_of_ble_eq_true rfl) tw_92 rfl dX5_change_11 ?_
  refine vIload_n (pc := 14) hc dX5_change_14 rfl ?_
  refine vAaldD (pc := 15) hc (hc.G 2 (Nat.le_of_ble_eq_true rfl)) hi1 dX5_change_15 ?_
  refine vIload_n (pc := 16) hc dX5_change_16 rfl ?_
  refine vIload_n (pc := 17) hc dX5_change_17 rfl ?_
  refine vIast (pc := 18) (k := (46 + x1.toNatClampNeg)) hc (hc.G _ (rw_N hp2)) (rw_1 hp2) (rw_n hp2) hi3 dX5_change_18 (fun σ18 eσ18 => ?_)
  have hw := hw σ18 eσ18
  refine vIload (pc := 19) hc dX5_change_19 rfl ?_
  refine vIload_n (pc := 21) hc dX5_change_21 rfl ?_
  refine vIcmp_eq (pc := 22) (tgt := 29) hc dX5_change_22 (by decide) (fun c22 => ?_) (fun c22 => ?_)
  · have hw := hw.1 c22
    refine vIload (pc := 29) hc dX5_change_29 rfl ?_
    exact vIret (pc := 31) hc dX5_change_31 hw
  · have hw := hw.2 c22
    refine vAload_n (pc := 25) hc dX5_change_25 rfl ?_
    refine vCallVv (pc := 26) (st := []) hc ok_X5_renew tw_78 (c_X5_renew hc.2.2.2.2.2.2.1 (fun k hk => hc.G k (rdm_lt hk)) hw) (hc.G 1 (Nat.le_of_ble_eq_true rfl)) rfl rfl rfl ⟨rfl, rfl⟩ ⟨Nat.le_of_ble_eq_true rfl, Nat.le_of_ble_eq_true rfl⟩ rfl (Nat.le_of_ble_eq_true rfl) dX5_change_26 (fun σ26 hw => ?_)
    refine vIload (pc := 29) hc dX5_change_29 rfl ?_
    exact vIret (pc := 31) hc dX5_change_31 hw
set_option maxRecDepth 100000 in
set_option maxHeartbeats 4000000 in
theorem c_X5_change {l : Launch} {E : WD} (hE : inj E) (hG : ∀ k, fdm k → k ∈ E.2.2.2) {x1 x2 x3 : Int32} {σ : MS} {Q : Int32 → MS → Prop} (hw : w_X5_change x1 x2 x3 σ Q) : Ci l E yX5_change cX5_change 5 (some .int) rm_X5_change [.ref (E.2.1 1), .int x1, .int x2, .int x3] σ Q :=
  Ct_of (by decide) rfl (by
    intro v hv
    simp only [List.mem_cons, List.not_mem_nil, or_false] at hv
    rcases hv with rfl | rfl | rfl | rfl <;> rfl) (Nat.le_of_ble_eq_true rfl) hE hG (fun p e s m below meth c hc => t_X5_change_E hc x1 x2 x3 σ hw)
def w_X6_tell_J53 (Q : Int32 → MS → Prop) (x1 : Int32) (σ : MS) : Prop := ((x1 < 12 → Q (-9) σ) ∧ (¬ x1 < 12 → ((((12 : Int32) + (σ 8 0)) ≤ x1 → Q (-9) σ) ∧ (¬ ((12 : Int32) + (σ 8 0)) ≤ x1 → ((vp_in (x1 - 12) 4) ∧ ((vp_in (σ 20 (x1 - 12).toNatClampNeg) 4) ∧ Q (σ 18 (σ 20 (x1 - 12).toNatClampNeg).toNatClampNeg) σ))))))
def w_X6_tell_E (Q : Int32 → MS → Prop) (x1 : Int32) (σ : MS) : Prop := ((¬ x1 = 0 → ((¬ x1 = 1 → ((x1 < 2 → w_X6_tell_J53 Q x1 σ) ∧ (¬ x1 < 2 → ((((2 : Int32) + (σ 8 0)) ≤ x1 → w_X6_tell_J53 Q x1 σ) ∧ (¬ ((2 : Int32) + (σ 8 0)) ≤ x1 → ((vp_in (x1 - 2) 4) ∧ ((vp_in (σ 19 (x1 - 2).toNatClampNeg) 4) ∧ Q (σ 18 (σ 19 (x1 - 2).toNatClampNeg).toNatClampNeg) σ))))))) ∧ (x1 = 1 → Q ((σ 8 7) + (σ 8 6)) σ))) ∧ (x1 = 0 → Q (σ 8 7) σ))
abbrev w_X6_tell (x1 : Int32) (σ : MS) (Q : Int32 → MS → Prop) : Prop := w_X6_tell_E Q x1 σ
abbrev rm_X6_tell : Room := { frames := 0, cells := 0, slots := 0, locals := 0 }
theorem ok_X6_tell : OkV yX6_tell RX6 cX6_tell 2 (some .int) 1 := ⟨tw_499, tw_500, tw_53, tw_501, rfl, by decide, by decide, by decide +kernel⟩
set_option maxRecDepth 100000 in
set_option maxHeartbeats 4000000 in
theorem t_X6_tell_J53 {p : Program} {l : Launch} {e : Env} {s : State} {m : MethodId} {args : Array Value} {below : List Frame} {meth : Method} {c : Code} {E : WD} {Q : Int32 → MS → Prop} (hc : Cx p rm_X6_tell s m args meth c E (AD E) cX6_tell RX6 (some .int) 2 0 0 fdm) (x1 : Int32) (σ : MS) (hw : w_X6_tell_J53 Q x1 σ) : V p l e rm_X6_tell s m args below meth c E (AD E) 2 0 0 (MQ below (va_Qi Q (BW E) (AD E)) args s 0 0 (AD E)) σ 53 [some (.ref (E.2.1 8)), some (.int x1)] [] := by
  unfold w_X6_tell_J53 at hw
  refine vIload_n (pc := 53) hc dX6_tell_53 rfl ?_
  refine vBipush (pc := 54) (v := 12) hc dX6_tell_54 kb_12 ?_
  refine vIcmp_lt (pc := 56) (tgt := 85) hc dX6_tell_56 (by decide) (fun c56 => ?_) (fun c56 => ?_)
  · have hw := hw.1 c56
    refine vBipush (pc := 85) (v := (-9)) hc dX6_tell_85 kb_m9 ?_
    exact vIret (pc := 87) hc dX6_tell_87 hw
  · have hw := hw.2 c56
    refine vIload_n (pc := 59) hc dX6_tell_59 rfl ?_
    refine vBipush (pc := 60) (v := 12) hc dX6_tell_60 kb_12 ?_
    refine vAload_n (pc := 62) hc dX6_tell_62 rfl ?_
    refine vGetI (pc := 63) (k := 8) (j := 0) hc rfl inG6 (hc.G 8 (Nat.le_of_ble_eq_true rfl)) rfl (Nat.le_of_ble_eq_true rfl) tw_177 rfl dX6_tell_63 ?_
    refine vIadd (pc := 66) hc dX6_tell_66 ?_
    refine vIcmp_ge (pc := 67) (tgt := 85) hc dX6_tell_67 (by decide) (fun c67 => ?_) (fun c67 => ?_)
    · have hw := hw.1 c67
      refine vBipush (pc := 85) (v := (-9)) hc dX6_tell_85 kb_m9 ?_
      exact vIret (pc := 87) hc dX6_tell_87 hw
    · have hw := hw.2 c67
      refine vAload_n (pc := 70) hc dX6_tell_70 rfl ?_
      refine vGetR (pc := 71) (k := 8) (j := 1) hc rfl inG6 (hc.G 8 (Nat.le_of_ble_eq_true rfl)) rfl (Nat.le_of_ble_eq_true rfl) tw_180 rfl dX6_tell_71 ?_
      refine vAload_n (pc := 74) hc dX6_tell_74 rfl ?_
      refine vGetR (pc := 75) (k := 8) (j := 3) hc rfl inG6 (hc.G 8 (Nat.le_of_ble_eq_true rfl)) rfl (Nat.le_of_ble_eq_true rfl) tw_185 rfl dX6_tell_75 ?_
      refine vIload_n (pc := 78) hc dX6_tell_78 rfl ?_
      refine vBipush (pc := 79) (v := 12) hc dX6_tell_79 kb_12 ?_
      refine vIsub (pc := 81) hc dX6_tell_81 ?_
      obtain ⟨hi1, hw⟩ := hw
      refine vIald (pc := 82) (k := 20) hc (hc.G 20 (Nat.le_of_ble_eq_true rfl)) rfl rfl hi1 dX6_tell_82 ?_
      obtain ⟨hi2, hw⟩ := hw
      refine vIald (pc := 83) (k := 18) hc (hc.G 18 (Nat.le_of_ble_eq_true rfl)) rfl rfl hi2 dX6_tell_83 ?_
      exact vIret (pc := 84) hc dX6_tell_84 hw
set_option maxRecDepth 100000 in
set_option maxHeartbeats 4000000 in
theorem t_X6_tell_E {p : Program} {l : Launch} {e : Env} {s : State} {m : MethodId} {args : Array Value} {below : List Frame} {meth : Method} {c : Code} {E : WD} {Q : Int32 → MS → Prop} (hc : Cx p rm_X6_tell s m args meth c E (AD E) cX6_tell RX6 (some .int) 2 0 0 fdm) (x1 : Int32) (σ : MS) (hw : w_X6_tell_E Q x1 σ) : V p l e rm_X6_tell s m args below meth c E (AD E) 2 0 0 (MQ below (va_Qi Q (BW E) (AD E)) args s 0 0 (AD E)) σ 0 [some (.ref (E.2.1 8)), some (.int x1)] [] := by
  unfold w_X6_tell_E at hw
  refine vIload_n (pc := 0) hc dX6_tell_0 rfl ?_
  refine vIf_ne (pc := 1) (tgt := 9) hc dX6_tell_1 (by decide) (fun c1 => ?_) (fun c1 => ?_)
  · have hw := hw.1 c1
    refine vIload_n (pc := 9) hc dX6_tell_9 rfl ?_
    refine vIconst (pc := 10) (v := 1) hc dX6_tell_10 ki_1 ?_
    refine vIcmp_ne (pc := 11) (tgt := 24) hc dX6_tell_11 (by decide) (fun c11 => ?_) (fun c11 => ?_)
    · have hw := hw.1 c11
      refine vIload_n (pc := 24) hc dX6_tell_24 rfl ?_
      refine vIconst (pc := 25) (v := 2) hc dX6_tell_25 ki_2 ?_
      refine vIcmp_lt (pc := 26) (tgt := 53) hc dX6_tell_26 (by decide) (fun c26 => ?_) (fun c26 => ?_)
      · have hw := hw.1 c26
        exact vMono (L2 := [some (.ref (E.2.1 8)), some (.int x1)]) (show subL [some (.ref (E.2.1 8)), some (.int x1)] [some (.ref (E.2.1 8)), some (.int x1)] from ⟨rfl, ⟨rfl, trivial⟩⟩) (t_X6_tell_J53 hc  x1 _ hw)
      · have hw := hw.2 c26
        refine vIload_n (pc := 29) hc dX6_tell_29 rfl ?_
        refine vIconst (pc := 30) (v := 2) hc dX6_tell_30 ki_2 ?_
        refine vAload_n (pc := 31) hc dX6_tell_31 rfl ?_
        refine vGetI (pc := 32) (k := 8) (j := 0) hc rfl inG6 (hc.G 8 (Nat.le_of_ble_eq_true rfl)) rfl (Nat.le_of_ble_eq_true rfl) tw_177 rfl dX6_tell_32 ?_
        refine vIadd (pc := 35) hc dX6_tell_35 ?_
        refine vIcmp_ge (pc := 36) (tgt := 53) hc dX6_tell_36 (by decide) (fun c36 => ?_) (fun c36 => ?_)
        · have hw := hw.1 c36
          exact vMono (L2 := [some (.ref (E.2.1 8)), some (.int x1)]) (show subL [some (.ref (E.2.1 8)), some (.int x1)] [some (.ref (E.2.1 8)), some (.int x1)] from ⟨rfl, ⟨rfl, trivial⟩⟩) (t_X6_tell_J53 hc  x1 _ hw)
        · have hw := hw.2 c36
          refine vAload_n (pc := 39) hc dX6_tell_39 rfl ?_
          refine vGetR (pc := 40) (k := 8) (j := 1) hc rfl inG6 (hc.G 8 (Nat.le_of_ble_eq_true rfl)) rfl (Nat.le_of_ble_eq_true rfl) tw_180 rfl dX6_tell_40 ?_
          refine vAload_n (pc := 43) hc dX6_tell_43 rfl ?_
          refine vGetR (pc := 44) (k := 8) (j := 2) hc rfl inG6 (hc.G 8 (Nat.le_of_ble_eq_true rfl)) rfl (Nat.le_of_ble_eq_true rfl) tw_183 rfl dX6_tell_44 ?_
          refine vIload_n (pc := 47) hc dX6_tell_47 rfl ?_
          refine vIconst (pc := 48) (v := 2) hc dX6_tell_48 ki_2 ?_
          refine vIsub (pc := 49) hc dX6_tell_49 ?_
          obtain ⟨hi1, hw⟩ := hw
          refine vIald (pc := 50) (k := 19) hc (hc.G 19 (Nat.le_of_ble_eq_true rfl)) rfl rfl hi1 dX6_tell_50 ?_
          obtain ⟨hi2, hw⟩ := hw
          refine vIald (pc := 51) (k := 18) hc (hc.G 18 (Nat.le_of_ble_eq_true rfl)) rfl rfl hi2 dX6_tell_51 ?_
          exact vIret (pc := 52) hc dX6_tell_52 hw
    · have hw := hw.2 c11
      refine vAload_n (pc := 14) hc dX6_tell_14 rfl ?_
      refine vGetI (pc := 15) (k := 8) (j := 7) hc rfl inG6 (hc.G 8 (Nat.le_of_ble_eq_true rfl)) rfl (Nat.le_of_ble_eq_true rfl) tw_198 rfl dX6_tell_15 ?_
      refine vAload_n (pc := 18) hc dX6_tell_18 rfl ?_
      refine vGetI (pc := 19) (k := 8) (j := 6) hc rfl inG6 (hc.G 8 (Nat.le_of_ble_eq_true rfl)) rfl (Nat.le_of_ble_eq_true rfl) tw_194 rfl dX6_tell_19 ?_
      refine vIadd (pc := 22) hc dX6_tell_22 ?_
      exact vIret (pc := 23) hc dX6_tell_23 hw
  · have hw := hw.2 c1
    refine vAload_n (pc := 4) hc dX6_tell_4 rfl ?_
    refine vGetI (pc := 5) (k := 8) (j := 7) hc rfl inG6 (hc.G 8 (Nat.le_of_ble_eq_true rfl)) rfl (Nat.le_of_ble_eq_true rfl) tw_198 rfl dX6_tell_5 ?_
    exact vIret (pc := 8) hc dX6_tell_8 hw
set_option maxRecDepth 100000 in
set_option maxHeartbeats 4000000 in
theorem c_X6_tell {l : Launch} {E : WD} (hE : inj E) (hG : ∀ k, fdm k → k ∈ E.2.2.2) {x1 : Int32} {σ : MS} {Q : Int32 → MS → Prop} (hw : w_X6_tell x1 σ Q) : Ci l E yX6_tell cX6_tell 2 (some .int) rm_X6_tell [.ref (E.2.1 8), .int x1] σ Q :=
  Ct_of (by decide) rfl (by
    intro v hv
    simp only [List.mem_cons, List.not_mem_nil, or_false] at hv
    rcases hv with rfl | rfl <;> rfl) (Nat.le_of_ble_eq_true rfl) hE hG (fun p e s m below meth c hc => t_X6_tell_E hc x1 σ hw)
def w_X8_isStop_E (Q : Int32 → MS → Prop) (x0 : Int32) (σ : MS) : Prop := ((x0 < 0 → Q 0 σ) ∧ (¬ x0 < 0 → ((10 ≤ x0 → Q 0 σ) ∧ (¬ 10 ≤ x0 → Q 1 σ))))
abbrev w_X8_isStop (x0 : Int32) (σ : MS) (Q : Int32 → MS → Prop) : Prop := w_X8_isStop_E Q x0 σ
abbrev rm_X8_isStop : Room := { frames := 0, cells := 0, slots := 0, locals := 0 }
theorem ok_X8_isStop : OkS yX8_isStop cX8_isStop 1 (some .boolean) 1 := ⟨tw_337, tw_45, tw_338, by decide, by decide, by decide +kernel⟩
set_option maxRecDepth 100000 in
set_option maxHeartbeats 4000000 in
theorem t_X8_isStop_E {p : Program} {l : Launch} {e : Env} {s : State} {m : MethodId} {args : Array Value} {below : List Frame} {meth : Method} {c : Code} {E : WD} {Q : Int32 → MS → Prop} (hc : Cx p rm_X8_isStop s m args meth c E (AD E) cX8_isStop RX8 (some .boolean) 1 0 0 fdm) (x0 : Int32) (σ : MS) (hw : w_X8_isStop_E Q x0 σ) : V p l e rm_X8_isStop s m args below meth c E (AD E) 1 0 0 (MQ below (va_Qi Q (BW E) (AD E)) args s 0 0 (AD E)) σ 0 [some (.int x0)] [] := by
  unfold w_X8_isStop_E at hw
  refine vIload_n (pc := 0) hc dX8_isStop_0 rfl ?_
  refine vIf_lt (pc := 1) (tgt := 14) hc dX8_isStop_1 (by decide) (fun c1 => ?_) (fun c1 => ?_)
  · have hw := hw.1 c1
    refine vIconst (pc := 14) (v := 0) hc dX8_isStop_14 ki_0 ?_
    exact vZret (pc := 15) hc dX8_isStop_15 (Or.inl rfl) hw
  · have hw := hw.2 c1
    refine vIload_n (pc := 4) hc dX8_isStop_4 rfl ?_
    refine vBipush (pc := 5) (v := 10) hc dX8_isStop_5 kb_10 ?_
    refine vIcmp_ge (pc := 7) (tgt := 14) hc dX8_isStop_7 (by decide) (fun c7 => ?_) (fun c7 => ?_)
    · have hw := hw.1 c7
      refine vIconst (pc := 14) (v := 0) hc dX8_isStop_14 ki_0 ?_
      exact vZret (pc := 15) hc dX8_isStop_15 (Or.inl rfl) hw
    · have hw := hw.2 c7
      refine vIconst (pc := 10) (v := 1) hc dX8_isStop_10 ki_1 ?_
      refine vGoto (pc := 11) (tgt := 15) hc dX8_isStop_11 (by decide) ?_
      exact vZret (pc := 15) hc dX8_isStop_15 (Or.inr rfl) hw
set_option maxRecDepth 100000 in
set_option maxHeartbeats 4000000 in
theorem c_X8_isStop {l : Launch} {E : WD} (hE : inj E) (hG : ∀ k, fdm k → k ∈ E.2.2.2) {x0 : Int32} {σ : MS} {Q : Int32 → MS → Prop} (hw : w_X8_isStop x0 σ Q) : Ci l E yX8_isStop cX8_isStop 1 (some .boolean) rm_X8_isStop [.int x0] σ Q :=
  Ct_of (by decide) rfl (by
    intro v hv
    simp only [List.mem_cons, List.not_mem_nil, or_false] at hv
    rcases hv with rfl <;> rfl) (Nat.le_of_ble_eq_true rfl) hE hG (fun p e s m below meth c hc => t_X8_isStop_E hc x0 σ hw)
def w_X8_refuse_E (Q : Int32 → MS → Prop) (x1 : Int32) (σ : MS) : Prop := ((vp_in (-x1) 7) ∧ (∀ σ10, σ10 = mst σ 12 (-x1).toNatClampNeg ((σ 12 (-x1).toNatClampNeg) + 1) → Q x1 σ10))
abbrev w_X8_refuse (x1 : Int32) (σ : MS) (Q : Int32 → MS → Prop) : Prop := w_X8_refuse_E Q x1 σ
abbrev rm_X8_refuse : Room := { frames := 0, cells := 0, slots := 0, locals := 0 }
theorem ok_X8_refuse : OkV yX8_refuse RX8 cX8_refuse 2 (some .int) 1 := ⟨tw_341, tw_2, tw_45, tw_342, rfl, by decide, by decide, by decide +kernel⟩
set_option maxRecDepth 100000 in
set_option maxHeartbeats 4000000 in
theorem t_X8_refuse_E {p : Program} {l : Launch} {e : Env} {s : State} {m : MethodId} {args : Array Value} {below : List Frame} {meth : Method} {c : Code} {E : WD} {Q : Int32 → MS → Prop} (hc : Cx p rm_X8_refuse s m args meth c E (AD E) cX8_refuse RX8 (some .int) 2 0 0 fdm) (x1 : Int32) (σ : MS) (hw : w_X8_refuse_E Q x1 σ) : V p l e rm_X8_refuse s m args below meth c E (AD E) 2 0 0 (MQ below (va_Qi Q (BW E) (AD E)) args s 0 0 (AD E)) σ 0 [some (.ref (E.2.1 0)), some (.int x1)] [] := by
  unfold w_X8_refuse_E at hw
  refine vAload_n (pc := 0) hc dX8_refuse_0 rfl ?_
  refine vGetR (pc := 1) (k := 0) (j := 6) hc rfl inG8 (hc.G 0 (Nat.le_of_ble_eq_true rfl)) rfl (Nat.le_of_ble_eq_true rfl) tw_313 rfl dX8_refuse_1 ?_
  refine vIload_n (pc := 4) hc dX8_refuse_4 rfl ?_
  refine vIneg (pc := 5) hc dX8_refuse_5 ?_
  refine vDup2 (pc := 6) hc dX8_refuse_6 rfl rfl ?_
  obtain ⟨hi1, hw⟩ := hw
  refine vIald (pc := 7) (k := 12) hc (hc.G 12 (Nat.le_of_ble_eq_true rfl)) rfl rfl hi1 dX8_refuse_7 ?_
  refine vIconst (pc := 8) (v := 1) hc dX8_refuse_8 ki_1 ?_
  refine vIadd (pc := 9) hc dX8_refuse_9 ?_
  refine vIast (pc := 10) (k := 12) hc (hc.G 12 (Nat.le_of_ble_eq_true rfl)) rfl rfl hi1 dX8_refuse_10 (fun σ10 eσ10 => ?_)
  have hw := hw σ10 eσ10
  refine vIload_n (pc := 11) hc dX8_refuse_11 rfl ?_
  exact vIret (pc := 12) hc dX8_refuse_12 hw
set_option maxRecDepth 100000 in
set_option maxHeartbeats 4000000 in
theorem c_X8_refuse {l : Launch} {E : WD} (hE : inj E) (hG : ∀ k, fdm k → k ∈ E.2.2.2) {x1 : Int32} {σ : MS} {Q : Int32 → MS → Prop} (hw : w_X8_refuse x1 σ Q) : Ci l E yX8_refuse cX8_refuse 2 (some .int) rm_X8_refuse [.ref (E.2.1 0), .int x1] σ Q :=
  Ct_of (by decide) rfl (by
    intro v hv
    simp only [List.mem_cons, List.not_mem_nil, or_false] at hv
    rcases hv with rfl | rfl <;> rfl) (Nat.le_of_ble_eq_true rfl) hE hG (fun p e s m below meth c hc => t_X8_refuse_E hc x1 σ hw)
def w_X8_minutes_J19 (Q : Int32 → MS → Prop) (σ : MS) : Prop := w_X8_refuse (-1) σ (fun r21 σ21 => Q r21 σ21)
def w_X8_minutes_E (Q : Int32 → MS → Prop) (x1 x2 x3 : Int32) (σ : MS) : Prop := w_X8_isStop x1 σ (fun r1 σ1 => ((r1 = 0 → w_X8_minutes_J19 Q σ1) ∧ (¬ r1 = 0 → w_X8_isStop x2 σ1 (fun r8 σ8 => ((r8 = 0 → w_X8_minutes_J19 Q σ8) ∧ (¬ r8 = 0 → ((¬ x1 = x2 → ((0 ≤ x3 → ((x3 ≤ 300 → w_X5_change x1 x2 x3 σ8 (fun r57 σ57 => ((r57 = x3 → Q r57 σ57) ∧ (¬ r57 = x3 → w_X0_forgetWith 0 σ57 (fun σ73 => Q r57 σ73))))) ∧ (¬ x3 ≤ 300 → w_X8_refuse (-6) σ8 (fun r46 σ46 => Q r46 σ46)))) ∧ (¬ 0 ≤ x3 → w_X8_refuse (-4) σ8 (fun r32 σ32 => Q r32 σ32)))) ∧ (x1 = x2 → w_X8_minutes_J19 Q σ8))))))))
abbrev w_X8_minutes (x1 x2 x3 : Int32) (σ : MS) (Q : Int32 → MS → Prop) : Prop := w_X8_minutes_E Q x1 x2 x3 σ
abbrev rm_X8_minutes : Room := { frames := 4, cells := 0, slots := 0, locals := 129 }
theorem ok_X8_minutes : OkV yX8_minutes RX8 cX8_minutes 5 (some .int) 3 := ⟨tw_333, tw_334, tw_45, tw_335, rfl, by decide, by decide, by decide +kernel⟩
set_option maxRecDepth 100000 in
set_option maxHeartbeats 4000000 in
theorem t_X8_minutes_J19 {p : Program} {l : Launch} {e : Env} {s : State} {m : MethodId} {args : Array Value} {below : List Frame} {meth : Method} {c : Code} {E : WD} {Q : Int32 → MS → Prop} (hc : Cx p rm_X8_minutes s m args meth c E (AD E) cX8_minutes RX8 (some .int) 5 0 0 fdm) (σ : MS) (hw : w_X8_minutes_J19 Q  σ) : V p l e rm_X8_minutes s m args below meth c E (AD E) 5 0 0 (MQ below (va_Qi Q (BW E) (AD E)) args s 0 0 (AD E)) σ 19 [some (.ref (E.2.1 0)), none, none, none, none] [] := by
  unfold w_X8_minutes_J19 at hw
  refine vAload_n (pc := 19) hc dX8_minutes_19 rfl ?_
  refine vIconst (pc := 20) (v := (-1)) hc dX8_minutes_20 ki_m1 ?_
  refine vCallVi (pc := 21) (st := []) hc ok_X8_refuse tw_339 (c_X8_refuse hc.2.2.2.2.2.2.1 hc.G hw) (hc.G 0 (Nat.le_of_ble_eq_true rfl)) rfl rfl rfl ⟨rfl, rfl⟩ ⟨Nat.le_of_ble_eq_true rfl, Nat.le_of_ble_eq_true rfl⟩ rfl (Nat.le_of_ble_eq_true rfl) dX8_minutes_21 (fun r21 σ21 hw => ?_)
  exact vIret (pc := 24) hc dX8_minutes_24 hw
set_option maxRecDepth 100000 in
set_option maxHeartbeats 4000000 in
theorem t_X8_minutes_E {p : Program} {l : Launch} {e : Env} {s : State} {m : MethodId} {args : Array Value} {below : List Frame} {meth : Method} {c : Code} {E : WD} {Q : Int32 → MS → Prop} (hc : Cx p rm_X8_minutes s m args meth c E (AD E) cX8_minutes RX8 (some .int) 5 0 0 fdm) (x1 x2 x3 : Int32) (σ : MS) (hw : w_X8_minutes_E Q x1 x2 x3 σ) : V p l e rm_X8_minutes s m args below meth c E (AD E) 5 0 0 (MQ below (va_Qi Q (BW E) (AD E)) args s 0 0 (AD E)) σ 0 [some (.ref (E.2.1 0)), some (.int x1), some (.int x2), some (.int x3), none] [] := by
  unfold w_X8_minutes_E at hw
  refine vIload_n (pc := 0) hc dX8_minutes_0 rfl ?_
  refine vCallSi (pc := 1) (st := []) hc ok_X8_isStop tw_336 (c_X8_isStop hc.2.2.2.2.2.2.1 hc.G hw) rfl ⟨rfl, rfl⟩ ⟨Nat.le_of_ble_eq_true rfl, Nat.le_of_ble_eq_true rfl⟩ rfl (Nat.le_of_ble_eq_true rfl) dX8_minutes_1 (fun r1 σ1 hw => ?_)
  refine vIf_eq (pc := 4) (tgt := 19) hc dX8_minutes_4 (by decide) (fun c4 => ?_) (fun c4 => ?_)
  · have hw := hw.1 c4
    exact vMono (L2 := [some (.ref (E.2.1 0)), none, none, none, none]) (show subL [some (.ref (E.2.1 0)), none, none, none, none] [some (.ref (E.2.1 0)), some (.int x1), some (.int x2), some (.int x3), none] from ⟨rfl, trivial⟩) (t_X8_minutes_J19 hc   _ hw)
  · have hw := hw.2 c4
    refine vIload_n (pc := 7) hc dX8_minutes_7 rfl ?_
    refine vCallSi (pc := 8) (st := []) hc ok_X8_isStop tw_336 (c_X8_isStop hc.2.2.2.2.2.2.1 hc.G hw) rfl ⟨rfl, rfl⟩ ⟨Nat.le_of_ble_eq_true rfl, Nat.le_of_ble_eq_true rfl⟩ rfl (Nat.le_of_ble_eq_true rfl) dX8_minutes_8 (fun r8 σ8 hw => ?_)
    refine vIf_eq (pc := 11) (tgt := 19) hc dX8_minutes_11 (by decide) (fun c11 => ?_) (fun c11 => ?_)
    · have hw := hw.1 c11
      exact vMono (L2 := [some (.ref (E.2.1 0)), none, none, none, none]) (show subL [some (.ref (E.2.1 0)), none, none, none, none] [some (.ref (E.2.1 0)), some (.int x1), some (.int x2), some (.int x3), none] from ⟨rfl, trivial⟩) (t_X8_minutes_J19 hc   _ hw)
    · have hw := hw.2 c11
      refine vIload_n (pc := 14) hc dX8_minutes_14 rfl ?_
      refine vIload_n (pc := 15) hc dX8_minutes_15 rfl ?_
      refine vIcmp_ne (pc := 16) (tgt := 25) hc dX8_minutes_16 (by decide) (fun c16 => ?_) (fun c16 => ?_)
      · have hw := hw.1 c16
        refine vIload_n (pc := 25) hc dX8_minutes_25 rfl ?_
        refine vIf_ge (pc := 26) (tgt := 36) hc dX8_minutes_26 (by decide) (fun c26 => ?_) (fun c26 => ?_)
        · have hw := hw.1 c26
          refine vIload_n (pc := 36) hc dX8_minutes_36 rfl ?_
          refine vSipush (pc := 37) (v := 300) hc dX8_minutes_37 ks_300 ?_
          refine vIcmp_le (pc := 40) (tgt := 50) hc dX8_minutes_40 (by decide) (fun c40 => ?_) (fun c40 => ?_)
          · have hw := hw.1 c40
            refine vAload_n (pc := 50) hc dX8_minutes_50 rfl ?_
            refine vGetR (pc := 51) (k := 0) (j := 0) hc rfl inG8 (hc.G 0 (Nat.le_of_ble_eq_true rfl)) rfl (Nat.le_of_ble_eq_true rfl) tw_307 rfl dX8_minutes_51 ?_
            refine vIload_n (pc := 54) hc dX8_minutes_54 rfl ?_
            refine vIload_n (pc := 55) hc dX8_minutes_55 rfl ?_
            refine vIload_n (pc := 56) hc dX8_minutes_56 rfl ?_
            refine vCallVi (pc := 57) (st := []) hc ok_X5_change tw_343 (c_X5_change hc.2.2.2.2.2.2.1 hc.G hw) (hc.G 1 (Nat.le_of_ble_eq_true rfl)) rfl rfl rfl ⟨rfl, rfl⟩ ⟨Nat.le_of_ble_eq_true rfl, Nat.le_of_ble_eq_true rfl⟩ rfl (Nat.le_of_ble_eq_true rfl) dX8_minutes_57 (fun r57 σ57 hw => ?_)
            refine vIstore (pc := 60) (L2 := [some (.ref (E.2.1 0)), some (.int x1), some (.int x2), some (.int x3), some (.int r57)]) hc dX8_minutes_60 rfl (Nat.le_of_ble_eq_true rfl) ?_
            refine vIload (pc := 62) hc dX8_minutes_62 rfl ?_
            refine vIload_n (pc := 64) hc dX8_minutes_64 rfl ?_
            refine vIcmp_eq (pc := 65) (tgt := 76) hc dX8_minutes_65 (by decide) (fun c65 => ?_) (fun c65 => ?_)
            · have hw := hw.1 c65
              refine vIload (pc := 76) hc dX8_minutes_76 rfl ?_
              exact vIret (pc := 78) hc dX8_minutes_78 hw
            · have hw := hw.2 c65
              refine vAload_n (pc := 68) hc dX8_minutes_68 rfl ?_
              refine vGetR (pc := 69) (k := 0) (j := 3) hc rfl inG8 (hc.G 0 (Nat.le_of_ble_eq_true rfl)) rfl (Nat.le_of_ble_eq_true rfl) tw_310 rfl dX8_minutes_69 ?_
              refine vIconst (pc := 72) (v := 0) hc dX8_minutes_72 ki_0 ?_
              refine vCallVv (pc := 73) (st := []) hc ok_X0_forgetWith tw_347 (c_X0_forgetWith hc.2.2.2.2.2.2.1 hc.G hw) (hc.G 9 (Nat.le_of_ble_eq_true rfl)) rfl rfl rfl ⟨rfl, rfl⟩ ⟨Nat.le_of_ble_eq_true rfl, Nat.le_of_ble_eq_true rfl⟩ rfl (Nat.le_of_ble_eq_true rfl) dX8_minutes_73 (fun σ73 hw => ?_)
              refine vIload (pc := 76) hc dX8_minutes_76 rfl ?_
              exact vIret (pc := 78) hc dX8_minutes_78 hw
          · have hw := hw.2 c40
            refine vAload_n (pc := 43) hc dX8_minutes_43 rfl ?_
            refine vBipush (pc := 44) (v := (-6)) hc dX8_minutes_44 kb_m6 ?_
            refine vCallVi (pc := 46) (st := []) hc ok_X8_refuse tw_339 (c_X8_refuse hc.2.2.2.2.2.2.1 hc.G hw) (hc.G 0 (Nat.le_of_ble_eq_true rfl)) rfl rfl rfl ⟨rfl, rfl⟩ ⟨Nat.le_of_ble_eq_true rfl, Nat.le_of_ble_eq_true rfl⟩ rfl (Nat.le_of_ble_eq_true rfl) dX8_minutes_46 (fun r46 σ46 hw => ?_)
            exact vIret (pc := 49) hc dX8_minutes_49 hw
        · have hw := hw.2 c26
          refine vAload_n (pc := 29) hc dX8_minutes_29 rfl ?_
          refine vBipush (pc := 30) (v := (-4)) hc dX8_minutes_30 kb_m4 ?_
          refine vCallVi (pc := 32) (st := []) hc ok_X8_refuse tw_339 (c_X8_refuse hc.2.2.2.2.2.2.1 hc.G hw) (hc.G 0 (Nat.le_of_ble_eq_true rfl)) rfl rfl rfl ⟨rfl, rfl⟩ ⟨Nat.le_of_ble_eq_true rfl, Nat.le_of_ble_eq_true rfl⟩ rfl (Nat.le_of_ble_eq_true rfl) dX8_minutes_32 (fun r32 σ32 hw => ?_)
          exact vIret (pc := 35) hc dX8_minutes_35 hw
      · have hw := hw.2 c16
        exact vMono (L2 := [some (.ref (E.2.1 0)), none, none, none, none]) (show subL [some (.ref (E.2.1 0)), none, none, none, none] [some (.ref (E.2.1 0)), some (.int x1), some (.int x2), some (.int x3), none] from ⟨rfl, trivial⟩) (t_X8_minutes_J19 hc   _ hw)
set_option maxRecDepth 100000 in
set_option maxHeartbeats 4000000 in
theorem c_X8_minutes {l : Launch} {E : WD} (hE : inj E) (hG : ∀ k, fdm k → k ∈ E.2.2.2) {x1 x2 x3 : Int32} {σ : MS} {Q : Int32 → MS → Prop} (hw : w_X8_minutes x1 x2 x3 σ Q) : Ci l E yX8_minutes cX8_minutes 5 (some .int) rm_X8_minutes [.ref (E.2.1 0), .int x1, .int x2, .int x3] σ Q :=
  Ct_of (by decide) rfl (by
    intro v hv
    simp only [List.mem_cons, List.not_mem_nil, or_false] at hv
    rcases hv with rfl | rfl | rfl | rfl <;> rfl) (Nat.le_of_ble_eq_true rfl) hE hG (fun p e s m below meth c hc => t_X8_minutes_E hc x1 x2 x3 σ hw)
