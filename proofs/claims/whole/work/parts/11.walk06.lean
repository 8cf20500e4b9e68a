def w_X9_driver_E (Q : Int32 → MS → Prop) (x1 : Int32) (σ : MS) : Prop := w_X9_wrongSet x1 σ (fun r2 σ2 => ((r2 = 0 → w_X9_know  σ2 (fun σ17 => ((vp_in x1 512) ∧ Q (σ17 90 x1.toNatClampNeg) σ17))) ∧ (¬ r2 = 0 → w_X9_refuse r2 σ2 (fun r12 σ12 => Q r12 σ12))))
abbrev w_X9_driver (x1 : Int32) (σ : MS) (Q : Int32 → MS → Prop) : Prop := w_X9_driver_E Q x1 σ
abbrev rm_X9_driver : Room := { frames := 18, cells := 0, slots := 0, locals := 482 }
theorem ok_X9_driver : OkV yX9_driver RX9 cX9_driver 3 (some .int) 1 := ⟨tw_955, tw_956, tw_57, tw_957, rfl, by decide, by decide, by decide +kernel⟩
set_option maxRecDepth 100000 in
set_option maxHeartbeats 4000000 in
theorem t_X9_driver_E {p : Program} {l : Launch} {e : Env} {s : State} {m : MethodId} {args : Array Value} {below : List Frame} {meth : Method} {c : Code} {E : WD} {Q : Int32 → MS → Prop} (hc : Cx p rm_X9_driver s m args meth c E (AD E) cX9_driver RX9 (some .int) 3 0 0 fdm) (x1 : Int32) (σ : MS) (hw : w_X9_driver_E Q x1 σ) : V p l e rm_X9_driver s m args below meth c E (AD E) 3 0 0 (MQ below (va_Qi Q (BW E) (AD E)) args s 0 0 (AD E)) σ 0 [some (.ref (E.2.1 66)), some (.int x1), none] [] := by
  unfold w_X9_driver_E at hw
  refine vAload_n (pc := 0) hc dX9_driver_0 rfl ?_
  refine vIload_n (pc := 1) hc dX9_driver_1 rfl ?_
  refine vCallVi (pc := 2) (st := []) hc ok_X9_wrongSet tw_946 (c_X9_wrongSet hc.2.2.2.2.2.2.1 hc.G hw) (hc.G 66 (Nat.le_of_ble_eq_true rfl)) rfl rfl rfl ⟨rfl, rfl⟩ ⟨Nat.le_of_ble_eq_true rfl, Nat.le_of_ble_eq_true rfl⟩ rfl (Nat.le_of_ble_eq_true rfl) dX9_driver_2 (fun r2 σ2 hw => ?_)
  refine vIstore_n (pc := 5) (L2 := [some (.ref (E.2.1 66)), some (.int x1), some (.int r2)]) hc dX9_driver_5 rfl (Nat.le_of_ble_eq_true rfl) ?_
  refine vIload_n (pc := 6) hc dX9_driver_6 rfl ?_
  refine vIf_eq (pc := 7) (tgt := 16) hc dX9_driver_7 (by decide) (fun c7 => ?_) (fun c7 => ?_)
  · have hw := hw.1 c7
    refine vAload_n (pc := 16) hc dX9_driver_16 rfl ?_
    refine vCallVv (pc := 17) (st := []) hc ok_X9_know tw_950 (c_X9_know hc.2.2.2.2.2.2.1 hc.G hw) (hc.G 66 (Nat.le_of_ble_eq_true rfl)) rfl rfl rfl ⟨rfl, rfl⟩ ⟨Nat.le_of_ble_eq_true rfl, Nat.le_of_ble_eq_true rfl⟩ rfl (Nat.le_of_ble_eq_true rfl) dX9_driver_17 (fun σ17 hw => ?_)
    refine vAload_n (pc := 20) hc dX9_driver_20 rfl ?_
    refine vGetR (pc := 21) (k := 66) (j := 29) hc rfl inG9 (hc.G 66 (Nat.le_of_ble_eq_true rfl)) rfl (Nat.le_of_ble_eq_true rfl) tw_752 rfl dX9_driver_21 ?_
    refine vIload_n (pc := 24) hc dX9_driver_24 rfl ?_
    obtain ⟨hi1, hw⟩ := hw
    refine vIald (pc := 25) (k := 90) hc (hc.G 90 (Nat.le_of_ble_eq_true rfl)) rfl rfl hi1 dX9_driver_25 ?_
    exact vIret (pc := 26) hc dX9_driver_26 hw
  · have hw := hw.2 c7
    refine vAload_n (pc := 10) hc dX9_driver_10 rfl ?_
    refine vIload_n (pc := 11) hc dX9_driver_11 rfl ?_
    refine vCallVi (pc := 12) (st := []) hc ok_X9_refuse tw_861 (c_X9_refuse hc.2.2.2.2.2.2.1 hc.G hw) (hc.G 66 (Nat.le_of_ble_eq_true rfl)) rfl rfl rfl ⟨rfl, rfl⟩ ⟨Nat.le_of_ble_eq_true rfl, Nat.le_of_ble_eq_true rfl⟩ rfl (Nat.le_of_ble_eq_true rfl) dX9_driver_12 (fun r12 σ12 hw => ?_)
    exact vIret (pc := 15) hc dX9_driver_15 hw
set_option maxRecDepth 100000 in
set_option maxHeartbeats 4000000 in
theorem c_X9_driver {l : Launch} {E : WD} (hE : inj E) (hG : ∀ k, fdm k → k ∈ E.2.2.2) {x1 : Int32} {σ : MS} {Q : Int32 → MS → Prop} (hw : w_X9_driver x1 σ Q) : Ci l E yX9_driver cX9_driver 3 (some .int) rm_X9_driver [.ref (E.2.1 66), .int x1] σ Q :=
  Ct_of (by decide) rfl (by
    intro v hv
    simp only [List.mem_cons, List.not_mem_nil, or_false] at hv
    rcases hv with rfl | rfl <;> rfl) (Nat.le_of_ble_eq_true rfl) hE hG (fun p e s m below meth c hc => t_X9_driver_E hc x1 σ hw)
def w_X9_turnOf_H9 (Q : Int32 → MS → Prop) : Nat → Int32 → Int32 → Int32 → MS → Prop
  | 0, _, _, _, _ => False
  | n + 1, x1, x2, x3, σ => (((σ 66 3) ≤ x3 → Q x2 σ) ∧ (¬ (σ 66 3) ≤ x3 → ((vp_in x1 512) ∧ ((¬ (((σ 91 x1.toNatClampNeg) >>> (x3 &&& 31)) &&& 1) = 1 → w_X9_turnOf_H9 Q n x1 x2 (x3 + 1) σ) ∧ ((((σ 91 x1.toNatClampNeg) >>> (x3 &&& 31)) &&& 1) = 1 → ((x2 < 0 → w_X9_turnOf_H9 Q n x1 x3 (x3 + 1) σ) ∧ (¬ x2 < 0 → ((vp_in x3 9) ∧ ((vp_in x2 9) ∧ (((σ 78 x2.toNatClampNeg) ≤ (σ 78 x3.toNatClampNeg) → w_X9_turnOf_H9 Q n x1 x2 (x3 + 1) σ) ∧ (¬ (σ 78 x2.toNatClampNeg) ≤ (σ 78 x3.toNatClampNeg) → w_X9_turnOf_H9 Q n x1 x3 (x3 + 1) σ)))))))))))
def w_X9_turnOf_E (Q : Int32 → MS → Prop) (x1 : Int32) (σ : MS) : Prop := w_X9_know  σ (fun σ1 => (∃ n9, w_X9_turnOf_H9 Q n9 x1 (-9) 0 σ1))
abbrev w_X9_turnOf (x1 : Int32) (σ : MS) (Q : Int32 → MS → Prop) : Prop := w_X9_turnOf_E Q x1 σ
abbrev rm_X9_turnOf : Room := { frames := 18, cells := 0, slots := 0, locals := 482 }
theorem ok_X9_turnOf : OkV yX9_turnOf RX9 cX9_turnOf 4 (some .int) 1 := ⟨tw_964, tw_35, tw_57, tw_965, rfl, by decide, by decide, by decide +kernel⟩
set_option maxRecDepth 100000 in
set_option maxHeartbeats 4000000 in
theorem t_X9_turnOf_H9 {p : Program} {l : Launch} {e : Env} {s : State} {m : MethodId} {args : Array Value} {below : List Frame} {meth : Method} {c : Code} {E : WD} {Q : Int32 → MS → Prop} (hc : Cx p rm_X9_turnOf s m args meth c E (AD E) cX9_turnOf RX9 (some .int) 4 0 0 fdm) : ∀ (n : Nat) (x1 x2 x3 : Int32) (σ : MS), w_X9_turnOf_H9 Q n x1 x2 x3 σ → V p l e rm_X9_turnOf s m args below meth c E (AD E) 4 0 0 (MQ below (va_Qi Q (BW E) (AD E)) args s 0 0 (AD E)) σ 9 [some (.ref (E.2.1 66)), some (.int x1), some (.int x2), some (.int x3)] [] := by
  intro n
  induction n with
  | zero =>
    intro x1 x2 x3 σ hw
    exact hw.elim
  | succ n ih =>
    intro x1 x2 x3 σ hw
    unfold w_X9_turnOf_H9 at hw
    refine vIload_n (pc := 9) hc dX9_turnOf_9 rfl ?_
    refine vAload_n (pc := 10) hc dX9_turnOf_10 rfl ?_
    refine vGetI (pc := 11) (k := 66) (j := 3) hc rfl inG9 (hc.G 66 (Nat.le_of_ble_eq_true rfl)) rfl (Nat.le_of_ble_eq_true rfl) tw_726 rfl dX9_turnOf_11 ?_
    refine vIcmp_ge (pc := 14) (tgt := 58) hc dX9_turnOf_14 (by decide) (fun c14 => ?_) (fun c14 => ?_)
    · have hw := hw.1 c14
      refine vIload_n (pc := 58) hc dX9_turnOf_58 rfl ?_
      exact vIret (pc := 59) hc dX9_turnOf_59 hw
    · have hw := hw.2 c14
      refine vAload_n (pc := 17) hc dX9_turnOf_17 rfl ?_
      refine vGetR (pc := 18) (k := 66) (j := 30) hc rfl inG9 (hc.G 66 (Nat.le_of_ble_eq_true rfl)) rfl (Nat.le_of_ble_eq_true rfl) tw_753 rfl dX9_turnOf_18 ?_
      refine vIload_n (pc := 21) hc dX9_turnOf_21 rfl ?_
      obtain ⟨hi1, hw⟩ := hw
      refine vIald (pc := 22) (k := 91) hc (hc.G 91 (Nat.le_of_ble_eq_true rfl)) rfl rfl hi1 dX9_turnOf_22 ?_
      refine vIload_n (pc := 23) hc dX9_turnOf_23 rfl ?_
      refine vIshr (pc := 24) hc dX9_turnOf_24 ?_
      refine vIconst (pc := 25) (v := 1) hc dX9_turnOf_25 ki_1 ?_
      refine vIand (pc := 26) hc dX9_turnOf_26 ?_
      refine vIconst (pc := 27) (v := 1) hc dX9_turnOf_27 ki_1 ?_
      refine vIcmp_ne (pc := 28) (tgt := 52) hc dX9_turnOf_28 (by decide) (fun c28 => ?_) (fun c28 => ?_)
      · have hw := hw.1 c28
        refine vIinc (pc := 52) (v := x3 + 1) (L2 := [some (.ref (E.2.1 66)), some (.int x1), some (.int x2), some (.int (x3 + 1))]) hc dX9_turnOf_52 rfl rfl rfl (Nat.le_of_ble_eq_true rfl) ?_
        refine vGoto (pc := 55) (tgt := 9) hc dX9_turnOf_55 (by decide) ?_
        exact vMono (L2 := [some (.ref (E.2.1 66)), some (.int x1), some (.int x2), some (.int (x3 + 1))]) (show subL [some (.ref (E.2.1 66)), some (.int x1), some (.int x2), some (.int (x3 + 1))] [some (.ref (E.2.1 66)), some (.int x1), some (.int x2), some (.int (x3 + 1))] from ⟨rfl, ⟨rfl, ⟨rfl, ⟨rfl, trivial⟩⟩⟩⟩) (ih x1 x2 (x3 + 1) _ hw)
      · have hw := hw.2 c28
        refine vIload_n (pc := 31) hc dX9_turnOf_31 rfl ?_
        refine vIf_lt (pc := 32) (tgt := 50) hc dX9_turnOf_32 (by decide) (fun c32 => ?_) (fun c32 => ?_)
        · have hw := hw.1 c32
          refine vIload_n (pc := 50) hc dX9_turnOf_50 rfl ?_
          refine vIstore_n (pc := 51) (L2 := [some (.ref (E.2.1 66)), some (.int x1), some (.int x3), some (.int x3)]) hc dX9_turnOf_51 rfl (Nat.le_of_ble_eq_true rfl) ?_
          refine vIinc (pc := 52) (v := x3 + 1) (L2 := [some (.ref (E.2.1 66)), some (.int x1), some (.int x3), some (.int (x3 + 1))]) hc dX9_turnOf_52 rfl rfl rfl (Nat.le_of_ble_eq_true rfl) ?_
          refine vGoto (pc := 55) (tgt := 9) hc dX9_turnOf_55 (by decide) ?_
          exact vMono (L2 := [some (.ref (E.2.1 66)), some (.int x1), some (.int x3), some (.int (x3 + 1))]) (show subL [some (.ref (E.2.1 66)), some (.int x1), some (.int x3), some (.int (x3 + 1))] [some (.ref (E.2.1 66)), some (.int x1), some (.int x3), some (.int (x3 + 1))] from ⟨rfl, ⟨rfl, ⟨rfl, ⟨rfl, trivial⟩⟩⟩⟩) (ih x1 x3 (x3 + 1) _ hw)
        · have hw := hw.2 c32
          refine vAload_n (pc := 35) hc dX9_turnOf_35 rfl ?_
          refine vGetR (pc := 36) (k := 66) (j := 13) hc rfl inG9 (hc.G 66 (Nat.le_of_ble_eq_true rfl)) rfl (Nat.le_of_ble_eq_true rfl) tw_736 rfl dX9_turnOf_36 ?_
          refine vIload_n (pc := 39) hc dX9_turnOf_39 rfl ?_
          obtain ⟨hi2, hw⟩ := hw
          refine vIald (pc := 40) (k := 78) hc (hc.G 78 (Nat.le_of_ble_eq_true rfl)) rfl rfl hi2 dX9_turnOf_40 ?_
          refine vAload_n (pc := 41) hc dX9_turnOf_41 rfl ?_
          refine vGetR (pc := 42) (k := 66) (j := 13) hc rfl inG9 (hc.G 66 (Nat.le_of_ble_eq_true rfl)) rfl (Nat.le_of_ble_eq_true rfl) tw_736 rfl dX9_turnOf_42 ?_
          refine vIload_n (pc := 45) hc dX9_turnOf_45 rfl ?_
          obtain ⟨hi3, hw⟩ := hw
          refine vIald (pc := 46) (k := 78) hc (hc.G 78 (Nat.le_of_ble_eq_true rfl)) rfl rfl hi3 dX9_turnOf_46 ?_
          refine vIcmp_ge (pc := 47) (tgt := 52) hc dX9_turnOf_47 (by decide) (fun c47 => ?_) (fun c47 => ?_)
          · have hw := hw.1 c47
            refine vIinc (pc := 52) (v := x3 + 1) (L2 := [some (.ref (E.2.1 66)), some (.int x1), some (.int x2), some (.int (x3 + 1))]) hc dX9_turnOf_52 rfl rfl rfl (Nat.le_of_ble_eq_true rfl) ?_
            refine vGoto (pc := 55) (tgt := 9) hc dX9_turnOf_55 (by decide) ?_
            exact vMono (L2 := [some (.ref (E.2.1 66)), some (.int x1), some (.int x2), some (.int (x3 + 1))]) (show subL [some (.ref (E.2.1 66)), some (.int x1), some (.int x2), some (.int (x3 + 1))] [some (.ref (E.2.1 66)), some (.int x1), some (.int x2), some (.int (x3 + 1))] from ⟨rfl, ⟨rfl, ⟨rfl, ⟨rfl, trivial⟩⟩⟩⟩) (ih x1 x2 (x3 + 1) _ hw)
          · have hw := hw.2 c47
            refine vIload_n (pc := 50) hc dX9_turnOf_50 rfl ?_
            refine vIstore_n (pc := 51) (L2 := [some (.ref (E.2.1 66)), some (.int x1), some (.int x3), some (.int x3)]) hc dX9_turnOf_51 rfl (Nat.le_of_ble_eq_true rfl) ?_
            refine vIinc (pc := 52) (v := x3 + 1) (L2 := [some (.ref (E.2.1 66)), some (.int x1), some (.int x3), some (.int (x3 + 1))]) hc dX9_turnOf_52 rfl rfl rfl (Nat.le_of_ble_eq_true rfl) ?_
            refine vGoto (pc := 55) (tgt := 9) hc dX9_turnOf_55 (by decide) ?_
            exact vMono (L2 := [some (.ref (E.2.1 66)), some (.int x1), some (.int x3), some (.int (x3 + 1))]) (show subL [some (.ref (E.2.1 66)), some (.int x1), some (.int x3), some (.int (x3 + 1))] [some (.ref (E.2.1 66)), some (.int x1), some (.int x3), some (.int (x3 + 1))] from ⟨rfl, ⟨rfl, ⟨rfl, ⟨rfl, trivial⟩⟩⟩⟩) (ih x1 x3 (x3 + 1) _ hw)
set_option maxRecDepth 100000 in
set_option maxHeartbeats 4000000 in
theorem t_X9_turnOf_E {p : Program} {l : Launch} {e : Env} {s : State} {m : MethodId} {args : Array Value} {below : List Frame} {meth : Method} {c : Code} {E : WD} {Q : Int32 → MS → Prop} (hc : Cx p rm_X9_turnOf s m args meth c E (AD E) cX9_turnOf RX9 (some .int) 4 0 0 fdm) (x1 : Int32) (σ : MS) (hw : w_X9_turnOf_E Q x1 σ) : V p l e rm_X9_turnOf s m args below meth c E (AD E) 4 0 0 (MQ below (va_Qi Q (BW E) (AD E)) args s 0 0 (AD E)) σ 0 [some (.ref (E.2.1 66)), some (.int x1), none, none] [] := by
  unfold w_X9_turnOf_E at hw
  refine vAload_n (pc := 0) hc dX9_turnOf_0 rfl ?_
  refine vCallVv (pc := 1) (st := []) hc ok_X9_know tw_950 (c_X9_know hc.2.2.2.2.2.2.1 hc.G hw) (hc.G 66 (Nat.le_of_ble_eq_true rfl)) rfl rfl rfl ⟨rfl, rfl⟩ ⟨Nat.le_of_ble_eq_true rfl, Nat.le_of_ble_eq_true rfl⟩ rfl (Nat.le_of_ble_eq_true rfl) dX9_turnOf_1 (fun σ1 hw => ?_)
  refine vBipush (pc := 4) (v := (-9)) hc dX9_turnOf_4 kb_m9 ?_
  refine vIstore_n (pc := 6) (L2 := [some (.ref (E.2.1 66)), some (.int x1), some (.int (-9)), none]) hc dX9_turnOf_6 rfl (Nat.le_of_ble_eq_true rfl) ?_
  refine vIconst (pc := 7) (v := 0) hc dX9_turnOf_7 ki_0 ?_
  refine vIstore_n (pc := 8) (L2 := [some (.ref (E.2.1 66)), some (.int x1), some (.int (-9)), some (.int 0)]) hc dX9_turnOf_8 rfl (Nat.le_of_ble_eq_true rfl) ?_
  obtain ⟨n9, hw⟩ := hw
  exact vMono (L2 := [some (.ref (E.2.1 66)), some (.int x1), some (.int (-9)), some (.int 0)]) (show subL [some (.ref (E.2.1 66)), some (.int x1), some (.int (-9)), some (.int 0)] [some (.ref (E.2.1 66)), some (.int x1), some (.int (-9)), some (.int 0)] from ⟨rfl, ⟨rfl, ⟨rfl, ⟨rfl, trivial⟩⟩⟩⟩) (t_X9_turnOf_H9 hc  n9 x1 (-9) 0 _ hw)
set_option maxRecDepth 100000 in
set_option maxHeartbeats 4000000 in
theorem c_X9_turnOf {l : Launch} {E : WD} (hE : inj E) (hG : ∀ k, fdm k → k ∈ E.2.2.2) {x1 : Int32} {σ : MS} {Q : Int32 → MS → Prop} (hw : w_X9_turnOf x1 σ Q) : Ci l E yX9_turnOf cX9_turnOf 4 (some .int) rm_X9_turnOf [.ref (E.2.1 66), .int x1] σ Q :=
  Ct_of (by decide) rfl (by
    intro v hv
    simp only [List.mem_cons, List.not_mem_nil, or_false] at hv
    rcases hv with rfl | rfl <;> rfl) (Nat.le_of_ble_eq_true rfl) hE hG (fun p e s m below meth c hc => t_X9_turnOf_E hc x1 σ hw)
def w_X9_turn_E (Q : Int32 → MS → Prop) (x1 : Int32) (σ : MS) : Prop := w_X9_wrongSet x1 σ (fun r2 σ2 => ((r2 = 0 → w_X9_turnOf x1 σ2 (fun r20 σ20 => Q r20 σ20)) ∧ (¬ r2 = 0 → w_X9_refuse r2 σ2 (fun r12 σ12 => Q r12 σ12))))
abbrev w_X9_turn (x1 : Int32) (σ : MS) (Q : Int32 → MS → Prop) : Prop := w_X9_turn_E Q x1 σ
abbrev rm_X9_turn : Room := { frames := 19, cells := 0, slots := 0, locals := 505 }
theorem ok_X9_turn : OkV yX9_turn RX9 cX9_turn 3 (some .int) 1 := ⟨tw_959, tw_960, tw_57, tw_961, rfl, by decide, by decide, by decide +kernel⟩
set_option maxRecDepth 100000 in
set_option maxHeartbeats 4000000 in
theorem t_X9_turn_E {p : Program} {l : Launch} {e : Env} {s : State} {m : MethodId} {args : Array Value} {below : List Frame} {meth : Method} {c : Code} {E : WD} {Q : Int32 → MS → Prop} (hc : Cx p rm_X9_turn s m args meth c E (AD E) cX9_turn RX9 (some .int) 3 0 0 fdm) (x1 : Int32) (σ : MS) (hw : w_X9_turn_E Q x1 σ) : V p l e rm_X9_turn s m args below meth c E (AD E) 3 0 0 (MQ below (va_Qi Q (BW E) (AD E)) args s 0 0 (AD E)) σ 0 [some (.ref (E.2.1 66)), some (.int x1), none] [] := by
  unfold w_X9_turn_E at hw
  refine vAload_n (pc := 0) hc dX9_turn_0 rfl ?_
  refine vIload_n (pc := 1) hc dX9_turn_1 rfl ?_
  refine vCallVi (pc := 2) (st := []) hc ok_X9_wrongSet tw_946 (c_X9_wrongSet hc.2.2.2.2.2.2.1 hc.G hw) (hc.G 66 (Nat.le_of_ble_eq_true rfl)) rfl rfl rfl ⟨rfl, rfl⟩ ⟨Nat.le_of_ble_eq_true rfl, Nat.le_of_ble_eq_true rfl⟩ rfl (Nat.le_of_ble_eq_true rfl) dX9_turn_2 (fun r2 σ2 hw => ?_)
  refine vIstore_n (pc := 5) (L2 := [some (.ref (E.2.1 66)), some (.int x1), some (.int r2)]) hc dX9_turn_5 rfl (Nat.le_of_ble_eq_true rfl) ?_
  refine vIload_n (pc := 6) hc dX9_turn_6 rfl ?_
  refine vIf_eq (pc := 7) (tgt := 18) hc dX9_turn_7 (by decide) (fun c7 => ?_) (fun c7 => ?_)
  · have hw := hw.1 c7
    refine vAload_n (pc := 18) hc dX9_turn_18 rfl ?_
    refine vIload_n (pc := 19) hc dX9_turn_19 rfl ?_
    refine vCallVi (pc := 20) (st := []) hc ok_X9_turnOf tw_962 (c_X9_turnOf hc.2.2.2.2.2.2.1 hc.G hw) (hc.G 66 (Nat.le_of_ble_eq_true rfl)) rfl rfl rfl ⟨rfl, rfl⟩ ⟨Nat.le_of_ble_eq_true rfl, Nat.le_of_ble_eq_true rfl⟩ rfl (Nat.le_of_ble_eq_true rfl) dX9_turn_20 (fun r20 σ20 hw => ?_)
    exact vIret (pc := 23) hc dX9_turn_23 hw
  · have hw := hw.2 c7
    refine vAload_n (pc := 10) hc dX9_turn_10 rfl ?_
    refine vIload_n (pc := 11) hc dX9_turn_11 rfl ?_
    refine vCallVi (pc := 12) (st := []) hc ok_X9_refuse tw_861 (c_X9_refuse hc.2.2.2.2.2.2.1 hc.G hw) (hc.G 66 (Nat.le_of_ble_eq_true rfl)) rfl rfl rfl ⟨rfl, rfl⟩ ⟨Nat.le_of_ble_eq_true rfl, Nat.le_of_ble_eq_true rfl⟩ rfl (Nat.le_of_ble_eq_true rfl) dX9_turn_12 (fun r12 σ12 hw => ?_)
    refine vGoto (pc := 15) (tgt := 23) hc dX9_turn_15 (by decide) ?_
    exact vIret (pc := 23) hc dX9_turn_23 hw
set_option maxRecDepth 100000 in
set_option maxHeartbeats 4000000 in
theorem c_X9_turn {l : Launch} {E : WD} (hE : inj E) (hG : ∀ k, fdm k → k ∈ E.2.2.2) {x1 : Int32} {σ : MS} {Q : Int32 → MS → Prop} (hw : w_X9_turn x1 σ Q) : Ci l E yX9_turn cX9_turn 3 (some .int) rm_X9_turn [.ref (E.2.1 66), .int x1] σ Q :=
  Ct_of (by decide) rfl (by
    intro v hv
    simp only [List.mem_cons, List.not_mem_nil, or_false] at hv
    rcases hv with rfl | rfl <;> rfl) (Nat.le_of_ble_eq_true rfl) hE hG (fun p e s m below meth c hc => t_X9_turn_E hc x1 σ hw)
def w_X9_present_J29 (K4 : Int32 → Int32 → MS → Prop) (Q : Int32 → MS → Prop) (x2 s0 s1 : Int32) (σ : MS) : Prop := (∀ x1_30 : Int32, x1_30 = (s0 ||| s1) → K4 x1_30 (x2 + 1) σ)
def w_X9_present_H4 (Q : Int32 → MS → Prop) : Nat → Int32 → Int32 → MS → Prop
  | 0, _, _, _ => False
  | n + 1, x1, x2, σ => (((σ 66 3) ≤ x2 → Q x1 σ) ∧ (¬ (σ 66 3) ≤ x2 → ((vp_in x2 9) ∧ (((σ 79 x2.toNatClampNeg) = 0 → w_X9_present_J29 (fun x1 x2 σ => w_X9_present_H4 Q n x1 x2 σ) Q x2 x1 ((1 : Int32) <<< (x2 &&& 31)) σ) ∧ (¬ (σ 79 x2.toNatClampNeg) = 0 → w_X9_present_J29 (fun x1 x2 σ => w_X9_present_H4 Q n x1 x2 σ) Q x2 x1 0 σ)))))
def w_X9_present_E (Q : Int32 → MS → Prop) (σ : MS) : Prop := (∃ n4, w_X9_present_H4 Q n4 0 0 σ)
abbrev w_X9_present (σ : MS) (Q : Int32 → MS → Prop) : Prop := w_X9_present_E Q  σ
abbrev rm_X9_present : Room := { frames := 0, cells := 0, slots := 0, locals := 0 }
theorem ok_X9_present : OkV yX9_present RX9 cX9_present 3 (some .int) 0 := ⟨tw_976, tw_37, tw_57, tw_977, rfl, by decide, by decide, by decide +kernel⟩
set_option maxRecDepth 100000 in
set_option maxHeartbeats 4000000 in
theorem t_X9_present_J29 {p : Program} {l : Launch} {e : Env} {s : State} {m : MethodId} {args : Array Value} {below : List Frame} {meth : Method} {c : Code} {E : WD} {Q : Int32 → MS → Prop} (hc : Cx p rm_X9_present s m args meth c E (AD E) cX9_present RX9 (some .int) 3 0 0 fdm) {K4 : Int32 → Int32 → MS → Prop} (hK4 : ∀ (x1 x2 : Int32) (σ : MS), K4 x1 x2 σ → V p l e rm_X9_present s m args below meth c E (AD E) 3 0 0 (MQ below (va_Qi Q (BW E) (AD E)) args s 0 0 (AD E)) σ 4 [some (.ref (E.2.1 66)), some (.int x1), some (.int x2)] []) (x2 s0 s1 : Int32) (σ : MS) (hw : w_X9_present_J29 K4 Q x2 s0 s1 σ) : V p l e rm_X9_present s m args below meth c E (AD E) 3 0 0 (MQ below (va_Qi Q (BW E) (AD E)) args s 0 0 (AD E)) σ 29 [some (.ref (E.2.1 66)), none, some (.int x2)] [(.int s1), (.int s0)] := by
  unfold w_X9_present_J29 at hw
  refine vIor (pc := 29) hc dX9_present_29 ?_
  obtain ⟨x1_30, ex1_30⟩ : ∃ z : Int32, z = s0 ||| s1 := ⟨_, rfl⟩
  have hw := hw x1_30 ex1_30
  refine vTop ex1_30 ?_
  refine vIstore_n (pc := 30) (L2 := [some (.ref (E.2.1 66)), some (.int x1_30), some (.int x2)]) hc dX9_present_30 rfl (Nat.le_of_ble_eq_true rfl) ?_
  refine vIinc (pc := 31) (v := x2 + 1) (L2 := [some (.ref (E.2.1 66)), some (.int x1_30), some (.int (x2 + 1))]) hc dX9_present_31 rfl rfl rfl (Nat.le_of_ble_eq_true rfl) ?_
  refine vGoto (pc := 34) (tgt := 4) hc dX9_present_34 (by decide) ?_
  exact vMono (L2 := [some (.ref (E.2.1 66)), some (.int x1_30), some (.int (x2 + 1))]) (show subL [some (.ref (E.2.1 66)), some (.int x1_30), some (.int (x2 + 1))] [some (.ref (E.2.1 66)), some (.int x1_30), some (.int (x2 + 1))] from ⟨rfl, ⟨rfl, ⟨rfl, trivial⟩⟩⟩) (hK4 x1_30 (x2 + 1) _ hw)
set_option maxRecDepth 100000 in
set_option maxHeartbeats 4000000 in
theorem t_X9_present_H4 {p : Program} {l : Launch} {e : Env} {s : State} {m : MethodId} {args : Array Value} {below : List Frame} {meth : Method} {c : Code} {E : WD} {Q : Int32 → MS → Prop} (hc : Cx p rm_X9_present s m args meth c E (AD E) cX9_present RX9 (some .int) 3 0 0 fdm) : ∀ (n : Nat) (x1 x2 : Int32) (σ : MS), w_X9_present_H4 Q n x1 x2 σ → V p l e rm_X9_present s m args below meth c E (AD E) 3 0 0 (MQ below (va_Qi Q (BW E) (AD E)) args s 0 0 (AD E)) σ 4 [some (.ref (E.2.1 66)), some (.int x1), some (.int x2)] [] := by
  intro n
  induction n with
  | zero =>
    intro x1 x2 σ hw
    exact hw.elim
  | succ n ih =>
    intro x1 x2 σ hw
    unfold w_X9_present_H4 at hw
    refine vIload_n (pc := 4) hc dX9_present_4 rfl ?_
    refine vAload_n (pc := 5) hc dX9_present_5 rfl ?_
    refine vGetI (pc := 6) (k := 66) (j := 3) hc rfl inG9 (hc.G 66 (Nat.le_of_ble_eq_true rfl)) rfl (Nat.le_of_ble_eq_true rfl) tw_726 rfl dX9_present_6 ?_
    refine vIcmp_ge (pc := 9) (tgt := 37) hc dX9_present_9 (by decide) (fun c9 => ?_) (fun c9 => ?_)
    · have hw := hw.1 c9
      refine vIload_n (pc := 37) hc dX9_present_37 rfl ?_
      exact vIret (pc := 38) hc dX9_present_38 hw
    · have hw := hw.2 c9
      refine vIload_n (pc := 12) hc dX9_present_12 rfl ?_
      refine vAload_n (pc := 13) hc dX9_present_13 rfl ?_
      refine vGetR (pc := 14) (k := 66) (j := 14) hc rfl inG9 (hc.G 66 (Nat.le_of_ble_eq_true rfl)) rfl (Nat.le_of_ble_eq_true rfl) tw_737 rfl dX9_present_14 ?_
      refine vIload_n (pc := 17) hc dX9_present_17 rfl ?_
      obtain ⟨hi1, hw⟩ := hw
      refine vZald (pc := 18) (k := 79) hc (hc.G 79 (Nat.le_of_ble_eq_true rfl)) rfl rfl hi1 dX9_present_18 ?_
      refine vIf_eq (pc := 19) (tgt := 26) hc dX9_present_19 (by decide) (fun c19 => ?_) (fun c19 => ?_)
      · have hw := hw.1 c19
        refine vIconst (pc := 26) (v := 1) hc dX9_present_26 ki_1 ?_
        refine vIload_n (pc := 27) hc dX9_present_27 rfl ?_
        refine vIshl (pc := 28) hc dX9_present_28 ?_
        exact vMono (L2 := [some (.ref (E.2.1 66)), none, some (.int x2)]) (show subL [some (.ref (E.2.1 66)), none, some (.int x2)] [some (.ref (E.2.1 66)), some (.int x1), some (.int x2)] from ⟨rfl, ⟨rfl, trivial⟩⟩) (t_X9_present_J29 hc (fun x1 x2 σ hw => ih x1 x2 σ hw) x2 x1 ((1 : Int32) <<< (x2 &&& 31)) _ hw)
      · have hw := hw.2 c19
        refine vIconst (pc := 22) (v := 0) hc dX9_present_22 ki_0 ?_
        refine vGoto (pc := 23) (tgt := 29) hc dX9_present_23 (by decide) ?_
        exact vMono (L2 := [some (.ref (E.2.1 66)), none, some (.int x2)]) (show subL [some (.ref (E.2.1 66)), none, some (.int x2)] [some (.ref (E.2.1 66)), some (.int x1), some (.int x2)] from ⟨rfl, ⟨rfl, trivial⟩⟩) (t_X9_present_J29 hc (fun x1 x2 σ hw => ih x1 x2 σ hw) x2 x1 0 _ hw)
set_option maxRecDepth 100000 in
set_option maxHeartbeats 4000000 in
theorem t_X9_present_E {p : Program} {l : Launch} {e : Env} {s : State} {m : MethodId} {args : Array Value} {below : List Frame} {meth : Method} {c : Code} {E : WD} {Q : Int32 → MS → Prop} (hc : Cx p rm_X9_present s m args meth c E (AD E) cX9_present RX9 (some .int) 3 0 0 fdm) (σ : MS) (hw : w_X9_present_E Q  σ) : V p l e rm_X9_present s m args below meth c E (AD E) 3 0 0 (MQ below (va_Qi Q (BW E) (AD E)) args s 0 0 (AD E)) σ 0 [some (.ref (E.2.1 66)), none, none] [] := by
  unfold w_X9_present_E at hw
  refine vIconst (pc := 0) (v := 0) hc dX9_present_0 ki_0 ?_
  refine vIstore_n (pc := 1) (L2 := [some (.ref (E.2.1 66)), some (.int 0), none]) hc dX9_present_1 rfl (Nat.le_of_ble_eq_true rfl) ?_
  refine vIconst (pc := 2) (v := 0) hc dX9_present_2 ki_0 ?_
  refine vIstore_n (pc := 3) (L2 := [some (.ref (E.2.1 66)), some (.int 0), some (.int 0)]) hc dX9_present_3 rfl (Nat.le_of_ble_eq_true rfl) ?_
  obtain ⟨n4, hw⟩ := hw
  exact vMono (L2 := [some (.ref (E.2.1 66)), some (.int 0), some (.int 0)]) (show subL [some (.ref (E.2.1 66)), some (.int 0), some (.int 0)] [some (.ref (E.2.1 66)), some (.int 0), some (.int 0)] from ⟨rfl, ⟨rfl, ⟨rfl, trivial⟩⟩⟩) (t_X9_present_H4 hc  n4 0 0 _ hw)
set_option maxRecDepth 100000 in
set_option maxHeartbeats 4000000 in
theorem c_X9_present {l : Launch} {E : WD} (hE : inj E) (hG : ∀ k, fdm k → k ∈ E.2.2.2) {σ : MS} {Q : Int32 → MS → Prop} (hw : w_X9_present  σ Q) : Ci l E yX9_present cX9_present 3 (some .int) rm_X9_present [.ref (E.2.1 66)] σ Q :=
  Ct_of (by decide) rfl (by
    intro v hv
    simp only [List.mem_cons, List.not_mem_nil, or_false] at hv
    rcases hv with rfl <;> rfl) (Nat.le_of_ble_eq_true rfl) hE hG (fun p e s m below meth c hc => t_X9_present_E hc  σ hw)
def w_X9_bestOf_J229 (K67 : Int32 → Int32 → Int32 → MS → Prop) (Q : MS → Prop) (x1 x2 x4 x6 x7 x8 : Int32) (σ : MS) : Prop := ((vp_in x1 512) ∧ (∀ σ236, σ236 = mst σ 92 x1.toNatClampNeg x6 → (∀ σ244, σ244 = mst σ236 93 x1.toNatClampNeg x7 → (∀ σ252, σ252 = mst σ244 94 x1.toNatClampNeg x8 → (∀ σ260, σ260 = mst σ252 95 x1.toNatClampNeg x4 → K67 x1 x2 (x4 + 1) σ260)))))
def w_X9_bestOf_H67 (Q : MS → Prop) : Nat → Int32 → Int32 → Int32 → MS → Prop
  | 0, _, _, _, _ => False
  | n + 1, x1, x2, x4, σ => ((x1 < x4 → Q σ) ∧ (¬ x1 < x4 → (((x4 &&& x2) = 0 → w_X9_bestOf_H67 Q n x1 x2 (x4 + 1) σ) ∧ (¬ (x4 &&& x2) = 0 → ((¬ (x4 &&& (x1 ^^^ (-1))) = 0 → w_X9_bestOf_H67 Q n x1 x2 (x4 + 1) σ) ∧ ((x4 &&& (x1 ^^^ (-1))) = 0 → ((vp_in x4 512) ∧ ((0 ≤ (σ 90 x4.toNatClampNeg) → (∀ x5_108 : Int32, x5_108 = (x1 &&& (x4 ^^^ (-1))) → ((vp_in x1 512) ∧ ((vp_in x5_108 512) ∧ (∀ σ133, σ133 = mst σ 96 x1.toNatClampNeg (if ((σ 96 x5_108.toNatClampNeg) + 1) < (σ 96 x1.toNatClampNeg) then ((σ 96 x5_108.toNatClampNeg) + 1) else (σ 96 x1.toNatClampNeg)) → (∀ x6_141 : Int32, x6_141 = (σ133 92 x5_108.toNatClampNeg) → (∀ x7_158 : Int32, x7_158 = ((σ133 93 x5_108.toNatClampNeg) + (σ133 89 x4.toNatClampNeg)) → (∀ x8_169 : Int32, x8_169 = ((σ133 94 x5_108.toNatClampNeg) + 1) → (((σ133 92 x1.toNatClampNeg) < x6_141 → w_X9_bestOf_H67 Q n x1 x2 (x4 + 1) σ133) ∧ (¬ (σ133 92 x1.toNatClampNeg) < x6_141 → ((¬ x6_141 = (σ133 92 x1.toNatClampNeg) → w_X9_bestOf_J229 (fun x1 x2 x4 σ => w_X9_bestOf_H67 Q n x1 x2 x4 σ) Q x1 x2 x4 x6_141 x7_158 x8_169 σ133) ∧ (x6_141 = (σ133 92 x1.toNatClampNeg) → (((σ133 93 x1.toNatClampNeg) < x7_158 → w_X9_bestOf_H67 Q n x1 x2 (x4 + 1) σ133) ∧ (¬ (σ133 93 x1.toNatClampNeg) < x7_158 → ((¬ x7_158 = (σ133 93 x1.toNatClampNeg) → w_X9_bestOf_J229 (fun x1 x2 x4 σ => w_X9_bestOf_H67 Q n x1 x2 x4 σ) Q x1 x2 x4 x6_141 x7_158 x8_169 σ133) ∧ (x7_158 = (σ133 93 x1.toNatClampNeg) → ((x8_169 < (σ133 94 x1.toNatClampNeg) → w_X9_bestOf_J229 (fun x1 x2 x4 σ => w_X9_bestOf_H67 Q n x1 x2 x4 σ) Q x1 x2 x4 x6_141 x7_158 x8_169 σ133) ∧ (¬ x8_169 < (σ133 94 x1.toNatClampNeg) → w_X9_bestOf_H67 Q n x1 x2 (x4 + 1) σ133)))))))))))))))))) ∧ (¬ 0 ≤ (σ 90 x4.toNatClampNeg) → w_X9_bestOf_H67 Q n x1 x2 (x4 + 1) σ)))))))))
def w_X9_bestOf_E (Q : MS → Prop) (x1 : Int32) (σ : MS) : Prop := (∀ x2_4 : Int32, x2_4 = (x1 &&& (-x1)) → (∀ x3_10 : Int32, x3_10 = (x1 &&& (x2_4 ^^^ (-1))) → ((vp_in x3_10 512) ∧ ((vp_in x1 512) ∧ (∀ σ24, σ24 = mst σ 92 x1.toNatClampNeg ((σ 92 x3_10.toNatClampNeg) + 1) → (∀ σ36, σ36 = mst σ24 93 x1.toNatClampNeg (σ24 93 x3_10.toNatClampNeg) → (∀ σ48, σ48 = mst σ36 94 x1.toNatClampNeg (σ36 94 x3_10.toNatClampNeg) → (∀ σ55, σ55 = mst σ48 95 x1.toNatClampNeg 0 → (∀ σ63, σ63 = mst σ55 96 x1.toNatClampNeg 1000000 → (∃ n67, w_X9_bestOf_H67 Q n67 x1 x2_4 x2_4 σ63))))))))))
abbrev w_X9_bestOf (x1 : Int32) (σ : MS) (Q : MS → Prop) : Prop := w_X9_bestOf_E Q x1 σ
abbrev rm_X9_bestOf : Room := { frames := 1, cells := 0, slots := 0, locals := 60 }
theorem ok_X9_bestOf : OkV yX9_bestOf RX9 cX9_bestOf 9 none 1 := ⟨tw_980, tw_38, tw_57, tw_981, rfl, by decide, by decide, by decide +kernel⟩
set_option maxRecDepth 100000 in
set_option maxHeartbeats 4000000 in
theorem t_X9_bestOf_J229 {p : Program} {l : Launch} {e : Env} {s : State} {m : MethodId} {args : Array Value} {below : List Frame} {meth : Method} {c : Code} {E : WD} {Q : MS → Prop} (hc : Cx p rm_X9_bestOf s m args meth c E (AD E) cX9_bestOf RX9 none 9 0 0 fdm) {K67 : Int32 → Int32 → Int32 → MS → Prop} (hK67 : ∀ (x1 x2 x4 : Int32) (σ : MS), K67 x1 x2 x4 σ → V p l e rm_X9_bestOf s m args below meth c E (AD E) 9 0 0 (MQ below (va_Qv Q (BW E) (AD E)) args s 0 0 (AD E)) σ 67 [some (.ref (E.2.1 66)), some (.int x1), some (.int x2), none, some (.int x4), none, none, none, none] []) (x1 x2 x4 x6 x7 x8 : Int32) (σ : MS) (hw : w_X9_bestOf_J229 K67 Q x1 x2 x4 x6 x7 x8 σ) : V p l e rm_X9_bestOf s m args below meth c E (AD E) 9 0 0 (MQ below (va_Qv Q (BW E) (AD E)) args s 0 0 (AD E)) σ 229 [some (.ref (E.2.1 66)), some (.int x1), some (.int x2), none, some (.int x4), none, some (.int x6), some (.int x7), some (.int x8)] [] := by
  unfold w_X9_bestOf_J229 at hw
  refine vAload_n (pc := 229) hc dX9_bestOf_229 rfl ?_
  refine vGetR (pc := 230) (k := 66) (j := 31) hc rfl inG9 (hc.G 66 (Nat.le_of_ble_eq_true rfl)) rfl (Nat.le_of_ble_eq_true rfl) tw_754 rfl dX9_bestOf_230 ?_
  refine vIload_n (pc := 233) hc dX9_bestOf_233 rfl ?_
  refine vIload (pc := 234) hc dX9_bestOf_234 rfl ?_
  obtain ⟨hi1, hw⟩ := hw
  refine vIast (pc := 236) (k := 92) hc (hc.G 92 (Nat.le_of_ble_eq_true rfl)) rfl rfl hi1 dX9_bestOf_236 (fun σ236 eσ236 => ?_)
  have hw := hw σ236 eσ236
  refine vAload_n (pc := 237) hc dX9_bestOf_237 rfl ?_
  refine vGetR (pc := 238) (k := 66) (j := 32) hc rfl inG9 (hc.G 66 (Nat.le_of_ble_eq_true rfl)) rfl (Nat.le_of_ble_eq_true rfl) tw_755 rfl dX9_bestOf_238 ?_
  refine vIload_n (pc := 241) hc dX9_bestOf_241 rfl ?_
  refine vIload (pc := 242) hc dX9_bestOf_242 rfl ?_
  refine vIast (pc := 244) (k := 93) hc (hc.G 93 (Nat.le_of_ble_eq_true rfl)) rfl rfl hi1 dX9_bestOf_244 (fun σ244 eσ244 => ?_)
  have hw := hw σ244 eσ244
  refine vAload_n (pc := 245) hc dX9_bestOf_245 rfl ?_
  refine vGetR (pc := 246) (k := 66) (j := 33) hc rfl inG9 (hc.G 66 (Nat.le_of_ble_eq_true rfl)) rfl (Nat.le_of_ble_eq_true rfl) tw_756 rfl dX9_bestOf_246 ?_
  refine vIload_n (pc := 249) hc dX9_bestOf_249 rfl ?_
  refine vIload (pc := 250) hc dX9_bestOf_250 rfl ?_
  refine vIast (pc := 252) (k := 94) hc (hc.G 94 (Nat.le_of_ble_eq_true rfl)) rfl rfl hi1 dX9_bestOf_252 (fun σ252 eσ252 => ?_)
  have hw := hw σ252 eσ252
  refine vAload_n (pc := 253) hc dX9_bestOf_253 rfl ?_
  refine vGetR (pc := 254) (k := 66) (j := 34) hc rfl inG9 (hc.G 66 (Nat.le_of_ble_eq_true rfl)) rfl (Nat.le_of_ble_eq_true rfl) tw_757 rfl dX9_bestOf_254 ?_
  refine vIload_n (pc := 257) hc dX9_bestOf_257 rfl ?_
  refine vIload (pc := 258) hc dX9_bestOf_258 rfl ?_
  refine vIast (pc := 260) (k := 95) hc (hc.G 95 (Nat.le_of_ble_eq_true rfl)) rfl rfl hi1 dX9_bestOf_260 (fun σ260 eσ260 => ?_)
  have hw := hw σ260 eσ260
  refine vIinc (pc := 261) (v := x4 + 1) (L2 := [some (.ref (E.2.1 66)), some (.int x1), some (.int x2), none, some (.int (x4 + 1)), none, some (.int x6), some (.int x7), some (.int x8)]) hc dX9_bestOf_261 rfl rfl rfl (Nat.le_of_ble_eq_true rfl) ?_
  refine vGoto (pc := 264) (tgt := 67) hc dX9_bestOf_264 (by decide) ?_
  exact vMono (L2 := [some (.ref (E.2.1 66)), some (.int x1), some (.int x2), none, some (.int (x4 + 1)), none, none, none, none]) (show subL [some (.ref (E.2.1 66)), some (.int x1), some (.int x2), none, some (.int (x4 + 1)), none, none, none, none] [some (.ref (E.2.1 66)), some (.int x1), some (.int x2), none, some (.int (x4 + 1)), none, some (.int x6), some (.int x7), some (.int x8)] from ⟨rfl, ⟨rfl, ⟨rfl, ⟨rfl, trivial⟩⟩⟩⟩) (hK67 x1 x2 (x4 + 1) _ hw)
set_option maxRecDepth 100000 in
set_option maxHeartbeats 4000000 in
theorem t_X9_bestOf_H67 {p : Program} {l : Launch} {e : Env} {s : State} {m : MethodId} {args : Array Value} {below : List Frame} {meth : Method} {c : Code} {E : WD} {Q : MS → Prop} (hc : Cx p rm_X9_bestOf s m args meth c E (AD E) cX9_bestOf RX9 none 9 0 0 fdm) : ∀ (n : Nat) (x1 x2 x4 : Int32) (σ : MS), w_X9_bestOf_H67 Q n x1 x2 x4 σ → V p l e rm_X9_bestOf s m args below meth c E (AD E) 9 0 0 (MQ below (va_Qv Q (BW E) (AD E)) args s 0 0 (AD E)) σ 67 [some (.ref (E.2.1 66)), some (.int x1), some (.int x2), none, some (.int x4), none, none, none, none] [] := by
  intro n
  induction n with
  | zero =>
    intro x1 x2 x4 σ hw
    exact hw.elim
  | succ n ih =>
    intro x1 x2 x4 σ hw
    unfold w_X9_bestOf_H67 at hw
    refine vIload (pc := 67) hc dX9_bestOf_67 rfl ?_
    refine vIload_n (pc := 69) hc dX9_bestOf_69 rfl ?_
    refine vIcmp_gt (pc := 70) (tgt := 267) hc dX9_bestOf_70 (by decide) (fun c70 => ?_) (fun c70 => ?_)
    · have hw := hw.1 c70
      exact vVret (pc := 267) hc dX9_bestOf_267 hw
    · have hw := hw.2 c70
      refine vIload (pc := 73) hc dX9_bestOf_73 rfl ?_
      refine vIload_n (pc := 75) hc dX9_bestOf_75 rfl ?_
      refine vIand (pc := 76) hc dX9_bestOf_76 ?_
      refine vIf_eq (pc := 77) (tgt := 261) hc dX9_bestOf_77 (by decide) (fun c77 => ?_) (fun c77 => ?_)
      · have hw := hw.1 c77
        refine vIinc (pc := 261) (v := x4 + 1) (L2 := [some (.ref (E.2.1 66)), some (.int x1), some (.int x2), none, some (.int (x4 + 1)), none, none, none, none]) hc dX9_bestOf_261 rfl rfl rfl (Nat.le_of_ble_eq_true rfl) ?_
        refine vGoto (pc := 264) (tgt := 67) hc dX9_bestOf_264 (by decide) ?_
        exact vMono (L2 := [some (.ref (E.2.1 66)), some (.int x1), some (.int x2), none, some (.int (x4 + 1)), none, none, none, none]) (show subL [some (.ref (E.2.1 66)), some (.int x1), some (.int x2), none, some (.int (x4 + 1)), none, none, none, none] [some (.ref (E.2.1 66)), some (.int x1), some (.int x2), none, some (.int (x4 + 1)), none, none, none, none] from ⟨rfl, ⟨rfl, ⟨rfl, ⟨rfl, trivial⟩⟩⟩⟩) (ih x1 x2 (x4 + 1) _ hw)
      · have hw := hw.2 c77
        refine vIload (pc := 80) hc dX9_bestOf_80 rfl ?_
        refine vIload_n (pc := 82) hc dX9_bestOf_82 rfl ?_
        refine vIconst (pc := 83) (v := (-1)) hc dX9_bestOf_83 ki_m1 ?_
        refine vIxor (pc := 84) hc dX9_bestOf_84 ?_
        refine vIand (pc := 85) hc dX9_bestOf_85 ?_
        refine vIf_ne (pc := 86) (tgt := 261) hc dX9_bestOf_86 (by decide) (fun c86 => ?_) (fun c86 => ?_)
        · have hw := hw.1 c86
          refine vIinc (pc := 261) (v := x4 + 1) (L2 := [some (.ref (E.2.1 66)), some (.int x1), some (.int x2), none, some (.int (x4 + 1)), none, none, none, none]) hc dX9_bestOf_261 rfl rfl rfl (Nat.le_of_ble_eq_true rfl) ?_
          refine vGoto (pc := 264) (tgt := 67) hc dX9_bestOf_264 (by decide) ?_
          exact vMono (L2 := [some (.ref (E.2.1 66)), some (.int x1), some (.int x2), none, some (.int (x4 + 1)), none, none, none, none]) (show subL [some (.ref (E.2.1 66)), some (.int x1), some (.int x2), none, some (.int (x4 + 1)), none, none, none, none] [some (.ref (E.2.1 66)), some (.int x1), some (.int x2), none, some (.int (x4 + 1)), none, none, none, none] from ⟨rfl, ⟨rfl, ⟨rfl, ⟨rfl, trivial⟩⟩⟩⟩) (ih x1 x2 (x4 + 1) _ hw)
        · have hw := hw.2 c86
          refine vAload_n (pc := 89) hc dX9_bestOf_89 rfl ?_
          refine vGetR (pc := 90) (k := 66) (j := 29) hc rfl inG9 (hc.G 66 (Nat.le_of_ble_eq_true rfl)) rfl (Nat.le_of_ble_eq_true rfl) tw_752 rfl dX9_bestOf_90 ?_
          refine vIload (pc := 93) hc dX9_bestOf_93 rfl ?_
          obtain ⟨hi1, hw⟩ := hw
          refine vIald (pc := 95) (k := 90) hc (hc.G 90 (Nat.le_of_ble_eq_true rfl)) rfl rfl hi1 dX9_bestOf_95 ?_
          refine vIf_ge (pc := 96) (tgt := 102) hc dX9_bestOf_96 (by decide) (fun c96 => ?_) (fun c96 => ?_)
          · have hw := hw.1 c96
            refine vIload_n (pc := 102) hc dX9_bestOf_102 rfl ?_
            refine vIload (pc := 103) hc dX9_bestOf_103 rfl ?_
            refine vIconst (pc := 105) (v := (-1)) hc dX9_bestOf_105 ki_m1 ?_
            refine vIxor (pc := 106) hc dX9_bestOf_106 ?_
            refine vIand (pc := 107) hc dX9_bestOf_107 ?_
            obtain ⟨x5_108, ex5_108⟩ : ∃ z : Int32, z = x1 &&& (x4 ^^^ (-1)) := ⟨_, rfl⟩
            have hw := hw x5_108 ex5_108
            refine vTop ex5_108 ?_
            refine vIstore (pc := 108) (L2 := [some (.ref (E.2.1 66)), some (.int x1), some (.int x2), none, some (.int x4), some (.int x5_108), none, none, none]) hc dX9_bestOf_108 rfl (Nat.le_of_ble_eq_true rfl) ?_
            refine vAload_n (pc := 110) hc dX9_bestOf_110 rfl ?_
            refine vGetR (pc := 111) (k := 66) (j := 35) hc rfl inG9 (hc.G 66 (Nat.le_of_ble_eq_true rfl)) rfl (Nat.le_of_ble_eq_true rfl) tw_758 rfl dX9_bestOf_111 ?_
            refine vIload_n (pc := 114) hc dX9_bestOf_114 rfl ?_
            refine vAload_n (pc := 115) hc dX9_bestOf_115 rfl ?_
            refine vGetR (pc := 116) (k := 66) (j := 35) hc rfl inG9 (hc.G 66 (Nat.le_of_ble_eq_true rfl)) rfl (Nat.le_of_ble_eq_true rfl) tw_758 rfl dX9_bestOf_116 ?_
            refine vIload_n (pc := 119) hc dX9_bestOf_119 rfl ?_
            obtain ⟨hi2, hw⟩ := hw
            refine vIald (pc := 120) (k := 96) hc (hc.G 96 (Nat.le_of_ble_eq_true rfl)) rfl rfl hi2 dX9_bestOf_120 ?_
            refine vAload_n (pc := 121) hc dX9_bestOf_121 rfl ?_
            refine vGetR (pc := 122) (k := 66) (j := 35) hc rfl inG9 (hc.G 66 (Nat.le_of_ble_eq_true rfl)) rfl (Nat.le_of_ble_eq_true rfl) tw_758 rfl dX9_bestOf_122 ?_
            refine vIload (pc := 125) hc dX9_bestOf_125 rfl ?_
            obtain ⟨hi3, hw⟩ := hw
            refine vIald (pc := 127) (k := 96) hc (hc.G 96 (Nat.le_of_ble_eq_true rfl)) rfl rfl hi3 dX9_bestOf_127 ?_
            refine vIconst (pc := 128) (v := 1) hc dX9_bestOf_128 ki_1 ?_
            refine vIadd (pc := 129) hc dX9_bestOf_129 ?_
            refine vMin (pc := 130) hc tw_718 tw_90 tw_49 tw_91 ⟨Nat.le_of_ble_eq_true rfl, Nat.le_of_ble_eq_true rfl⟩ dX9_bestOf_130 ?_
            refine vIast (pc := 133) (k := 96) hc (hc.G 96 (Nat.le_of_ble_eq_true rfl)) rfl rfl hi2 dX9_bestOf_133 (fun σ133 eσ133 => ?_)
            have hw := hw σ133 eσ133
            refine vAload_n (pc := 134) hc dX9_bestOf_134 rfl ?_
            refine vGetR (pc := 135) (k := 66) (j := 31) hc rfl inG9 (hc.G 66 (Nat.le_of_ble_eq_true rfl)) rfl (Nat.le_of_ble_eq_true rfl) tw_754 rfl dX9_bestOf_135 ?_
            refine vIload (pc := 138) hc dX9_bestOf_138 rfl ?_
            refine vIald (pc := 140) (k := 92) hc (hc.G 92 (Nat.le_of_ble_eq_true rfl)) rfl rfl hi3 dX9_bestOf_140 ?_
            obtain ⟨x6_141, ex6_141⟩ : ∃ z : Int32, z = σ133 92 x5_108.toNatClampNeg := ⟨_, rfl⟩
            have hw := hw x6_141 ex6_141
            refine vTop ex6_141 ?_
            refine vIstore (pc := 141) (L2 := [some (.ref (E.2.1 66)), some (.int x1), some (.int x2), none, some (.int x4), some (.int x5_108), some (.int x6_141), none, none]) hc dX9_bestOf_141 rfl (Nat.le_of_ble_eq_true rfl) ?_
            refine vAload_n (pc := 143) hc dX9_bestOf_143 rfl ?_
            refine vGetR (pc := 144) (k := 66) (j := 32) hc rfl inG9 (hc.G 66 (Nat.le_of_ble_eq_true rfl)) rfl (Nat.le_of_ble_eq_true rfl) tw_755 rfl dX9_bestOf_144 ?_
            refine vIload (pc := 147) hc dX9_bestOf_147 rfl ?_
            refine vIald (pc := 149) (k := 93) hc (hc.G 93 (Nat.le_of_ble_eq_true rfl)) rfl rfl hi3 dX9_bestOf_149 ?_
            refine vAload_n (pc := 150) hc dX9_bestOf_150 rfl ?_
            refine vGetR (pc := 151) (k := 66) (j := 28) hc rfl inG9 (hc.G 66 (Nat.le_of_ble_eq_true rfl)) rfl (Nat.le_of_ble_eq_true rfl) tw_751 rfl dX9_bestOf_151 ?_
            refine vIload (pc := 154) hc dX9_bestOf_154 rfl ?_
            refine vIald (pc := 156) (k := 89) hc (hc.G 89 (Nat.le_of_ble_eq_true rfl)) rfl rfl hi1 dX9_bestOf_156 ?_
            refine vIadd (pc := 157) hc dX9_bestOf_157 ?_
            obtain ⟨x7_158, ex7_158⟩ : ∃ z : Int32, z = (σ133 93 x5_108.toNatClampNeg) + (σ133 89 x4.toNatClampNeg) := ⟨_, rfl⟩
            have hw := hw x7_158 ex7_158
            refine vTop ex7_158 ?_
            refine vIstore (pc := 158) (L2 := [some (.ref (E.2.1 66)), some (.int x1), some (.int x2), none, some (.int x4), some (.int x5_108), some (.int x6_141), some (.int x7_158), none]) hc dX9_bestOf_158 rfl (Nat.le_of_ble_eq_true rfl) ?_
            refine vAload_n (pc := 160) hc dX9_bestOf_160 rfl ?_
            refine vGetR (pc := 161) (k := 66) (j := 33) hc rfl inG9 (hc.G 66 (Nat.le_of_ble_eq_true rfl)) rfl (Nat.le_of_ble_eq_true rfl) tw_756 rfl dX9_bestOf_161 ?_
            refine vIload (pc := 164) hc dX9_bestOf_164 rfl ?_
            refine vIald (pc := 166) (k := 94) hc (hc.G 94 (Nat.le_of_ble_eq_true rfl)) rfl rfl hi3 dX9_bestOf_166 ?_
            refine vIconst (pc := 167) (v := 1) hc dX9_bestOf_167 ki_1 ?_
            refine vIadd (pc := 168) hc dX9_bestOf_168 ?_
            obtain ⟨x8_169, ex8_169⟩ : ∃ z : Int32, z = (σ133 94 x5_108.toNatClampNeg) + 1 := ⟨_, rfl⟩
            have hw := hw x8_169 ex8_169
            refine vTop ex8_169 ?_
            refine vIstore (pc := 169) (L2 := [some (.ref (E.2.1 66)), some (.int x1), some (.int x2), none, some (.int x4), some (.int x5_108), some (.int x6_141), some (.int x7_158), some (.int x8_169)]) hc dX9_bestOf_169 rfl (Nat.le_of_ble_eq_true rfl) ?_
            refine vIload (pc := 171) hc dX9_bestOf_171 rfl ?_
            refine vAload_n (pc := 173) hc dX9_bestOf_173 rfl ?_
            refine vGetR (pc := 174) (k := 66) (j := 31) hc rfl inG9 (hc.G 66 (Nat.le_of_ble_eq_true rfl)) rfl (Nat.le_of_ble_eq_true rfl) tw_754 rfl dX9_bestOf_174 ?_
            refine vIload_n (pc := 177) hc dX9_bestOf_177 rfl ?_
            refine vIald (pc := 178) (k := 92) hc (hc.G 92 (Nat.le_of_ble_eq_true rfl)) rfl rfl hi2 dX9_bestOf_178 ?_
            refine vIcmp_gt (pc := 179) (tgt := 261) hc dX9_bestOf_179 (by decide) (fun c179 => ?_) (fun c179 => ?_)
            · have hw := hw.1 c179
              refine vIinc (pc := 261) (v := x4 + 1) (L2 := [some (.ref (E.2.1 66)), some (.int x1), some (.int x2), none, some (.int (x4 + 1)), some (.int x5_108), some (.int x6_141), some (.int x7_158), some (.int x8_169)]) hc dX9_bestOf_261 rfl rfl rfl (Nat.le_of_ble_eq_true rfl) ?_
              refine vGoto (pc := 264) (tgt := 67) hc dX9_bestOf_264 (by decide) ?_
              exact vMono (L2 := [some (.ref (E.2.1 66)), some (.int x1), some (.int x2), none, some (.int (x4 + 1)), none, none, none, none]) (show subL [some (.ref (E.2.1 66)), some (.int x1), some (.int x2), none, some (.int (x4 + 1)), none, none, none, none] [some (.ref (E.2.1 66)), some (.int x1), some (.int x2), none, some (.int (x4 + 1)), some (.int x5_108), some (.int x6_141), some (.int x7_158), some (.int x8_169)] from ⟨rfl, ⟨rfl, ⟨rfl, ⟨rfl, trivial⟩⟩⟩⟩) (ih x1 x2 (x4 + 1) _ hw)
            · have hw := hw.2 c179
              refine vIload (pc := 182) hc dX9_bestOf_182 rfl ?_
              refine vAload_n (pc := 184) hc dX9_bestOf_184 rfl ?_
              refine vGetR (pc := 185) (k := 66) (j := 31) hc rfl inG9 (hc.G 66 (Nat.le_of_ble_eq_true rfl)) rfl (Nat.le_of_ble_eq_true rfl) tw_754 rfl dX9_bestOf_185 ?_
              refine vIload_n (pc := 188) hc dX9_bestOf_188 rfl ?_
              refine vIald (pc := 189) (k := 92) hc (hc.G 92 (Nat.le_of_ble_eq_true rfl)) rfl rfl hi2 dX9_bestOf_189 ?_
              refine vIcmp_ne (pc := 190) (tgt := 229) hc dX9_bestOf_190 (by decide) (fun c190 => ?_) (fun c190 => ?_)
              · have hw := hw.1 c190
                exact vMono (L2 := [some (.ref (E.2.1 66)), some (.int x1), some (.int x2), none, some (.int x4), none, some (.int x6_141), some (.int x7_158), some (.int x8_169)]) (show subL [some (.ref (E.2.1 66)), some (.int x1), some (.int x2), none, some (.int x4), none, some (.int x6_141), some (.int x7_158), some (.int x8_169)] [some (.ref (E.2.1 66)), some (.int x1), some (.int x2), none, some (.int x4), some (.int x5_108), some (.int x6_141), some (.int x7_158), some (.int x8_169)] from ⟨rfl, ⟨rfl, ⟨rfl, ⟨rfl, ⟨rfl, ⟨rfl, ⟨rfl, trivial⟩⟩⟩⟩⟩⟩⟩) (t_X9_bestOf_J229 hc (fun x1 x2 x4 σ hw => ih x1 x2 x4 σ hw) x1 x2 x4 x6_141 x7_158 x8_169 _ hw)
              · have hw := hw.2 c190
                refine vIload (pc := 193) hc dX9_bestOf_193 rfl ?_
                refine vAload_n (pc := 195) hc dX9_bestOf_195 rfl ?_
                refine vGetR (pc := 196) (k := 66) (j := 32) hc rfl inG9 (hc.G 66 (Nat.le_of_ble_eq_true rfl)) rfl (Nat.le_of_ble_eq_true rfl) tw_755 rfl dX9_bestOf_196 ?_
                refine vIload_n (pc := 199) hc dX9_bestOf_199 rfl ?_
                refine vIald (pc := 200) (k := 93) hc (hc.G 93 (Nat.le_of_ble_eq_true rfl)) rfl rfl hi2 dX9_bestOf_200 ?_
                refine vIcmp_gt (pc := 201) (tgt := 261) hc dX9_bestOf_201 (by decide) (fun c201 => ?_) (fun c201 => ?_)
                · have hw := hw.1 c201
                  refine vIinc (pc := 261) (v := x4 + 1) (L2 := [some (.ref (E.2.1 66)), some (.int x1), some (.int x2), none, some (.int (x4 + 1)), some (.int x5_108), some (.int x6_141), some (.int x7_158), some (.int x8_169)]) hc dX9_bestOf_261 rfl rfl rfl (Nat.le_of_ble_eq_true rfl) ?_
                  refine vGoto (pc := 264) (tgt := 67) hc dX9_bestOf_264 (by decide) ?_
                  exact vMono (L2 := [some (.ref (E.2.1 66)), some (.int x1), some (.int x2), none, some (.int (x4 + 1)), none, none, none, none]) (show subL [some (.ref (E.2.1 66)), some (.int x1), some (.int x2), none, some (.int (x4 + 1)), none, none, none, none] [some (.ref (E.2.1 66)), some (.int x1), some (.int x2), none, some (.int (x4 + 1)), some (.int x5_108), some (.int x6_141), some (.int x7_158), some (.int x8_169)] from ⟨rfl, ⟨rfl, ⟨rfl, ⟨rfl, trivial⟩⟩⟩⟩) (ih x1 x2 (x4 + 1) _ hw)
                · have hw := hw.2 c201
                  refine vIload (pc := 204) hc dX9_bestOf_204 rfl ?_
                  refine vAload_n (pc := 206) hc dX9_bestOf_206 rfl ?_
                  refine vGetR (pc := 207) (k := 66) (j := 32) hc rfl inG9 (hc.G 66 (Nat.le_of_ble_eq_true rfl)) rfl (Nat.le_of_ble_eq_true rfl) tw_755 rfl dX9_bestOf_207 ?_
                  refine vIload_n (pc := 210) hc dX9_bestOf_210 rfl ?_
                  refine vIald (pc := 211) (k := 93) hc (hc.G 93 (Nat.le_of_ble_eq_true rfl)) rfl rfl hi2 dX9_bestOf_211 ?_
                  refine vIcmp_ne (pc := 212) (tgt := 229) hc dX9_bestOf_212 (by decide) (fun c212 => ?_) (fun c212 => ?_)
                  · have hw := hw.1 c212
                    exact vMono (L2 := [some (.ref (E.2.1 66)), some (.int x1), some (.int x2), none, some (.int x4), none, some (.int x6_141), some (.int x7_158), some (.int x8_169)]) (show subL [some (.ref (E.2.1 66)), some (.int x1), some (.int x2), none, some (.int x4), none, some (.int x6_141), some (.int x7_158), some (.int x8_169)] [some (.ref (E.2.1 66)), some (.int x1), some (.int x2), none, some (.int x4), some (.int x5_108), some (.int x6_141), some (.int x7_158), some (.int x8_169)] from ⟨rfl, ⟨rfl, ⟨rfl, ⟨rfl, ⟨rfl, ⟨rfl, ⟨rfl, trivial⟩⟩⟩⟩⟩⟩⟩) (t_X9_bestOf_J229 hc (fun x1 x2 x4 σ hw => ih x1 x2 x4 σ hw) x1 x2 x4 x6_141 x7_158 x8_169 _ hw)
                  · have hw := hw.2 c212
                    refine vIload (pc := 215) hc dX9_bestOf_215 rfl ?_
                    refine vAload_n (pc := 217) hc dX9_bestOf_217 rfl ?_
                    refine vGetR (pc := 218) (k := 66) (j := 33) hc rfl inG9 (hc.G 66 (Nat.le_of_ble_eq_true rfl)) rfl (Nat.le_of_ble_eq_true rfl) tw_756 rfl dX9_bestOf_218 ?_
                    refine vIload_n (pc := 221) hc dX9_bestOf_221 rfl ?_
                    refine vIald (pc := 222) (k := 94) hc (hc.G 94 (Nat.le_of_ble_eq_true rfl)) rfl rfl hi2 dX9_bestOf_222 ?_
                    refine vIcmp_lt (pc := 223) (tgt := 229) hc dX9_bestOf_223 (by decide) (fun c223 => ?_) (fun c223 => ?_)
                    · have hw := hw.1 c223
                      exact vMono (L2 := [some (.ref (E.2.1 66)), some (.int x1), some (.int x2), none, some (.int x4), none, some (.int x6_141), some (.int x7_158), some (.int x8_169)]) (show subL [some (.ref (E.2.1 66)), some (.int x1), some (.int x2), none, some (.int x4), none, some (.int x6_141), some (.int x7_158), some (.int x8_169)] [some (.ref (E.2.1 66)), some (.int x1), some (.int x2), none, some (.int x4), some (.int x5_108), some (.int x6_141), some (.int x7_158), some (.int x8_169)] from ⟨rfl, ⟨rfl, ⟨rfl, ⟨rfl, ⟨rfl, ⟨rfl, ⟨rfl, trivial⟩⟩⟩⟩⟩⟩⟩) (t_X9_bestOf_J229 hc (fun x1 x2 x4 σ hw => ih x1 x2 x4 σ hw) x1 x2 x4 x6_141 x7_158 x8_169 _ hw)
                    · have hw := hw.2 c223
                      refine vGoto (pc := 226) (tgt := 261) hc dX9_bestOf_226 (by decide) ?_
                      refine vIinc (pc := 261) (v := x4 + 1) (L2 := [some (.ref (E.2.1 66)), some (.int x1), some (.int x2), none, some (.int (x4 + 1)), some (.int x5_108), some (.int x6_141), some (.int x7_158), some (.int x8_169)]) hc dX9_bestOf_261 rfl rfl rfl (Nat.le_of_ble_eq_true rfl) ?_
                      refine vGoto (pc := 264) (tgt := 67) hc dX9_bestOf_264 (by decide) ?_
                      exact vMono (L2 := [some (.ref (E.2.1 66)), some (.int x1), some (.int x2), none, some (.int (x4 + 1)), none, none, none, none]) (show subL [some (.ref (E.2.1 66)), some (.int x1), some (.int x2), none, some (.int (x4 + 1)), none, none, none, none] [some (.ref (E.2.1 66)), some (.int x1), some (.int x2), none, some (.int (x4 + 1)), some (.int x5_108), some (.int x6_141), some (.int x7_158), some (.int x8_169)] from ⟨rfl, ⟨rfl, ⟨rfl, ⟨rfl, trivial⟩⟩⟩⟩) (ih x1 x2 (x4 + 1) _ hw)
          · have hw := hw.2 c96
            refine vGoto (pc := 99) (tgt := 261) hc dX9_bestOf_99 (by decide) ?_
            refine vIinc (pc := 261) (v := x4 + 1) (L2 := [some (.ref (E.2.1 66)), some (.int x1), some (.int x2), none, some (.int (x4 + 1)), none, none, none, none]) hc dX9_bestOf_261 rfl rfl rfl (Nat.le_of_ble_eq_true rfl) ?_
            refine vGoto (pc := 264) (tgt := 67) hc dX9_bestOf_264 (by decide) ?_
            exact vMono (L2 := [some (.ref (E.2.1 66)), some (.int x1), some (.int x2), none, some (.int (x4 + 1)), none, none, none, none]) (show subL [some (.ref (E.2.1 66)), some (.int x1), some (.int x2), none, some (.int (x4 + 1)), none, none, none, none] [some (.ref (E.2.1 66)), some (.int x1), some (.int x2), none, some (.int (x4 + 1)), none, none, none, none] from ⟨rfl, ⟨rfl, ⟨rfl, ⟨rfl, trivial⟩⟩⟩⟩) (ih x1 x2 (x4 + 1) _ hw)
set_option maxRecDepth 100000 in
set_option maxHeartbeats 4000000 in
theorem t_X9_bestOf_E {p : Program} {l : Launch} {e : Env} {s : State} {m : MethodId} {args : Array Value} {below : List Frame} {meth : Method} {c : Code} {E : WD} {Q : MS → Prop} (hc : Cx p rm_X9_bestOf s m args meth c E (AD E) cX9_bestOf RX9 none 9 0 0 fdm) (x1 : Int32) (σ : MS) (hw : w_X9_bestOf_E Q x1 σ) : V p l e rm_X9_bestOf s m args below meth c E (AD E) 9 0 0 (MQ below (va_Qv Q (BW E) (AD E)) args s 0 0 (AD E)) σ 0 [some (.ref (E.2.1 66)), some (.int x1), none, none, none, none, none, none, none] [] := by
  unfold w_X9_bestOf_E at hw
  refine vIload_n (pc := 0) hc dX9_bestOf_0 rfl ?_
  refine vIload_n (pc := 1) hc dX9_bestOf_1 rfl ?_
  refine vIneg (pc := 2) hc dX9_bestOf_2 ?_
  refine vIand (pc := 3) hc dX9_bestOf_3 ?_
  obtain ⟨x2_4, ex2_4⟩ : ∃ z : Int32, z = x1 &&& (-x1) := ⟨_, rfl⟩
  have hw := hw x2_4 ex2_4
  refine vTop ex2_4 ?_
  refine vIstore_n (pc := 4) (L2 := [some (.ref (E.2.1 66)), some (.int x1), some (.int x2_4), none, none, none, none, none, none]) hc dX9_bestOf_4 rfl (Nat.le_of_ble_eq_true rfl) ?_
  refine vIload_n (pc := 5) hc dX9_bestOf_5 rfl ?_
  refine vIload_n (pc := 6) hc dX9_bestOf_6 rfl ?_
  refine vIconst (pc := 7) (v := (-1)) hc dX9_bestOf_7 ki_m1 ?_
  refine vIxor (pc := 8) hc dX9_bestOf_8 ?_
  refine vIand (pc := 9) hc dX9_bestOf_9 ?_
  obtain ⟨x3_10, ex3_10⟩ : ∃ z : Int32, z = x1 &&& (x2_4 ^^^ (-1)) := ⟨_, rfl⟩
  have hw := hw x3_10 ex3_10
  refine vTop ex3_10 ?_
  refine vIstore_n (pc := 10) (L2 := [some (.ref (E.2.1 66)), some (.int x1), some (.int x2_4), some (.int x3_10), none, none, none, none, none]) hc dX9_bestOf_10 rfl (Nat.le_of_ble_eq_true rfl) ?_
  refine vAload_n (pc := 11) hc dX9_bestOf_11 rfl ?_
  refine vGetR (pc := 12) (k := 66) (j := 31) hc rfl inG9 (hc.G 66 (Nat.le_of_ble_eq_true rfl)) rfl (Nat.le_of_ble_eq_true rfl) tw_754 rfl dX9_bestOf_12 ?_
  refine vIload_n (pc := 15) hc dX9_bestOf_15 rfl ?_
  refine vAload_n (pc := 16) hc dX9_bestOf_16 rfl ?_
  refine vGetR (pc := 17) (k := 66) (j := 31) hc rfl inG9 (hc.G 66 (Nat.le_of_ble_eq_true rfl)) rfl (Nat.le_of_ble_eq_true rfl) tw_754 rfl dX9_bestOf_17 ?_
  refine vIload_n (pc := 20) hc dX9_bestOf_20 rfl ?_
  obtain ⟨hi1, hw⟩ := hw
  refine vIald (pc := 21) (k := 92) hc (hc.G 92 (Nat.le_of_ble_eq_true rfl)) rfl rfl hi1 dX9_bestOf_21 ?_
  refine vIconst (pc := 22) (v := 1) hc dX9_bestOf_22 ki_1 ?_
  refine vIadd (pc := 23) hc dX9_bestOf_23 ?_
  obtain ⟨hi2, hw⟩ := hw
  refine vIast (pc := 24) (k := 92) hc (hc.G 92 (Nat.le_of_ble_eq_true rfl)) rfl rfl hi2 dX9_bestOf_24 (fun σ24 eσ24 => ?_)
  have hw := hw σ24 eσ24
  refine vAload_n (pc := 25) hc dX9_bestOf_25 rfl ?_
  refine vGetR (pc := 26) (k := 66) (j := 32) hc rfl inG9 (hc.G 66 (Nat.le_of_ble_eq_true rfl)) rfl (Nat.le_of_ble_eq_true rfl) tw_755 rfl dX9_bestOf_26 ?_
  refine vIload_n (pc := 29) hc dX9_bestOf_29 rfl ?_
  refine vAload_n (pc := 30) hc dX9_bestOf_30 rfl ?_
  refine vGetR (pc := 31) (k := 66) (j := 32) hc rfl inG9 (hc.G 66 (Nat.le_of_ble_eq_true rfl)) rfl (Nat.le_of_ble_eq_true rfl) tw_755 rfl dX9_bestOf_31 ?_
  refine vIload_n (pc := 34) hc dX9_bestOf_34 rfl ?_
  refine vIald (pc := 35) (k := 93) hc (hc.G 93 (Nat.le_of_ble_eq_true rfl)) rfl rfl hi1 dX9_bestOf_35 ?_
  refine vIast (pc := 36) (k := 93) hc (hc.G 93 (Nat.le_of_ble_eq_true rfl)) rfl rfl hi2 dX9_bestOf_36 (fun σ36 eσ36 => ?_)
  have hw := hw σ36 eσ36
  refine vAload_n (pc := 37) hc dX9_bestOf_37 rfl ?_
  refine vGetR (pc := 38) (k := 66) (j := 33) hc rfl inG9 (hc.G 66 (Nat.le_of_ble_eq_true rfl)) rfl (Nat.le_of_ble_eq_true rfl) tw_756 rfl dX9_bestOf_38 ?_
  refine vIload_n (pc := 41) hc dX9_bestOf_41 rfl ?_
  refine vAload_n (pc := 42) hc dX9_bestOf_42 rfl ?_
  refine vGetR (pc := 43) (k := 66) (j := 33) hc rfl inG9 (hc.G 66 (Nat.le_of_ble_eq_true rfl)) rfl (Nat.le_of_ble_eq_true rfl) tw_756 rfl dX9_bestOf_43 ?_
  refine vIload_n (pc := 46) hc dX9_bestOf_46 rfl ?_
  refine vIald (pc := 47) (k := 94) hc (hc.G 94 (Nat.le_of_ble_eq_true rfl)) rfl rfl hi1 dX9_bestOf_47 ?_
  refine vIast (pc := 48) (k := 94) hc (hc.G 94 (Nat.le_of_ble_eq_true rfl)) rfl rfl hi2 dX9_bestOf_48 (fun σ48 eσ48 => ?_)
  have hw := hw σ48 eσ48
  refine vAload_n (pc := 49) hc dX9_bestOf_49 rfl ?_
  refine vGetR (pc := 50) (k := 66) (j := 34) hc rfl inG9 (hc.G 66 (Nat.le_of_ble_eq_true rfl)) rfl (Nat.le_of_ble_eq_true rfl) tw_757 rfl dX9_bestOf_50 ?_
  refine vIload_n (pc := 53) hc dX9_bestOf_53 rfl ?_
  refine vIconst (pc := 54) (v := 0) hc dX9_bestOf_54 ki_0 ?_
  refine vIast (pc := 55) (k := 95) hc (hc.G 95 (Nat.le_of_ble_eq_true rfl)) rfl rfl hi2 dX9_bestOf_55 (fun σ55 eσ55 => ?_)
  have hw := hw σ55 eσ55
  refine vAload_n (pc := 56) hc dX9_bestOf_56 rfl ?_
  refine vGetR (pc := 57) (k := 66) (j := 35) hc rfl inG9 (hc.G 66 (Nat.le_of_ble_eq_true rfl)) rfl (Nat.le_of_ble_eq_true rfl) tw_758 rfl dX9_bestOf_57 ?_
  refine vIload_n (pc := 60) hc dX9_bestOf_60 rfl ?_
  refine vLdc (pc := 61) hc tw_920 dX9_bestOf_61 ?_
  refine vIast (pc := 63) (k := 96) hc (hc.G 96 (Nat.le_of_ble_eq_true rfl)) rfl rfl hi2 dX9_bestOf_63 (fun σ63 eσ63 => ?_)
  have hw := hw σ63 eσ63
  refine vIload_n (pc := 64) hc dX9_bestOf_64 rfl ?_
  refine vIstore (pc := 65) (L2 := [some (.ref (E.2.1 66)), some (.int x1), some (.int x2_4), some (.int x3_10), some (.int x2_4), none, none, none, none]) hc dX9_bestOf_65 rfl (Nat.le_of_ble_eq_true rfl) ?_
  obtain ⟨n67, hw⟩ := hw
  exact vMono (L2 := [some (.ref (E.2.1 66)), some (.int x1), some (.int x2_4), none, some (.int x2_4), none, none, none, none]) (show subL [some (.ref (E.2.1 66)), some (.int x1), some (.int x2_4), none, some (.int x2_4), none, none, none, none] [some (.ref (E.2.1 66)), some (.int x1), some (.int x2_4), some (.int x3_10), some (.int x2_4), none, none, none, none] from ⟨rfl, ⟨rfl, ⟨rfl, ⟨rfl, trivial⟩⟩⟩⟩) (t_X9_bestOf_H67 hc  n67 x1 x2_4 x2_4 _ hw)
set_option maxRecDepth 100000 in
set_option maxHeartbeats 4000000 in
theorem c_X9_bestOf {l : Launch} {E : WD} (hE : inj E) (hG : ∀ k, fdm k → k ∈ E.2.2.2) {x1 : Int32} {σ : MS} {Q : MS → Prop} (hw : w_X9_bestOf x1 σ Q) : Cv l E yX9_bestOf cX9_bestOf 9 none rm_X9_bestOf [.ref (E.2.1 66), .int x1] σ Q :=
  Ct_of (by decide) rfl (by
    intro v hv
    simp only [List.mem_cons, List.not_mem_nil, or_false] at hv
    rcases hv with rfl | rfl <;> rfl) (Nat.le_of_ble_eq_true rfl) hE hG (fun p e s m below meth c hc => t_X9_bestOf_E hc x1 σ hw)
def w_X9_best_H39 (Q : MS → Prop) : Nat → Int32 → Int32 → MS → Prop
  | 0, _, _, _ => False
  | n + 1, x1, x2, σ => ((((1 : Int32) <<< ((σ 66 3) &&& 31)) ≤ x2 → Q σ) ∧ (¬ ((1 : Int32) <<< ((σ 66 3) &&& 31)) ≤ x2 → ((¬ (x2 &&& (x1 ^^^ (-1))) = 0 → w_X9_best_H39 Q n x1 (x2 + 1) σ) ∧ ((x2 &&& (x1 ^^^ (-1))) = 0 → w_X9_bestOf x2 σ (fun σ59 => w_X9_best_H39 Q n x1 (x2 + 1) σ59)))))
def w_X9_best_E (Q : MS → Prop) (σ : MS) : Prop := w_X9_know  σ (fun σ1 => (∀ σ10, σ10 = mst σ1 92 (0 : Int32).toNatClampNeg 0 → (∀ σ17, σ17 = mst σ10 93 (0 : Int32).toNatClampNeg 0 → (∀ σ24, σ24 = mst σ17 94 (0 : Int32).toNatClampNeg 0 → (∀ σ31, σ31 = mst σ24 96 (0 : Int32).toNatClampNeg 0 → w_X9_present  σ31 (fun r33 σ33 => (∃ n39, w_X9_best_H39 Q n39 r33 1 σ33)))))))
abbrev w_X9_best (σ : MS) (Q : MS → Prop) : Prop := w_X9_best_E Q  σ
abbrev rm_X9_best : Room := { frames := 18, cells := 0, slots := 0, locals := 482 }
theorem ok_X9_best : OkV yX9_best RX9 cX9_best 3 none 0 := ⟨tw_972, tw_36, tw_57, tw_973, rfl, by decide, by decide, by decide +kernel⟩
set_option maxRecDepth 100000 in
set_option maxHeartbeats 4000000 in
theorem t_X9_best_H39 {p : Program} {l : Launch} {e : Env} {s : State} {m : MethodId} {args : Array Value} {below : List Frame} {meth : Method} {c : Code} {E : WD} {Q : MS → Prop} (hc : Cx p rm_X9_best s m args meth c E (AD E) cX9_best RX9 none 3 0 0 fdm) : ∀ (n : Nat) (x1 x2 : Int32) (σ : MS), w_X9_best_H39 Q n x1 x2 σ → V p l e rm_X9_best s m args below meth c E (AD E) 3 0 0 (MQ below (va_Qv Q (BW E) (AD E)) args s 0 0 (AD E)) σ 39 [some (.ref (E.2.1 66)), some (.int x1), some (.int x2)] [] := by
  intro n
  induction n with
  | zero =>
    intro x1 x2 σ hw
    exact hw.elim
  | succ n ih =>
    intro x1 x2 σ hw
    unfold w_X9_best_H39 at hw
    refine vIload_n (pc := 39) hc dX9_best_39 rfl ?_
    refine vIconst (pc := 40) (v := 1) hc dX9_best_40 ki_1 ?_
    refine vAload_n (pc := 41) hc dX9_best_41 rfl ?_
    refine vGetI (pc := 42) (k := 66) (j := 3) hc rfl inG9 (hc.G 66 (Nat.le_of_ble_eq_true rfl)) rfl (Nat.le_of_ble_eq_true rfl) tw_726 rfl dX9_best_42 ?_
    refine vIshl (pc := 45) hc dX9_best_45 ?_
    refine vIcmp_ge (pc := 46) (tgt := 68) hc dX9_best_46 (by decide) (fun c46 => ?_) (fun c46 => ?_)
    · have hw := hw.1 c46
      exact vVret (pc := 68) hc dX9_best_68 hw
    · have hw := hw.2 c46
      refine vIload_n (pc := 49) hc dX9_best_49 rfl ?_
      refine vIload_n (pc := 50) hc dX9_best_50 rfl ?_
      refine vIconst (pc := 51) (v := (-1)) hc dX9_best_51 ki_m1 ?_
      refine vIxor (pc := 52) hc dX9_best_52 ?_
      refine vIand (pc := 53) hc dX9_best_53 ?_
      refine vIf_ne (pc := 54) (tgt := 62) hc dX9_best_54 (by decide) (fun c54 => ?_) (fun c54 => ?_)
      · have hw := hw.1 c54
        refine vIinc (pc := 62) (v := x2 + 1) (L2 := [some (.ref (E.2.1 66)), some (.int x1), some (.int (x2 + 1))]) hc dX9_best_62 rfl rfl rfl (Nat.le_of_ble_eq_true rfl) ?_
        refine vGoto (pc := 65) (tgt := 39) hc dX9_best_65 (by decide) ?_
        exact vMono (L2 := [some (.ref (E.2.1 66)), some (.int x1), some (.int (x2 + 1))]) (show subL [some (.ref (E.2.1 66)), some (.int x1), some (.int (x2 + 1))] [some (.ref (E.2.1 66)), some (.int x1), some (.int (x2 + 1))] from ⟨rfl, ⟨rfl, ⟨rfl, trivial⟩⟩⟩) (ih x1 (x2 + 1) _ hw)
      · have hw := hw.2 c54
        refine vAload_n (pc := 57) hc dX9_best_57 rfl ?_
        refine vIload_n (pc := 58) hc dX9_best_58 rfl ?_
        refine vCallVv (pc := 59) (st := []) hc ok_X9_bestOf tw_978 (c_X9_bestOf hc.2.2.2.2.2.2.1 hc.G hw) (hc.G 66 (Nat.le_of_ble_eq_true rfl)) rfl rfl rfl ⟨rfl, rfl⟩ ⟨Nat.le_of_ble_eq_true rfl, Nat.le_of_ble_eq_true rfl⟩ rfl (Nat.le_of_ble_eq_true rfl) dX9_best_59 (fun σ59 hw => ?_)
        refine vIinc (pc := 62) (v := x2 + 1) (L2 := [some (.ref (E.2.1 66)), some (.int x1), some (.int (x2 + 1))]) hc dX9_best_62 rfl rfl rfl (Nat.le_of_ble_eq_true rfl) ?_
        refine vGoto (pc := 65) (tgt := 39) hc dX9_best_65 (by decide) ?_
        exact vMono (L2 := [some (.ref (E.2.1 66)), some (.int x1), some (.int (x2 + 1))]) (show subL [some (.ref (E.2.1 66)), some (.int x1), some (.int (x2 + 1))] [some (.ref (E.2.1 66)), some (.int x1), some (.int (x2 + 1))] from ⟨rfl, ⟨rfl, ⟨rfl, trivial⟩⟩⟩) (ih x1 (x2 + 1) _ hw)
set_option maxRecDepth 100000 in
set_option maxHeartbeats 4000000 in
theorem t_X9_best_E {p : Program} {l : Launch} {e : Env} {s : State} {m : MethodId} {args : Array Value} {below : List Frame} {meth : Method} {c : Code} {E : WD} {Q : MS → Prop} (hc : Cx p rm_X9_best s m args meth c E (AD E) cX9_best RX9 none 3 0 0 fdm) (σ : MS) (hw : w_X9_best_E Q  σ) : V p l e rm_X9_best s m args below meth c E (AD E) 3 0 0 (MQ below (va_Qv Q (BW E) (AD E)) args s 0 0 (AD E)) σ 0 [some (.ref (E.2.1 66)), none, none] [] := by
  unfold w_X9_best_E at hw
  refine vAload_n (pc := 0) hc dX9_best_0 rfl ?_
  refine vCallVv (pc := 1) (st := []) hc ok_X9_know tw_950 (c_X9_know hc.2.2.2.2.2.2.1 hc.G hw) (hc.G 66 (Nat.le_of_ble_eq_true rfl)) rfl rfl rfl ⟨rfl, rfl⟩ ⟨Nat.le_of_ble_eq_true rfl, Nat.le_of_ble_eq_true rfl⟩ rfl (Nat.le_of_ble_eq_true rfl) dX9_best_1 (fun σ1 hw => ?_)
  refine vAload_n (pc := 4) hc dX9_best_4 rfl ?_
  refine vGetR (pc := 5) (k := 66) (j := 31) hc rfl inG9 (hc.G 66 (Nat.le_of_ble_eq_true rfl)) rfl (Nat.le_of_ble_eq_true rfl) tw_754 rfl dX9_best_5 ?_
  refine vIconst (pc := 8) (v := 0) hc dX9_best_8 ki_0 ?_
  refine vIconst (pc := 9) (v := 0) hc dX9_best_9 ki_0 ?_
  refine vIast (pc := 10) (k := 92) hc (hc.G 92 (Nat.le_of_ble_eq_true rfl)) rfl rfl (vp_lit (by decide)) dX9_best_10 (fun σ10 eσ10 => ?_)
  have hw := hw σ10 eσ10
  refine vAload_n (pc := 11) hc dX9_best_11 rfl ?_
  refine vGetR (pc := 12) (k := 66) (j := 32) hc rfl inG9 (hc.G 66 (Nat.le_of_ble_eq_true rfl)) rfl (Nat.le_of_ble_eq_true rfl) tw_755 rfl dX9_best_12 ?_
  refine vIconst (pc := 15) (v := 0) hc dX9_best_15 ki_0 ?_
  refine vIconst (pc := 16) (v := 0) hc dX9_best_16 ki_0 ?_
  refine vIast (pc := 17) (k := 93) hc (hc.G 93 (Nat.le_of_ble_eq_true rfl)) rfl rfl (vp_lit (by decide)) dX9_best_17 (fun σ17 eσ17 => ?_)
  have hw := hw σ17 eσ17
  refine vAload_n (pc := 18) hc dX9_best_18 rfl ?_
  refine vGetR (pc := 19) (k := 66) (j := 33) hc rfl inG9 (hc.G 66 (Nat.le_of_ble_eq_true rfl)) rfl (Nat.le_of_ble_eq_true rfl) tw_756 rfl dX9_best_19 ?_
  refine vIconst (pc := 22) (v := 0) hc dX9_best_22 ki_0 ?_
  refine vIconst (pc := 23) (v := 0) hc dX9_best_23 ki_0 ?_
  refine vIast (pc := 24) (k := 94) hc (hc.G 94 (Nat.le_of_ble_eq_true rfl)) rfl rfl (vp_lit (by decide)) dX9_best_24 (fun σ24 eσ24 => ?_)
  have hw := hw σ24 eσ24
  refine vAload_n (pc := 25) hc dX9_best_25 rfl ?_
  refine vGetR (pc := 26) (k := 66) (j := 35) hc rfl inG9 (hc.G 66 (Nat.le_of_ble_eq_true rfl)) rfl (Nat.le_of_ble_eq_true rfl) tw_758 rfl dX9_best_26 ?_
  refine vIconst (pc := 29) (v := 0) hc dX9_best_29 ki_0 ?_
  refine vIconst (pc := 30) (v := 0) hc dX9_best_30 ki_0 ?_
  refine vIast (pc := 31) (k := 96) hc (hc.G 96 (Nat.le_of_ble_eq_true rfl)) rfl rfl (vp_lit (by decide)) dX9_best_31 (fun σ31 eσ31 => ?_)
  have hw := hw σ31 eσ31
  refine vAload_n (pc := 32) hc dX9_best_32 rfl ?_
  refine vCallVi (pc := 33) (st := []) hc ok_X9_present tw_974 (c_X9_present hc.2.2.2.2.2.2.1 hc.G hw) (hc.G 66 (Nat.le_of_ble_eq_true rfl)) rfl rfl rfl ⟨rfl, rfl⟩ ⟨Nat.le_of_ble_eq_true rfl, Nat.le_of_ble_eq_true rfl⟩ rfl (Nat.le_of_ble_eq_true rfl) dX9_best_33 (fun r33 σ33 hw => ?_)
  refine vIstore_n (pc := 36) (L2 := [some (.ref (E.2.1 66)), some (.int r33), none]) hc dX9_best_36 rfl (Nat.le_of_ble_eq_true rfl) ?_
  refine vIconst (pc := 37) (v := 1) hc dX9_best_37 ki_1 ?_
  refine vIstore_n (pc := 38) (L2 := [some (.ref (E.2.1 66)), some (.int r33), some (.int 1)]) hc dX9_best_38 rfl (Nat.le_of_ble_eq_true rfl) ?_
  obtain ⟨n39, hw⟩ := hw
  exact vMono (L2 := [some (.ref (E.2.1 66)), some (.int r33), some (.int 1)]) (show subL [some (.ref (E.2.1 66)), some (.int r33), some (.int 1)] [some (.ref (E.2.1 66)), some (.int r33), some (.int 1)] from ⟨rfl, ⟨rfl, ⟨rfl, trivial⟩⟩⟩) (t_X9_best_H39 hc  n39 r33 1 _ hw)
set_option maxRecDepth 100000 in
set_option maxHeartbeats 4000000 in
theorem c_X9_best {l : Launch} {E : WD} (hE : inj E) (hG : ∀ k, fdm k → k ∈ E.2.2.2) {σ : MS} {Q : MS → Prop} (hw : w_X9_best  σ Q) : Cv l E yX9_best cX9_best 3 none rm_X9_best [.ref (E.2.1 66)] σ Q :=
  Ct_of (by decide) rfl (by
    intro v hv
    simp only [List.mem_cons, List.not_mem_nil, or_false] at hv
    rcases hv with rfl <;> rfl) (Nat.le_of_ble_eq_true rfl) hE hG (fun p e s m below meth c hc => t_X9_best_E hc  σ hw)
def w_X9_leaves_E (Q : MS → Prop) (x1 : Int32) (σ : MS) : Prop := ((vp_in x1 9) ∧ (∀ σ6, σ6 = mst σ 97 x1.toNatClampNeg 0 → (∀ σ14, σ14 = mst σ6 98 x1.toNatClampNeg (-9) → (∀ σ22, σ22 = mst σ14 99 x1.toNatClampNeg (-9) → (∀ σ30, σ30 = mst σ22 100 x1.toNatClampNeg (-9) → Q σ30)))))
abbrev w_X9_leaves (x1 : Int32) (σ : MS) (Q : MS → Prop) : Prop := w_X9_leaves_E Q x1 σ
abbrev rm_X9_leaves : Room := { frames := 0, cells := 0, slots := 0, locals := 0 }
theorem ok_X9_leaves : OkV yX9_leaves RX9 cX9_leaves 2 none 1 := ⟨tw_984, tw_39, tw_57, tw_985, rfl, by decide, by decide, by decide +kernel⟩
set_option maxRecDepth 100000 in
set_option maxHeartbeats 4000000 in
theorem t_X9_leaves_E {p : Program} {l : Launch} {e : Env} {s : State} {m : MethodId} {args : Array Value} {below : List Frame} {meth : Method} {c : Code} {E : WD} {Q : MS → Prop} (hc : Cx p rm_X9_leaves s m args meth c E (AD E) cX9_leaves RX9 none 2 0 0 fdm) (x1 : Int32) (σ : MS) (hw : w_X9_leaves_E Q x1 σ) : V p l e rm_X9_leaves s m args below meth c E (AD E) 2 0 0 (MQ below (va_Qv Q (BW E) (AD E)) args s 0 0 (AD E)) σ 0 [some (.ref (E.2.1 66)), some (.int x1)] [] := by
  unfold w_X9_leaves_E at hw
  refine vAload_n (pc := 0) hc dX9_leaves_0 rfl ?_
  refine vGetR (pc := 1) (k := 66) (j := 38) hc rfl inG9 (hc.G 66 (Nat.le_of_ble_eq_true rfl)) rfl (Nat.le_of_ble_eq_true rfl) tw_761 rfl dX9_leaves_1 ?_
  refine vIload_n (pc := 4) hc dX9_leaves_4 rfl ?_
  refine vIconst (pc := 5) (v := 0) hc dX9_leaves_5 ki_0 ?_
  obtain ⟨hi1, hw⟩ := hw
  refine vIast (pc := 6) (k := 97) hc (hc.G 97 (Nat.le_of_ble_eq_true rfl)) rfl rfl hi1 dX9_leaves_6 (fun σ6 eσ6 => ?_)
  have hw := hw σ6 eσ6
  refine vAload_n (pc := 7) hc dX9_leaves_7 rfl ?_
  refine vGetR (pc := 8) (k := 66) (j := 39) hc rfl inG9 (hc.G 66 (Nat.le_of_ble_eq_true rfl)) rfl (Nat.le_of_ble_eq_true rfl) tw_762 rfl dX9_leaves_8 ?_
  refine vIload_n (pc := 11) hc dX9_leaves_11 rfl ?_
  refine vBipush (pc := 12) (v := (-9)) hc dX9_leaves_12 kb_m9 ?_
  refine vIast (pc := 14) (k := 98) hc (hc.G 98 (Nat.le_of_ble_eq_true rfl)) rfl rfl hi1 dX9_leaves_14 (fun σ14 eσ14 => ?_)
  have hw := hw σ14 eσ14
  refine vAload_n (pc := 15) hc dX9_leaves_15 rfl ?_
  refine vGetR (pc := 16) (k := 66) (j := 40) hc rfl inG9 (hc.G 66 (Nat.le_of_ble_eq_true rfl)) rfl (Nat.le_of_ble_eq_true rfl) tw_763 rfl dX9_leaves_16 ?_
  refine vIload_n (pc := 19) hc dX9_leaves_19 rfl ?_
  refine vBipush (pc := 20) (v := (-9)) hc dX9_leaves_20 kb_m9 ?_
  refine vIast (pc := 22) (k := 99) hc (hc.G 99 (Nat.le_of_ble_eq_true rfl)) rfl rfl hi1 dX9_leaves_22 (fun σ22 eσ22 => ?_)
  have hw := hw σ22 eσ22
  refine vAload_n (pc := 23) hc dX9_leaves_23 rfl ?_
  refine vGetR (pc := 24) (k := 66) (j := 41) hc rfl inG9 (hc.G 66 (Nat.le_of_ble_eq_true rfl)) rfl (Nat.le_of_ble_eq_true rfl) tw_764 rfl dX9_leaves_24 ?_
  refine vIload_n (pc := 27) hc dX9_leaves_27 rfl ?_
  refine vBipush (pc := 28) (v := (-9)) hc dX9_leaves_28 kb_m9 ?_
  refine vIast (pc := 30) (k := 100) hc (hc.G 100 (Nat.le_of_ble_eq_true rfl)) rfl rfl hi1 dX9_leaves_30 (fun σ30 eσ30 => ?_)
  have hw := hw σ30 eσ30
  exact vVret (pc := 31) hc dX9_leaves_31 hw
set_option maxRecDepth 100000 in
set_option maxHeartbeats 4000000 in
theorem c_X9_leaves {l : Launch} {E : WD} (hE : inj E) (hG : ∀ k, fdm k → k ∈ E.2.2.2) {x1 : Int32} {σ : MS} {Q : MS → Prop} (hw : w_X9_leaves x1 σ Q) : Cv l E yX9_leaves cX9_leaves 2 none rm_X9_leaves [.ref (E.2.1 66), .int x1] σ Q :=
  Ct_of (by decide) rfl (by
    intro v hv
    simp only [List.mem_cons, List.not_mem_nil, or_false] at hv
    rcases hv with rfl | rfl <;> rfl) (Nat.le_of_ble_eq_true rfl) hE hG (fun p e s m below meth c hc => t_X9_leaves_E hc x1 σ hw)
def w_X9_lays_H10 (Q : MS → Prop) : Nat → Int32 → Int32 → Int32 → MS → Prop
  | 0, _, _, _, _ => False
  | n + 1, x1, x2, x4, σ => (((σ 66 3) ≤ x4 → Q σ) ∧ (¬ (σ 66 3) ≤ x4 → ((¬ ((x1 >>> (x4 &&& 31)) &&& 1) = 0 → ((vp_in x4 9) ∧ (∀ σ38, σ38 = mst σ 97 x4.toNatClampNeg x1 → (∀ σ46, σ46 = mst σ38 98 x4.toNatClampNeg x2 → (∀ σ65, σ65 = mst σ46 99 x4.toNatClampNeg ((σ46 66 26) + (σ46 87 x4.toNatClampNeg)) → (∀ σ84, σ84 = mst σ65 100 x4.toNatClampNeg ((σ65 66 26) + (σ65 88 x4.toNatClampNeg)) → (∀ σ95, σ95 = mst σ84 101 x4.toNatClampNeg (σ84 66 25) → w_X9_lays_H10 Q n x1 x2 (x4 + 1) σ95))))))) ∧ (((x1 >>> (x4 &&& 31)) &&& 1) = 0 → w_X9_lays_H10 Q n x1 x2 (x4 + 1) σ))))
def w_X9_lays_E (Q : MS → Prop) (x1 x2 : Int32) (σ : MS) : Prop := w_X9_whyNot x1 x2 σ (fun r3 σ3 => (∃ n10, w_X9_lays_H10 Q n10 x1 x2 0 σ3))
abbrev w_X9_lays (x1 x2 : Int32) (σ : MS) (Q : MS → Prop) : Prop := w_X9_lays_E Q x1 x2 σ
abbrev rm_X9_lays : Room := { frames := 17, cells := 0, slots := 0, locals := 460 }
theorem ok_X9_lays : OkV yX9_lays RX9 cX9_lays 5 none 2 := ⟨tw_988, tw_40, tw_57, tw_989, rfl, by decide, by decide, by decide +kernel⟩
set_option maxRecDepth 100000 in
set_option maxHeartbeats 4000000 in
theorem t_X9_lays_H10 {p : Program} {l : Launch} {e : Env} {s : State} {m : MethodId} {args : Array Value} {below : List Frame} {meth : Method} {c : Code} {E : WD} {Q : MS → Prop} (hc : Cx p rm_X9_lays s m args meth c E (AD E) cX9_lays RX9 none 5 0 0 fdm) : ∀ (n : Nat) (x1 x2 x4 : Int32) (σ : MS), w_X9_lays_H10 Q n x1 x2 x4 σ → V p l e rm_X9_lays s m args below meth c E (AD E) 5 0 0 (MQ below (va_Qv Q (BW E) (AD E)) args s 0 0 (AD E)) σ 10 [some (.ref (E.2.1 66)), some (.int x1), some (.int x2), none, some (.int x4)] [] := by
  intro n
  induction n with
  | zero =>
    intro x1 x2 x4 σ hw
    exact hw.elim
  | succ n ih =>
    intro x1 x2 x4 σ hw
    unfold w_X9_lays_H10 at hw
    refine vIload (pc := 10) hc dX9_lays_10 rfl ?_
    refine vAload_n (pc := 12) hc dX9_lays_12 rfl ?_
    refine vGetI (pc := 13) (k := 66) (j := 3) hc rfl inG9 (hc.G 66 (Nat.le_of_ble_eq_true rfl)) rfl (Nat.le_of_ble_eq_true rfl) tw_726 rfl dX9_lays_13 ?_
    refine vIcmp_ge (pc := 16) (tgt := 102) hc dX9_lays_16 (by decide) (fun c16 => ?_) (fun c16 => ?_)
    · have hw := hw.1 c16
      exact vVret (pc := 102) hc dX9_lays_102 hw
    · have hw := hw.2 c16
      refine vIload_n (pc := 19) hc dX9_lays_19 rfl ?_
      refine vIload (pc := 20) hc dX9_lays_20 rfl ?_
      refine vIshr (pc := 22) hc dX9_lays_22 ?_
      refine vIconst (pc := 23) (v := 1) hc dX9_lays_23 ki_1 ?_
      refine vIand (pc := 24) hc dX9_lays_24 ?_
      refine vIf_ne (pc := 25) (tgt := 31) hc dX9_lays_25 (by decide) (fun c25 => ?_) (fun c25 => ?_)
      · have hw := hw.1 c25
        refine vAload_n (pc := 31) hc dX9_lays_31 rfl ?_
        refine vGetR (pc := 32) (k := 66) (j := 38) hc rfl inG9 (hc.G 66 (Nat.le_of_ble_eq_true rfl)) rfl (Nat.le_of_ble_eq_true rfl) tw_761 rfl dX9_lays_32 ?_
        refine vIload (pc := 35) hc dX9_lays_35 rfl ?_
        refine vIload_n (pc := 37) hc dX9_lays_37 rfl ?_
        obtain ⟨hi1, hw⟩ := hw
        refine vIast (pc := 38) (k := 97) hc (hc.G 97 (Nat.le_of_ble_eq_true rfl)) rfl rfl hi1 dX9_lays_38 (fun σ38 eσ38 => ?_)
        have hw := hw σ38 eσ38
        refine vAload_n (pc := 39) hc dX9_lays_39 rfl ?_
        refine vGetR (pc := 40) (k := 66) (j := 39) hc rfl inG9 (hc.G 66 (Nat.le_of_ble_eq_true rfl)) rfl (Nat.le_of_ble_eq_true rfl) tw_762 rfl dX9_lays_40 ?_
        refine vIload (pc := 43) hc dX9_lays_43 rfl ?_
        refine vIload_n (pc := 45) hc dX9_lays_45 rfl ?_
        refine vIast (pc := 46) (k := 98) hc (hc.G 98 (Nat.le_of_ble_eq_true rfl)) rfl rfl hi1 dX9_lays_46 (fun σ46 eσ46 => ?_)
        have hw := hw σ46 eσ46
        refine vAload_n (pc := 47) hc dX9_lays_47 rfl ?_
        refine vGetR (pc := 48) (k := 66) (j := 40) hc rfl inG9 (hc.G 66 (Nat.le_of_ble_eq_true rfl)) rfl (Nat.le_of_ble_eq_true rfl) tw_763 rfl dX9_lays_48 ?_
        refine vIload (pc := 51) hc dX9_lays_51 rfl ?_
        refine vAload_n (pc := 53) hc dX9_lays_53 rfl ?_
        refine vGetI (pc := 54) (k := 66) (j := 26) hc rfl inG9 (hc.G 66 (Nat.le_of_ble_eq_true rfl)) rfl (Nat.le_of_ble_eq_true rfl) tw_749 rfl dX9_lays_54 ?_
        refine vAload_n (pc := 57) hc dX9_lays_57 rfl ?_
        refine vGetR (pc := 58) (k := 66) (j := 22) hc rfl inG9 (hc.G 66 (Nat.le_of_ble_eq_true rfl)) rfl (Nat.le_of_ble_eq_true rfl) tw_745 rfl dX9_lays_58 ?_
        refine vIload (pc := 61) hc dX9_lays_61 rfl ?_
        refine vIald (pc := 63) (k := 87) hc (hc.G 87 (Nat.le_of_ble_eq_true rfl)) rfl rfl hi1 dX9_lays_63 ?_
        refine vIadd (pc := 64) hc dX9_lays_64 ?_
        refine vIast (pc := 65) (k := 99) hc (hc.G 99 (Nat.le_of_ble_eq_true rfl)) rfl rfl hi1 dX9_lays_65 (fun σ65 eσ65 => ?_)
        have hw := hw σ65 eσ65
        refine vAload_n (pc := 66) hc dX9_lays_66 rfl ?_
        refine vGetR (pc := 67) (k := 66) (j := 41) hc rfl inG9 (hc.G 66 (Nat.le_of_ble_eq_true rfl)) rfl (Nat.le_of_ble_eq_true rfl) tw_764 rfl dX9_lays_67 ?_
        refine vIload (pc := 70) hc dX9_lays_70 rfl ?_
        refine vAload_n (pc := 72) hc dX9_lays_72 rfl ?_
        refine vGetI (pc := 73) (k := 66) (j := 26) hc rfl inG9 (hc.G 66 (Nat.le_of_ble_eq_true rfl)) rfl (Nat.le_of_ble_eq_true rfl) tw_749 rfl dX9_lays_73 ?_
        refine vAload_n (pc := 76) hc dX9_lays_76 rfl ?_
        refine vGetR (pc := 77) (k := 66) (j := 23) hc rfl inG9 (hc.G 66 (Nat.le_of_ble_eq_true rfl)) rfl (Nat.le_of_ble_eq_true rfl) tw_746 rfl dX9_lays_77 ?_
        refine vIload (pc := 80) hc dX9_lays_80 rfl ?_
        refine vIald (pc := 82) (k := 88) hc (hc.G 88 (Nat.le_of_ble_eq_true rfl)) rfl rfl hi1 dX9_lays_82 ?_
        refine vIadd (pc := 83) hc dX9_lays_83 ?_
        refine vIast (pc := 84) (k := 100) hc (hc.G 100 (Nat.le_of_ble_eq_true rfl)) rfl rfl hi1 dX9_lays_84 (fun σ84 eσ84 => ?_)
        have hw := hw σ84 eσ84
        refine vAload_n (pc := 85) hc dX9_lays_85 rfl ?_
        refine vGetR (pc := 86) (k := 66) (j := 42) hc rfl inG9 (hc.G 66 (Nat.le_of_ble_eq_true rfl)) rfl (Nat.le_of_ble_eq_true rfl) tw_765 rfl dX9_lays_86 ?_
        refine vIload (pc := 89) hc dX9_lays_89 rfl ?_
        refine vAload_n (pc := 91) hc dX9_lays_91 rfl ?_
        refine vGetI (pc := 92) (k := 66) (j := 25) hc rfl inG9 (hc.G 66 (Nat.le_of_ble_eq_true rfl)) rfl (Nat.le_of_ble_eq_true rfl) tw_748 rfl dX9_lays_92 ?_
        refine vIast (pc := 95) (k := 101) hc (hc.G 101 (Nat.le_of_ble_eq_true rfl)) rfl rfl hi1 dX9_lays_95 (fun σ95 eσ95 => ?_)
        have hw := hw σ95 eσ95
        refine vIinc (pc := 96) (v := x4 + 1) (L2 := [some (.ref (E.2.1 66)), some (.int x1), some (.int x2), none, some (.int (x4 + 1))]) hc dX9_lays_96 rfl rfl rfl (Nat.le_of_ble_eq_true rfl) ?_
        refine vGoto (pc := 99) (tgt := 10) hc dX9_lays_99 (by decide) ?_
        exact vMono (L2 := [some (.ref (E.2.1 66)), some (.int x1), some (.int x2), none, some (.int (x4 + 1))]) (show subL [some (.ref (E.2.1 66)), some (.int x1), some (.int x2), none, some (.int (x4 + 1))] [some (.ref (E.2.1 66)), some (.int x1), some (.int x2), none, some (.int (x4 + 1))] from ⟨rfl, ⟨rfl, ⟨rfl, ⟨rfl, trivial⟩⟩⟩⟩) (ih x1 x2 (x4 + 1) _ hw)
      · have hw := hw.2 c25
        refine vGoto (pc := 28) (tgt := 96) hc dX9_lays_28 (by decide) ?_
        refine vIinc (pc := 96) (v := x4 + 1) (L2 := [some (.ref (E.2.1 66)), some (.int x1), some (.int x2), none, some (.int (x4 + 1))]) hc dX9_lays_96 rfl rfl rfl (Nat.le_of_ble_eq_true rfl) ?_
        refine vGoto (pc := 99) (tgt := 10) hc dX9_lays_99 (by decide) ?_
        exact vMono (L2 := [some (.ref (E.2.1 66)), some (.int x1), some (.int x2), none, some (.int (x4 + 1))]) (show subL [some (.ref (E.2.1 66)), some (.int x1), some (.int x2), none, some (.int (x4 + 1))] [some (.ref (E.2.1 66)), some (.int x1), some (.int x2), none, some (.int (x4 + 1))] from ⟨rfl, ⟨rfl, ⟨rfl, ⟨rfl, trivial⟩⟩⟩⟩) (ih x1 x2 (x4 + 1) _ hw)
set_option maxRecDepth 100000 in
set_option maxHeartbeats 4000000 in
theorem t_X9_lays_E {p : Program} {l : Launch} {e : Env} {s : State} {m : MethodId} {args : Array Value} {below : List Frame} {meth : Method} {c : Code} {E : WD} {Q : MS → Prop} (hc : Cx p rm_X9_lays s m args meth c E (AD E) cX9_lays RX9 none 5 0 0 fdm) (x1 x2 : Int32) (σ : MS) (hw : w_X9_lays_E Q x1 x2 σ) : V p l e rm_X9_lays s m args below meth c E (AD E) 5 0 0 (MQ below (va_Qv Q (BW E) (AD E)) args s 0 0 (AD E)) σ 0 [some (.ref (E.2.1 66)), some (.int x1), some (.int x2), none, none] [] := by
  unfold w_X9_lays_E at hw
  refine vAload_n (pc := 0) hc dX9_lays_0 rfl ?_
  refine vIload_n (pc := 1) hc dX9_lays_1 rfl ?_
  refine vIload_n (pc := 2) hc dX9_lays_2 rfl ?_
  refine vCallVi (pc := 3) (st := []) hc ok_X9_whyNot tw_916 (c_X9_whyNot hc.2.2.2.2.2.2.1 hc.G hw) (hc.G 66 (Nat.le_of_ble_eq_true rfl)) rfl rfl rfl ⟨rfl, rfl⟩ ⟨Nat.le_of_ble_eq_true rfl, Nat.le_of_ble_eq_true rfl⟩ rfl (Nat.le_of_ble_eq_true rfl) dX9_lays_3 (fun r3 σ3 hw => ?_)
  refine vIstore_n (pc := 6) (L2 := [some (.ref (E.2.1 66)), some (.int x1), some (.int x2), some (.int r3), none]) hc dX9_lays_6 rfl (Nat.le_of_ble_eq_true rfl) ?_
  refine vIconst (pc := 7) (v := 0) hc dX9_lays_7 ki_0 ?_
  refine vIstore (pc := 8) (L2 := [some (.ref (E.2.1 66)), some (.int x1), some (.int x2), some (.int r3), some (.int 0)]) hc dX9_lays_8 rfl (Nat.le_of_ble_eq_true rfl) ?_
  obtain ⟨n10, hw⟩ := hw
  exact vMono (L2 := [some (.ref (E.2.1 66)), some (.int x1), some (.int x2), none, some (.int 0)]) (show subL [some (.ref (E.2.1 66)), some (.int x1), some (.int x2), none, some (.int 0)] [some (.ref (E.2.1 66)), some (.int x1), some (.int x2), some (.int r3), some (.int 0)] from ⟨rfl, ⟨rfl, ⟨rfl, ⟨rfl, trivial⟩⟩⟩⟩) (t_X9_lays_H10 hc  n10 x1 x2 0 _ hw)
set_option maxRecDepth 100000 in
set_option maxHeartbeats 4000000 in
theorem c_X9_lays {l : Launch} {E : WD} (hE : inj E) (hG : ∀ k, fdm k → k ∈ E.2.2.2) {x1 x2 : Int32} {σ : MS} {Q : MS → Prop} (hw : w_X9_lays x1 x2 σ Q) : Cv l E yX9_lays cX9_lays 5 none rm_X9_lays [.ref (E.2.1 66), .int x1, .int x2] σ Q :=
  Ct_of (by decide) rfl (by
    intro v hv
    simp only [List.mem_cons, List.not_mem_nil, or_false] at hv
    rcases hv with rfl | rfl | rfl <;> rfl) (Nat.le_of_ble_eq_true rfl) hE hG (fun p e s m below meth c hc => t_X9_lays_E hc x1 x2 σ hw)
def w_X9_plan_J89 (Q : Int32 → MS → Prop) (x2 : Int32) (σ : MS) : Prop := (∀ σ91, σ91 = mst σ 66 36 1 → Q x2 σ91)
def w_X9_plan_H45 (Q : Int32 → MS → Prop) : Nat → Int32 → Int32 → MS → Prop
  | 0, _, _, _ => False
  | n + 1, x1, x2, σ => ((x1 = 0 → w_X9_plan_J89 Q x2 σ) ∧ (¬ x1 = 0 → ((vp_in x1 512) ∧ (∀ x3_55 : Int32, x3_55 = (σ 95 x1.toNatClampNeg) → ((¬ x3_55 = 0 → ((vp_in x3_55 512) ∧ w_X9_lays x3_55 (σ 90 x3_55.toNatClampNeg) σ (fun σ77 => (∀ x1_85 : Int32, x1_85 = (x1 &&& (x3_55 ^^^ (-1))) → w_X9_plan_H45 Q n x1_85 x2 σ77)))) ∧ (x3_55 = 0 → (∀ x1_65 : Int32, x1_65 = (x1 &&& (x1 - 1)) → w_X9_plan_H45 Q n x1_65 x2 σ)))))))
def w_X9_plan_J23 (Q : Int32 → MS → Prop) (σ : MS) : Prop := w_X9_present  σ (fun r24 σ24 => ((vp_in r24 512) ∧ (∀ σ35, σ35 = mst σ24 66 37 (σ24 92 r24.toNatClampNeg) → (∀ x2_44 : Int32, x2_44 = (σ35 94 r24.toNatClampNeg) → (∃ n45, w_X9_plan_H45 Q n45 r24 x2_44 σ35)))))
def w_X9_plan_H6 (Q : Int32 → MS → Prop) : Nat → Int32 → MS → Prop
  | 0, _, _ => False
  | n + 1, x1, σ => ((9 ≤ x1 → w_X9_plan_J23 Q σ) ∧ (¬ 9 ≤ x1 → w_X9_leaves x1 σ (fun σ14 => w_X9_plan_H6 Q n (x1 + 1) σ14)))
def w_X9_plan_E (Q : Int32 → MS → Prop) (σ : MS) : Prop := w_X9_best  σ (fun σ1 => (∃ n6, w_X9_plan_H6 Q n6 0 σ1))
abbrev w_X9_plan (σ : MS) (Q : Int32 → MS → Prop) : Prop := w_X9_plan_E Q  σ
abbrev rm_X9_plan : Room := { frames := 19, cells := 0, slots := 0, locals := 504 }
theorem ok_X9_plan : OkV yX9_plan RX9 cX9_plan 4 (some .int) 0 := ⟨tw_967, tw_968, tw_57, tw_969, rfl, by decide, by decide, by decide +kernel⟩
set_option maxRecDepth 100000 in
set_option maxHeartbeats 4000000 in
theorem t_X9_plan_J89 {p : Program} {l : Launch} {e : Env} {s : State} {m : MethodId} {args : Array Value} {below : List Frame} {meth : Method} {c : Code} {E : WD} {Q : Int32 → MS → Prop} (hc : Cx p rm_X9_plan s m args meth c E (AD E) cX9_plan RX9 (some .int) 4 0 0 fdm) (x2 : Int32) (σ : MS) (hw : w_X9_plan_J89 Q x2 σ) : V p l e rm_X9_plan s m args below meth c E (AD E) 4 0 0 (MQ below (va_Qi Q (BW E) (AD E)) args s 0 0 (AD E)) σ 89 [some (.ref (E.2.1 66)), none, some (.int x2), none] [] := by
  unfold w_X9_plan_J89 at hw
  refine vAload_n (pc := 89) hc dX9_plan_89 rfl ?_
  refine vIconst (pc := 90) (v := 1) hc dX9_plan_90 ki_1 ?_
  refine vPut (pc := 91) (k := 66) (j := 36) hc rfl inG9 (hc.G 66 (Nat.le_of_ble_eq_true rfl)) rfl (Nat.le_of_ble_eq_true rfl) tyX9 tyX9_ok nmX9 tw_759 rfl rfl (zb_nar (Or.inr rfl)) (zb_fit (Or.inr rfl)) dX9_plan_91 (fun σ91 eσ91 => ?_)
  have hw := hw σ91 eσ91
  refine vIload_n (pc := 94) hc dX9_plan_94 rfl ?_
  exact vIret (pc := 95) hc dX9_plan_95 hw
set_option maxRecDepth 100000 in
set_option maxHeartbeats 4000000 in
theorem t_X9_plan_H45 {p : Program} {l : Launch} {e : Env} {s : State} {m : MethodId} {args : Array Value} {below : List Frame} {meth : Method} {c : Code} {E : WD} {Q : Int32 → MS → Prop} (hc : Cx p rm_X9_plan s m args meth c E (AD E) cX9_plan RX9 (some .int) 4 0 0 fdm) : ∀ (n : Nat) (x1 x2 : Int32) (σ : MS), w_X9_plan_H45 Q n x1 x2 σ → V p l e rm_X9_plan s m args below meth c E (AD E) 4 0 0 (MQ below (va_Qi Q (BW E) (AD E)) args s 0 0 (AD E)) σ 45 [some (.ref (E.2.1 66)), some (.int x1), some (.int x2), none] [] := by
  intro n
  induction n with
  | zero =>
    intro x1 x2 σ hw
    exact hw.elim
  | succ n ih =>
    intro x1 x2 σ hw
    unfold w_X9_plan_H45 at hw
    refine vIload_n (pc := 45) hc dX9_plan_45 rfl ?_
    refine vIf_eq (pc := 46) (tgt := 89) hc dX9_plan_46 (by decide) (fun c46 => ?_) (fun c46 => ?_)
    · have hw := hw.1 c46
      exact vMono (L2 := [some (.ref (E.2.1 66)), none, some (.int x2), none]) (show subL [some (.ref (E.2.1 66)), none, some (.int x2), none] [some (.ref (E.2.1 66)), some (.int x1), some (.int x2), none] from ⟨rfl, ⟨rfl, trivial⟩⟩) (t_X9_plan_J89 hc  x2 _ hw)
    · have hw := hw.2 c46
      refine vAload_n (pc := 49) hc dX9_plan_49 rfl ?_
      refine vGetR (pc := 50) (k := 66) (j := 34) hc rfl inG9 (hc.G 66 (Nat.le_of_ble_eq_true rfl)) rfl (Nat.le_of_ble_eq_true rfl) tw_757 rfl dX9_plan_50 ?_
      refine vIload_n (pc := 53) hc dX9_plan_53 rfl ?_
      obtain ⟨hi1, hw⟩ := hw
      refine vIald (pc := 54) (k := 95) hc (hc.G 95 (Nat.le_of_ble_eq_true rfl)) rfl rfl hi1 dX9_plan_54 ?_
      obtain ⟨x3_55, ex3_55⟩ : ∃ z : Int32, z = σ 95 x1.toNatClampNeg := ⟨_, rfl⟩
      have hw := hw x3_55 ex3_55
      refine vTop ex3_55 ?_
      refine vIstore_n (pc := 55) (L2 := [some (.ref (E.2.1 66)), some (.int x1), some (.int x2), some (.int x3_55)]) hc dX9_plan_55 rfl (Nat.le_of_ble_eq_true rfl) ?_
      refine vIload_n (pc := 56) hc dX9_plan_56 rfl ?_
      refine vIf_ne (pc := 57) (tgt := 69) hc dX9_plan_57 (by decide) (fun c57 => ?_) (fun c57 => ?_)
      · have hw := hw.1 c57
        refine vAload_n (pc := 69) hc dX9_plan_69 rfl ?_
        refine vIload_n (pc := 70) hc dX9_plan_70 rfl ?_
        refine vAload_n (pc := 71) hc dX9_plan_71 rfl ?_
        refine vGetR (pc := 72) (k := 66) (j := 29) hc rfl inG9 (hc.G 66 (Nat.le_of_ble_eq_true rfl)) rfl (Nat.le_of_ble_eq_true rfl) tw_752 rfl dX9_plan_72 ?_
        refine vIload_n (pc := 75) hc dX9_plan_75 rfl ?_
        obtain ⟨hi2, hw⟩ := hw
        refine vIald (pc := 76) (k := 90) hc (hc.G 90 (Nat.le_of_ble_eq_true rfl)) rfl rfl hi2 dX9_plan_76 ?_
        refine vCallVv (pc := 77) (st := []) hc ok_X9_lays tw_986 (c_X9_lays hc.2.2.2.2.2.2.1 hc.G hw) (hc.G 66 (Nat.le_of_ble_eq_true rfl)) rfl rfl rfl ⟨rfl, rfl⟩ ⟨Nat.le_of_ble_eq_true rfl, Nat.le_of_ble_eq_true rfl⟩ rfl (Nat.le_of_ble_eq_true rfl) dX9_plan_77 (fun σ77 hw => ?_)
        refine vIload_n (pc := 80) hc dX9_plan_80 rfl ?_
        refine vIload_n (pc := 81) hc dX9_plan_81 rfl ?_
        refine vIconst (pc := 82) (v := (-1)) hc dX9_plan_82 ki_m1 ?_
        refine vIxor (pc := 83) hc dX9_plan_83 ?_
        refine vIand (pc := 84) hc dX9_plan_84 ?_
        obtain ⟨x1_85, ex1_85⟩ : ∃ z : Int32, z = x1 &&& (x3_55 ^^^ (-1)) := ⟨_, rfl⟩
        have hw := hw x1_85 ex1_85
        refine vTop ex1_85 ?_
        refine vIstore_n (pc := 85) (L2 := [some (.ref (E.2.1 66)), some (.int x1_85), some (.int x2), some (.int x3_55)]) hc dX9_plan_85 rfl (Nat.le_of_ble_eq_true rfl) ?_
        refine vGoto (pc := 86) (tgt := 45) hc dX9_plan_86 (by decide) ?_
        exact vMono (L2 := [some (.ref (E.2.1 66)), some (.int x1_85), some (.int x2), none]) (show subL [some (.ref (E.2.1 66)), some (.int x1_85), some (.int x2), none] [some (.ref (E.2.1 66)), some (.int x1_85), some (.int x2), some (.int x3_55)] from ⟨rfl, ⟨rfl, ⟨rfl, trivial⟩⟩⟩) (ih x1_85 x2 _ hw)
      · have hw := hw.2 c57
        refine vIload_n (pc := 60) hc dX9_plan_60 rfl ?_
        refine vIload_n (pc := 61) hc dX9_plan_61 rfl ?_
        refine vIconst (pc := 62) (v := 1) hc dX9_plan_62 ki_1 ?_
        refine vIsub (pc := 63) hc dX9_plan_63 ?_
        refine vIand (pc := 64) hc dX9_plan_64 ?_
        obtain ⟨x1_65, ex1_65⟩ : ∃ z : Int32, z = x1 &&& (x1 - 1) := ⟨_, rfl⟩
        have hw := hw x1_65 ex1_65
        refine vTop ex1_65 ?_
        refine vIstore_n (pc := 65) (L2 := [some (.ref (E.2.1 66)), some (.int x1_65), some (.int x2), some (.int x3_55)]) hc dX9_plan_65 rfl (Nat.le_of_ble_eq_true rfl) ?_
        refine vGoto (pc := 66) (tgt := 86) hc dX9_plan_66 (by decide) ?_
        refine vGoto (pc := 86) (tgt := 45) hc dX9_plan_86 (by decide) ?_
        exact vMono (L2 := [some (.ref (E.2.1 66)), some (.int x1_65), some (.int x2), none]) (show subL [some (.ref (E.2.1 66)), some (.int x1_65), some (.int x2), none] [some (.ref (E.2.1 66)), some (.int x1_65), some (.int x2), some (.int x3_55)] from ⟨rfl, ⟨rfl, ⟨rfl, trivial⟩⟩⟩) (ih x1_65 x2 _ hw)
set_option maxRecDepth 100000 in
set_option maxHeartbeats 4000000 in
theorem t_X9_plan_J23 {p : Program} {l : Launch} {e : Env} {s : State} {m : MethodId} {args : Array Value} {below : List Frame} {meth : Method} {c : Code} {E : WD} {Q : Int32 → MS → Prop} (hc : Cx p rm_X9_plan s m args meth c E (AD E) cX9_plan RX9 (some .int) 4 0 0 fdm) (σ : MS) (hw : w_X9_plan_J23 Q  σ) : V p l e rm_X9_plan s m args below meth c E (AD E) 4 0 0 (MQ below (va_Qi Q (BW E) (AD E)) args s 0 0 (AD E)) σ 23 [some (.ref (E.2.1 66)), none, none, none] [] := by
  unfold w_X9_plan_J23 at hw
  refine vAload_n (pc := 23) hc dX9_plan_23 rfl ?_
  refine vCallVi (pc := 24) (st := []) hc ok_X9_present tw_974 (c_X9_present hc.2.2.2.2.2.2.1 hc.G hw) (hc.G 66 (Nat.le_of_ble_eq_true rfl)) rfl rfl rfl ⟨rfl, rfl⟩ ⟨Nat.le_of_ble_eq_true rfl, Nat.le_of_ble_eq_true rfl⟩ rfl (Nat.le_of_ble_eq_true rfl) dX9_plan_24 (fun r24 σ24 hw => ?_)
  refine vIstore_n (pc := 27) (L2 := [some (.ref (E.2.1 66)), some (.int r24), none, none]) hc dX9_plan_27 rfl (Nat.le_of_ble_eq_true rfl) ?_
  refine vAload_n (pc := 28) hc dX9_plan_28 rfl ?_
  refine vAload_n (pc := 29) hc dX9_plan_29 rfl ?_
  refine vGetR (pc := 30) (k := 66) (j := 31) hc rfl inG9 (hc.G 66 (Nat.le_of_ble_eq_true rfl)) rfl (Nat.le_of_ble_eq_true rfl) tw_754 rfl dX9_plan_30 ?_
  refine vIload_n (pc := 33) hc dX9_plan_33 rfl ?_
  obtain ⟨hi1, hw⟩ := hw
  refine vIald (pc := 34) (k := 92) hc (hc.G 92 (Nat.le_of_ble_eq_true rfl)) rfl rfl hi1 dX9_plan_34 ?_
  refine vPut (pc := 35) (k := 66) (j := 37) hc rfl inG9 (hc.G 66 (Nat.le_of_ble_eq_true rfl)) rfl (Nat.le_of_ble_eq_true rfl) tyX9 tyX9_ok nmX9 tw_760 rfl rfl rfl rfl dX9_plan_35 (fun σ35 eσ35 => ?_)
  have hw := hw σ35 eσ35
  refine vAload_n (pc := 38) hc dX9_plan_38 rfl ?_
  refine vGetR (pc := 39) (k := 66) (j := 33) hc rfl inG9 (hc.G 66 (Nat.le_of_ble_eq_true rfl)) rfl (Nat.le_of_ble_eq_true rfl) tw_756 rfl dX9_plan_39 ?_
  refine vIload_n (pc := 42) hc dX9_plan_42 rfl ?_
  refine vIald (pc := 43) (k := 94) hc (hc.G 94 (Nat.le_of_ble_eq_true rfl)) rfl rfl hi1 dX9_plan_43 ?_
  obtain ⟨x2_44, ex2_44⟩ : ∃ z : Int32, z = σ35 94 r24.toNatClampNeg := ⟨_, rfl⟩
  have hw := hw x2_44 ex2_44
  refine vTop ex2_44 ?_
  refine vIstore_n (pc := 44) (L2 := [some (.ref (E.2.1 66)), some (.int r24), some (.int x2_44), none]) hc dX9_plan_44 rfl (Nat.le_of_ble_eq_true rfl) ?_
  obtain ⟨n45, hw⟩ := hw
  exact vMono (L2 := [some (.ref (E.2.1 66)), some (.int r24), some (.int x2_44), none]) (show subL [some (.ref (E.2.1 66)), some (.int r24), some (.int x2_44), none] [some (.ref (E.2.1 66)), some (.int r24), some (.int x2_44), none] from ⟨rfl, ⟨rfl, ⟨rfl, trivial⟩⟩⟩) (t_X9_plan_H45 hc  n45 r24 x2_44 _ hw)
set_option maxRecDepth 100000 in
set_option maxHeartbeats 4000000 in
theorem t_X9_plan_H6 {p : Program} {l : Launch} {e : Env} {s : State} {m : MethodId} {args : Array Value} {below : List Frame} {meth : Method} {c : Code} {E : WD} {Q : Int32 → MS → Prop} (hc : Cx p rm_X9_plan s m args meth c E (AD E) cX9_plan RX9 (some .int) 4 0 0 fdm) : ∀ (n : Nat) (x1 : Int32) (σ : MS), w_X9_plan_H6 Q n x1 σ → V p l e rm_X9_plan s m args below meth c E (AD E) 4 0 0 (MQ below (va_Qi Q (BW E) (AD E)) args s 0 0 (AD E)) σ 6 [some (.ref (E.2.1 66)), some (.int x1), none, none] [] := by
  intro n
  induction n with
  | zero =>
    intro x1 σ hw
    exact hw.elim
  | succ n ih =>
    intro x1 σ hw
    unfold w_X9_plan_H6 at hw
    refine vIload_n (pc := 6) hc dX9_plan_6 rfl ?_
    refine vBipush (pc := 7) (v := 9) hc dX9_plan_7 kb_9 ?_
    refine vIcmp_ge (pc := 9) (tgt := 23) hc dX9_plan_9 (by decide) (fun c9 => ?_) (fun c9 => ?_)
    · have hw := hw.1 c9
      exact vMono (L2 := [some (.ref (E.2.1 66)), none, none, none]) (show subL [some (.ref (E.2.1 66)), none, none, none] [some (.ref (E.2.1 66)), some (.int x1), none, none] from ⟨rfl, trivial⟩) (t_X9_plan_J23 hc   _ hw)
    · have hw := hw.2 c9
      refine vAload_n (pc := 12) hc dX9_plan_12 rfl ?_
      refine vIload_n (pc := 13) hc dX9_plan_13 rfl ?_
      refine vCallVv (pc := 14) (st := []) hc ok_X9_leaves tw_982 (c_X9_leaves hc.2.2.2.2.2.2.1 hc.G hw) (hc.G 66 (Nat.le_of_ble_eq_true rfl)) rfl rfl rfl ⟨rfl, rfl⟩ ⟨Nat.le_of_ble_eq_true rfl, Nat.le_of_ble_eq_true rfl⟩ rfl (Nat.le_of_ble_eq_true rfl) dX9_plan_14 (fun σ14 hw => ?_)
      refine vIinc (pc := 17) (v := x1 + 1) (L2 := [some (.ref (E.2.1 66)), some (.int (x1 + 1)), none, none]) hc dX9_plan_17 rfl rfl rfl (Nat.le_of_ble_eq_true rfl) ?_
      refine vGoto (pc := 20) (tgt := 6) hc dX9_plan_20 (by decide) ?_
      exact vMono (L2 := [some (.ref (E.2.1 66)), some (.int (x1 + 1)), none, none]) (show subL [some (.ref (E.2.1 66)), some (.int (x1 + 1)), none, none] [some (.ref (E.2.1 66)), some (.int (x1 + 1)), none, none] from ⟨rfl, ⟨rfl, trivial⟩⟩) (ih (x1 + 1) _ hw)
set_option maxRecDepth 100000 in
set_option maxHeartbeats 4000000 in
theorem t_X9_plan_E {p : Program} {l : Launch} {e : Env} {s : State} {m : MethodId} {args : Array Value} {below : List Frame} {meth : Method} {c : Code} {E : WD} {Q : Int32 → MS → Prop} (hc : Cx p rm_X9_plan s m args meth c E (AD E) cX9_plan RX9 (some .int) 4 0 0 fdm) (σ : MS) (hw : w_X9_plan_E Q  σ) : V p l e rm_X9_plan s m args below meth c E (AD E) 4 0 0 (MQ below (va_Qi Q (BW E) (AD E)) args s 0 0 (AD E)) σ 0 [some (.ref (E.2.1 66)), none, none, none] [] := by
  unfold w_X9_plan_E at hw
  refine vAload_n (pc := 0) hc dX9_plan_0 rfl ?_
  refine vCallVv (pc := 1) (st := []) hc ok_X9_best tw_970 (c_X9_best hc.2.2.2.2.2.2.1 hc.G hw) (hc.G 66 (Nat.le_of_ble_eq_true rfl)) rfl rfl rfl ⟨rfl, rfl⟩ ⟨Nat.le_of_ble_eq_true rfl, Nat.le_of_ble_eq_true rfl⟩ rfl (Nat.le_of_ble_eq_true rfl) dX9_plan_1 (fun σ1 hw => ?_)
  refine vIconst (pc := 4) (v := 0) hc dX9_plan_4 ki_0 ?_
  refine vIstore_n (pc := 5) (L2 := [some (.ref (E.2.1 66)), some (.int 0), none, none]) hc dX9_plan_5 rfl (Nat.le_of_ble_eq_true rfl) ?_
  obtain ⟨n6, hw⟩ := hw
  exact vMono (L2 := [some (.ref (E.2.1 66)), some (.int 0), none, none]) (show subL [some (.ref (E.2.1 66)), some (.int 0), none, none] [some (.ref (E.2.1 66)), some (.int 0), none, none] from ⟨rfl, ⟨rfl, trivial⟩⟩) (t_X9_plan_H6 hc  n6 0 _ hw)
set_option maxRecDepth 100000 in
set_option maxHeartbeats 4000000 in
theorem c_X9_plan {l : Launch} {E : WD} (hE : inj E) (hG : ∀ k, fdm k → k ∈ E.2.2.2) {σ : MS} {Q : Int32 → MS → Prop} (hw : w_X9_plan  σ Q) : Ci l E yX9_plan cX9_plan 4 (some .int) rm_X9_plan [.ref (E.2.1 66)] σ Q :=
  Ct_of (by decide) rfl (by
    intro v hv
    simp only [List.mem_cons, List.not_mem_nil, or_false] at hv
    rcases hv with rfl <;> rfl) (Nat.le_of_ble_eq_true rfl) hE hG (fun p e s m below meth c hc => t_X9_plan_E hc  σ hw)
def w_X9_isFirst_E (Q : Int32 → MS → Prop) (x1 : Int32) (σ : MS) : Prop := ((vp_in x1 9) ∧ (((σ 97 x1.toNatClampNeg) = 0 → Q 0 σ) ∧ (¬ (σ 97 x1.toNatClampNeg) = 0 → ((¬ ((σ 97 x1.toNatClampNeg) &&& (-(σ 97 x1.toNatClampNeg))) = ((1 : Int32) <<< (x1 &&& 31)) → Q 0 σ) ∧ (((σ 97 x1.toNatClampNeg) &&& (-(σ 97 x1.toNatClampNeg))) = ((1 : Int32) <<< (x1 &&& 31)) → Q 1 σ)))))
abbrev w_X9_isFirst (x1 : Int32) (σ : MS) (Q : Int32 → MS → Prop) : Prop := w_X9_isFirst_E Q x1 σ
abbrev rm_X9_isFirst : Room := { frames := 0, cells := 0, slots := 0, locals := 0 }
theorem ok_X9_isFirst : OkV yX9_isFirst RX9 cX9_isFirst 2 (some .boolean) 1 := ⟨tw_1000, tw_42, tw_57, tw_1001, rfl, by decide, by decide, by decide +kernel⟩
set_option maxRecDepth 100000 in
set_option maxHeartbeats 4000000 in
theorem t_X9_isFirst_E {p : Program} {l : Launch} {e : Env} {s : State} {m : MethodId} {args : Array Value} {below : List Frame} {meth : Method} {c : Code} {E : WD} {Q : Int32 → MS → Prop} (hc : Cx p rm_X9_isFirst s m args meth c E (AD E) cX9_isFirst RX9 (some .boolean) 2 0 0 fdm) (x1 : Int32) (σ : MS) (hw : w_X9_isFirst_E Q x1 σ) : V p l e rm_X9_isFirst s m args below meth c E (AD E) 2 0 0 (MQ below (va_Qi Q (BW E) (AD E)) args s 0 0 (AD E)) σ 0 [some (.ref (E.2.1 66)), some (.int x1)] [] := by
  unfold w_X9_isFirst_E at hw
  refine vAload_n (pc := 0) hc dX9_isFirst_0 rfl ?_
  refine vGetR (pc := 1) (k := 66) (j := 38) hc rfl inG9 (hc.G 66 (Nat.le_of_ble_eq_true rfl)) rfl (Nat.le_of_ble_eq_true rfl) tw_761 rfl dX9_isFirst_1 ?_
  refine vIload_n (pc := 4) hc dX9_isFirst_4 rfl ?_
  obtain ⟨hi1, hw⟩ := hw
  refine vIald (pc := 5) (k := 97) hc (hc.G 97 (Nat.le_of_ble_eq_true rfl)) rfl rfl hi1 dX9_isFirst_5 ?_
  refine vIf_eq (pc := 6) (tgt := 33) hc dX9_isFirst_6 (by decide) (fun c6 => ?_) (fun c6 => ?_)
  · have hw := hw.1 c6
    refine vIconst (pc := 33) (v := 0) hc dX9_isFirst_33 ki_0 ?_
    exact vZret (pc := 34) hc dX9_isFirst_34 (Or.inl rfl) hw
  · have hw := hw.2 c6
    refine vAload_n (pc := 9) hc dX9_isFirst_9 rfl ?_
    refine vGetR (pc := 10) (k := 66) (j := 38) hc rfl inG9 (hc.G 66 (Nat.le_of_ble_eq_true rfl)) rfl (Nat.le_of_ble_eq_true rfl) tw_761 rfl dX9_isFirst_10 ?_
    refine vIload_n (pc := 13) hc dX9_isFirst_13 rfl ?_
    refine vIald (pc := 14) (k := 97) hc (hc.G 97 (Nat.le_of_ble_eq_true rfl)) rfl rfl hi1 dX9_isFirst_14 ?_
    refine vAload_n (pc := 15) hc dX9_isFirst_15 rfl ?_
    refine vGetR (pc := 16) (k := 66) (j := 38) hc rfl inG9 (hc.G 66 (Nat.le_of_ble_eq_true rfl)) rfl (Nat.le_of_ble_eq_true rfl) tw_761 rfl dX9_isFirst_16 ?_
    refine vIload_n (pc := 19) hc dX9_isFirst_19 rfl ?_
    refine vIald (pc := 20) (k := 97) hc (hc.G 97 (Nat.le_of_ble_eq_true rfl)) rfl rfl hi1 dX9_isFirst_20 ?_
    refine vIneg (pc := 21) hc dX9_isFirst_21 ?_
    refine vIand (pc := 22) hc dX9_isFirst_22 ?_
    refine vIconst (pc := 23) (v := 1) hc dX9_isFirst_23 ki_1 ?_
    refine vIload_n (pc := 24) hc dX9_isFirst_24 rfl ?_
    refine vIshl (pc := 25) hc dX9_isFirst_25 ?_
    refine vIcmp_ne (pc := 26) (tgt := 33) hc dX9_isFirst_26 (by decide) (fun c26 => ?_) (fun c26 => ?_)
    · have hw := hw.1 c26
      refine vIconst (pc := 33) (v := 0) hc dX9_isFirst_33 ki_0 ?_
      exact vZret (pc := 34) hc dX9_isFirst_34 (Or.inl rfl) hw
    · have hw := hw.2 c26
      refine vIconst (pc := 29) (v := 1) hc dX9_isFirst_29 ki_1 ?_
      refine vGoto (pc := 30) (tgt := 34) hc dX9_isFirst_30 (by decide) ?_
      exact vZret (pc := 34) hc dX9_isFirst_34 (Or.inr rfl) hw
set_option maxRecDepth 100000 in
set_option maxHeartbeats 4000000 in
theorem c_X9_isFirst {l : Launch} {E : WD} (hE : inj E) (hG : ∀ k, fdm k → k ∈ E.2.2.2) {x1 : Int32} {σ : MS} {Q : Int32 → MS → Prop} (hw : w_X9_isFirst x1 σ Q) : Ci l E yX9_isFirst cX9_isFirst 2 (some .boolean) rm_X9_isFirst [.ref (E.2.1 66), .int x1] σ Q :=
  Ct_of (by decide) rfl (by
    intro v hv
    simp only [List.mem_cons, List.not_mem_nil, or_false] at hv
    rcases hv with rfl | rfl <;> rfl) (Nat.le_of_ble_eq_true rfl) hE hG (fun p e s m below meth c hc => t_X9_isFirst_E hc x1 σ hw)
def w_X9_planned_H4 (Q : Int32 → MS → Prop) : Nat → Int32 → Int32 → Int32 → MS → Prop
  | 0, _, _, _, _ => False
  | n + 1, x1, x2, x3, σ => (((σ 66 3) ≤ x3 → Q x2 σ) ∧ (¬ (σ 66 3) ≤ x3 → ((¬ x1 = 3 → w_X9_isFirst x3 σ (fun r39 σ39 => ((r39 = 0 → w_X9_planned_H4 Q n x1 x2 (x3 + 1) σ39) ∧ (¬ r39 = 0 → ((¬ x1 = 0 → ((vp_in x3 9) ∧ (∀ x2_61 : Int32, x2_61 = (x2 + (σ39 101 x3.toNatClampNeg)) → w_X9_planned_H4 Q n x1 x2_61 (x3 + 1) σ39))) ∧ (x1 = 0 → (∀ x2_61 : Int32, x2_61 = (x2 + 1) → w_X9_planned_H4 Q n x1 x2_61 (x3 + 1) σ39))))))) ∧ (x1 = 3 → ((vp_in x3 9) ∧ (((σ 97 x3.toNatClampNeg) = 0 → (∀ x2_33 : Int32, x2_33 = (x2 + 0) → w_X9_planned_H4 Q n x1 x2_33 (x3 + 1) σ)) ∧ (¬ (σ 97 x3.toNatClampNeg) = 0 → (∀ x2_33 : Int32, x2_33 = (x2 + 1) → w_X9_planned_H4 Q n x1 x2_33 (x3 + 1) σ))))))))
def w_X9_planned_E (Q : Int32 → MS → Prop) (x1 : Int32) (σ : MS) : Prop := (∃ n4, w_X9_planned_H4 Q n4 x1 0 0 σ)
abbrev w_X9_planned (x1 : Int32) (σ : MS) (Q : Int32 → MS → Prop) : Prop := w_X9_planned_E Q x1 σ
abbrev rm_X9_planned : Room := { frames := 1, cells := 0, slots := 0, locals := 21 }
theorem ok_X9_planned : OkV yX9_planned RX9 cX9_planned 4 (some .int) 1 := ⟨tw_996, tw_41, tw_57, tw_997, rfl, by decide, by decide, by decide +kernel⟩
set_option maxRecDepth 100000 in
set_option maxHeartbeats 4000000 in
theorem t_X9_planned_H4 {p : Program} {l : Launch} {e : Env} {s : State} {m : MethodId} {args : Array Value} {below : List Frame} {meth : Method} {c : Code} {E : WD} {Q : Int32 → MS → Prop} (hc : Cx p rm_X9_planned s m args meth c E (AD E) cX9_planned RX9 (some .int) 4 0 0 fdm) : ∀ (n : Nat) (x1 x2 x3 : Int32) (σ : MS), w_X9_planned_H4 Q n x1 x2 x3 σ → V p l e rm_X9_planned s m args below meth c E (AD E) 4 0 0 (MQ below (va_Qi Q (BW E) (AD E)) args s 0 0 (AD E)) σ 4 [some (.ref (E.2.1 66)), some (.int x1), some (.int x2), some (.int x3)] [] := by
  intro n
  induction n with
  | zero =>
    intro x1 x2 x3 σ hw
    exact hw.elim
  | succ n ih =>
    intro x1 x2 x3 σ hw
    unfold w_X9_planned_H4 at hw
    refine vIload_n (pc := 4) hc dX9_planned_4 rfl ?_
    refine vAload_n (pc := 5) hc dX9_planned_5 rfl ?_
    refine vGetI (pc := 6) (k := 66) (j := 3) hc rfl inG9 (hc.G 66 (Nat.le_of_ble_eq_true rfl)) rfl (Nat.le_of_ble_eq_true rfl) tw_726 rfl dX9_planned_6 ?_
    refine vIcmp_ge (pc := 9) (tgt := 68) hc dX9_planned_9 (by decide) (fun c9 => ?_) (fun c9 => ?_)
    · have hw := hw.1 c9
      refine vIload_n (pc := 68) hc dX9_planned_68 rfl ?_
      exact vIret (pc := 69) hc dX9_planned_69 hw
    · have hw := hw.2 c9
      refine vIload_n (pc := 12) hc dX9_planned_12 rfl ?_
      refine vIconst (pc := 13) (v := 3) hc dX9_planned_13 ki_3 ?_
      refine vIcmp_ne (pc := 14) (tgt := 37) hc dX9_planned_14 (by decide) (fun c14 => ?_) (fun c14 => ?_)
      · have hw := hw.1 c14
        refine vAload_n (pc := 37) hc dX9_planned_37 rfl ?_
        refine vIload_n (pc := 38) hc dX9_planned_38 rfl ?_
        refine vCallVi (pc := 39) (st := []) hc ok_X9_isFirst tw_998 (c_X9_isFirst hc.2.2.2.2.2.2.1 hc.G hw) (hc.G 66 (Nat.le_of_ble_eq_true rfl)) rfl rfl rfl ⟨rfl, rfl⟩ ⟨Nat.le_of_ble_eq_true rfl, Nat.le_of_ble_eq_true rfl⟩ rfl (Nat.le_of_ble_eq_true rfl) dX9_planned_39 (fun r39 σ39 hw => ?_)
        refine vIf_eq (pc := 42) (tgt := 62) hc dX9_planned_42 (by decide) (fun c42 => ?_) (fun c42 => ?_)
        · have hw := hw.1 c42
          refine vIinc (pc := 62) (v := x3 + 1) (L2 := [some (.ref (E.2.1 66)), some (.int x1), some (.int x2), some (.int (x3 + 1))]) hc dX9_planned_62 rfl rfl rfl (Nat.le_of_ble_eq_true rfl) ?_
          refine vGoto (pc := 65) (tgt := 4) hc dX9_planned_65 (by decide) ?_
          exact vMono (L2 := [some (.ref (E.2.1 66)), some (.int x1), some (.int x2), some (.int (x3 + 1))]) (show subL [some (.ref (E.2.1 66)), some (.int x1), some (.int x2), some (.int (x3 + 1))] [some (.ref (E.2.1 66)), some (.int x1), some (.int x2), some (.int (x3 + 1))] from ⟨rfl, ⟨rfl, ⟨rfl, ⟨rfl, trivial⟩⟩⟩⟩) (ih x1 x2 (x3 + 1) _ hw)
        · have hw := hw.2 c42
          refine vIload_n (pc := 45) hc dX9_planned_45 rfl ?_
          refine vIload_n (pc := 46) hc dX9_planned_46 rfl ?_
          refine vIf_ne (pc := 47) (tgt := 54) hc dX9_planned_47 (by decide) (fun c47 => ?_) (fun c47 => ?_)
          · have hw := hw.1 c47
            refine vAload_n (pc := 54) hc dX9_planned_54 rfl ?_
            refine vGetR (pc := 55) (k := 66) (j := 42) hc rfl inG9 (hc.G 66 (Nat.le_of_ble_eq_true rfl)) rfl (Nat.le_of_ble_eq_true rfl) tw_765 rfl dX9_planned_55 ?_
            refine vIload_n (pc := 58) hc dX9_planned_58 rfl ?_
            obtain ⟨hi1, hw⟩ := hw
            refine vIald (pc := 59) (k := 101) hc (hc.G 101 (Nat.le_of_ble_eq_true rfl)) rfl rfl hi1 dX9_planned_59 ?_
            refine vIadd (pc := 60) hc dX9_planned_60 ?_
            obtain ⟨x2_61, ex2_61⟩ : ∃ z : Int32, z = x2 + (σ39 101 x3.toNatClampNeg) := ⟨_, rfl⟩
            have hw := hw x2_61 ex2_61
            refine vTop ex2_61 ?_
            refine vIstore_n (pc := 61) (L2 := [some (.ref (E.2.1 66)), some (.int x1), some (.int x2_61), some (.int x3)]) hc dX9_planned_61 rfl (Nat.le_of_ble_eq_true rfl) ?_
            refine vIinc (pc := 62) (v := x3 + 1) (L2 := [some (.ref (E.2.1 66)), some (.int x1), some (.int x2_61), some (.int (x3 + 1))]) hc dX9_planned_62 rfl rfl rfl (Nat.le_of_ble_eq_true rfl) ?_
            refine vGoto (pc := 65) (tgt := 4) hc dX9_planned_65 (by decide) ?_
            exact vMono (L2 := [some (.ref (E.2.1 66)), some (.int x1), some (.int x2_61), some (.int (x3 + 1))]) (show subL [some (.ref (E.2.1 66)), some (.int x1), some (.int x2_61), some (.int (x3 + 1))] [some (.ref (E.2.1 66)), some (.int x1), some (.int x2_61), some (.int (x3 + 1))] from ⟨rfl, ⟨rfl, ⟨rfl, ⟨rfl, trivial⟩⟩⟩⟩) (ih x1 x2_61 (x3 + 1) _ hw)
          · have hw := hw.2 c47
            refine vIconst (pc := 50) (v := 1) hc dX9_planned_50 ki_1 ?_
            refine vGoto (pc := 51) (tgt := 60) hc dX9_planned_51 (by decide) ?_
            refine vIadd (pc := 60) hc dX9_planned_60 ?_
            obtain ⟨x2_61, ex2_61⟩ : ∃ z : Int32, z = x2 + 1 := ⟨_, rfl⟩
            have hw := hw x2_61 ex2_61
            refine vTop ex2_61 ?_
            refine vIstore_n (pc := 61) (L2 := [some (.ref (E.2.1 66)), some (.int x1), some (.int x2_61), some (.int x3)]) hc dX9_planned_61 rfl (Nat.le_of_ble_eq_true rfl) ?_
            refine vIinc (pc := 62) (v := x3 + 1) (L2 := [some (.ref (E.2.1 66)), some (.int x1), some (.int x2_61), some (.int (x3 + 1))]) hc dX9_planned_62 rfl rfl rfl (Nat.le_of_ble_eq_true rfl) ?_
            refine vGoto (pc := 65) (tgt := 4) hc dX9_planned_65 (by decide) ?_
            exact vMono (L2 := [some (.ref (E.2.1 66)), some (.int x1), some (.int x2_61), some (.int (x3 + 1))]) (show subL [some (.ref (E.2.1 66)), some (.int x1), some (.int x2_61), some (.int (x3 + 1))] [some (.ref (E.2.1 66)), some (.int x1), some (.int x2_61), some (.int (x3 + 1))] from ⟨rfl, ⟨rfl, ⟨rfl, ⟨rfl, trivial⟩⟩⟩⟩) (ih x1 x2_61 (x3 + 1) _ hw)
      · have hw := hw.2 c14
        refine vIload_n (pc := 17) hc dX9_planned_17 rfl ?_
        refine vAload_n (pc := 18) hc dX9_planned_18 rfl ?_
        refine vGetR (pc := 19) (k := 66) (j := 38) hc rfl inG9 (hc.G 66 (Nat.le_of_ble_eq_true rfl)) rfl (Nat.le_of_ble_eq_true rfl) tw_761 rfl dX9_planned_19 ?_
        refine vIload_n (pc := 22) hc dX9_planned_22 rfl ?_
        obtain ⟨hi2, hw⟩ := hw
        refine vIald (pc := 23) (k := 97) hc (hc.G 97 (Nat.le_of_ble_eq_true rfl)) rfl rfl hi2 dX9_planned_23 ?_
        refine vIf_eq (pc := 24) (tgt := 31) hc dX9_planned_24 (by decide) (fun c24 => ?_) (fun c24 => ?_)
        · have hw := hw.1 c24
          refine vIconst (pc := 31) (v := 0) hc dX9_planned_31 ki_0 ?_
          refine vIadd (pc := 32) hc dX9_planned_32 ?_
          obtain ⟨x2_33, ex2_33⟩ : ∃ z : Int32, z = x2 + 0 := ⟨_, rfl⟩
          have hw := hw x2_33 ex2_33
          refine vTop ex2_33 ?_
          refine vIstore_n (pc := 33) (L2 := [some (.ref (E.2.1 66)), some (.int x1), some (.int x2_33), some (.int x3)]) hc dX9_planned_33 rfl (Nat.le_of_ble_eq_true rfl) ?_
          refine vGoto (pc := 34) (tgt := 62) hc dX9_planned_34 (by decide) ?_
          refine vIinc (pc := 62) (v := x3 + 1) (L2 := [some (.ref (E.2.1 66)), some (.int x1), some (.int x2_33), some (.int (x3 + 1))]) hc dX9_planned_62 rfl rfl rfl (Nat.le_of_ble_eq_true rfl) ?_
          refine vGoto (pc := 65) (tgt := 4) hc dX9_planned_65 (by decide) ?_
          exact vMono (L2 := [some (.ref (E.2.1 66)), some (.int x1), some (.int x2_33), some (.int (x3 + 1))]) (show subL [some (.ref (E.2.1 66)), some (.int x1), some (.int x2_33), some (.int (x3 + 1))] [some (.ref (E.2.1 66)), some (.int x1), some (.int x2_33), some (.int (x3 + 1))] from ⟨rfl, ⟨rfl, ⟨rfl, ⟨rfl, trivial⟩⟩⟩⟩) (ih x1 x2_33 (x3 + 1) _ hw)
        · have hw := hw.2 c24
          refine vIconst (pc := 27) (v := 1) hc dX9_planned_27 ki_1 ?_
          refine vGoto (pc := 28) (tgt := 32) hc dX9_planned_28 (by decide) ?_
          refine vIadd (pc := 32) hc dX9_planned_32 ?_
          obtain ⟨x2_33, ex2_33⟩ : ∃ z : Int32, z = x2 + 1 := ⟨_, rfl⟩
          have hw := hw x2_33 ex2_33
          refine vTop ex2_33 ?_
          refine vIstore_n (pc := 33) (L2 := [some (.ref (E.2.1 66)), some (.int x1), some (.int x2_33), some (.int x3)]) hc dX9_planned_33 rfl (Nat.le_of_ble_eq_true rfl) ?_
          refine vGoto (pc := 34) (tgt := 62) hc dX9_planned_34 (by decide) ?_
          refine vIinc (pc := 62) (v := x3 + 1) (L2 := [some (.ref (E.2.1 66)), some (.int x1), some (.int x2_33), some (.int (x3 + 1))]) hc dX9_planned_62 rfl rfl rfl (Nat.le_of_ble_eq_true rfl) ?_
          refine vGoto (pc := 65) (tgt := 4) hc dX9_planned_65 (by decide) ?_
          exact vMono (L2 := [some (.ref (E.2.1 66)), some (.int x1), some (.int x2_33), some (.int (x3 + 1))]) (show subL [some (.ref (E.2.1 66)), some (.int x1), some (.int x2_33), some (.int (x3 + 1))] [some (.ref (E.2.1 66)), some (.int x1), some (.int x2_33), some (.int (x3 + 1))] from ⟨rfl, ⟨rfl, ⟨rfl, ⟨rfl, trivial⟩⟩⟩⟩) (ih x1 x2_33 (x3 + 1) _ hw)
set_option maxRecDepth 100000 in
set_option maxHeartbeats 4000000 in
theorem t_X9_planned_E {p : Program} {l : Launch} {e : Env} {s : State} {m : MethodId} {args : Array Value} {below : List Frame} {meth : Method} {c : Code} {E : WD} {Q : Int32 → MS → Prop} (hc : Cx p rm_X9_planned s m args meth c E (AD E) cX9_planned RX9 (some .int) 4 0 0 fdm) (x1 : Int32) (σ : MS) (hw : w_X9_planned_E Q x1 σ) : V p l e rm_X9_planned s m args below meth c E (AD E) 4 0 0 (MQ below (va_Qi Q (BW E) (AD E)) args s 0 0 (AD E)) σ 0 [some (.ref (E.2.1 66)), some (.int x1), none, none] [] := by
  unfold w_X9_planned_E at hw
  refine vIconst (pc := 0) (v := 0) hc dX9_planned_0 ki_0 ?_
  refine vIstore_n (pc := 1) (L2 := [some (.ref (E.2.1 66)), some (.int x1), some (.int 0), none]) hc dX9_planned_1 rfl (Nat.le_of_ble_eq_true rfl) ?_
  refine vIconst (pc := 2) (v := 0) hc dX9_planned_2 ki_0 ?_
  refine vIstore_n (pc := 3) (L2 := [some (.ref (E.2.1 66)), some (.int x1), some (.int 0), some (.int 0)]) hc dX9_planned_3 rfl (Nat.le_of_ble_eq_true rfl) ?_
  obtain ⟨n4, hw⟩ := hw
  exact vMono (L2 := [some (.ref (E.2.1 66)), some (.int x1), some (.int 0), some (.int 0)]) (show subL [some (.ref (E.2.1 66)), some (.int x1), some (.int 0), some (.int 0)] [some (.ref (E.2.1 66)), some (.int x1), some (.int 0), some (.int 0)] from ⟨rfl, ⟨rfl, ⟨rfl, ⟨rfl, trivial⟩⟩⟩⟩) (t_X9_planned_H4 hc  n4 x1 0 0 _ hw)
set_option maxRecDepth 100000 in
set_option maxHeartbeats 4000000 in
theorem c_X9_planned {l : Launch} {E : WD} (hE : inj E) (hG : ∀ k, fdm k → k ∈ E.2.2.2) {x1 : Int32} {σ : MS} {Q : Int32 → MS → Prop} (hw : w_X9_planned x1 σ Q) : Ci l E yX9_planned cX9_planned 4 (some .int) rm_X9_planned [.ref (E.2.1 66), .int x1] σ Q :=
  Ct_of (by decide) rfl (by
    intro v hv
    simp only [List.mem_cons, List.not_mem_nil, or_false] at hv
    rcases hv with rfl | rfl <;> rfl) (Nat.le_of_ble_eq_true rfl) hE hG (fun p e s m below meth c hc => t_X9_planned_E hc x1 σ hw)
def w_X9_planOf_E (Q : Int32 → MS → Prop) (x1 : Int32) (σ : MS) : Prop := ((¬ (σ 66 36) = 0 → w_X9_isIn x1 4 σ (fun r16 σ16 => ((¬ r16 = 0 → ((¬ x1 = 1 → w_X9_planned x1 σ16 (fun r43 σ43 => Q r43 σ43)) ∧ (x1 = 1 → Q (σ16 66 37) σ16))) ∧ (r16 = 0 → w_X9_refuse (-2) σ16 (fun r25 σ25 => Q r25 σ25))))) ∧ ((σ 66 36) = 0 → w_X9_refuse (-3) σ (fun r10 σ10 => Q r10 σ10)))
abbrev w_X9_planOf (x1 : Int32) (σ : MS) (Q : Int32 → MS → Prop) : Prop := w_X9_planOf_E Q x1 σ
abbrev rm_X9_planOf : Room := { frames := 2, cells := 0, slots := 0, locals := 44 }
theorem ok_X9_planOf : OkV yX9_planOf RX9 cX9_planOf 2 (some .int) 1 := ⟨tw_991, tw_992, tw_57, tw_993, rfl, by decide, by decide, by decide +kernel⟩
set_option maxRecDepth 100000 in
set_option maxHeartbeats 4000000 in
theorem t_X9_planOf_E {p : Program} {l : Launch} {e : Env} {s : State} {m : MethodId} {args : Array Value} {below : List Frame} {meth : Method} {c : Code} {E : WD} {Q : Int32 → MS → Prop} (hc : Cx p rm_X9_planOf s m args meth c E (AD E) cX9_planOf RX9 (some .int) 2 0 0 fdm) (x1 : Int32) (σ : MS) (hw : w_X9_planOf_E Q x1 σ) : V p l e rm_X9_planOf s m args below meth c E (AD E) 2 0 0 (MQ below (va_Qi Q (BW E) (AD E)) args s 0 0 (AD E)) σ 0 [some (.ref (E.2.1 66)), some (.int x1)] [] := by
  unfold w_X9_planOf_E at hw
  refine vAload_n (pc := 0) hc dX9_planOf_0 rfl ?_
  refine vGetI (pc := 1) (k := 66) (j := 36) hc rfl inG9 (hc.G 66 (Nat.le_of_ble_eq_true rfl)) rfl (Nat.le_of_ble_eq_true rfl) tw_759 rfl dX9_planOf_1 ?_
  refine vIf_ne (pc := 4) (tgt := 14) hc dX9_planOf_4 (by decide) (fun c4 => ?_) (fun c4 => ?_)
  · have hw := hw.1 c4
    refine vIload_n (pc := 14) hc dX9_planOf_14 rfl ?_
    refine vIconst (pc := 15) (v := 4) hc dX9_planOf_15 ki_4 ?_
    refine vCallSi (pc := 16) (st := []) hc ok_X9_isIn tw_858 (c_X9_isIn hc.2.2.2.2.2.2.1 hc.G hw) rfl ⟨rfl, rfl⟩ ⟨Nat.le_of_ble_eq_true rfl, Nat.le_of_ble_eq_true rfl⟩ rfl (Nat.le_of_ble_eq_true rfl) dX9_planOf_16 (fun r16 σ16 hw => ?_)
    refine vIf_ne (pc := 19) (tgt := 29) hc dX9_planOf_19 (by decide) (fun c19 => ?_) (fun c19 => ?_)
    · have hw := hw.1 c19
      refine vIload_n (pc := 29) hc dX9_planOf_29 rfl ?_
      refine vIconst (pc := 30) (v := 1) hc dX9_planOf_30 ki_1 ?_
      refine vIcmp_ne (pc := 31) (tgt := 41) hc dX9_planOf_31 (by decide) (fun c31 => ?_) (fun c31 => ?_)
      · have hw := hw.1 c31
        refine vAload_n (pc := 41) hc dX9_planOf_41 rfl ?_
        refine vIload_n (pc := 42) hc dX9_planOf_42 rfl ?_
        refine vCallVi (pc := 43) (st := []) hc ok_X9_planned tw_994 (c_X9_planned hc.2.2.2.2.2.2.1 hc.G hw) (hc.G 66 (Nat.le_of_ble_eq_true rfl)) rfl rfl rfl ⟨rfl, rfl⟩ ⟨Nat.le_of_ble_eq_true rfl, Nat.le_of_ble_eq_true rfl⟩ rfl (Nat.le_of_ble_eq_true rfl) dX9_planOf_43 (fun r43 σ43 hw => ?_)
        exact vIret (pc := 46) hc dX9_planOf_46 hw
      · have hw := hw.2 c31
        refine vAload_n (pc := 34) hc dX9_planOf_34 rfl ?_
        refine vGetI (pc := 35) (k := 66) (j := 37) hc rfl inG9 (hc.G 66 (Nat.le_of_ble_eq_true rfl)) rfl (Nat.le_of_ble_eq_true rfl) tw_760 rfl dX9_planOf_35 ?_
        refine vGoto (pc := 38) (tgt := 46) hc dX9_planOf_38 (by decide) ?_
        exact vIret (pc := 46) hc dX9_planOf_46 hw
    · have hw := hw.2 c19
      refine vAload_n (pc := 22) hc dX9_planOf_22 rfl ?_
      refine vBipush (pc := 23) (v := (-2)) hc dX9_planOf_23 kb_m2 ?_
      refine vCallVi (pc := 25) (st := []) hc ok_X9_refuse tw_861 (c_X9_refuse hc.2.2.2.2.2.2.1 hc.G hw) (hc.G 66 (Nat.le_of_ble_eq_true rfl)) rfl rfl rfl ⟨rfl, rfl⟩ ⟨Nat.le_of_ble_eq_true rfl, Nat.le_of_ble_eq_true rfl⟩ rfl (Nat.le_of_ble_eq_true rfl) dX9_planOf_25 (fun r25 σ25 hw => ?_)
      exact vIret (pc := 28) hc dX9_planOf_28 hw
  · have hw := hw.2 c4
    refine vAload_n (pc := 7) hc dX9_planOf_7 rfl ?_
    refine vBipush (pc := 8) (v := (-3)) hc dX9_planOf_8 kb_m3 ?_
    refine vCallVi (pc := 10) (st := []) hc ok_X9_refuse tw_861 (c_X9_refuse hc.2.2.2.2.2.2.1 hc.G hw) (hc.G 66 (Nat.le_of_ble_eq_true rfl)) rfl rfl rfl ⟨rfl, rfl⟩ ⟨Nat.le_of_ble_eq_true rfl, Nat.le_of_ble_eq_true rfl⟩ rfl (Nat.le_of_ble_eq_true rfl) dX9_planOf_10 (fun r10 σ10 hw => ?_)
    exact vIret (pc := 13) hc dX9_planOf_13 hw
set_option maxRecDepth 100000 in
set_option maxHeartbeats 4000000 in
theorem c_X9_planOf {l : Launch} {E : WD} (hE : inj E) (hG : ∀ k, fdm k → k ∈ E.2.2.2) {x1 : Int32} {σ : MS} {Q : Int32 → MS → Prop} (hw : w_X9_planOf x1 σ Q) : Ci l E yX9_planOf cX9_planOf 2 (some .int) rm_X9_planOf [.ref (E.2.1 66), .int x1] σ Q :=
  Ct_of (by decide) rfl (by
    intro v hv
    simp only [List.mem_cons, List.not_mem_nil, or_false] at hv
    rcases hv with rfl | rfl <;> rfl) (Nat.le_of_ble_eq_true rfl) hE hG (fun p e s m below meth c hc => t_X9_planOf_E hc x1 σ hw)
def w_X9_poolOf_E (Q : Int32 → MS → Prop) (x1 x2 : Int32) (σ : MS) : Prop := ((¬ (σ 66 36) = 0 → w_X9_isPerson x1 σ (fun r16 σ16 => ((¬ r16 = 0 → ((x2 = 0 → ((vp_in x1 9) ∧ Q (σ16 97 x1.toNatClampNeg) σ16)) ∧ (¬ x2 = 0 → ((x2 = 1 → ((vp_in x1 9) ∧ ((¬ (σ16 97 x1.toNatClampNeg) = 0 → Q (σ16 98 x1.toNatClampNeg) σ16) ∧ ((σ16 97 x1.toNatClampNeg) = 0 → Q (-9) σ16)))) ∧ (¬ x2 = 1 → ((x2 = 2 → ((vp_in x1 9) ∧ ((¬ (σ16 97 x1.toNatClampNeg) = 0 → Q (σ16 99 x1.toNatClampNeg) σ16) ∧ ((σ16 97 x1.toNatClampNeg) = 0 → Q (-9) σ16)))) ∧ (¬ x2 = 2 → ((x2 = 3 → ((vp_in x1 9) ∧ ((¬ (σ16 97 x1.toNatClampNeg) = 0 → Q (σ16 100 x1.toNatClampNeg) σ16) ∧ ((σ16 97 x1.toNatClampNeg) = 0 → Q (-9) σ16)))) ∧ (¬ x2 = 3 → w_X9_refuse (-2) σ16 (fun r133 σ133 => Q r133 σ133)))))))))) ∧ (r16 = 0 → w_X9_refuse (-1) σ16 (fun r24 σ24 => Q r24 σ24))))) ∧ ((σ 66 36) = 0 → w_X9_refuse (-3) σ (fun r10 σ10 => Q r10 σ10)))
abbrev w_X9_poolOf (x1 x2 : Int32) (σ : MS) (Q : Int32 → MS → Prop) : Prop := w_X9_poolOf_E Q x1 x2 σ
abbrev rm_X9_poolOf : Room := { frames := 2, cells := 0, slots := 0, locals := 42 }
theorem ok_X9_poolOf : OkV yX9_poolOf RX9 cX9_poolOf 3 (some .int) 2 := ⟨tw_1003, tw_1004, tw_57, tw_1005, rfl, by decide, by decide, by decide +kernel⟩
set_option maxRecDepth 100000 in
set_option maxHeartbeats 4000000 in
theorem t_X9_poolOf_E {p : Program} {l : Launch} {e : Env} {s : State} {m : MethodId} {args : Array Value} {below : List Frame} {meth : Method} {c : Code} {E : WD} {Q : Int32 → MS → Prop} (hc : Cx p rm_X9_poolOf s m args meth c E (AD E) cX9_poolOf RX9 (some .int) 3 0 0 fdm) (x1 x2 : Int32) (σ : MS) (hw : w_X9_poolOf_E Q x1 x2 σ) : V p l e rm_X9_poolOf s m args below meth c E (AD E) 3 0 0 (MQ below (va_Qi Q (BW E) (AD E)) args s 0 0 (AD E)) σ 0 [some (.ref (E.2.1 66)), some (.int x1), some (.int x2)] [] := by
  unfold w_X9_poolOf_E at hw
  refine vAload_n (pc := 0) hc dX9_poolOf_0 rfl ?_
  refine vGetI (pc := 1) (k := 66) (j := 36) hc rfl inG9 (hc.G 66 (Nat.le_of_ble_eq_true rfl)) rfl (Nat.le_of_ble_eq_true rfl) tw_759 rfl dX9_poolOf_1 ?_
  refine vIf_ne (pc := 4) (tgt := 14) hc dX9_poolOf_4 (by decide) (fun c4 => ?_) (fun c4 => ?_)
  · have hw := hw.1 c4
    refine vAload_n (pc := 14) hc dX9_poolOf_14 rfl ?_
    refine vIload_n (pc := 15) hc dX9_poolOf_15 rfl ?_
    refine vCallVi (pc := 16) (st := []) hc ok_X9_isPerson tw_881 (c_X9_isPerson hc.2.2.2.2.2.2.1 hc.G hw) (hc.G 66 (Nat.le_of_ble_eq_true rfl)) rfl rfl rfl ⟨rfl, rfl⟩ ⟨Nat.le_of_ble_eq_true rfl, Nat.le_of_ble_eq_true rfl⟩ rfl (Nat.le_of_ble_eq_true rfl) dX9_poolOf_16 (fun r16 σ16 hw => ?_)
    refine vIf_ne (pc := 19) (tgt := 28) hc dX9_poolOf_19 (by decide) (fun c19 => ?_) (fun c19 => ?_)
    · have hw := hw.1 c19
      refine vIload_n (pc := 28) hc dX9_poolOf_28 rfl ?_
      by_cases b29_0 : x2 = 0
      · have hw := hw.1 b29_0
        refine vTop (y := 0) b29_0.symm ?_
        refine vTabIn (pc := 29) (tgt := 60) hc dX9_poolOf_29 (by decide) (by decide) rfl (by decide) ?_
        refine vAload_n (pc := 60) hc dX9_poolOf_60 rfl ?_
        refine vGetR (pc := 61) (k := 66) (j := 38) hc rfl inG9 (hc.G 66 (Nat.le_of_ble_eq_true rfl)) rfl (Nat.le_of_ble_eq_true rfl) tw_761 rfl dX9_poolOf_61 ?_
        refine vIload_n (pc := 64) hc dX9_poolOf_64 rfl ?_
        obtain ⟨hi1, hw⟩ := hw
        refine vIald (pc := 65) (k := 97) hc (hc.G 97 (Nat.le_of_ble_eq_true rfl)) rfl rfl hi1 dX9_poolOf_65 ?_
        exact vIret (pc := 66) hc dX9_poolOf_66 hw
      · have hw := hw.2 b29_0
        by_cases b29_1 : x2 = 1
        · have hw := hw.1 b29_1
          refine vTop (y := 1) b29_1.symm ?_
          refine vTabIn (pc := 29) (tgt := 67) hc dX9_poolOf_29 (by decide) (by decide) rfl (by decide) ?_
          refine vAload_n (pc := 67) hc dX9_poolOf_67 rfl ?_
          refine vGetR (pc := 68) (k := 66) (j := 38) hc rfl inG9 (hc.G 66 (Nat.le_of_ble_eq_true rfl)) rfl (Nat.le_of_ble_eq_true rfl) tw_761 rfl dX9_poolOf_68 ?_
          refine vIload_n (pc := 71) hc dX9_poolOf_71 rfl ?_
          obtain ⟨hi2, hw⟩ := hw
          refine vIald (pc := 72) (k := 97) hc (hc.G 97 (Nat.le_of_ble_eq_true rfl)) rfl rfl hi2 dX9_poolOf_72 ?_
          refine vIf_ne (pc := 73) (tgt := 81) hc dX9_poolOf_73 (by decide) (fun c73 => ?_) (fun c73 => ?_)
          · have hw := hw.1 c73
            refine vAload_n (pc := 81) hc dX9_poolOf_81 rfl ?_
            refine vGetR (pc := 82) (k := 66) (j := 39) hc rfl inG9 (hc.G 66 (Nat.le_of_ble_eq_true rfl)) rfl (Nat.le_of_ble_eq_true rfl) tw_762 rfl dX9_poolOf_82 ?_
            refine vIload_n (pc := 85) hc dX9_poolOf_85 rfl ?_
            refine vIald (pc := 86) (k := 98) hc (hc.G 98 (Nat.le_of_ble_eq_true rfl)) rfl rfl hi2 dX9_poolOf_86 ?_
            exact vIret (pc := 87) hc dX9_poolOf_87 hw
          · have hw := hw.2 c73
            refine vBipush (pc := 76) (v := (-9)) hc dX9_poolOf_76 kb_m9 ?_
            refine vGoto (pc := 78) (tgt := 87) hc dX9_poolOf_78 (by decide) ?_
            exact vIret (pc := 87) hc dX9_poolOf_87 hw
        · have hw := hw.2 b29_1
          by_cases b29_2 : x2 = 2
          · have hw := hw.1 b29_2
            refine vTop (y := 2) b29_2.symm ?_
            refine vTabIn (pc := 29) (tgt := 88) hc dX9_poolOf_29 (by decide) (by decide) rfl (by decide) ?_
            refine vAload_n (pc := 88) hc dX9_poolOf_88 rfl ?_
            refine vGetR (pc := 89) (k := 66) (j := 38) hc rfl inG9 (hc.G 66 (Nat.le_of_ble_eq_true rfl)) rfl (Nat.le_of_ble_eq_true rfl) tw_761 rfl dX9_poolOf_89 ?_
            refine vIload_n (pc := 92) hc dX9_poolOf_92 rfl ?_
            obtain ⟨hi3, hw⟩ := hw
            refine vIald (pc := 93) (k := 97) hc (hc.G 97 (Nat.le_of_ble_eq_true rfl)) rfl rfl hi3 dX9_poolOf_93 ?_
            refine vIf_ne (pc := 94) (tgt := 102) hc dX9_poolOf_94 (by decide) (fun c94 => ?_) (fun c94 => ?_)
            · have hw := hw.1 c94
              refine vAload_n (pc := 102) hc dX9_poolOf_102 rfl ?_
              refine vGetR (pc := 103) (k := 66) (j := 40) hc rfl inG9 (hc.G 66 (Nat.le_of_ble_eq_true rfl)) rfl (Nat.le_of_ble_eq_true rfl) tw_763 rfl dX9_poolOf_103 ?_
              refine vIload_n (pc := 106) hc dX9_poolOf_106 rfl ?_
              refine vIald (pc := 107) (k := 99) hc (hc.G 99 (Nat.le_of_ble_eq_true rfl)) rfl rfl hi3 dX9_poolOf_107 ?_
              exact vIret (pc := 108) hc dX9_poolOf_108 hw
            · have hw := hw.2 c94
              refine vBipush (pc := 97) (v := (-9)) hc dX9_poolOf_97 kb_m9 ?_
              refine vGoto (pc := 99) (tgt := 108) hc dX9_poolOf_99 (by decide) ?_
              exact vIret (pc := 108) hc dX9_poolOf_108 hw
          · have hw := hw.2 b29_2
            by_cases b29_3 : x2 = 3
            · have hw := hw.1 b29_3
              refine vTop (y := 3) b29_3.symm ?_
              refine vTabIn (pc := 29) (tgt := 109) hc dX9_poolOf_29 (by decide) (by decide) rfl (by decide) ?_
              refine vAload_n (pc := 109) hc dX9_poolOf_109 rfl ?_
              refine vGetR (pc := 110) (k := 66) (j := 38) hc rfl inG9 (hc.G 66 (Nat.le_of_ble_eq_true rfl)) rfl (Nat.le_of_ble_eq_true rfl) tw_761 rfl dX9_poolOf_110 ?_
              refine vIload_n (pc := 113) hc dX9_poolOf_113 rfl ?_
              obtain ⟨hi4, hw⟩ := hw
              refine vIald (pc := 114) (k := 97) hc (hc.G 97 (Nat.le_of_ble_eq_true rfl)) rfl rfl hi4 dX9_poolOf_114 ?_
              refine vIf_ne (pc := 115) (tgt := 123) hc dX9_poolOf_115 (by decide) (fun c115 => ?_) (fun c115 => ?_)
              · have hw := hw.1 c115
                refine vAload_n (pc := 123) hc dX9_poolOf_123 rfl ?_
                refine vGetR (pc := 124) (k := 66) (j := 41) hc rfl inG9 (hc.G 66 (Nat.le_of_ble_eq_true rfl)) rfl (Nat.le_of_ble_eq_true rfl) tw_764 rfl dX9_poolOf_124 ?_
                refine vIload_n (pc := 127) hc dX9_poolOf_127 rfl ?_
                refine vIald (pc := 128) (k := 100) hc (hc.G 100 (Nat.le_of_ble_eq_true rfl)) rfl rfl hi4 dX9_poolOf_128 ?_
                exact vIret (pc := 129) hc dX9_poolOf_129 hw
              · have hw := hw.2 c115
                refine vBipush (pc := 118) (v := (-9)) hc dX9_poolOf_118 kb_m9 ?_
                refine vGoto (pc := 120) (tgt := 129) hc dX9_poolOf_120 (by decide) ?_
                exact vIret (pc := 129) hc dX9_poolOf_129 hw
            · have hw := hw.2 b29_3
              refine vTabOut (pc := 29) (tgt := 130) hc dX9_poolOf_29 (by
                have f0 := lv_neT b29_0 (by decide : (0 : Int32).toInt = 0)
                have f1 := lv_neT b29_1 (by decide : (1 : Int32).toInt = 1)
                have f2 := lv_neT b29_2 (by decide : (2 : Int32).toInt = 2)
                have f3 := lv_neT b29_3 (by decide : (3 : Int32).toInt = 3)
                omega) (by decide) ?_
              refine vAload_n (pc := 130) hc dX9_poolOf_130 rfl ?_
              refine vBipush (pc := 131) (v := (-2)) hc dX9_poolOf_131 kb_m2 ?_
              refine vCallVi (pc := 133) (st := []) hc ok_X9_refuse tw_861 (c_X9_refuse hc.2.2.2.2.2.2.1 hc.G hw) (hc.G 66 (Nat.le_of_ble_eq_true rfl)) rfl rfl rfl ⟨rfl, rfl⟩ ⟨Nat.le_of_ble_eq_true rfl, Nat.le_of_ble_eq_true rfl⟩ rfl (Nat.le_of_ble_eq_true rfl) dX9_poolOf_133 (fun r133 σ133 hw => ?_)
              exact vIret (pc := 136) hc dX9_poolOf_136 hw
    · have hw := hw.2 c19
      refine vAload_n (pc := 22) hc dX9_poolOf_22 rfl ?_
      refine vIconst (pc := 23) (v := (-1)) hc dX9_poolOf_23 ki_m1 ?_
      refine vCallVi (pc := 24) (st := []) hc ok_X9_refuse tw_861 (c_X9_refuse hc.2.2.2.2.2.2.1 hc.G hw) (hc.G 66 (Nat.le_of_ble_eq_true rfl)) rfl rfl rfl ⟨rfl, rfl⟩ ⟨Nat.le_of_ble_eq_true rfl, Nat.le_of_ble_eq_true rfl⟩ rfl (Nat.le_of_ble_eq_true rfl) dX9_poolOf_24 (fun r24 σ24 hw => ?_)
      exact vIret (pc := 27) hc dX9_poolOf_27 hw
  · have hw := hw.2 c4
    refine vAload_n (pc := 7) hc dX9_poolOf_7 rfl ?_
    refine vBipush (pc := 8) (v := (-3)) hc dX9_poolOf_8 kb_m3 ?_
    refine vCallVi (pc := 10) (st := []) hc ok_X9_refuse tw_861 (c_X9_refuse hc.2.2.2.2.2.2.1 hc.G hw) (hc.G 66 (Nat.le_of_ble_eq_true rfl)) rfl rfl rfl ⟨rfl, rfl⟩ ⟨Nat.le_of_ble_eq_true rfl, Nat.le_of_ble_eq_true rfl⟩ rfl (Nat.le_of_ble_eq_true rfl) dX9_poolOf_10 (fun r10 σ10 hw => ?_)
    exact vIret (pc := 13) hc dX9_poolOf_13 hw
set_option maxRecDepth 100000 in
set_option maxHeartbeats 4000000 in
theorem c_X9_poolOf {l : Launch} {E : WD} (hE : inj E) (hG : ∀ k, fdm k → k ∈ E.2.2.2) {x1 x2 : Int32} {σ : MS} {Q : Int32 → MS → Prop} (hw : w_X9_poolOf x1 x2 σ Q) : Ci l E yX9_poolOf cX9_poolOf 3 (some .int) rm_X9_poolOf [.ref (E.2.1 66), .int x1, .int x2] σ Q :=
  Ct_of (by decide) rfl (by
    intro v hv
    simp only [List.mem_cons, List.not_mem_nil, or_false] at hv
    rcases hv with rfl | rfl | rfl <;> rfl) (Nat.le_of_ble_eq_true rfl) hE hG (fun p e s m below meth c hc => t_X9_poolOf_E hc x1 x2 σ hw)
def w_X9_same_E (Q : Int32 → MS → Prop) (σ : MS) : Prop := ((¬ (σ 66 36) = 0 → w_X9_best  σ (fun σ15 => w_X9_present  σ15 (fun r19 σ19 => ((vp_in r19 512) ∧ ((¬ (σ19 66 37) = (σ19 92 r19.toNatClampNeg) → Q 0 σ19) ∧ ((σ19 66 37) = (σ19 92 r19.toNatClampNeg) → w_X9_planned 2 σ19 (fun r38 σ38 => ((¬ r38 = (σ38 93 r19.toNatClampNeg) → Q 0 σ38) ∧ (r38 = (σ38 93 r19.toNatClampNeg) → w_X9_planned 0 σ38 (fun r52 σ52 => ((¬ r52 = (σ52 94 r19.toNatClampNeg) → Q 0 σ52) ∧ (r52 = (σ52 94 r19.toNatClampNeg) → Q 1 σ52)))))))))))) ∧ ((σ 66 36) = 0 → w_X9_refuse (-3) σ (fun r10 σ10 => Q r10 σ10)))
abbrev w_X9_same (σ : MS) (Q : Int32 → MS → Prop) : Prop := w_X9_same_E Q  σ
abbrev rm_X9_same : Room := { frames := 19, cells := 0, slots := 0, locals := 504 }
theorem ok_X9_same : OkV yX9_same RX9 cX9_same 2 (some .int) 0 := ⟨tw_1007, tw_1008, tw_57, tw_1009, rfl, by decide, by decide, by decide +kernel⟩
set_option maxRecDepth 100000 in
set_option maxHeartbeats 4000000 in
theorem t_X9_same_E {p : Program} {l : Launch} {e : Env} {s : State} {m : MethodId} {args : Array Value} {below : List Frame} {meth : Method} {c : Code} {E : WD} {Q : Int32 → MS → Prop} (hc : Cx p rm_X9_same s m args meth c E (AD E) cX9_same RX9 (some .int) 2 0 0 fdm) (σ : MS) (hw : w_X9_same_E Q  σ) : V p l e rm_X9_same s m args below meth c E (AD E) 2 0 0 (MQ below (va_Qi Q (BW E) (AD E)) args s 0 0 (AD E)) σ 0 [some (.ref (E.2.1 66)), none] [] := by
  unfold w_X9_same_E at hw
  refine vAload_n (pc := 0) hc dX9_same_0 rfl ?_
  refine vGetI (pc := 1) (k := 66) (j := 36) hc rfl inG9 (hc.G 66 (Nat.le_of_ble_eq_true rfl)) rfl (Nat.le_of_ble_eq_true rfl) tw_759 rfl dX9_same_1 ?_
  refine vIf_ne (pc := 4) (tgt := 14) hc dX9_same_4 (by decide) (fun c4 => ?_) (fun c4 => ?_)
  · have hw := hw.1 c4
    refine vAload_n (pc := 14) hc dX9_same_14 rfl ?_
    refine vCallVv (pc := 15) (st := []) hc ok_X9_best tw_970 (c_X9_best hc.2.2.2.2.2.2.1 hc.G hw) (hc.G 66 (Nat.le_of_ble_eq_true rfl)) rfl rfl rfl ⟨rfl, rfl⟩ ⟨Nat.le_of_ble_eq_true rfl, Nat.le_of_ble_eq_true rfl⟩ rfl (Nat.le_of_ble_eq_true rfl) dX9_same_15 (fun σ15 hw => ?_)
    refine vAload_n (pc := 18) hc dX9_same_18 rfl ?_
    refine vCallVi (pc := 19) (st := []) hc ok_X9_present tw_974 (c_X9_present hc.2.2.2.2.2.2.1 hc.G hw) (hc.G 66 (Nat.le_of_ble_eq_true rfl)) rfl rfl rfl ⟨rfl, rfl⟩ ⟨Nat.le_of_ble_eq_true rfl, Nat.le_of_ble_eq_true rfl⟩ rfl (Nat.le_of_ble_eq_true rfl) dX9_same_19 (fun r19 σ19 hw => ?_)
    refine vIstore_n (pc := 22) (L2 := [some (.ref (E.2.1 66)), some (.int r19)]) hc dX9_same_22 rfl (Nat.le_of_ble_eq_true rfl) ?_
    refine vAload_n (pc := 23) hc dX9_same_23 rfl ?_
    refine vGetI (pc := 24) (k := 66) (j := 37) hc rfl inG9 (hc.G 66 (Nat.le_of_ble_eq_true rfl)) rfl (Nat.le_of_ble_eq_true rfl) tw_760 rfl dX9_same_24 ?_
    refine vAload_n (pc := 27) hc dX9_same_27 rfl ?_
    refine vGetR (pc := 28) (k := 66) (j := 31) hc rfl inG9 (hc.G 66 (Nat.le_of_ble_eq_true rfl)) rfl (Nat.le_of_ble_eq_true rfl) tw_754 rfl dX9_same_28 ?_
    refine vIload_n (pc := 31) hc dX9_same_31 rfl ?_
    obtain ⟨hi1, hw⟩ := hw
    refine vIald (pc := 32) (k := 92) hc (hc.G 92 (Nat.le_of_ble_eq_true rfl)) rfl rfl hi1 dX9_same_32 ?_
    refine vIcmp_ne (pc := 33) (tgt := 68) hc dX9_same_33 (by decide) (fun c33 => ?_) (fun c33 => ?_)
    · have hw := hw.1 c33
      refine vIconst (pc := 68) (v := 0) hc dX9_same_68 ki_0 ?_
      exact vIret (pc := 69) hc dX9_same_69 hw
    · have hw := hw.2 c33
      refine vAload_n (pc := 36) hc dX9_same_36 rfl ?_
      refine vIconst (pc := 37) (v := 2) hc dX9_same_37 ki_2 ?_
      refine vCallVi (pc := 38) (st := []) hc ok_X9_planned tw_994 (c_X9_planned hc.2.2.2.2.2.2.1 hc.G hw) (hc.G 66 (Nat.le_of_ble_eq_true rfl)) rfl rfl rfl ⟨rfl, rfl⟩ ⟨Nat.le_of_ble_eq_true rfl, Nat.le_of_ble_eq_true rfl⟩ rfl (Nat.le_of_ble_eq_true rfl) dX9_same_38 (fun r38 σ38 hw => ?_)
      refine vAload_n (pc := 41) hc dX9_same_41 rfl ?_
      refine vGetR (pc := 42) (k := 66) (j := 32) hc rfl inG9 (hc.G 66 (Nat.le_of_ble_eq_true rfl)) rfl (Nat.le_of_ble_eq_true rfl) tw_755 rfl dX9_same_42 ?_
      refine vIload_n (pc := 45) hc dX9_same_45 rfl ?_
      refine vIald (pc := 46) (k := 93) hc (hc.G 93 (Nat.le_of_ble_eq_true rfl)) rfl rfl hi1 dX9_same_46 ?_
      refine vIcmp_ne (pc := 47) (tgt := 68) hc dX9_same_47 (by decide) (fun c47 => ?_) (fun c47 => ?_)
      · have hw := hw.1 c47
        refine vIconst (pc := 68) (v := 0) hc dX9_same_68 ki_0 ?_
        exact vIret (pc := 69) hc dX9_same_69 hw
      · have hw := hw.2 c47
        refine vAload_n (pc := 50) hc dX9_same_50 rfl ?_
        refine vIconst (pc := 51) (v := 0) hc dX9_same_51 ki_0 ?_
        refine vCallVi (pc := 52) (st := []) hc ok_X9_planned tw_994 (c_X9_planned hc.2.2.2.2.2.2.1 hc.G hw) (hc.G 66 (Nat.le_of_ble_eq_true rfl)) rfl rfl rfl ⟨rfl, rfl⟩ ⟨Nat.le_of_ble_eq_true rfl, Nat.le_of_ble_eq_true rfl⟩ rfl (Nat.le_of_ble_eq_true rfl) dX9_same_52 (fun r52 σ52 hw => ?_)
        refine vAload_n (pc := 55) hc dX9_same_55 rfl ?_
        refine vGetR (pc := 56) (k := 66) (j := 33) hc rfl inG9 (hc.G 66 (Nat.le_of_ble_eq_true rfl)) rfl (Nat.le_of_ble_eq_true rfl) tw_756 rfl dX9_same_56 ?_
        refine vIload_n (pc := 59) hc dX9_same_59 rfl ?_
        refine vIald (pc := 60) (k := 94) hc (hc.G 94 (Nat.le_of_ble_eq_true rfl)) rfl rfl hi1 dX9_same_60 ?_
        refine vIcmp_ne (pc := 61) (tgt := 68) hc dX9_same_61 (by decide) (fun c61 => ?_) (fun c61 => ?_)
        · have hw := hw.1 c61
          refine vIconst (pc := 68) (v := 0) hc dX9_same_68 ki_0 ?_
          exact vIret (pc := 69) hc dX9_same_69 hw
        · have hw := hw.2 c61
          refine vIconst (pc := 64) (v := 1) hc dX9_same_64 ki_1 ?_
          refine vGoto (pc := 65) (tgt := 69) hc dX9_same_65 (by decide) ?_
          exact vIret (pc := 69) hc dX9_same_69 hw
  · have hw := hw.2 c4
    refine vAload_n (pc := 7) hc dX9_same_7 rfl ?_
    refine vBipush (pc := 8) (v := (-3)) hc dX9_same_8 kb_m3 ?_
    refine vCallVi (pc := 10) (st := []) hc ok_X9_refuse tw_861 (c_X9_refuse hc.2.2.2.2.2.2.1 hc.G hw) (hc.G 66 (Nat.le_of_ble_eq_true rfl)) rfl rfl rfl ⟨rfl, rfl⟩ ⟨Nat.le_of_ble_eq_true rfl, Nat.le_of_ble_eq_true rfl⟩ rfl (Nat.le_of_ble_eq_true rfl) dX9_same_10 (fun r10 σ10 hw => ?_)
    exact vIret (pc := 13) hc dX9_same_13 hw
set_option maxRecDepth 100000 in
set_option maxHeartbeats 4000000 in
theorem c_X9_same {l : Launch} {E : WD} (hE : inj E) (hG : ∀ k, fdm k → k ∈ E.2.2.2) {σ : MS} {Q : Int32 → MS → Prop} (hw : w_X9_same  σ Q) : Ci l E yX9_same cX9_same 2 (some .int) rm_X9_same [.ref (E.2.1 66)] σ Q :=
  Ct_of (by decide) rfl (by
    intro v hv
    simp only [List.mem_cons, List.not_mem_nil, or_false] at hv
    rcases hv with rfl <;> rfl) (Nat.le_of_ble_eq_true rfl) hE hG (fun p e s m below meth c hc => t_X9_same_E hc  σ hw)
def w_X9_even_J84 (K18 : Int32 → Int32 → MS → Prop) (Q : Int32 → MS → Prop) (x2 x3 s0 s1 : Int32) (σ : MS) : Prop := (∀ x1_85 : Int32, x1_85 = (s0 + s1) → ((vp_in x2 9) ∧ w_X9_lays (σ 97 x2.toNatClampNeg) x3 σ (fun σ94 => K18 x1_85 (x2 + 1) σ94)))
def w_X9_even_H18 (Q : Int32 → MS → Prop) : Nat → Int32 → Int32 → MS → Prop
  | 0, _, _, _ => False
  | n + 1, x1, x2, σ => (((σ 66 3) ≤ x2 → Q x1 σ) ∧ (¬ (σ 66 3) ≤ x2 → w_X9_isFirst x2 σ (fun r28 σ28 => ((r28 = 0 → w_X9_even_H18 Q n x1 (x2 + 1) σ28) ∧ (¬ r28 = 0 → ((vp_in x2 9) ∧ w_X9_hasAway (σ28 97 x2.toNatClampNeg) σ28 (fun r41 σ41 => ((r41 = 0 → w_X9_turnOf (σ41 97 x2.toNatClampNeg) σ41 (fun r57 σ57 => ((0 ≤ r57 → ((r57 = (σ57 98 x2.toNatClampNeg) → w_X9_even_J84 (fun x1 x2 σ => w_X9_even_H18 Q n x1 x2 σ) Q x2 r57 x1 0 σ57) ∧ (¬ r57 = (σ57 98 x2.toNatClampNeg) → w_X9_even_J84 (fun x1 x2 σ => w_X9_even_H18 Q n x1 x2 σ) Q x2 r57 x1 1 σ57))) ∧ (¬ 0 ≤ r57 → w_X9_even_H18 Q n x1 (x2 + 1) σ57)))) ∧ (¬ r41 = 0 → w_X9_even_H18 Q n x1 (x2 + 1) σ41)))))))))
def w_X9_even_E (Q : Int32 → MS → Prop) (σ : MS) : Prop := ((¬ (σ 66 36) = 0 → (∃ n18, w_X9_even_H18 Q n18 0 0 σ)) ∧ ((σ 66 36) = 0 → w_X9_refuse (-3) σ (fun r10 σ10 => Q r10 σ10)))
abbrev w_X9_even (σ : MS) (Q : Int32 → MS → Prop) : Prop := w_X9_even_E Q  σ
abbrev rm_X9_even : Room := { frames := 19, cells := 0, slots := 0, locals := 505 }
theorem ok_X9_even : OkV yX9_even RX9 cX9_even 4 (some .int) 0 := ⟨tw_1011, tw_1012, tw_57, tw_1013, rfl, by decide, by decide, by decide +kernel⟩
set_option maxRecDepth 100000 in
set_option maxHeartbeats 4000000 in
theorem t_X9_even_J84 {p : Program} {l : Launch} {e : Env} {s : State} {m : MethodId} {args : Array Value} {below : List Frame} {meth : Method} {c : Code} {E : WD} {Q : Int32 → MS → Prop} (hc : Cx p rm_X9_even s m args meth c E (AD E) cX9_even RX9 (some .int) 4 0 0 fdm) {K18 : Int32 → Int32 → MS → Prop} (hK18 : ∀ (x1 x2 : Int32) (σ : MS), K18 x1 x2 σ → V p l e rm_X9_even s m args below meth c E (AD E) 4 0 0 (MQ below (va_Qi Q (BW E) (AD E)) args s 0 0 (AD E)) σ 18 [some (.ref (E.2.1 66)), some (.int x1), some (.int x2), none] []) (x2 x3 s0 s1 : Int32) (σ : MS) (hw : w_X9_even_J84 K18 Q x2 x3 s0 s1 σ) : V p l e rm_X9_even s m args below meth c E (AD E) 4 0 0 (MQ below (va_Qi Q (BW E) (AD E)) args s 0 0 (AD E)) σ 84 [some (.ref (E.2.1 66)), none, some (.int x2), some (.int x3)] [(.int s1), (.int s0)] := by
  unfold w_X9_even_J84 at hw
  refine vIadd (pc := 84) hc dX9_even_84 ?_
  obtain ⟨x1_85, ex1_85⟩ : ∃ z : Int32, z = s0 + s1 := ⟨_, rfl⟩
  have hw := hw x1_85 ex1_85
  refine vTop ex1_85 ?_
  refine vIstore_n (pc := 85) (L2 := [some (.ref (E.2.1 66)), some (.int x1_85), some (.int x2), some (.int x3)]) hc dX9_even_85 rfl (Nat.le_of_ble_eq_true rfl) ?_
  refine vAload_n (pc := 86) hc dX9_even_86 rfl ?_
  refine vAload_n (pc := 87) hc dX9_even_87 rfl ?_
  refine vGetR (pc := 88) (k := 66) (j := 38) hc rfl inG9 (hc.G 66 (Nat.le_of_ble_eq_true rfl)) rfl (Nat.le_of_ble_eq_true rfl) tw_761 rfl dX9_even_88 ?_
  refine vIload_n (pc := 91) hc dX9_even_91 rfl ?_
  obtain ⟨hi1, hw⟩ := hw
  refine vIald (pc := 92) (k := 97) hc (hc.G 97 (Nat.le_of_ble_eq_true rfl)) rfl rfl hi1 dX9_even_92 ?_
  refine vIload_n (pc := 93) hc dX9_even_93 rfl ?_
  refine vCallVv (pc := 94) (st := []) hc ok_X9_lays tw_986 (c_X9_lays hc.2.2.2.2.2.2.1 hc.G hw) (hc.G 66 (Nat.le_of_ble_eq_true rfl)) rfl rfl rfl ⟨rfl, rfl⟩ ⟨Nat.le_of_ble_eq_true rfl, Nat.le_of_ble_eq_true rfl⟩ rfl (Nat.le_of_ble_eq_true rfl) dX9_even_94 (fun σ94 hw => ?_)
  refine vIinc (pc := 97) (v := x2 + 1) (L2 := [some (.ref (E.2.1 66)), some (.int x1_85), some (.int (x2 + 1)), some (.int x3)]) hc dX9_even_97 rfl rfl rfl (Nat.le_of_ble_eq_true rfl) ?_
  refine vGoto (pc := 100) (tgt := 18) hc dX9_even_100 (by decide) ?_
  exact vMono (L2 := [some (.ref (E.2.1 66)), some (.int x1_85), some (.int (x2 + 1)), none]) (show subL [some (.ref (E.2.1 66)), some (.int x1_85), some (.int (x2 + 1)), none] [some (.ref (E.2.1 66)), some (.int x1_85), some (.int (x2 + 1)), some (.int x3)] from ⟨rfl, ⟨rfl, ⟨rfl, trivial⟩⟩⟩) (hK18 x1_85 (x2 + 1) _ hw)
set_option maxRecDepth 100000 in
set_option maxHeartbeats 4000000 in
theorem t_X9_even_H18 {p : Program} {l : Launch} {e : Env} {s : State} {m : MethodId} {args : Array Value} {below : List Frame} {meth : Method} {c : Code} {E : WD} {Q : Int32 → MS → Prop} (hc : Cx p rm_X9_even s m args meth c E (AD E) cX9_even RX9 (some .int) 4 0 0 fdm) : ∀ (n : Nat) (x1 x2 : Int32) (σ : MS), w_X9_even_H18 Q n x1 x2 σ → V p l e rm_X9_even s m args below meth c E (AD E) 4 0 0 (MQ below (va_Qi Q (BW E) (AD E)) args s 0 0 (AD E)) σ 18 [some (.ref (E.2.1 66)), some (.int x1), some (.int x2), none] [] := by
  intro n
  induction n with
  | zero =>
    intro x1 x2 σ hw
    exact hw.elim
  | succ n ih =>
    intro x1 x2 σ hw
    unfold w_X9_even_H18 at hw
    refine vIload_n (pc := 18) hc dX9_even_18 rfl ?_
    refine vAload_n (pc := 19) hc dX9_even_19 rfl ?_
    refine vGetI (pc := 20) (k := 66) (j := 3) hc rfl inG9 (hc.G 66 (Nat.le_of_ble_eq_true rfl)) rfl (Nat.le_of_ble_eq_true rfl) tw_726 rfl dX9_even_20 ?_
    refine vIcmp_ge (pc := 23) (tgt := 103) hc dX9_even_23 (by decide) (fun c23 => ?_) (fun c23 => ?_)
    · have hw := hw.1 c23
      refine vIload_n (pc := 103) hc dX9_even_103 rfl ?_
      exact vIret (pc := 104) hc dX9_even_104 hw
    · have hw := hw.2 c23
      refine vAload_n (pc := 26) hc dX9_even_26 rfl ?_
      refine vIload_n (pc := 27) hc dX9_even_27 rfl ?_
      refine vCallVi (pc := 28) (st := []) hc ok_X9_isFirst tw_998 (c_X9_isFirst hc.2.2.2.2.2.2.1 hc.G hw) (hc.G 66 (Nat.le_of_ble_eq_true rfl)) rfl rfl rfl ⟨rfl, rfl⟩ ⟨Nat.le_of_ble_eq_true rfl, Nat.le_of_ble_eq_true rfl⟩ rfl (Nat.le_of_ble_eq_true rfl) dX9_even_28 (fun r28 σ28 hw => ?_)
      refine vIf_eq (pc := 31) (tgt := 97) hc dX9_even_31 (by decide) (fun c31 => ?_) (fun c31 => ?_)
      · have hw := hw.1 c31
        refine vIinc (pc := 97) (v := x2 + 1) (L2 := [some (.ref (E.2.1 66)), some (.int x1), some (.int (x2 + 1)), none]) hc dX9_even_97 rfl rfl rfl (Nat.le_of_ble_eq_true rfl) ?_
        refine vGoto (pc := 100) (tgt := 18) hc dX9_even_100 (by decide) ?_
        exact vMono (L2 := [some (.ref (E.2.1 66)), some (.int x1), some (.int (x2 + 1)), none]) (show subL [some (.ref (E.2.1 66)), some (.int x1), some (.int (x2 + 1)), none] [some (.ref (E.2.1 66)), some (.int x1), some (.int (x2 + 1)), none] from ⟨rfl, ⟨rfl, ⟨rfl, trivial⟩⟩⟩) (ih x1 (x2 + 1) _ hw)
      · have hw := hw.2 c31
        refine vAload_n (pc := 34) hc dX9_even_34 rfl ?_
        refine vAload_n (pc := 35) hc dX9_even_35 rfl ?_
        refine vGetR (pc := 36) (k := 66) (j := 38) hc rfl inG9 (hc.G 66 (Nat.le_of_ble_eq_true rfl)) rfl (Nat.le_of_ble_eq_true rfl) tw_761 rfl dX9_even_36 ?_
        refine vIload_n (pc := 39) hc dX9_even_39 rfl ?_
        obtain ⟨hi1, hw⟩ := hw
        refine vIald (pc := 40) (k := 97) hc (hc.G 97 (Nat.le_of_ble_eq_true rfl)) rfl rfl hi1 dX9_even_40 ?_
        refine vCallVi (pc := 41) (st := []) hc ok_X9_hasAway tw_912 (c_X9_hasAway hc.2.2.2.2.2.2.1 hc.G hw) (hc.G 66 (Nat.le_of_ble_eq_true rfl)) rfl rfl rfl ⟨rfl, rfl⟩ ⟨Nat.le_of_ble_eq_true rfl, Nat.le_of_ble_eq_true rfl⟩ rfl (Nat.le_of_ble_eq_true rfl) dX9_even_41 (fun r41 σ41 hw => ?_)
        refine vIf_eq (pc := 44) (tgt := 50) hc dX9_even_44 (by decide) (fun c44 => ?_) (fun c44 => ?_)
        · have hw := hw.1 c44
          refine vAload_n (pc := 50) hc dX9_even_50 rfl ?_
          refine vAload_n (pc := 51) hc dX9_even_51 rfl ?_
          refine vGetR (pc := 52) (k := 66) (j := 38) hc rfl inG9 (hc.G 66 (Nat.le_of_ble_eq_true rfl)) rfl (Nat.le_of_ble_eq_true rfl) tw_761 rfl dX9_even_52 ?_
          refine vIload_n (pc := 55) hc dX9_even_55 rfl ?_
          refine vIald (pc := 56) (k := 97) hc (hc.G 97 (Nat.le_of_ble_eq_true rfl)) rfl rfl hi1 dX9_even_56 ?_
          refine vCallVi (pc := 57) (st := []) hc ok_X9_turnOf tw_962 (c_X9_turnOf hc.2.2.2.2.2.2.1 hc.G hw) (hc.G 66 (Nat.le_of_ble_eq_true rfl)) rfl rfl rfl ⟨rfl, rfl⟩ ⟨Nat.le_of_ble_eq_true rfl, Nat.le_of_ble_eq_true rfl⟩ rfl (Nat.le_of_ble_eq_true rfl) dX9_even_57 (fun r57 σ57 hw => ?_)
          refine vIstore_n (pc := 60) (L2 := [some (.ref (E.2.1 66)), some (.int x1), some (.int x2), some (.int r57)]) hc dX9_even_60 rfl (Nat.le_of_ble_eq_true rfl) ?_
          refine vIload_n (pc := 61) hc dX9_even_61 rfl ?_
          refine vIf_ge (pc := 62) (tgt := 68) hc dX9_even_62 (by decide) (fun c62 => ?_) (fun c62 => ?_)
          · have hw := hw.1 c62
            refine vIload_n (pc := 68) hc dX9_even_68 rfl ?_
            refine vIload_n (pc := 69) hc dX9_even_69 rfl ?_
            refine vAload_n (pc := 70) hc dX9_even_70 rfl ?_
            refine vGetR (pc := 71) (k := 66) (j := 39) hc rfl inG9 (hc.G 66 (Nat.le_of_ble_eq_true rfl)) rfl (Nat.le_of_ble_eq_true rfl) tw_762 rfl dX9_even_71 ?_
            refine vIload_n (pc := 74) hc dX9_even_74 rfl ?_
            refine vIald (pc := 75) (k := 98) hc (hc.G 98 (Nat.le_of_ble_eq_true rfl)) rfl rfl hi1 dX9_even_75 ?_
            refine vIcmp_eq (pc := 76) (tgt := 83) hc dX9_even_76 (by decide) (fun c76 => ?_) (fun c76 => ?_)
            · have hw := hw.1 c76
              refine vIconst (pc := 83) (v := 0) hc dX9_even_83 ki_0 ?_
              exact vMono (L2 := [some (.ref (E.2.1 66)), none, some (.int x2), some (.int r57)]) (show subL [some (.ref (E.2.1 66)), none, some (.int x2), some (.int r57)] [some (.ref (E.2.1 66)), some (.int x1), some (.int x2), some (.int r57)] from ⟨rfl, ⟨rfl, ⟨rfl, trivial⟩⟩⟩) (t_X9_even_J84 hc (fun x1 x2 σ hw => ih x1 x2 σ hw) x2 r57 x1 0 _ hw)
            · have hw := hw.2 c76
              refine vIconst (pc := 79) (v := 1) hc dX9_even_79 ki_1 ?_
              refine vGoto (pc := 80) (tgt := 84) hc dX9_even_80 (by decide) ?_
              exact vMono (L2 := [some (.ref (E.2.1 66)), none, some (.int x2), some (.int r57)]) (show subL [some (.ref (E.2.1 66)), none, some (.int x2), some (.int r57)] [some (.ref (E.2.1 66)), some (.int x1), some (.int x2), some (.int r57)] from ⟨rfl, ⟨rfl, ⟨rfl, trivial⟩⟩⟩) (t_X9_even_J84 hc (fun x1 x2 σ hw => ih x1 x2 σ hw) x2 r57 x1 1 _ hw)
          · have hw := hw.2 c62
            refine vGoto (pc := 65) (tgt := 97) hc dX9_even_65 (by decide) ?_
            refine vIinc (pc := 97) (v := x2 + 1) (L2 := [some (.ref (E.2.1 66)), some (.int x1), some (.int (x2 + 1)), some (.int r57)]) hc dX9_even_97 rfl rfl rfl (Nat.le_of_ble_eq_true rfl) ?_
            refine vGoto (pc := 100) (tgt := 18) hc dX9_even_100 (by decide) ?_
            exact vMono (L2 := [some (.ref (E.2.1 66)), some (.int x1), some (.int (x2 + 1)), none]) (show subL [some (.ref (E.2.1 66)), some (.int x1), some (.int (x2 + 1)), none] [some (.ref (E.2.1 66)), some (.int x1), some (.int (x2 + 1)), some (.int r57)] from ⟨rfl, ⟨rfl, ⟨rfl, trivial⟩⟩⟩) (ih x1 (x2 + 1) _ hw)
        · have hw := hw.2 c44
          refine vGoto (pc := 47) (tgt := 97) hc dX9_even_47 (by decide) ?_
          refine vIinc (pc := 97) (v := x2 + 1) (L2 := [some (.ref (E.2.1 66)), some (.int x1), some (.int (x2 + 1)), none]) hc dX9_even_97 rfl rfl rfl (Nat.le_of_ble_eq_true rfl) ?_
          refine vGoto (pc := 100) (tgt := 18) hc dX9_even_100 (by decide) ?_
          exact vMono (L2 := [some (.ref (E.2.1 66)), some (.int x1), some (.int (x2 + 1)), none]) (show subL [some (.ref (E.2.1 66)), some (.int x1), some (.int (x2 + 1)), none] [some (.ref (E.2.1 66)), some (.int x1), some (.int (x2 + 1)), none] from ⟨rfl, ⟨rfl, ⟨rfl, trivial⟩⟩⟩) (ih x1 (x2 + 1) _ hw)
set_option maxRecDepth 100000 in
set_option maxHeartbeats 4000000 in
theorem t_X9_even_E {p : Program} {l : Launch} {e : Env} {s : State} {m : MethodId} {args : Array Value} {below : List Frame} {meth : Method} {c : Code} {E : WD} {Q : Int32 → MS → Prop} (hc : Cx p rm_X9_even s m args meth c E (AD E) cX9_even RX9 (some .int) 4 0 0 fdm) (σ : MS) (hw : w_X9_even_E Q  σ) : V p l e rm_X9_even s m args below meth c E (AD E) 4 0 0 (MQ below (va_Qi Q (BW E) (AD E)) args s 0 0 (AD E)) σ 0 [some (.ref (E.2.1 66)), none, none, none] [] := by
  unfold w_X9_even_E at hw
  refine vAload_n (pc := 0) hc dX9_even_0 rfl ?_
  refine vGetI (pc := 1) (k := 66) (j := 36) hc rfl inG9 (hc.G 66 (Nat.le_of_ble_eq_true rfl)) rfl (Nat.le_of_ble_eq_true rfl) tw_759 rfl dX9_even_1 ?_
  refine vIf_ne (pc := 4) (tgt := 14) hc dX9_even_4 (by decide) (fun c4 => ?_) (fun c4 => ?_)
  · have hw := hw.1 c4
    refine vIconst (pc := 14) (v := 0) hc dX9_even_14 ki_0 ?_
    refine vIstore_n (pc := 15) (L2 := [some (.ref (E.2.1 66)), some (.int 0), none, none]) hc dX9_even_15 rfl (Nat.le_of_ble_eq_true rfl) ?_
    refine vIconst (pc := 16) (v := 0) hc dX9_even_16 ki_0 ?_
    refine vIstore_n (pc := 17) (L2 := [some (.ref (E.2.1 66)), some (.int 0), some (.int 0), none]) hc dX9_even_17 rfl (Nat.le_of_ble_eq_true rfl) ?_
    obtain ⟨n18, hw⟩ := hw
    exact vMono (L2 := [some (.ref (E.2.1 66)), some (.int 0), some (.int 0), none]) (show subL [some (.ref (E.2.1 66)), some (.int 0), some (.int 0), none] [some (.ref (E.2.1 66)), some (.int 0), some (.int 0), none] from ⟨rfl, ⟨rfl, ⟨rfl, trivial⟩⟩⟩) (t_X9_even_H18 hc  n18 0 0 _ hw)
  · have hw := hw.2 c4
    refine vAload_n (pc := 7) hc dX9_even_7 rfl ?_
    refine vBipush (pc := 8) (v := (-3)) hc dX9_even_8 kb_m3 ?_
    refine vCallVi (pc := 10) (st := []) hc ok_X9_refuse tw_861 (c_X9_refuse hc.2.2.2.2.2.2.1 hc.G hw) (hc.G 66 (Nat.le_of_ble_eq_true rfl)) rfl rfl rfl ⟨rfl, rfl⟩ ⟨Nat.le_of_ble_eq_true rfl, Nat.le_of_ble_eq_true rfl⟩ rfl (Nat.le_of_ble_eq_true rfl) dX9_even_10 (fun r10 σ10 hw => ?_)
    exact vIret (pc := 13) hc dX9_even_13 hw
set_option maxRecDepth 100000 in
set_option maxHeartbeats 4000000 in
theorem c_X9_even {l : Launch} {E : WD} (hE : inj E) (hG : ∀ k, fdm k → k ∈ E.2.2.2) {σ : MS} {Q : Int32 → MS → Prop} (hw : w_X9_even  σ Q) : Ci l E yX9_even cX9_even 4 (some .int) rm_X9_even [.ref (E.2.1 66)] σ Q :=
  Ct_of (by decide) rfl (by
    intro v hv
    simp only [List.mem_cons, List.not_mem_nil, or_false] at hv
    rcases hv with rfl <;> rfl) (Nat.le_of_ble_eq_true rfl) hE hG (fun p e s m below meth c hc => t_X9_even_E hc  σ hw)
def w_X9_mornings_J99 (Q : Int32 → MS → Prop) (x1 : Int32) (σ : MS) : Prop := (∀ σ106, σ106 = mst σ 66 4 ((σ 66 4) + x1) → Q x1 σ106)
def w_X9_mornings_J91 (K42 : Int32 → Int32 → MS → Prop) (Q : Int32 → MS → Prop) (x1 x2 s1 s2 s3 : Int32) (σ : MS) : Prop := ((vp_in s1 9) ∧ (∀ σ92, σ92 = mst σ 78 s1.toNatClampNeg (s2 + s3) → K42 x1 (x2 + 1) σ92))
def w_X9_mornings_H42 (Q : Int32 → MS → Prop) : Nat → Int32 → Int32 → MS → Prop
  | 0, _, _, _ => False
  | n + 1, x1, x2, σ => (((σ 66 3) ≤ x2 → w_X9_mornings_J99 Q x1 σ) ∧ (¬ (σ 66 3) ≤ x2 → ((vp_in x2 9) ∧ w_X9_many (σ 97 x2.toNatClampNeg) σ (fun r56 σ56 => (∀ x3_61 : Int32, x3_61 = (r56 - 1) → ((x3_61 ≤ 0 → w_X9_mornings_H42 Q n x1 (x2 + 1) σ56) ∧ (¬ x3_61 ≤ 0 → ((¬ (σ56 98 x2.toNatClampNeg) = x2 → w_X9_mornings_J91 (fun x1 x2 σ => w_X9_mornings_H42 Q n x1 x2 σ) Q x1 x2 x2 (σ56 78 x2.toNatClampNeg) (-x1) σ56) ∧ ((σ56 98 x2.toNatClampNeg) = x2 → w_X9_mornings_J91 (fun x1 x2 σ => w_X9_mornings_H42 Q n x1 x2 σ) Q x1 x2 x2 (σ56 78 x2.toNatClampNeg) (x1 * x3_61) σ56)))))))))
def w_X9_mornings_E (Q : Int32 → MS → Prop) (x1 : Int32) (σ : MS) : Prop := ((¬ (σ 66 36) = 0 → ((1 ≤ x1 → ((x1 ≤ 1000 → (∃ n42, w_X9_mornings_H42 Q n42 x1 0 σ)) ∧ (¬ x1 ≤ 1000 → w_X9_refuse (-6) σ (fun r36 σ36 => Q r36 σ36)))) ∧ (¬ 1 ≤ x1 → w_X9_refuse (-4) σ (fun r22 σ22 => Q r22 σ22)))) ∧ ((σ 66 36) = 0 → w_X9_refuse (-3) σ (fun r10 σ10 => Q r10 σ10)))
abbrev w_X9_mornings (x1 : Int32) (σ : MS) (Q : Int32 → MS → Prop) : Prop := w_X9_mornings_E Q x1 σ
abbrev rm_X9_mornings : Room := { frames := 1, cells := 0, slots := 0, locals := 22 }
theorem ok_X9_mornings : OkV yX9_mornings RX9 cX9_mornings 4 (some .int) 1 := ⟨tw_1015, tw_1016, tw_57, tw_1017, rfl, by decide, by decide, by decide +kernel⟩
set_option maxRecDepth 100000 in
set_option maxHeartbeats 4000000 in
theorem t_X9_mornings_J99 {p : Program} {l : Launch} {e : Env} {s : State} {m : MethodId} {args : Array Value} {below : List Frame} {meth : Method} {c : Code} {E : WD} {Q : Int32 → MS → Prop} (hc : Cx p rm_X9_mornings s m args meth c E (AD E) cX9_mornings RX9 (some .int) 4 0 0 fdm) (x1 : Int32) (σ : MS) (hw : w_X9_mornings_J99 Q x1 σ) : V p l e rm_X9_mornings s m args below meth c E (AD E) 4 0 0 (MQ below (va_Qi Q (BW E) (AD E)) args s 0 0 (AD E)) σ 99 [some (.ref (E.2.1 66)), some (.int x1), none, none] [] := by
  unfold w_X9_mornings_J99 at hw
  refine vAload_n (pc := 99) hc dX9_mornings_99 rfl ?_
  refine vDup (pc := 100) hc dX9_mornings_100 rfl ?_
  refine vGetI (pc := 101) (k := 66) (j := 4) hc rfl inG9 (hc.G 66 (Nat.le_of_ble_eq_true rfl)) rfl (Nat.le_of_ble_eq_true rfl) tw_727 rfl dX9_mornings_101 ?_
  refine vIload_n (pc := 104) hc dX9_mornings_104 rfl ?_
  refine vIadd (pc := 105) hc dX9_mornings_105 ?_
  refine vPut (pc := 106) (k := 66) (j := 4) hc rfl inG9 (hc.G 66 (Nat.le_of_ble_eq_true rfl)) rfl (Nat.le_of_ble_eq_true rfl) tyX9 tyX9_ok nmX9 tw_727 rfl rfl rfl rfl dX9_mornings_106 (fun σ106 eσ106 => ?_)
  have hw := hw σ106 eσ106
  refine vIload_n (pc := 109) hc dX9_mornings_109 rfl ?_
  exact vIret (pc := 110) hc dX9_mornings_110 hw
set_option maxRecDepth 100000 in
set_option maxHeartbeats 4000000 in
theorem t_X9_mornings_J91 {p : Program} {l : Launch} {e : Env} {s : State} {m : MethodId} {args : Array Value} {below : List Frame} {meth : Method} {c : Code} {E : WD} {Q : Int32 → MS → Prop} (hc : Cx p rm_X9_mornings s m args meth c E (AD E) cX9_mornings RX9 (some .int) 4 0 0 fdm) {K42 : Int32 → Int32 → MS → Prop} (hK42 : ∀ (x1 x2 : Int32) (σ : MS), K42 x1 x2 σ → V p l e rm_X9_mornings s m args below meth c E (AD E) 4 0 0 (MQ below (va_Qi Q (BW E) (AD E)) args s 0 0 (AD E)) σ 42 [some (.ref (E.2.1 66)), some (.int x1), some (.int x2), none] []) (x1 x2 s1 s2 s3 : Int32) (σ : MS) (hw : w_X9_mornings_J91 K42 Q x1 x2 s1 s2 s3 σ) : V p l e rm_X9_mornings s m args below meth c E (AD E) 4 0 0 (MQ below (va_Qi Q (BW E) (AD E)) args s 0 0 (AD E)) σ 91 [some (.ref (E.2.1 66)), some (.int x1), some (.int x2), none] [(.int s3), (.int s2), (.int s1), (.ref (E.2.1 78))] := by
  unfold w_X9_mornings_J91 at hw
  refine vIadd (pc := 91) hc dX9_mornings_91 ?_
  obtain ⟨hi1, hw⟩ := hw
  refine vIast (pc := 92) (k := 78) hc (hc.G 78 (Nat.le_of_ble_eq_true rfl)) rfl rfl hi1 dX9_mornings_92 (fun σ92 eσ92 => ?_)
  have hw := hw σ92 eσ92
  refine vIinc (pc := 93) (v := x2 + 1) (L2 := [some (.ref (E.2.1 66)), some (.int x1), some (.int (x2 + 1)), none]) hc dX9_mornings_93 rfl rfl rfl (Nat.le_of_ble_eq_true rfl) ?_
  refine vGoto (pc := 96) (tgt := 42) hc dX9_mornings_96 (by decide) ?_
  exact vMono (L2 := [some (.ref (E.2.1 66)), some (.int x1), some (.int (x2 + 1)), none]) (show subL [some (.ref (E.2.1 66)), some (.int x1), some (.int (x2 + 1)), none] [some (.ref (E.2.1 66)), some (.int x1), some (.int (x2 + 1)), none] from ⟨rfl, ⟨rfl, ⟨rfl, trivial⟩⟩⟩) (hK42 x1 (x2 + 1) _ hw)
set_option maxRecDepth 100000 in
set_option maxHeartbeats 4000000 in
theorem t_X9_mornings_H42 {p : Program} {l : Launch} {e : Env} {s : State} {m : MethodId} {args : Array Value} {below : List Frame} {meth : Method} {c : Code} {E : WD} {Q : Int32 → MS → Prop} (hc : Cx p rm_X9_mornings s m args meth c E (AD E) cX9_mornings RX9 (some .int) 4 0 0 fdm) : ∀ (n : Nat) (x1 x2 : Int32) (σ : MS), w_X9_mornings_H42 Q n x1 x2 σ → V p l e rm_X9_mornings s m args below meth c E (AD E) 4 0 0 (MQ below (va_Qi Q (BW E) (AD E)) args s 0 0 (AD E)) σ 42 [some (.ref (E.2.1 66)), some (.int x1), some (.int x2), none] [] := by
  intro n
  induction n with
  | zero =>
    intro x1 x2 σ hw
    exact hw.elim
  | succ n ih =>
    intro x1 x2 σ hw
    unfold w_X9_mornings_H42 at hw
    refine vIload_n (pc := 42) hc dX9_mornings_42 rfl ?_
    refine vAload_n (pc := 43) hc dX9_mornings_43 rfl ?_
    refine vGetI (pc := 44) (k := 66) (j := 3) hc rfl inG9 (hc.G 66 (Nat.le_of_ble_eq_true rfl)) rfl (Nat.le_of_ble_eq_true rfl) tw_726 rfl dX9_mornings_44 ?_
    refine vIcmp_ge (pc := 47) (tgt := 99) hc dX9_mornings_47 (by decide) (fun c47 => ?_) (fun c47 => ?_)
    · have hw := hw.1 c47
      exact vMono (L2 := [some (.ref (E.2.1 66)), some (.int x1), none, none]) (show subL [some (.ref (E.2.1 66)), some (.int x1), none, none] [some (.ref (E.2.1 66)), some (.int x1), some (.int x2), none] from ⟨rfl, ⟨rfl, trivial⟩⟩) (t_X9_mornings_J99 hc  x1 _ hw)
    · have hw := hw.2 c47
      refine vAload_n (pc := 50) hc dX9_mornings_50 rfl ?_
      refine vGetR (pc := 51) (k := 66) (j := 38) hc rfl inG9 (hc.G 66 (Nat.le_of_ble_eq_true rfl)) rfl (Nat.le_of_ble_eq_true rfl) tw_761 rfl dX9_mornings_51 ?_
      refine vIload_n (pc := 54) hc dX9_mornings_54 rfl ?_
      obtain ⟨hi1, hw⟩ := hw
      refine vIald (pc := 55) (k := 97) hc (hc.G 97 (Nat.le_of_ble_eq_true rfl)) rfl rfl hi1 dX9_mornings_55 ?_
      refine vCallSi (pc := 56) (st := []) hc ok_X9_many tw_909 (c_X9_many hc.2.2.2.2.2.2.1 hc.G hw) rfl ⟨rfl, rfl⟩ ⟨Nat.le_of_ble_eq_true rfl, Nat.le_of_ble_eq_true rfl⟩ rfl (Nat.le_of_ble_eq_true rfl) dX9_mornings_56 (fun r56 σ56 hw => ?_)
      refine vIconst (pc := 59) (v := 1) hc dX9_mornings_59 ki_1 ?_
      refine vIsub (pc := 60) hc dX9_mornings_60 ?_
      obtain ⟨x3_61, ex3_61⟩ : ∃ z : Int32, z = r56 - 1 := ⟨_, rfl⟩
      have hw := hw x3_61 ex3_61
      refine vTop ex3_61 ?_
      refine vIstore_n (pc := 61) (L2 := [some (.ref (E.2.1 66)), some (.int x1), some (.int x2), some (.int x3_61)]) hc dX9_mornings_61 rfl (Nat.le_of_ble_eq_true rfl) ?_
      refine vIload_n (pc := 62) hc dX9_mornings_62 rfl ?_
      refine vIf_le (pc := 63) (tgt := 93) hc dX9_mornings_63 (by decide) (fun c63 => ?_) (fun c63 => ?_)
      · have hw := hw.1 c63
        refine vIinc (pc := 93) (v := x2 + 1) (L2 := [some (.ref (E.2.1 66)), some (.int x1), some (.int (x2 + 1)), some (.int x3_61)]) hc dX9_mornings_93 rfl rfl rfl (Nat.le_of_ble_eq_true rfl) ?_
        refine vGoto (pc := 96) (tgt := 42) hc dX9_mornings_96 (by decide) ?_
        exact vMono (L2 := [some (.ref (E.2.1 66)), some (.int x1), some (.int (x2 + 1)), none]) (show subL [some (.ref (E.2.1 66)), some (.int x1), some (.int (x2 + 1)), none] [some (.ref (E.2.1 66)), some (.int x1), some (.int (x2 + 1)), some (.int x3_61)] from ⟨rfl, ⟨rfl, ⟨rfl, trivial⟩⟩⟩) (ih x1 (x2 + 1) _ hw)
      · have hw := hw.2 c63
        refine vAload_n (pc := 66) hc dX9_mornings_66 rfl ?_
        refine vGetR (pc := 67) (k := 66) (j := 13) hc rfl inG9 (hc.G 66 (Nat.le_of_ble_eq_true rfl)) rfl (Nat.le_of_ble_eq_true rfl) tw_736 rfl dX9_mornings_67 ?_
        refine vIload_n (pc := 70) hc dX9_mornings_70 rfl ?_
        refine vDup2 (pc := 71) hc dX9_mornings_71 rfl rfl ?_
        refine vIald (pc := 72) (k := 78) hc (hc.G 78 (Nat.le_of_ble_eq_true rfl)) rfl rfl hi1 dX9_mornings_72 ?_
        refine vAload_n (pc := 73) hc dX9_mornings_73 rfl ?_
        refine vGetR (pc := 74) (k := 66) (j := 39) hc rfl inG9 (hc.G 66 (Nat.le_of_ble_eq_true rfl)) rfl (Nat.le_of_ble_eq_true rfl) tw_762 rfl dX9_mornings_74 ?_
        refine vIload_n (pc := 77) hc dX9_mornings_77 rfl ?_
        refine vIald (pc := 78) (k := 98) hc (hc.G 98 (Nat.le_of_ble_eq_true rfl)) rfl rfl hi1 dX9_mornings_78 ?_
        refine vIload_n (pc := 79) hc dX9_mornings_79 rfl ?_
        refine vIcmp_ne (pc := 80) (tgt := 89) hc dX9_mornings_80 (by decide) (fun c80 => ?_) (fun c80 => ?_)
        · have hw := hw.1 c80
          refine vIload_n (pc := 89) hc dX9_mornings_89 rfl ?_
          refine vIneg (pc := 90) hc dX9_mornings_90 ?_
          exact vMono (L2 := [some (.ref (E.2.1 66)), some (.int x1), some (.int x2), none]) (show subL [some (.ref (E.2.1 66)), some (.int x1), some (.int x2), none] [some (.ref (E.2.1 66)), some (.int x1), some (.int x2), some (.int x3_61)] from ⟨rfl, ⟨rfl, ⟨rfl, trivial⟩⟩⟩) (t_X9_mornings_J91 hc (fun x1 x2 σ hw => ih x1 x2 σ hw) x1 x2 x2 (σ56 78 x2.toNatClampNeg) (-x1) _ hw)
        · have hw := hw.2 c80
          refine vIload_n (pc := 83) hc dX9_mornings_83 rfl ?_
          refine vIload_n (pc := 84) hc dX9_mornings_84 rfl ?_
          refine vImul (pc := 85) hc dX9_mornings_85 ?_
          refine vGoto (pc := 86) (tgt := 91) hc dX9_mornings_86 (by decide) ?_
          exact vMono (L2 := [some (.ref (E.2.1 66)), some (.int x1), some (.int x2), none]) (show subL [some (.ref (E.2.1 66)), some (.int x1), some (.int x2), none] [some (.ref (E.2.1 66)), some (.int x1), some (.int x2), some (.int x3_61)] from ⟨rfl, ⟨rfl, ⟨rfl, trivial⟩⟩⟩) (t_X9_mornings_J91 hc (fun x1 x2 σ hw => ih x1 x2 σ hw) x1 x2 x2 (σ56 78 x2.toNatClampNeg) (x1 * x3_61) _ hw)
set_option maxRecDepth 100000 in
set_option maxHeartbeats 4000000 in
theorem t_X9_mornings_E {p : Program} {l : Launch} {e : Env} {s : State} {m : MethodId} {args : Array Value} {below : List Frame} {meth : Method} {c : Code} {E : WD} {Q : Int32 → MS → Prop} (hc : Cx p rm_X9_mornings s m args meth c E (AD E) cX9_mornings RX9 (some .int) 4 0 0 fdm) (x1 : Int32) (σ : MS) (hw : w_X9_mornings_E Q x1 σ) : V p l e rm_X9_mornings s m args below meth c E (AD E) 4 0 0 (MQ below (va_Qi Q (BW E) (AD E)) args s 0 0 (AD E)) σ 0 [some (.ref (E.2.1 66)), some (.int x1), none, none] [] := by
  unfold w_X9_mornings_E at hw
  refine vAload_n (pc := 0) hc dX9_mornings_0 rfl ?_
  refine vGetI (pc := 1) (k := 66) (j := 36) hc rfl inG9 (hc.G 66 (Nat.le_of_ble_eq_true rfl)) rfl (Nat.le_of_ble_eq_true rfl) tw_759 rfl dX9_mornings_1 ?_
  refine vIf_ne (pc := 4) (tgt := 14) hc dX9_mornings_4 (by decide) (fun c4 => ?_) (fun c4 => ?_)
  · have hw := hw.1 c4
    refine vIload_n (pc := 14) hc dX9_mornings_14 rfl ?_
    refine vIconst (pc := 15) (v := 1) hc dX9_mornings_15 ki_1 ?_
    refine vIcmp_ge (pc := 16) (tgt := 26) hc dX9_mornings_16 (by decide) (fun c16 => ?_) (fun c16 => ?_)
    · have hw := hw.1 c16
      refine vIload_n (pc := 26) hc dX9_mornings_26 rfl ?_
      refine vSipush (pc := 27) (v := 1000) hc dX9_mornings_27 ks_1000 ?_
      refine vIcmp_le (pc := 30) (tgt := 40) hc dX9_mornings_30 (by decide) (fun c30 => ?_) (fun c30 => ?_)
      · have hw := hw.1 c30
        refine vIconst (pc := 40) (v := 0) hc dX9_mornings_40 ki_0 ?_
        refine vIstore_n (pc := 41) (L2 := [some (.ref (E.2.1 66)), some (.int x1), some (.int 0), none]) hc dX9_mornings_41 rfl (Nat.le_of_ble_eq_true rfl) ?_
        obtain ⟨n42, hw⟩ := hw
        exact vMono (L2 := [some (.ref (E.2.1 66)), some (.int x1), some (.int 0), none]) (show subL [some (.ref (E.2.1 66)), some (.int x1), some (.int 0), none] [some (.ref (E.2.1 66)), some (.int x1), some (.int 0), none] from ⟨rfl, ⟨rfl, ⟨rfl, trivial⟩⟩⟩) (t_X9_mornings_H42 hc  n42 x1 0 _ hw)
      · have hw := hw.2 c30
        refine vAload_n (pc := 33) hc dX9_mornings_33 rfl ?_
        refine vBipush (pc := 34) (v := (-6)) hc dX9_mornings_34 kb_m6 ?_
        refine vCallVi (pc := 36) (st := []) hc ok_X9_refuse tw_861 (c_X9_refuse hc.2.2.2.2.2.2.1 hc.G hw) (hc.G 66 (Nat.le_of_ble_eq_true rfl)) rfl rfl rfl ⟨rfl, rfl⟩ ⟨Nat.le_of_ble_eq_true rfl, Nat.le_of_ble_eq_true rfl⟩ rfl (Nat.le_of_ble_eq_true rfl) dX9_mornings_36 (fun r36 σ36 hw => ?_)
        exact vIret (pc := 39) hc dX9_mornings_39 hw
    · have hw := hw.2 c16
      refine vAload_n (pc := 19) hc dX9_mornings_19 rfl ?_
      refine vBipush (pc := 20) (v := (-4)) hc dX9_mornings_20 kb_m4 ?_
      refine vCallVi (pc := 22) (st := []) hc ok_X9_refuse tw_861 (c_X9_refuse hc.2.2.2.2.2.2.1 hc.G hw) (hc.G 66 (Nat.le_of_ble_eq_true rfl)) rfl rfl rfl ⟨rfl, rfl⟩ ⟨Nat.le_of_ble_eq_true rfl, Nat.le_of_ble_eq_true rfl⟩ rfl (Nat.le_of_ble_eq_true rfl) dX9_mornings_22 (fun r22 σ22 hw => ?_)
      exact vIret (pc := 25) hc dX9_mornings_25 hw
  · have hw := hw.2 c4
    refine vAload_n (pc := 7) hc dX9_mornings_7 rfl ?_
    refine vBipush (pc := 8) (v := (-3)) hc dX9_mornings_8 kb_m3 ?_
    refine vCallVi (pc := 10) (st := []) hc ok_X9_refuse tw_861 (c_X9_refuse hc.2.2.2.2.2.2.1 hc.G hw) (hc.G 66 (Nat.le_of_ble_eq_true rfl)) rfl rfl rfl ⟨rfl, rfl⟩ ⟨Nat.le_of_ble_eq_true rfl, Nat.le_of_ble_eq_true rfl⟩ rfl (Nat.le_of_ble_eq_true rfl) dX9_mornings_10 (fun r10 σ10 hw => ?_)
    exact vIret (pc := 13) hc dX9_mornings_13 hw
set_option maxRecDepth 100000 in
set_option maxHeartbeats 4000000 in
theorem c_X9_mornings {l : Launch} {E : WD} (hE : inj E) (hG : ∀ k, fdm k → k ∈ E.2.2.2) {x1 : Int32} {σ : MS} {Q : Int32 → MS → Prop} (hw : w_X9_mornings x1 σ Q) : Ci l E yX9_mornings cX9_mornings 4 (some .int) rm_X9_mornings [.ref (E.2.1 66), .int x1] σ Q :=
  Ct_of (by decide) rfl (by
    intro v hv
    simp only [List.mem_cons, List.not_mem_nil, or_false] at hv
    rcases hv with rfl | rfl <;> rfl) (Nat.le_of_ble_eq_true rfl) hE hG (fun p e s m below meth c hc => t_X9_mornings_E hc x1 σ hw)
