/-! ===== the constructors' last parts ===== -/
abbrev mdm (k : Nat) : Prop := 66 ≤ k ∧ k < 102
abbrev cdm (k : Nat) : Prop := k = 9 ∨ k = 28
abbrev odm (k : Nat) : Prop := k = 6 ∨ k = 8

set_option maxRecDepth 100000 in
set_option maxHeartbeats 4000000 in
theorem tm_X9_changes_E {p : Program} {l : Launch} {e : Env} {s : State} {m : MethodId} {args : Array Value} {below : List Frame} {meth : Method} {c : Code} {E : WD} {Q : MS → Prop} (hc : Cx p rm_X9_changes s m args meth c E (AD E) cX9_changes RX9 none 1 0 0 mdm) (σ : MS) (hw : w_X9_changes_E Q  σ) : V p l e rm_X9_changes s m args below meth c E (AD E) 1 0 0 (MQ below (va_Qv Q (BW E) (AD E)) args s 0 0 (AD E)) σ 0 [some (.ref (E.2.1 66))] [] := by
  unfold w_X9_changes_E at hw
  refine vAload_n (pc := 0) hc dX9_changes_0 rfl ?_
  refine vIconst (pc := 1) (v := 0) hc dX9_changes_1 ki_0 ?_
  refine vPut (pc := 2) (k := 66) (j := 27) hc rfl inG9 (hc.G 66 (by decide)) rfl (Nat.le_of_ble_eq_true rfl) tyX9 tyX9_ok nmX9 tw_750 rfl rfl (zb_nar (Or.inl rfl)) (zb_fit (Or.inl rfl)) dX9_changes_2 (fun σ2 eσ2 => ?_)
  have hw := hw σ2 eσ2
  exact vVret (pc := 5) hc dX9_changes_5 hw
set_option maxRecDepth 100000 in
set_option maxHeartbeats 4000000 in
theorem cm_X9_changes {l : Launch} {E : WD} (hE : inj E) (hG : ∀ k, mdm k → k ∈ E.2.2.2) {σ : MS} {Q : MS → Prop} (hw : w_X9_changes  σ Q) : Cv l E yX9_changes cX9_changes 1 none rm_X9_changes [.ref (E.2.1 66)] σ Q :=
  Ct_of (by decide) rfl (by
    intro v hv
    simp only [List.mem_cons, List.not_mem_nil, or_false] at hv
    rcases hv with rfl <;> rfl) (Nat.le_of_ble_eq_true rfl) hE hG (fun p e s m below meth c hc => tm_X9_changes_E hc  σ hw)

set_option maxRecDepth 100000 in
set_option maxHeartbeats 4000000 in
theorem tm_X9_measure_J116 {p : Program} {l : Launch} {e : Env} {s : State} {m : MethodId} {args : Array Value} {below : List Frame} {meth : Method} {c : Code} {E : WD} {Q : MS → Prop} (hc : Cx p rm_X9_measure s m args meth c E (AD E) cX9_measure RX9 none 4 0 0 mdm) (σ : MS) (hw : w_X9_measure_J116 Q  σ) : V p l e rm_X9_measure s m args below meth c E (AD E) 4 0 0 (MQ below (va_Qv Q (BW E) (AD E)) args s 0 0 (AD E)) σ 116 [some (.ref (E.2.1 66)), none, none, none] [] := by
  unfold w_X9_measure_J116 at hw
  refine vAload_n (pc := 116) hc dX9_measure_116 rfl ?_
  refine vCallVv (pc := 117) (st := []) hc ok_X9_changes tw_719 (cm_X9_changes hc.2.2.2.2.2.2.1 hc.G hw) (hc.G 66 (by decide)) rfl rfl rfl ⟨rfl, rfl⟩ ⟨Nat.le_of_ble_eq_true rfl, Nat.le_of_ble_eq_true rfl⟩ rfl (Nat.le_of_ble_eq_true rfl) dX9_measure_117 (fun σ117 hw => ?_)
  exact vVret (pc := 120) hc dX9_measure_120 hw
set_option maxRecDepth 100000 in
set_option maxHeartbeats 4000000 in
theorem tm_X9_measure_H44 {p : Program} {l : Launch} {e : Env} {s : State} {m : MethodId} {args : Array Value} {below : List Frame} {meth : Method} {c : Code} {E : WD} {Q : MS → Prop} (hc : Cx p rm_X9_measure s m args meth c E (AD E) cX9_measure RX9 none 4 0 0 mdm) {K28 : Int32 → MS → Prop} (hK28 : ∀ (x1 : Int32) (σ : MS), K28 x1 σ → V p l e rm_X9_measure s m args below meth c E (AD E) 4 0 0 (MQ below (va_Qv Q (BW E) (AD E)) args s 0 0 (AD E)) σ 28 [some (.ref (E.2.1 66)), some (.int x1), none, none] []) {K36 : Int32 → Int32 → MS → Prop} (hK36 : ∀ (x1 x2 : Int32) (σ : MS), K36 x1 x2 σ → V p l e rm_X9_measure s m args below meth c E (AD E) 4 0 0 (MQ below (va_Qv Q (BW E) (AD E)) args s 0 0 (AD E)) σ 36 [some (.ref (E.2.1 66)), some (.int x1), some (.int x2), none] []) : ∀ (n : Nat) (x1 x2 x3 : Int32) (σ : MS), w_X9_measure_H44 K28 K36 Q n x1 x2 x3 σ → V p l e rm_X9_measure s m args below meth c E (AD E) 4 0 0 (MQ below (va_Qv Q (BW E) (AD E)) args s 0 0 (AD E)) σ 44 [some (.ref (E.2.1 66)), some (.int x1), some (.int x2), some (.int x3)] [] := by
  intro n
  induction n with
  | zero =>
    intro x1 x2 x3 σ hw
    exact hw.elim
  | succ n ih =>
    intro x1 x2 x3 σ hw
    unfold w_X9_measure_H44 at hw
    refine vIload_n (pc := 44) hc dX9_measure_44 rfl ?_
    refine vBipush (pc := 45) (v := 10) hc dX9_measure_45 kb_10 ?_
    refine vIcmp_ge (pc := 47) (tgt := 104) hc dX9_measure_47 (by decide) (fun c47 => ?_) (fun c47 => ?_)
    · have hw := hw.1 c47
      refine vIinc (pc := 104) (v := x2 + 1) (L2 := [some (.ref (E.2.1 66)), some (.int x1), some (.int (x2 + 1)), some (.int x3)]) hc dX9_measure_104 rfl rfl rfl (Nat.le_of_ble_eq_true rfl) ?_
      refine vGoto (pc := 107) (tgt := 36) hc dX9_measure_107 (by decide) ?_
      exact vMono (L2 := [some (.ref (E.2.1 66)), some (.int x1), some (.int (x2 + 1)), none]) (show subL [some (.ref (E.2.1 66)), some (.int x1), some (.int (x2 + 1)), none] [some (.ref (E.2.1 66)), some (.int x1), some (.int (x2 + 1)), some (.int x3)] from ⟨rfl, ⟨rfl, ⟨rfl, trivial⟩⟩⟩) (hK36 x1 (x2 + 1) _ hw)
    · have hw := hw.2 c47
      refine vAload_n (pc := 50) hc dX9_measure_50 rfl ?_
      refine vGetR (pc := 51) (k := 66) (j := 2) hc rfl inG9 (hc.G 66 (by decide)) rfl (Nat.le_of_ble_eq_true rfl) tw_725 rfl dX9_measure_51 ?_
      refine vBipush (pc := 54) (v := 10) hc dX9_measure_54 kb_10 ?_
      refine vIload_n (pc := 56) hc dX9_measure_56 rfl ?_
      refine vImul (pc := 57) hc dX9_measure_57 ?_
      refine vIload_n (pc := 58) hc dX9_measure_58 rfl ?_
      refine vIadd (pc := 59) hc dX9_measure_59 ?_
      refine vAload_n (pc := 60) hc dX9_measure_60 rfl ?_
      refine vGetR (pc := 61) (k := 66) (j := 2) hc rfl inG9 (hc.G 66 (by decide)) rfl (Nat.le_of_ble_eq_true rfl) tw_725 rfl dX9_measure_61 ?_
      refine vBipush (pc := 64) (v := 10) hc dX9_measure_64 kb_10 ?_
      refine vIload_n (pc := 66) hc dX9_measure_66 rfl ?_
      refine vImul (pc := 67) hc dX9_measure_67 ?_
      refine vIload_n (pc := 68) hc dX9_measure_68 rfl ?_
      refine vIadd (pc := 69) hc dX9_measure_69 ?_
      obtain ⟨hi1, hw⟩ := hw
      refine vIald (pc := 70) (k := 69) hc (hc.G 69 (by decide)) rfl rfl hi1 dX9_measure_70 ?_
      refine vAload_n (pc := 71) hc dX9_measure_71 rfl ?_
      refine vGetR (pc := 72) (k := 66) (j := 2) hc rfl inG9 (hc.G 66 (by decide)) rfl (Nat.le_of_ble_eq_true rfl) tw_725 rfl dX9_measure_72 ?_
      refine vBipush (pc := 75) (v := 10) hc dX9_measure_75 kb_10 ?_
      refine vIload_n (pc := 77) hc dX9_measure_77 rfl ?_
      refine vImul (pc := 78) hc dX9_measure_78 ?_
      refine vIload_n (pc := 79) hc dX9_measure_79 rfl ?_
      refine vIadd (pc := 80) hc dX9_measure_80 ?_
      obtain ⟨hi2, hw⟩ := hw
      refine vIald (pc := 81) (k := 69) hc (hc.G 69 (by decide)) rfl rfl hi2 dX9_measure_81 ?_
      refine vAload_n (pc := 82) hc dX9_measure_82 rfl ?_
      refine vGetR (pc := 83) (k := 66) (j := 2) hc rfl inG9 (hc.G 66 (by decide)) rfl (Nat.le_of_ble_eq_true rfl) tw_725 rfl dX9_measure_83 ?_
      refine vBipush (pc := 86) (v := 10) hc dX9_measure_86 kb_10 ?_
      refine vIload_n (pc := 88) hc dX9_measure_88 rfl ?_
      refine vImul (pc := 89) hc dX9_measure_89 ?_
      refine vIload_n (pc := 90) hc dX9_measure_90 rfl ?_
      refine vIadd (pc := 91) hc dX9_measure_91 ?_
      obtain ⟨hi3, hw⟩ := hw
      refine vIald (pc := 92) (k := 69) hc (hc.G 69 (by decide)) rfl rfl hi3 dX9_measure_92 ?_
      refine vIadd (pc := 93) hc dX9_measure_93 ?_
      refine vMin (pc := 94) hc tw_718 tw_90 tw_49 tw_91 ⟨Nat.le_of_ble_eq_true rfl, Nat.le_of_ble_eq_true rfl⟩ dX9_measure_94 ?_
      refine vIast (pc := 97) (k := 69) hc (hc.G 69 (by decide)) rfl rfl hi1 dX9_measure_97 (fun σ97 eσ97 => ?_)
      have hw := hw σ97 eσ97
      refine vIinc (pc := 98) (v := x3 + 1) (L2 := [some (.ref (E.2.1 66)), some (.int x1), some (.int x2), some (.int (x3 + 1))]) hc dX9_measure_98 rfl rfl rfl (Nat.le_of_ble_eq_true rfl) ?_
      refine vGoto (pc := 101) (tgt := 44) hc dX9_measure_101 (by decide) ?_
      exact vMono (L2 := [some (.ref (E.2.1 66)), some (.int x1), some (.int x2), some (.int (x3 + 1))]) (show subL [some (.ref (E.2.1 66)), some (.int x1), some (.int x2), some (.int (x3 + 1))] [some (.ref (E.2.1 66)), some (.int x1), some (.int x2), some (.int (x3 + 1))] from ⟨rfl, ⟨rfl, ⟨rfl, ⟨rfl, trivial⟩⟩⟩⟩) (ih x1 x2 (x3 + 1) _ hw)
set_option maxRecDepth 100000 in
set_option maxHeartbeats 4000000 in
theorem tm_X9_measure_H36 {p : Program} {l : Launch} {e : Env} {s : State} {m : MethodId} {args : Array Value} {below : List Frame} {meth : Method} {c : Code} {E : WD} {Q : MS → Prop} (hc : Cx p rm_X9_measure s m args meth c E (AD E) cX9_measure RX9 none 4 0 0 mdm) {K28 : Int32 → MS → Prop} (hK28 : ∀ (x1 : Int32) (σ : MS), K28 x1 σ → V p l e rm_X9_measure s m args below meth c E (AD E) 4 0 0 (MQ below (va_Qv Q (BW E) (AD E)) args s 0 0 (AD E)) σ 28 [some (.ref (E.2.1 66)), some (.int x1), none, none] []) : ∀ (n : Nat) (x1 x2 : Int32) (σ : MS), w_X9_measure_H36 K28 Q n x1 x2 σ → V p l e rm_X9_measure s m args below meth c E (AD E) 4 0 0 (MQ below (va_Qv Q (BW E) (AD E)) args s 0 0 (AD E)) σ 36 [some (.ref (E.2.1 66)), some (.int x1), some (.int x2), none] [] := by
  intro n
  induction n with
  | zero =>
    intro x1 x2 σ hw
    exact hw.elim
  | succ n ih =>
    intro x1 x2 σ hw
    unfold w_X9_measure_H36 at hw
    refine vIload_n (pc := 36) hc dX9_measure_36 rfl ?_
    refine vBipush (pc := 37) (v := 10) hc dX9_measure_37 kb_10 ?_
    refine vIcmp_ge (pc := 39) (tgt := 110) hc dX9_measure_39 (by decide) (fun c39 => ?_) (fun c39 => ?_)
    · have hw := hw.1 c39
      refine vIinc (pc := 110) (v := x1 + 1) (L2 := [some (.ref (E.2.1 66)), some (.int (x1 + 1)), some (.int x2), none]) hc dX9_measure_110 rfl rfl rfl (Nat.le_of_ble_eq_true rfl) ?_
      refine vGoto (pc := 113) (tgt := 28) hc dX9_measure_113 (by decide) ?_
      exact vMono (L2 := [some (.ref (E.2.1 66)), some (.int (x1 + 1)), none, none]) (show subL [some (.ref (E.2.1 66)), some (.int (x1 + 1)), none, none] [some (.ref (E.2.1 66)), some (.int (x1 + 1)), some (.int x2), none] from ⟨rfl, ⟨rfl, trivial⟩⟩) (hK28 (x1 + 1) _ hw)
    · have hw := hw.2 c39
      refine vIconst (pc := 42) (v := 0) hc dX9_measure_42 ki_0 ?_
      refine vIstore_n (pc := 43) (L2 := [some (.ref (E.2.1 66)), some (.int x1), some (.int x2), some (.int 0)]) hc dX9_measure_43 rfl (Nat.le_of_ble_eq_true rfl) ?_
      obtain ⟨n44, hw⟩ := hw
      exact vMono (L2 := [some (.ref (E.2.1 66)), some (.int x1), some (.int x2), some (.int 0)]) (show subL [some (.ref (E.2.1 66)), some (.int x1), some (.int x2), some (.int 0)] [some (.ref (E.2.1 66)), some (.int x1), some (.int x2), some (.int 0)] from ⟨rfl, ⟨rfl, ⟨rfl, ⟨rfl, trivial⟩⟩⟩⟩) (tm_X9_measure_H44 hc hK28 (fun x1 x2 σ hw => ih x1 x2 σ hw) n44 x1 x2 0 _ hw)
set_option maxRecDepth 100000 in
set_option maxHeartbeats 4000000 in
theorem tm_X9_measure_H28 {p : Program} {l : Launch} {e : Env} {s : State} {m : MethodId} {args : Array Value} {below : List Frame} {meth : Method} {c : Code} {E : WD} {Q : MS → Prop} (hc : Cx p rm_X9_measure s m args meth c E (AD E) cX9_measure RX9 none 4 0 0 mdm) : ∀ (n : Nat) (x1 : Int32) (σ : MS), w_X9_measure_H28 Q n x1 σ → V p l e rm_X9_measure s m args below meth c E (AD E) 4 0 0 (MQ below (va_Qv Q (BW E) (AD E)) args s 0 0 (AD E)) σ 28 [some (.ref (E.2.1 66)), some (.int x1), none, none] [] := by
  intro n
  induction n with
  | zero =>
    intro x1 σ hw
    exact hw.elim
  | succ n ih =>
    intro x1 σ hw
    unfold w_X9_measure_H28 at hw
    refine vIload_n (pc := 28) hc dX9_measure_28 rfl ?_
    refine vBipush (pc := 29) (v := 10) hc dX9_measure_29 kb_10 ?_
    refine vIcmp_ge (pc := 31) (tgt := 116) hc dX9_measure_31 (by decide) (fun c31 => ?_) (fun c31 => ?_)
    · have hw := hw.1 c31
      exact vMono (L2 := [some (.ref (E.2.1 66)), none, none, none]) (show subL [some (.ref (E.2.1 66)), none, none, none] [some (.ref (E.2.1 66)), some (.int x1), none, none] from ⟨rfl, trivial⟩) (tm_X9_measure_J116 hc   _ hw)
    · have hw := hw.2 c31
      refine vIconst (pc := 34) (v := 0) hc dX9_measure_34 ki_0 ?_
      refine vIstore_n (pc := 35) (L2 := [some (.ref (E.2.1 66)), some (.int x1), some (.int 0), none]) hc dX9_measure_35 rfl (Nat.le_of_ble_eq_true rfl) ?_
      obtain ⟨n36, hw⟩ := hw
      exact vMono (L2 := [some (.ref (E.2.1 66)), some (.int x1), some (.int 0), none]) (show subL [some (.ref (E.2.1 66)), some (.int x1), some (.int 0), none] [some (.ref (E.2.1 66)), some (.int x1), some (.int 0), none] from ⟨rfl, ⟨rfl, ⟨rfl, trivial⟩⟩⟩) (tm_X9_measure_H36 hc (fun x1 σ hw => ih x1 σ hw) n36 x1 0 _ hw)
set_option maxRecDepth 100000 in
set_option maxHeartbeats 4000000 in
theorem tm_X9_measure_H2 {p : Program} {l : Launch} {e : Env} {s : State} {m : MethodId} {args : Array Value} {below : List Frame} {meth : Method} {c : Code} {E : WD} {Q : MS → Prop} (hc : Cx p rm_X9_measure s m args meth c E (AD E) cX9_measure RX9 none 4 0 0 mdm) : ∀ (n : Nat) (x1 : Int32) (σ : MS), w_X9_measure_H2 Q n x1 σ → V p l e rm_X9_measure s m args below meth c E (AD E) 4 0 0 (MQ below (va_Qv Q (BW E) (AD E)) args s 0 0 (AD E)) σ 2 [some (.ref (E.2.1 66)), some (.int x1), none, none] [] := by
  intro n
  induction n with
  | zero =>
    intro x1 σ hw
    exact hw.elim
  | succ n ih =>
    intro x1 σ hw
    unfold w_X9_measure_H2 at hw
    refine vIload_n (pc := 2) hc dX9_measure_2 rfl ?_
    refine vBipush (pc := 3) (v := 100) hc dX9_measure_3 kb_100 ?_
    refine vIcmp_ge (pc := 5) (tgt := 26) hc dX9_measure_5 (by decide) (fun c5 => ?_) (fun c5 => ?_)
    · have hw := hw.1 c5
      refine vIconst (pc := 26) (v := 0) hc dX9_measure_26 ki_0 ?_
      refine vIstore_n (pc := 27) (L2 := [some (.ref (E.2.1 66)), some (.int 0), none, none]) hc dX9_measure_27 rfl (Nat.le_of_ble_eq_true rfl) ?_
      obtain ⟨n28, hw⟩ := hw
      exact vMono (L2 := [some (.ref (E.2.1 66)), some (.int 0), none, none]) (show subL [some (.ref (E.2.1 66)), some (.int 0), none, none] [some (.ref (E.2.1 66)), some (.int 0), none, none] from ⟨rfl, ⟨rfl, trivial⟩⟩) (tm_X9_measure_H28 hc  n28 0 _ hw)
    · have hw := hw.2 c5
      refine vAload_n (pc := 8) hc dX9_measure_8 rfl ?_
      refine vGetR (pc := 9) (k := 66) (j := 2) hc rfl inG9 (hc.G 66 (by decide)) rfl (Nat.le_of_ble_eq_true rfl) tw_725 rfl dX9_measure_9 ?_
      refine vIload_n (pc := 12) hc dX9_measure_12 rfl ?_
      refine vAload_n (pc := 13) hc dX9_measure_13 rfl ?_
      refine vGetR (pc := 14) (k := 66) (j := 1) hc rfl inG9 (hc.G 66 (by decide)) rfl (Nat.le_of_ble_eq_true rfl) tw_724 rfl dX9_measure_14 ?_
      refine vIload_n (pc := 17) hc dX9_measure_17 rfl ?_
      obtain ⟨hi1, hw⟩ := hw
      refine vIald (pc := 18) (k := 68) hc (hc.G 68 (by decide)) rfl rfl hi1 dX9_measure_18 ?_
      refine vIast (pc := 19) (k := 69) hc (hc.G 69 (by decide)) rfl rfl hi1 dX9_measure_19 (fun σ19 eσ19 => ?_)
      have hw := hw σ19 eσ19
      refine vIinc (pc := 20) (v := x1 + 1) (L2 := [some (.ref (E.2.1 66)), some (.int (x1 + 1)), none, none]) hc dX9_measure_20 rfl rfl rfl (Nat.le_of_ble_eq_true rfl) ?_
      refine vGoto (pc := 23) (tgt := 2) hc dX9_measure_23 (by decide) ?_
      exact vMono (L2 := [some (.ref (E.2.1 66)), some (.int (x1 + 1)), none, none]) (show subL [some (.ref (E.2.1 66)), some (.int (x1 + 1)), none, none] [some (.ref (E.2.1 66)), some (.int (x1 + 1)), none, none] from ⟨rfl, ⟨rfl, trivial⟩⟩) (ih (x1 + 1) _ hw)
set_option maxRecDepth 100000 in
set_option maxHeartbeats 4000000 in
theorem tm_X9_measure_E {p : Program} {l : Launch} {e : Env} {s : State} {m : MethodId} {args : Array Value} {below : List Frame} {meth : Method} {c : Code} {E : WD} {Q : MS → Prop} (hc : Cx p rm_X9_measure s m args meth c E (AD E) cX9_measure RX9 none 4 0 0 mdm) (σ : MS) (hw : w_X9_measure_E Q  σ) : V p l e rm_X9_measure s m args below meth c E (AD E) 4 0 0 (MQ below (va_Qv Q (BW E) (AD E)) args s 0 0 (AD E)) σ 0 [some (.ref (E.2.1 66)), none, none, none] [] := by
  unfold w_X9_measure_E at hw
  refine vIconst (pc := 0) (v := 0) hc dX9_measure_0 ki_0 ?_
  refine vIstore_n (pc := 1) (L2 := [some (.ref (E.2.1 66)), some (.int 0), none, none]) hc dX9_measure_1 rfl (Nat.le_of_ble_eq_true rfl) ?_
  obtain ⟨n2, hw⟩ := hw
  exact vMono (L2 := [some (.ref (E.2.1 66)), some (.int 0), none, none]) (show subL [some (.ref (E.2.1 66)), some (.int 0), none, none] [some (.ref (E.2.1 66)), some (.int 0), none, none] from ⟨rfl, ⟨rfl, trivial⟩⟩) (tm_X9_measure_H2 hc  n2 0 _ hw)
set_option maxRecDepth 100000 in
set_option maxHeartbeats 4000000 in
theorem cm_X9_measure {l : Launch} {E : WD} (hE : inj E) (hG : ∀ k, mdm k → k ∈ E.2.2.2) {σ : MS} {Q : MS → Prop} (hw : w_X9_measure  σ Q) : Cv l E yX9_measure cX9_measure 4 none rm_X9_measure [.ref (E.2.1 66)] σ Q :=
  Ct_of (by decide) rfl (by
    intro v hv
    simp only [List.mem_cons, List.not_mem_nil, or_false] at hv
    rcases hv with rfl <;> rfl) (Nat.le_of_ble_eq_true rfl) hE hG (fun p e s m below meth c hc => tm_X9_measure_E hc  σ hw)

abbrev rm_X5_init : Room := { frames := 3, cells := 22, slots := 220, locals := 110 }
abbrev rm_X9_init : Room := { frames := 3, cells := 35, slots := 4503, locals := 110 }
abbrev rm_X0_init : Room := { frames := 2, cells := 2, slots := 1024, locals := 80 }
abbrev rm_X7_init : Room := { frames := 2, cells := 17, slots := 76, locals := 60 }
def w_X5_init_J63 (Q : MS → Prop) (σ : MS) : Prop := w_X5_renew  σ (fun σ64 => Q σ64)
def w_X5_init_H30 (Q : MS → Prop) : Nat → Int32 → MS → Prop
  | 0, _, _ => False
  | n + 1, x1, σ => ((10 ≤ x1 → w_X5_init_J63 Q σ) ∧ (¬ 10 ≤ x1 → ((vp_in x1 10) ∧ w_J7_fill_53178 rdm (46 + x1.toNatClampNeg) 300 σ (fun σ45 => ((46 ≤ (46 + x1.toNatClampNeg) ∧ (46 + x1.toNatClampNeg) < 66) ∧ (∀ σ56, σ56 = mst σ45 (46 + x1.toNatClampNeg) x1.toNatClampNeg 0 → w_X5_init_H30 Q n (x1 + 1) σ56))))))
def w_X5_init_T (Q : MS → Prop) (σ : MS) : Prop := (∃ n30, w_X5_init_H30 Q n30 0 σ)
set_option maxRecDepth 100000 in
set_option maxHeartbeats 4000000 in
theorem t_X5_init_J63 {p : Program} {l : Launch} {e : Env} {s : State} {m : MethodId} {args : Array Value} {below : List Frame} {meth : Method} {c : Code} {E : WD} {A : Nat → Prop} {kc ks : Nat} {Qs : State → Prop} {Q : MS → Prop} (hc : Cx p rm_X5_init s m args meth c E A cX5_init RX5 none 2 kc ks rdm) (hR : ∀ (σ : MS) (L : List (Option Value)), Q σ → V p l e rm_X5_init s m args below meth c E A 2 kc ks Qs σ 67 L []) (σ : MS) (hw : w_X5_init_J63 Q  σ) : V p l e rm_X5_init s m args below meth c E A 2 kc ks Qs σ 63 [some (.ref (E.2.1 1)), none] [] := by
  unfold w_X5_init_J63 at hw
  refine vAload_n (pc := 63) hc dX5_init_63 rfl ?_
  refine vCallVv (pc := 64) (st := []) hc ok_X5_renew tw_78 (c_X5_renew hc.2.2.2.2.2.2.1 hc.G hw) (hc.G 1 (by decide)) rfl rfl rfl ⟨rfl, rfl⟩ ⟨Nat.le_of_ble_eq_true rfl, Nat.le_of_ble_eq_true rfl⟩ rfl (Nat.le_of_ble_eq_true rfl) dX5_init_64 (fun σ64 hw => ?_)
  exact hR _ _ hw
set_option maxRecDepth 100000 in
set_option maxHeartbeats 4000000 in
theorem t_X5_init_H30 {p : Program} {l : Launch} {e : Env} {s : State} {m : MethodId} {args : Array Value} {below : List Frame} {meth : Method} {c : Code} {E : WD} {A : Nat → Prop} {kc ks : Nat} {Qs : State → Prop} {Q : MS → Prop} (hc : Cx p rm_X5_init s m args meth c E A cX5_init RX5 none 2 kc ks rdm) (hR : ∀ (σ : MS) (L : List (Option Value)), Q σ → V p l e rm_X5_init s m args below meth c E A 2 kc ks Qs σ 67 L []) : ∀ (n : Nat) (x1 : Int32) (σ : MS), w_X5_init_H30 Q n x1 σ → V p l e rm_X5_init s m args below meth c E A 2 kc ks Qs σ 30 [some (.ref (E.2.1 1)), some (.int x1)] [] := by
  intro n
  induction n with
  | zero =>
    intro x1 σ hw
    exact hw.elim
  | succ n ih =>
    intro x1 σ hw
    unfold w_X5_init_H30 at hw
    refine vIload_n (pc := 30) hc dX5_init_30 rfl ?_
    refine vBipush (pc := 31) (v := 10) hc dX5_init_31 kb_10 ?_
    refine vIcmp_ge (pc := 33) (tgt := 63) hc dX5_init_33 (by decide) (fun c33 => ?_) (fun c33 => ?_)
    · have hw := hw.1 c33
      exact vMono (L2 := [some (.ref (E.2.1 1)), none]) (show subL [some (.ref (E.2.1 1)), none] [some (.ref (E.2.1 1)), some (.int x1)] from ⟨rfl, trivial⟩) (t_X5_init_J63 hc hR   _ hw)
    · have hw := hw.2 c33
      refine vAload_n (pc := 36) hc dX5_init_36 rfl ?_
      refine vGetR (pc := 37) (k := 1) (j := 0) hc rfl inG5 (hc.G 1 (by decide)) rfl (Nat.le_of_ble_eq_true rfl) tw_92 rfl dX5_init_37 ?_
      refine vIload_n (pc := 40) hc dX5_init_40 rfl ?_
      obtain ⟨hi1, hw⟩ := hw
      refine vAaldD (pc := 41) hc (hc.G 2 (by decide)) hi1 dX5_init_41 ?_
      refine vSipush (pc := 42) (v := 300) hc dX5_init_42 ks_300 ?_
      refine vCallSv (pc := 45) (st := []) hc ok_J7_fill_53178 tw_75 (c_J7_fill_53178 hc.2.2.2.2.2.2.1 hc.G hw) rfl ⟨rfl, rfl⟩ ⟨Nat.le_of_ble_eq_true rfl, Nat.le_of_ble_eq_true rfl⟩ rfl (Nat.le_of_ble_eq_true rfl) dX5_init_45 (fun σ45 hw => ?_)
      refine vAload_n (pc := 48) hc dX5_init_48 rfl ?_
      refine vGetR (pc := 49) (k := 1) (j := 0) hc rfl inG5 (hc.G 1 (by decide)) rfl (Nat.le_of_ble_eq_true rfl) tw_92 rfl dX5_init_49 ?_
      refine vIload_n (pc := 52) hc dX5_init_52 rfl ?_
      refine vAaldD (pc := 53) hc (hc.G 2 (by decide)) hi1 dX5_init_53 ?_
      refine vIload_n (pc := 54) hc dX5_init_54 rfl ?_
      refine vIconst (pc := 55) (v := 0) hc dX5_init_55 ki_0 ?_
      obtain ⟨hp2, hw⟩ := hw
      refine vIast (pc := 56) (k := (46 + x1.toNatClampNeg)) hc (hc.G _ (rdm_r hp2)) (rw_1 hp2) (rw_n hp2) hi1 dX5_init_56 (fun σ56 eσ56 => ?_)
      have hw := hw σ56 eσ56
      refine vIinc (pc := 57) (v := x1 + 1) (L2 := [some (.ref (E.2.1 1)), some (.int (x1 + 1))]) hc dX5_init_57 rfl rfl rfl (Nat.le_of_ble_eq_true rfl) ?_
      refine vGoto (pc := 60) (tgt := 30) hc dX5_init_60 (by decide) ?_
      exact vMono (L2 := [some (.ref (E.2.1 1)), some (.int (x1 + 1))]) (show subL [some (.ref (E.2.1 1)), some (.int (x1 + 1))] [some (.ref (E.2.1 1)), some (.int (x1 + 1))] from ⟨rfl, ⟨rfl, trivial⟩⟩) (ih (x1 + 1) _ hw)
set_option maxRecDepth 100000 in
set_option maxHeartbeats 4000000 in
theorem t_X5_init_T {p : Program} {l : Launch} {e : Env} {s : State} {m : MethodId} {args : Array Value} {below : List Frame} {meth : Method} {c : Code} {E : WD} {A : Nat → Prop} {kc ks : Nat} {Qs : State → Prop} {Q : MS → Prop} (hc : Cx p rm_X5_init s m args meth c E A cX5_init RX5 none 2 kc ks rdm) (hR : ∀ (σ : MS) (L : List (Option Value)), Q σ → V p l e rm_X5_init s m args below meth c E A 2 kc ks Qs σ 67 L []) (σ : MS) (hw : w_X5_init_T Q σ) : V p l e rm_X5_init s m args below meth c E A 2 kc ks Qs σ 28 [some (.ref (E.2.1 1)), none] [] := by
  unfold w_X5_init_T at hw
  refine vIconst (pc := 28) (v := 0) hc dX5_init_28 ki_0 ?_
  refine vIstore_n (pc := 29) (L2 := [some (.ref (E.2.1 1)), some (.int 0)]) hc dX5_init_29 rfl (Nat.le_of_ble_eq_true rfl) ?_
  obtain ⟨n30, hw⟩ := hw
  exact vMono (L2 := [some (.ref (E.2.1 1)), some (.int 0)]) (show subL [some (.ref (E.2.1 1)), some (.int 0)] [some (.ref (E.2.1 1)), some (.int 0)] from ⟨rfl, ⟨rfl, trivial⟩⟩) (t_X5_init_H30 hc hR  n30 0 _ hw)

def w_X9_init_J339 (Q : MS → Prop) (σ : MS) : Prop := w_X9_measure  σ (fun σ340 => Q σ340)
def w_X9_init_J326 (K290 : Int32 → MS → Prop) (K298 : Int32 → Int32 → MS → Prop) (Q : MS → Prop) (x1 x2 s1 s2 : Int32) (σ : MS) : Prop := ((vp_in s1 100) ∧ (∀ σ326, σ326 = mst σ 68 s1.toNatClampNeg s2 → K298 x1 (x2 + 1) σ326))
def w_X9_init_H298 (K290 : Int32 → MS → Prop) (Q : MS → Prop) : Nat → Int32 → Int32 → MS → Prop
  | 0, _, _, _ => False
  | n + 1, x1, x2, σ => ((10 ≤ x2 → K290 (x1 + 1) σ) ∧ (¬ 10 ≤ x2 → ((¬ x1 = x2 → w_X9_init_J326 K290 (fun x1 x2 σ => w_X9_init_H298 K290 Q n x1 x2 σ) Q x1 x2 (((10 : Int32) * x1) + x2) 300 σ) ∧ (x1 = x2 → w_X9_init_J326 K290 (fun x1 x2 σ => w_X9_init_H298 K290 Q n x1 x2 σ) Q x1 x2 (((10 : Int32) * x1) + x2) 0 σ))))
def w_X9_init_H290 (Q : MS → Prop) : Nat → Int32 → MS → Prop
  | 0, _, _ => False
  | n + 1, x1, σ => ((10 ≤ x1 → w_X9_init_J339 Q σ) ∧ (¬ 10 ≤ x1 → (∃ n298, w_X9_init_H298 (fun x1 σ => w_X9_init_H290 Q n x1 σ) Q n298 x1 0 σ)))
def w_X9_init_T (Q : MS → Prop) (σ : MS) : Prop := (∃ n290, w_X9_init_H290 Q n290 0 σ)
set_option maxRecDepth 100000 in
set_option maxHeartbeats 4000000 in
theorem t_X9_init_J339 {p : Program} {l : Launch} {e : Env} {s : State} {m : MethodId} {args : Array Value} {below : List Frame} {meth : Method} {c : Code} {E : WD} {A : Nat → Prop} {kc ks : Nat} {Qs : State → Prop} {Q : MS → Prop} (hc : Cx p rm_X9_init s m args meth c E A cX9_init RX9 none 3 kc ks mdm) (hR : ∀ (σ : MS) (L : List (Option Value)), Q σ → V p l e rm_X9_init s m args below meth c E A 3 kc ks Qs σ 343 L []) (σ : MS) (hw : w_X9_init_J339 Q  σ) : V p l e rm_X9_init s m args below meth c E A 3 kc ks Qs σ 339 [some (.ref (E.2.1 66)), none, none] [] := by
  unfold w_X9_init_J339 at hw
  refine vAload_n (pc := 339) hc dX9_init_339 rfl ?_
  refine vCallVv (pc := 340) (st := []) hc ok_X9_measure tw_714 (cm_X9_measure hc.2.2.2.2.2.2.1 hc.G hw) (hc.G 66 (by decide)) rfl rfl rfl ⟨rfl, rfl⟩ ⟨Nat.le_of_ble_eq_true rfl, Nat.le_of_ble_eq_true rfl⟩ rfl (Nat.le_of_ble_eq_true rfl) dX9_init_340 (fun σ340 hw => ?_)
  exact hR _ _ hw
set_option maxRecDepth 100000 in
set_option maxHeartbeats 4000000 in
theorem t_X9_init_J326 {p : Program} {l : Launch} {e : Env} {s : State} {m : MethodId} {args : Array Value} {below : List Frame} {meth : Method} {c : Code} {E : WD} {A : Nat → Prop} {kc ks : Nat} {Qs : State → Prop} {Q : MS → Prop} (hc : Cx p rm_X9_init s m args meth c E A cX9_init RX9 none 3 kc ks mdm) (hR : ∀ (σ : MS) (L : List (Option Value)), Q σ → V p l e rm_X9_init s m args below meth c E A 3 kc ks Qs σ 343 L []) {K290 : Int32 → MS → Prop} (hK290 : ∀ (x1 : Int32) (σ : MS), K290 x1 σ → V p l e rm_X9_init s m args below meth c E A 3 kc ks Qs σ 290 [some (.ref (E.2.1 66)), some (.int x1), none] []) {K298 : Int32 → Int32 → MS → Prop} (hK298 : ∀ (x1 x2 : Int32) (σ : MS), K298 x1 x2 σ → V p l e rm_X9_init s m args below meth c E A 3 kc ks Qs σ 298 [some (.ref (E.2.1 66)), some (.int x1), some (.int x2)] []) (x1 x2 s1 s2 : Int32) (σ : MS) (hw : w_X9_init_J326 K290 K298 Q x1 x2 s1 s2 σ) : V p l e rm_X9_init s m args below meth c E A 3 kc ks Qs σ 326 [some (.ref (E.2.1 66)), some (.int x1), some (.int x2)] [(.int s2), (.int s1), (.ref (E.2.1 68))] := by
  unfold w_X9_init_J326 at hw
  obtain ⟨hi1, hw⟩ := hw
  refine vIast (pc := 326) (k := 68) hc (hc.G 68 (by decide)) rfl rfl hi1 dX9_init_326 (fun σ326 eσ326 => ?_)
  have hw := hw σ326 eσ326
  refine vIinc (pc := 327) (v := x2 + 1) (L2 := [some (.ref (E.2.1 66)), some (.int x1), some (.int (x2 + 1))]) hc dX9_init_327 rfl rfl rfl (Nat.le_of_ble_eq_true rfl) ?_
  refine vGoto (pc := 330) (tgt := 298) hc dX9_init_330 (by decide) ?_
  exact vMono (L2 := [some (.ref (E.2.1 66)), some (.int x1), some (.int (x2 + 1))]) (show subL [some (.ref (E.2.1 66)), some (.int x1), some (.int (x2 + 1))] [some (.ref (E.2.1 66)), some (.int x1), some (.int (x2 + 1))] from ⟨rfl, ⟨rfl, ⟨rfl, trivial⟩⟩⟩) (hK298 x1 (x2 + 1) _ hw)
set_option maxRecDepth 100000 in
set_option maxHeartbeats 4000000 in
theorem t_X9_init_H298 {p : Program} {l : Launch} {e : Env} {s : State} {m : MethodId} {args : Array Value} {below : List Frame} {meth : Method} {c : Code} {E : WD} {A : Nat → Prop} {kc ks : Nat} {Qs : State → Prop} {Q : MS → Prop} (hc : Cx p rm_X9_init s m args meth c E A cX9_init RX9 none 3 kc ks mdm) (hR : ∀ (σ : MS) (L : List (Option Value)), Q σ → V p l e rm_X9_init s m args below meth c E A 3 kc ks Qs σ 343 L []) {K290 : Int32 → MS → Prop} (hK290 : ∀ (x1 : Int32) (σ : MS), K290 x1 σ → V p l e rm_X9_init s m args below meth c E A 3 kc ks Qs σ 290 [some (.ref (E.2.1 66)), some (.int x1), none] []) : ∀ (n : Nat) (x1 x2 : Int32) (σ : MS), w_X9_init_H298 K290 Q n x1 x2 σ → V p l e rm_X9_init s m args below meth c E A 3 kc ks Qs σ 298 [some (.ref (E.2.1 66)), some (.int x1), some (.int x2)] [] := by
  intro n
  induction n with
  | zero =>
    intro x1 x2 σ hw
    exact hw.elim
  | succ n ih =>
    intro x1 x2 σ hw
    unfold w_X9_init_H298 at hw
    refine vIload_n (pc := 298) hc dX9_init_298 rfl ?_
    refine vBipush (pc := 299) (v := 10) hc dX9_init_299 kb_10 ?_
    refine vIcmp_ge (pc := 301) (tgt := 333) hc dX9_init_301 (by decide) (fun c301 => ?_) (fun c301 => ?_)
    · have hw := hw.1 c301
      refine vIinc (pc := 333) (v := x1 + 1) (L2 := [some (.ref (E.2.1 66)), some (.int (x1 + 1)), some (.int x2)]) hc dX9_init_333 rfl rfl rfl (Nat.le_of_ble_eq_true rfl) ?_
      refine vGoto (pc := 336) (tgt := 290) hc dX9_init_336 (by decide) ?_
      exact vMono (L2 := [some (.ref (E.2.1 66)), some (.int (x1 + 1)), none]) (show subL [some (.ref (E.2.1 66)), some (.int (x1 + 1)), none] [some (.ref (E.2.1 66)), some (.int (x1 + 1)), some (.int x2)] from ⟨rfl, ⟨rfl, trivial⟩⟩) (hK290 (x1 + 1) _ hw)
    · have hw := hw.2 c301
      refine vAload_n (pc := 304) hc dX9_init_304 rfl ?_
      refine vGetR (pc := 305) (k := 66) (j := 1) hc rfl inG9 (hc.G 66 (by decide)) rfl (Nat.le_of_ble_eq_true rfl) tw_724 rfl dX9_init_305 ?_
      refine vBipush (pc := 308) (v := 10) hc dX9_init_308 kb_10 ?_
      refine vIload_n (pc := 310) hc dX9_init_310 rfl ?_
      refine vImul (pc := 311) hc dX9_init_311 ?_
      refine vIload_n (pc := 312) hc dX9_init_312 rfl ?_
      refine vIadd (pc := 313) hc dX9_init_313 ?_
      refine vIload_n (pc := 314) hc dX9_init_314 rfl ?_
      refine vIload_n (pc := 315) hc dX9_init_315 rfl ?_
      refine vIcmp_ne (pc := 316) (tgt := 323) hc dX9_init_316 (by decide) (fun c316 => ?_) (fun c316 => ?_)
      · have hw := hw.1 c316
        refine vSipush (pc := 323) (v := 300) hc dX9_init_323 ks_300 ?_
        exact vMono (L2 := [some (.ref (E.2.1 66)), some (.int x1), some (.int x2)]) (show subL [some (.ref (E.2.1 66)), some (.int x1), some (.int x2)] [some (.ref (E.2.1 66)), some (.int x1), some (.int x2)] from ⟨rfl, ⟨rfl, ⟨rfl, trivial⟩⟩⟩) (t_X9_init_J326 hc hR hK290 (fun x1 x2 σ hw => ih x1 x2 σ hw) x1 x2 (((10 : Int32) * x1) + x2) 300 _ hw)
      · have hw := hw.2 c316
        refine vIconst (pc := 319) (v := 0) hc dX9_init_319 ki_0 ?_
        refine vGoto (pc := 320) (tgt := 326) hc dX9_init_320 (by decide) ?_
        exact vMono (L2 := [some (.ref (E.2.1 66)), some (.int x1), some (.int x2)]) (show subL [some (.ref (E.2.1 66)), some (.int x1), some (.int x2)] [some (.ref (E.2.1 66)), some (.int x1), some (.int x2)] from ⟨rfl, ⟨rfl, ⟨rfl, trivial⟩⟩⟩) (t_X9_init_J326 hc hR hK290 (fun x1 x2 σ hw => ih x1 x2 σ hw) x1 x2 (((10 : Int32) * x1) + x2) 0 _ hw)
set_option maxRecDepth 100000 in
set_option maxHeartbeats 4000000 in
theorem t_X9_init_H290 {p : Program} {l : Launch} {e : Env} {s : State} {m : MethodId} {args : Array Value} {below : List Frame} {meth : Method} {c : Code} {E : WD} {A : Nat → Prop} {kc ks : Nat} {Qs : State → Prop} {Q : MS → Prop} (hc : Cx p rm_X9_init s m args meth c E A cX9_init RX9 none 3 kc ks mdm) (hR : ∀ (σ : MS) (L : List (Option Value)), Q σ → V p l e rm_X9_init s m args below meth c E A 3 kc ks Qs σ 343 L []) : ∀ (n : Nat) (x1 : Int32) (σ : MS), w_X9_init_H290 Q n x1 σ → V p l e rm_X9_init s m args below meth c E A 3 kc ks Qs σ 290 [some (.ref (E.2.1 66)), some (.int x1), none] [] := by
  intro n
  induction n with
  | zero =>
    intro x1 σ hw
    exact hw.elim
  | succ n ih =>
    intro x1 σ hw
    unfold w_X9_init_H290 at hw
    refine vIload_n (pc := 290) hc dX9_init_290 rfl ?_
    refine vBipush (pc := 291) (v := 10) hc dX9_init_291 kb_10 ?_
    refine vIcmp_ge (pc := 293) (tgt := 339) hc dX9_init_293 (by decide) (fun c293 => ?_) (fun c293 => ?_)
    · have hw := hw.1 c293
      exact vMono (L2 := [some (.ref (E.2.1 66)), none, none]) (show subL [some (.ref (E.2.1 66)), none, none] [some (.ref (E.2.1 66)), some (.int x1), none] from ⟨rfl, trivial⟩) (t_X9_init_J339 hc hR   _ hw)
    · have hw := hw.2 c293
      refine vIconst (pc := 296) (v := 0) hc dX9_init_296 ki_0 ?_
      refine vIstore_n (pc := 297) (L2 := [some (.ref (E.2.1 66)), some (.int x1), some (.int 0)]) hc dX9_init_297 rfl (Nat.le_of_ble_eq_true rfl) ?_
      obtain ⟨n298, hw⟩ := hw
      exact vMono (L2 := [some (.ref (E.2.1 66)), some (.int x1), some (.int 0)]) (show subL [some (.ref (E.2.1 66)), some (.int x1), some (.int 0)] [some (.ref (E.2.1 66)), some (.int x1), some (.int 0)] from ⟨rfl, ⟨rfl, ⟨rfl, trivial⟩⟩⟩) (t_X9_init_H298 hc hR (fun x1 σ hw => ih x1 σ hw) n298 x1 0 _ hw)
set_option maxRecDepth 100000 in
set_option maxHeartbeats 4000000 in
theorem t_X9_init_T {p : Program} {l : Launch} {e : Env} {s : State} {m : MethodId} {args : Array Value} {below : List Frame} {meth : Method} {c : Code} {E : WD} {A : Nat → Prop} {kc ks : Nat} {Qs : State → Prop} {Q : MS → Prop} (hc : Cx p rm_X9_init s m args meth c E A cX9_init RX9 none 3 kc ks mdm) (hR : ∀ (σ : MS) (L : List (Option Value)), Q σ → V p l e rm_X9_init s m args below meth c E A 3 kc ks Qs σ 343 L []) (σ : MS) (hw : w_X9_init_T Q σ) : V p l e rm_X9_init s m args below meth c E A 3 kc ks Qs σ 288 [some (.ref (E.2.1 66)), none, none] [] := by
  unfold w_X9_init_T at hw
  refine vIconst (pc := 288) (v := 0) hc dX9_init_288 ki_0 ?_
  refine vIstore_n (pc := 289) (L2 := [some (.ref (E.2.1 66)), some (.int 0), none]) hc dX9_init_289 rfl (Nat.le_of_ble_eq_true rfl) ?_
  obtain ⟨n290, hw⟩ := hw
  exact vMono (L2 := [some (.ref (E.2.1 66)), some (.int 0), none]) (show subL [some (.ref (E.2.1 66)), some (.int 0), none] [some (.ref (E.2.1 66)), some (.int 0), none] from ⟨rfl, ⟨rfl, trivial⟩⟩) (t_X9_init_H290 hc hR  n290 0 _ hw)

def w_X0_init_T (Q : MS → Prop) (σ : MS) : Prop := w_J7_fill_53178 cdm 28 (-1) σ (fun σ32 => Q σ32)
set_option maxRecDepth 100000 in
set_option maxHeartbeats 4000000 in
theorem t_X0_init_T {p : Program} {l : Launch} {e : Env} {s : State} {m : MethodId} {args : Array Value} {below : List Frame} {meth : Method} {c : Code} {E : WD} {A : Nat → Prop} {kc ks : Nat} {Qs : State → Prop} {Q : MS → Prop} (hc : Cx p rm_X0_init s m args meth c E A cX0_init RX0 none 2 kc ks cdm) (hR : ∀ (σ : MS) (L : List (Option Value)), Q σ → V p l e rm_X0_init s m args below meth c E A 2 kc ks Qs σ 35 L []) (σ : MS) (hw : w_X0_init_T Q σ) : V p l e rm_X0_init s m args below meth c E A 2 kc ks Qs σ 27 [some (.ref (E.2.1 9)), none] [] := by
  unfold w_X0_init_T at hw
  refine vAload_n (pc := 27) hc dX0_init_27 rfl ?_
  refine vGetR (pc := 28) (k := 9) (j := 1) hc rfl inG0 (hc.G 9 (by decide)) rfl (Nat.le_of_ble_eq_true rfl) tw_254 rfl dX0_init_28 ?_
  refine vIconst (pc := 31) (v := (-1)) hc dX0_init_31 ki_m1 ?_
  refine vCallSv (pc := 32) (st := []) hc ok_J7_fill_53178 tw_252 (c_J7_fill_53178 hc.2.2.2.2.2.2.1 hc.G hw) rfl ⟨rfl, rfl⟩ ⟨Nat.le_of_ble_eq_true rfl, Nat.le_of_ble_eq_true rfl⟩ rfl (Nat.le_of_ble_eq_true rfl) dX0_init_32 (fun σ32 hw => ?_)
  exact hR _ _ hw

def w_X7_init_T (Q : MS → Prop) (σ : MS) : Prop := (∀ σ78, σ78 = mst σ 8 6 1441 → Q σ78)
set_option maxRecDepth 100000 in
set_option maxHeartbeats 4000000 in
theorem t_X7_init_T {p : Program} {l : Launch} {e : Env} {s : State} {m : MethodId} {args : Array Value} {below : List Frame} {meth : Method} {c : Code} {E : WD} {A : Nat → Prop} {kc ks : Nat} {Qs : State → Prop} {Q : MS → Prop} (hc : Cx p rm_X7_init s m args meth c E A cX7_init RX7 none 3 kc ks odm) (hR : ∀ (σ : MS) (L : List (Option Value)), Q σ → V p l e rm_X7_init s m args below meth c E A 3 kc ks Qs σ 81 L []) (σ : MS) (hw : w_X7_init_T Q σ) : V p l e rm_X7_init s m args below meth c E A 3 kc ks Qs σ 71 [some (.ref (E.2.1 6)), none, none] [] := by
  unfold w_X7_init_T at hw
  refine vAload_n (pc := 71) hc dX7_init_71 rfl ?_
  refine vGetR (pc := 72) (k := 6) (j := 3) hc rfl inG7 (hc.G 6 (by decide)) rfl (Nat.le_of_ble_eq_true rfl) tw_221 rfl dX7_init_72 ?_
  refine vSipush (pc := 75) (v := 1441) hc dX7_init_75 ks_1441 ?_
  refine vPutN (pc := 78) (k := 8) (j := 6) hc rfl inG6 (hc.G 8 (by decide)) rfl (Nat.le_of_ble_eq_true rfl) tyX6 tyX6_ok nmX6 nw_31 rfl rfl rfl rfl dX7_init_78 (fun σ78 eσ78 => ?_)
  have hw := hw σ78 eσ78
  exact hR _ _ hw

