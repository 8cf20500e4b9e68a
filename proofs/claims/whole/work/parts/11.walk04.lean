def w_X8_mornings_J83 (Q : Int32 → MS → Prop) (x1 : Int32) (σ : MS) : Prop := (∀ σ90, σ90 = mst σ 0 7 ((σ 0 7) + x1) → Q x1 σ90)
def w_X8_mornings_H45 (Q : Int32 → MS → Prop) : Nat → Int32 → Int32 → MS → Prop
  | 0, _, _, _ => False
  | n + 1, x1, x2, σ => ((9 ≤ x2 → w_X8_mornings_J83 Q x1 σ) ∧ (¬ 9 ≤ x2 → w_X2_at x2 σ (fun r56 σ56 => ((37 ≤ r56 ∧ r56 < 46) ∧ w_X4_pointsEachMorning x2 σ56 (fun r69 σ69 => (∀ σ74, σ74 = mst σ69 r56 10 ((σ56 r56 10) + (x1 * r69)) → w_X8_mornings_H45 Q n x1 (x2 + 1) σ74))))))
def w_X8_mornings_E (Q : Int32 → MS → Prop) (x1 : Int32) (σ : MS) : Prop := w_X4_isMade  σ (fun r4 σ4 => ((¬ r4 = 0 → ((1 ≤ x1 → ((x1 ≤ 1000 → (∃ n45, w_X8_mornings_H45 Q n45 x1 0 σ4)) ∧ (¬ x1 ≤ 1000 → w_X8_refuse (-6) σ4 (fun r39 σ39 => Q r39 σ39)))) ∧ (¬ 1 ≤ x1 → w_X8_refuse (-4) σ4 (fun r25 σ25 => Q r25 σ25)))) ∧ (r4 = 0 → w_X8_refuse (-3) σ4 (fun r13 σ13 => Q r13 σ13))))
abbrev w_X8_mornings (x1 : Int32) (σ : MS) (Q : Int32 → MS → Prop) : Prop := w_X8_mornings_E Q x1 σ
abbrev rm_X8_mornings : Room := { frames := 2, cells := 0, slots := 0, locals := 42 }
theorem ok_X8_mornings : OkV yX8_mornings RX8 cX8_mornings 3 (some .int) 1 := ⟨tw_654, tw_655, tw_45, tw_656, rfl, by decide, by decide, by decide +kernel⟩
set_option maxRecDepth 100000 in
set_option maxHeartbeats 4000000 in
theorem t_X8_mornings_J83 {p : Program} {l : Launch} {e : Env} {s : State} {m : MethodId} {args : Array Value} {below : List Frame} {meth : Method} {c : Code} {E : WD} {Q : Int32 → MS → Prop} (hc : Cx p rm_X8_mornings s m args meth c E (AD E) cX8_mornings RX8 (some .int) 3 0 0 fdm) (x1 : Int32) (σ : MS) (hw : w_X8_mornings_J83 Q x1 σ) : V p l e rm_X8_mornings s m args below meth c E (AD E) 3 0 0 (MQ below (va_Qi Q (BW E) (AD E)) args s 0 0 (AD E)) σ 83 [some (.ref (E.2.1 0)), some (.int x1), none] [] := by
  unfold w_X8_mornings_J83 at hw
  refine vAload_n (pc := 83) hc dX8_mornings_83 rfl ?_
  refine vDup (pc := 84) hc dX8_mornings_84 rfl ?_
  refine vGetI (pc := 85) (k := 0) (j := 7) hc rfl inG8 (hc.G 0 (Nat.le_of_ble_eq_true rfl)) rfl (Nat.le_of_ble_eq_true rfl) tw_314 rfl dX8_mornings_85 ?_
  refine vIload_n (pc := 88) hc dX8_mornings_88 rfl ?_
  refine vIadd (pc := 89) hc dX8_mornings_89 ?_
  refine vPut (pc := 90) (k := 0) (j := 7) hc rfl inG8 (hc.G 0 (Nat.le_of_ble_eq_true rfl)) rfl (Nat.le_of_ble_eq_true rfl) tyX8 tyX8_ok nmX8 tw_314 rfl rfl rfl rfl dX8_mornings_90 (fun σ90 eσ90 => ?_)
  have hw := hw σ90 eσ90
  refine vIload_n (pc := 93) hc dX8_mornings_93 rfl ?_
  exact vIret (pc := 94) hc dX8_mornings_94 hw
set_option maxRecDepth 100000 in
set_option maxHeartbeats 4000000 in
theorem t_X8_mornings_H45 {p : Program} {l : Launch} {e : Env} {s : State} {m : MethodId} {args : Array Value} {below : List Frame} {meth : Method} {c : Code} {E : WD} {Q : Int32 → MS → Prop} (hc : Cx p rm_X8_mornings s m args meth c E (AD E) cX8_mornings RX8 (some .int) 3 0 0 fdm) : ∀ (n : Nat) (x1 x2 : Int32) (σ : MS), w_X8_mornings_H45 Q n x1 x2 σ → V p l e rm_X8_mornings s m args below meth c E (AD E) 3 0 0 (MQ below (va_Qi Q (BW E) (AD E)) args s 0 0 (AD E)) σ 45 [some (.ref (E.2.1 0)), some (.int x1), some (.int x2)] [] := by
  intro n
  induction n with
  | zero =>
    intro x1 x2 σ hw
    exact hw.elim
  | succ n ih =>
    intro x1 x2 σ hw
    unfold w_X8_mornings_H45 at hw
    refine vIload_n (pc := 45) hc dX8_mornings_45 rfl ?_
    refine vBipush (pc := 46) (v := 9) hc dX8_mornings_46 kb_9 ?_
    refine vIcmp_ge (pc := 48) (tgt := 83) hc dX8_mornings_48 (by decide) (fun c48 => ?_) (fun c48 => ?_)
    · have hw := hw.1 c48
      exact vMono (L2 := [some (.ref (E.2.1 0)), some (.int x1), none]) (show subL [some (.ref (E.2.1 0)), some (.int x1), none] [some (.ref (E.2.1 0)), some (.int x1), some (.int x2)] from ⟨rfl, ⟨rfl, trivial⟩⟩) (t_X8_mornings_J83 hc  x1 _ hw)
    · have hw := hw.2 c48
      refine vAload_n (pc := 51) hc dX8_mornings_51 rfl ?_
      refine vGetR (pc := 52) (k := 0) (j := 1) hc rfl inG8 (hc.G 0 (Nat.le_of_ble_eq_true rfl)) rfl (Nat.le_of_ble_eq_true rfl) tw_308 rfl dX8_mornings_52 ?_
      refine vIload_n (pc := 55) hc dX8_mornings_55 rfl ?_
      refine vCallVr (pc := 56) (st := []) hc ok_X2_at tw_371 (c_X2_at hc.2.2.2.2.2.2.1 hc.G hw) (hc.G 4 (Nat.le_of_ble_eq_true rfl)) rfl rfl rfl ⟨rfl, rfl⟩ ⟨Nat.le_of_ble_eq_true rfl, Nat.le_of_ble_eq_true rfl⟩ rfl (Nat.le_of_ble_eq_true rfl) dX8_mornings_56 (fun r56 σ56 hw => ?_)
      refine vDup (pc := 59) hc dX8_mornings_59 rfl ?_
      obtain ⟨hp1, hw⟩ := hw
      refine vGetIN (pc := 60) (k := r56) (j := 10) hc (pn_c hp1) inG3 (hc.G _ (pn_N hp1)) (pn_0 hp1) (Nat.le_of_ble_eq_true rfl) nw_19 (pn_j hp1 rfl) dX8_mornings_60 ?_
      refine vIload_n (pc := 63) hc dX8_mornings_63 rfl ?_
      refine vAload_n (pc := 64) hc dX8_mornings_64 rfl ?_
      refine vGetR (pc := 65) (k := 0) (j := 5) hc rfl inG8 (hc.G 0 (Nat.le_of_ble_eq_true rfl)) rfl (Nat.le_of_ble_eq_true rfl) tw_312 rfl dX8_mornings_65 ?_
      refine vIload_n (pc := 68) hc dX8_mornings_68 rfl ?_
      refine vCallVi (pc := 69) (st := [(.int x1), (.int (σ56 r56 10)), (.ref (E.2.1 r56))]) hc ok_X4_pointsEachMorning tw_657 (c_X4_pointsEachMorning hc.2.2.2.2.2.2.1 hc.G hw) (hc.G 11 (Nat.le_of_ble_eq_true rfl)) rfl rfl rfl ⟨rfl, rfl⟩ ⟨Nat.le_of_ble_eq_true rfl, Nat.le_of_ble_eq_true rfl⟩ rfl (Nat.le_of_ble_eq_true rfl) dX8_mornings_69 (fun r69 σ69 hw => ?_)
      refine vImul (pc := 72) hc dX8_mornings_72 ?_
      refine vIadd (pc := 73) hc dX8_mornings_73 ?_
      refine vPutN (pc := 74) (k := r56) (j := 10) hc (pn_c hp1) inG3 (hc.G _ (pn_N hp1)) (pn_0 hp1) (Nat.le_of_ble_eq_true rfl) tyX3 tyX3_ok nmX3 nw_19 rfl (pn_j hp1 rfl) rfl rfl dX8_mornings_74 (fun σ74 eσ74 => ?_)
      have hw := hw σ74 eσ74
      refine vIinc (pc := 77) (v := x2 + 1) (L2 := [some (.ref (E.2.1 0)), some (.int x1), some (.int (x2 + 1))]) hc dX8_mornings_77 rfl rfl rfl (Nat.le_of_ble_eq_true rfl) ?_
      refine vGoto (pc := 80) (tgt := 45) hc dX8_mornings_80 (by decide) ?_
      exact vMono (L2 := [some (.ref (E.2.1 0)), some (.int x1), some (.int (x2 + 1))]) (show subL [some (.ref (E.2.1 0)), some (.int x1), some (.int (x2 + 1))] [some (.ref (E.2.1 0)), some (.int x1), some (.int (x2 + 1))] from ⟨rfl, ⟨rfl, ⟨rfl, trivial⟩⟩⟩) (ih x1 (x2 + 1) _ hw)
set_option maxRecDepth 100000 in
set_option maxHeartbeats 4000000 in
theorem t_X8_mornings_E {p : Program} {l : Launch} {e : Env} {s : State} {m : MethodId} {args : Array Value} {below : List Frame} {meth : Method} {c : Code} {E : WD} {Q : Int32 → MS → Prop} (hc : Cx p rm_X8_mornings s m args meth c E (AD E) cX8_mornings RX8 (some .int) 3 0 0 fdm) (x1 : Int32) (σ : MS) (hw : w_X8_mornings_E Q x1 σ) : V p l e rm_X8_mornings s m args below meth c E (AD E) 3 0 0 (MQ below (va_Qi Q (BW E) (AD E)) args s 0 0 (AD E)) σ 0 [some (.ref (E.2.1 0)), some (.int x1), none] [] := by
  unfold w_X8_mornings_E at hw
  refine vAload_n (pc := 0) hc dX8_mornings_0 rfl ?_
  refine vGetR (pc := 1) (k := 0) (j := 5) hc rfl inG8 (hc.G 0 (Nat.le_of_ble_eq_true rfl)) rfl (Nat.le_of_ble_eq_true rfl) tw_312 rfl dX8_mornings_1 ?_
  refine vCallVi (pc := 4) (st := []) hc ok_X4_isMade tw_604 (c_X4_isMade hc.2.2.2.2.2.2.1 hc.G hw) (hc.G 11 (Nat.le_of_ble_eq_true rfl)) rfl rfl rfl ⟨rfl, rfl⟩ ⟨Nat.le_of_ble_eq_true rfl, Nat.le_of_ble_eq_true rfl⟩ rfl (Nat.le_of_ble_eq_true rfl) dX8_mornings_4 (fun r4 σ4 hw => ?_)
  refine vIf_ne (pc := 7) (tgt := 17) hc dX8_mornings_7 (by decide) (fun c7 => ?_) (fun c7 => ?_)
  · have hw := hw.1 c7
    refine vIload_n (pc := 17) hc dX8_mornings_17 rfl ?_
    refine vIconst (pc := 18) (v := 1) hc dX8_mornings_18 ki_1 ?_
    refine vIcmp_ge (pc := 19) (tgt := 29) hc dX8_mornings_19 (by decide) (fun c19 => ?_) (fun c19 => ?_)
    · have hw := hw.1 c19
      refine vIload_n (pc := 29) hc dX8_mornings_29 rfl ?_
      refine vSipush (pc := 30) (v := 1000) hc dX8_mornings_30 ks_1000 ?_
      refine vIcmp_le (pc := 33) (tgt := 43) hc dX8_mornings_33 (by decide) (fun c33 => ?_) (fun c33 => ?_)
      · have hw := hw.1 c33
        refine vIconst (pc := 43) (v := 0) hc dX8_mornings_43 ki_0 ?_
        refine vIstore_n (pc := 44) (L2 := [some (.ref (E.2.1 0)), some (.int x1), some (.int 0)]) hc dX8_mornings_44 rfl (Nat.le_of_ble_eq_true rfl) ?_
        obtain ⟨n45, hw⟩ := hw
        exact vMono (L2 := [some (.ref (E.2.1 0)), some (.int x1), some (.int 0)]) (show subL [some (.ref (E.2.1 0)), some (.int x1), some (.int 0)] [some (.ref (E.2.1 0)), some (.int x1), some (.int 0)] from ⟨rfl, ⟨rfl, ⟨rfl, trivial⟩⟩⟩) (t_X8_mornings_H45 hc  n45 x1 0 _ hw)
      · have hw := hw.2 c33
        refine vAload_n (pc := 36) hc dX8_mornings_36 rfl ?_
        refine vBipush (pc := 37) (v := (-6)) hc dX8_mornings_37 kb_m6 ?_
        refine vCallVi (pc := 39) (st := []) hc ok_X8_refuse tw_339 (c_X8_refuse hc.2.2.2.2.2.2.1 hc.G hw) (hc.G 0 (Nat.le_of_ble_eq_true rfl)) rfl rfl rfl ⟨rfl, rfl⟩ ⟨Nat.le_of_ble_eq_true rfl, Nat.le_of_ble_eq_true rfl⟩ rfl (Nat.le_of_ble_eq_true rfl) dX8_mornings_39 (fun r39 σ39 hw => ?_)
        exact vIret (pc := 42) hc dX8_mornings_42 hw
    · have hw := hw.2 c19
      refine vAload_n (pc := 22) hc dX8_mornings_22 rfl ?_
      refine vBipush (pc := 23) (v := (-4)) hc dX8_mornings_23 kb_m4 ?_
      refine vCallVi (pc := 25) (st := []) hc ok_X8_refuse tw_339 (c_X8_refuse hc.2.2.2.2.2.2.1 hc.G hw) (hc.G 0 (Nat.le_of_ble_eq_true rfl)) rfl rfl rfl ⟨rfl, rfl⟩ ⟨Nat.le_of_ble_eq_true rfl, Nat.le_of_ble_eq_true rfl⟩ rfl (Nat.le_of_ble_eq_true rfl) dX8_mornings_25 (fun r25 σ25 hw => ?_)
      exact vIret (pc := 28) hc dX8_mornings_28 hw
  · have hw := hw.2 c7
    refine vAload_n (pc := 10) hc dX8_mornings_10 rfl ?_
    refine vBipush (pc := 11) (v := (-3)) hc dX8_mornings_11 kb_m3 ?_
    refine vCallVi (pc := 13) (st := []) hc ok_X8_refuse tw_339 (c_X8_refuse hc.2.2.2.2.2.2.1 hc.G hw) (hc.G 0 (Nat.le_of_ble_eq_true rfl)) rfl rfl rfl ⟨rfl, rfl⟩ ⟨Nat.le_of_ble_eq_true rfl, Nat.le_of_ble_eq_true rfl⟩ rfl (Nat.le_of_ble_eq_true rfl) dX8_mornings_13 (fun r13 σ13 hw => ?_)
    exact vIret (pc := 16) hc dX8_mornings_16 hw
set_option maxRecDepth 100000 in
set_option maxHeartbeats 4000000 in
theorem c_X8_mornings {l : Launch} {E : WD} (hE : inj E) (hG : ∀ k, fdm k → k ∈ E.2.2.2) {x1 : Int32} {σ : MS} {Q : Int32 → MS → Prop} (hw : w_X8_mornings x1 σ Q) : Ci l E yX8_mornings cX8_mornings 3 (some .int) rm_X8_mornings [.ref (E.2.1 0), .int x1] σ Q :=
  Ct_of (by decide) rfl (by
    intro v hv
    simp only [List.mem_cons, List.not_mem_nil, or_false] at hv
    rcases hv with rfl | rfl <;> rfl) (Nat.le_of_ble_eq_true rfl) hE hG (fun p e s m below meth c hc => t_X8_mornings_E hc x1 σ hw)
def w_X8_isOpen_E (Q : Int32 → MS → Prop) (x1 : Int32) (σ : MS) : Prop := w_X4_poolAt x1 σ (fun r5 σ5 => w_X4_leads x1 σ5 (fun r14 σ14 => ((r14 = 0 → Q 0 σ14) ∧ (¬ r14 = 0 → w_X2_someAway r5 σ14 (fun r25 σ25 => ((¬ r25 = 0 → Q 0 σ25) ∧ (r25 = 0 → w_J6_bitCount_0f7a4 r5 σ25 (fun r32 σ32 => ((4 ≤ r32 → Q 0 σ32) ∧ (¬ 4 ≤ r32 → Q 1 σ32))))))))))
abbrev w_X8_isOpen (x1 : Int32) (σ : MS) (Q : Int32 → MS → Prop) : Prop := w_X8_isOpen_E Q x1 σ
abbrev rm_X8_isOpen : Room := { frames := 2, cells := 0, slots := 0, locals := 43 }
theorem ok_X8_isOpen : OkV yX8_isOpen RX8 cX8_isOpen 3 (some .boolean) 1 := ⟨tw_680, tw_20, tw_45, tw_681, rfl, by decide, by decide, by decide +kernel⟩
set_option maxRecDepth 100000 in
set_option maxHeartbeats 4000000 in
theorem t_X8_isOpen_E {p : Program} {l : Launch} {e : Env} {s : State} {m : MethodId} {args : Array Value} {below : List Frame} {meth : Method} {c : Code} {E : WD} {Q : Int32 → MS → Prop} (hc : Cx p rm_X8_isOpen s m args meth c E (AD E) cX8_isOpen RX8 (some .boolean) 3 0 0 fdm) (x1 : Int32) (σ : MS) (hw : w_X8_isOpen_E Q x1 σ) : V p l e rm_X8_isOpen s m args below meth c E (AD E) 3 0 0 (MQ below (va_Qi Q (BW E) (AD E)) args s 0 0 (AD E)) σ 0 [some (.ref (E.2.1 0)), some (.int x1), none] [] := by
  unfold w_X8_isOpen_E at hw
  refine vAload_n (pc := 0) hc dX8_isOpen_0 rfl ?_
  refine vGetR (pc := 1) (k := 0) (j := 5) hc rfl inG8 (hc.G 0 (Nat.le_of_ble_eq_true rfl)) rfl (Nat.le_of_ble_eq_true rfl) tw_312 rfl dX8_isOpen_1 ?_
  refine vIload_n (pc := 4) hc dX8_isOpen_4 rfl ?_
  refine vCallVi (pc := 5) (st := []) hc ok_X4_poolAt tw_641 (c_X4_poolAt hc.2.2.2.2.2.2.1 hc.G hw) (hc.G 11 (Nat.le_of_ble_eq_true rfl)) rfl rfl rfl ⟨rfl, rfl⟩ ⟨Nat.le_of_ble_eq_true rfl, Nat.le_of_ble_eq_true rfl⟩ rfl (Nat.le_of_ble_eq_true rfl) dX8_isOpen_5 (fun r5 σ5 hw => ?_)
  refine vIstore_n (pc := 8) (L2 := [some (.ref (E.2.1 0)), some (.int x1), some (.int r5)]) hc dX8_isOpen_8 rfl (Nat.le_of_ble_eq_true rfl) ?_
  refine vAload_n (pc := 9) hc dX8_isOpen_9 rfl ?_
  refine vGetR (pc := 10) (k := 0) (j := 5) hc rfl inG8 (hc.G 0 (Nat.le_of_ble_eq_true rfl)) rfl (Nat.le_of_ble_eq_true rfl) tw_312 rfl dX8_isOpen_10 ?_
  refine vIload_n (pc := 13) hc dX8_isOpen_13 rfl ?_
  refine vCallVi (pc := 14) (st := []) hc ok_X4_leads tw_640 (c_X4_leads hc.2.2.2.2.2.2.1 hc.G hw) (hc.G 11 (Nat.le_of_ble_eq_true rfl)) rfl rfl rfl ⟨rfl, rfl⟩ ⟨Nat.le_of_ble_eq_true rfl, Nat.le_of_ble_eq_true rfl⟩ rfl (Nat.le_of_ble_eq_true rfl) dX8_isOpen_14 (fun r14 σ14 hw => ?_)
  refine vIf_eq (pc := 17) (tgt := 43) hc dX8_isOpen_17 (by decide) (fun c17 => ?_) (fun c17 => ?_)
  · have hw := hw.1 c17
    refine vIconst (pc := 43) (v := 0) hc dX8_isOpen_43 ki_0 ?_
    exact vZret (pc := 44) hc dX8_isOpen_44 (Or.inl rfl) hw
  · have hw := hw.2 c17
    refine vAload_n (pc := 20) hc dX8_isOpen_20 rfl ?_
    refine vGetR (pc := 21) (k := 0) (j := 1) hc rfl inG8 (hc.G 0 (Nat.le_of_ble_eq_true rfl)) rfl (Nat.le_of_ble_eq_true rfl) tw_308 rfl dX8_isOpen_21 ?_
    refine vIload_n (pc := 24) hc dX8_isOpen_24 rfl ?_
    refine vCallVi (pc := 25) (st := []) hc ok_X2_someAway tw_424 (c_X2_someAway hc.2.2.2.2.2.2.1 hc.G hw) (hc.G 4 (Nat.le_of_ble_eq_true rfl)) rfl rfl rfl ⟨rfl, rfl⟩ ⟨Nat.le_of_ble_eq_true rfl, Nat.le_of_ble_eq_true rfl⟩ rfl (Nat.le_of_ble_eq_true rfl) dX8_isOpen_25 (fun r25 σ25 hw => ?_)
    refine vIf_ne (pc := 28) (tgt := 43) hc dX8_isOpen_28 (by decide) (fun c28 => ?_) (fun c28 => ?_)
    · have hw := hw.1 c28
      refine vIconst (pc := 43) (v := 0) hc dX8_isOpen_43 ki_0 ?_
      exact vZret (pc := 44) hc dX8_isOpen_44 (Or.inl rfl) hw
    · have hw := hw.2 c28
      refine vIload_n (pc := 31) hc dX8_isOpen_31 rfl ?_
      refine vCallSi (pc := 32) (st := []) hc ok_J6_bitCount_0f7a4 tw_418 (c_J6_bitCount_0f7a4 hc.2.2.2.2.2.2.1 hc.G hw) rfl ⟨rfl, rfl⟩ ⟨Nat.le_of_ble_eq_true rfl, Nat.le_of_ble_eq_true rfl⟩ rfl (Nat.le_of_ble_eq_true rfl) dX8_isOpen_32 (fun r32 σ32 hw => ?_)
      refine vIconst (pc := 35) (v := 4) hc dX8_isOpen_35 ki_4 ?_
      refine vIcmp_ge (pc := 36) (tgt := 43) hc dX8_isOpen_36 (by decide) (fun c36 => ?_) (fun c36 => ?_)
      · have hw := hw.1 c36
        refine vIconst (pc := 43) (v := 0) hc dX8_isOpen_43 ki_0 ?_
        exact vZret (pc := 44) hc dX8_isOpen_44 (Or.inl rfl) hw
      · have hw := hw.2 c36
        refine vIconst (pc := 39) (v := 1) hc dX8_isOpen_39 ki_1 ?_
        refine vGoto (pc := 40) (tgt := 44) hc dX8_isOpen_40 (by decide) ?_
        exact vZret (pc := 44) hc dX8_isOpen_44 (Or.inr rfl) hw
set_option maxRecDepth 100000 in
set_option maxHeartbeats 4000000 in
theorem c_X8_isOpen {l : Launch} {E : WD} (hE : inj E) (hG : ∀ k, fdm k → k ∈ E.2.2.2) {x1 : Int32} {σ : MS} {Q : Int32 → MS → Prop} (hw : w_X8_isOpen x1 σ Q) : Ci l E yX8_isOpen cX8_isOpen 3 (some .boolean) rm_X8_isOpen [.ref (E.2.1 0), .int x1] σ Q :=
  Ct_of (by decide) rfl (by
    intro v hv
    simp only [List.mem_cons, List.not_mem_nil, or_false] at hv
    rcases hv with rfl | rfl <;> rfl) (Nat.le_of_ble_eq_true rfl) hE hG (fun p e s m below meth c hc => t_X8_isOpen_E hc x1 σ hw)
def w_X8_findPlace_J67 (Q : Int32 → MS → Prop) (x1 : Int32) (σ : MS) : Prop := w_X8_putIntoPlan ((1 : Int32) <<< (x1 &&& 31)) x1 σ (fun r72 σ72 => (zb r72 ∧ Q r72 σ72))
def w_X8_findPlace_H18 (Q : Int32 → MS → Prop) : Nat → Int32 → Int32 → MS → Prop
  | 0, _, _, _ => False
  | n + 1, x1, x2, σ => ((9 ≤ x2 → w_X8_findPlace_J67 Q x1 σ) ∧ (¬ 9 ≤ x2 → w_X8_isOpen x2 σ (fun r26 σ26 => ((r26 = 0 → w_X8_findPlace_H18 Q n x1 (x2 + 1) σ26) ∧ (¬ r26 = 0 → w_X4_poolAt x2 σ26 (fun r38 σ38 => w_X4_driverAt x2 σ38 (fun r50 σ50 => w_X8_putIntoPlan (r38 ||| ((1 : Int32) <<< (x1 &&& 31))) r50 σ50 (fun r53 σ53 => ((r53 = 0 → w_X8_findPlace_H18 Q n x1 (x2 + 1) σ53) ∧ (¬ r53 = 0 → Q 1 σ53))))))))))
def w_X8_findPlace_E (Q : Int32 → MS → Prop) (x1 : Int32) (σ : MS) : Prop := w_X2_at x1 σ (fun r5 σ5 => ((37 ≤ r5 ∧ r5 < 46) ∧ (((σ5 r5 7) = 0 → (∃ n18, w_X8_findPlace_H18 Q n18 x1 0 σ5)) ∧ (¬ (σ5 r5 7) = 0 → Q 0 σ5))))
abbrev w_X8_findPlace (x1 : Int32) (σ : MS) (Q : Int32 → MS → Prop) : Prop := w_X8_findPlace_E Q x1 σ
abbrev rm_X8_findPlace : Room := { frames := 17, cells := 0, slots := 0, locals := 504 }
theorem ok_X8_findPlace : OkV yX8_findPlace RX8 cX8_findPlace 3 (some .boolean) 1 := ⟨tw_676, tw_19, tw_45, tw_677, rfl, by decide, by decide, by decide +kernel⟩
set_option maxRecDepth 100000 in
set_option maxHeartbeats 4000000 in
theorem t_X8_findPlace_J67 {p : Program} {l : Launch} {e : Env} {s : State} {m : MethodId} {args : Array Value} {below : List Frame} {meth : Method} {c : Code} {E : WD} {Q : Int32 → MS → Prop} (hc : Cx p rm_X8_findPlace s m args meth c E (AD E) cX8_findPlace RX8 (some .boolean) 3 0 0 fdm) (x1 : Int32) (σ : MS) (hw : w_X8_findPlace_J67 Q x1 σ) : V p l e rm_X8_findPlace s m args below meth c E (AD E) 3 0 0 (MQ below (va_Qi Q (BW E) (AD E)) args s 0 0 (AD E)) σ 67 [some (.ref (E.2.1 0)), some (.int x1), none] [] := by
  unfold w_X8_findPlace_J67 at hw
  refine vAload_n (pc := 67) hc dX8_findPlace_67 rfl ?_
  refine vIconst (pc := 68) (v := 1) hc dX8_findPlace_68 ki_1 ?_
  refine vIload_n (pc := 69) hc dX8_findPlace_69 rfl ?_
  refine vIshl (pc := 70) hc dX8_findPlace_70 ?_
  refine vIload_n (pc := 71) hc dX8_findPlace_71 rfl ?_
  refine vCallVi (pc := 72) (st := []) hc ok_X8_putIntoPlan tw_584 (c_X8_putIntoPlan hc.2.2.2.2.2.2.1 hc.G hw) (hc.G 0 (Nat.le_of_ble_eq_true rfl)) rfl rfl rfl ⟨rfl, rfl⟩ ⟨Nat.le_of_ble_eq_true rfl, Nat.le_of_ble_eq_true rfl⟩ rfl (Nat.le_of_ble_eq_true rfl) dX8_findPlace_72 (fun r72 σ72 hw => ?_)
  exact vZret (pc := 75) hc dX8_findPlace_75 hw.1 hw.2
set_option maxRecDepth 100000 in
set_option maxHeartbeats 4000000 in
theorem t_X8_findPlace_H18 {p : Program} {l : Launch} {e : Env} {s : State} {m : MethodId} {args : Array Value} {below : List Frame} {meth : Method} {c : Code} {E : WD} {Q : Int32 → MS → Prop} (hc : Cx p rm_X8_findPlace s m args meth c E (AD E) cX8_findPlace RX8 (some .boolean) 3 0 0 fdm) : ∀ (n : Nat) (x1 x2 : Int32) (σ : MS), w_X8_findPlace_H18 Q n x1 x2 σ → V p l e rm_X8_findPlace s m args below meth c E (AD E) 3 0 0 (MQ below (va_Qi Q (BW E) (AD E)) args s 0 0 (AD E)) σ 18 [some (.ref (E.2.1 0)), some (.int x1), some (.int x2)] [] := by
  intro n
  induction n with
  | zero =>
    intro x1 x2 σ hw
    exact hw.elim
  | succ n ih =>
    intro x1 x2 σ hw
    unfold w_X8_findPlace_H18 at hw
    refine vIload_n (pc := 18) hc dX8_findPlace_18 rfl ?_
    refine vBipush (pc := 19) (v := 9) hc dX8_findPlace_19 kb_9 ?_
    refine vIcmp_ge (pc := 21) (tgt := 67) hc dX8_findPlace_21 (by decide) (fun c21 => ?_) (fun c21 => ?_)
    · have hw := hw.1 c21
      exact vMono (L2 := [some (.ref (E.2.1 0)), some (.int x1), none]) (show subL [some (.ref (E.2.1 0)), some (.int x1), none] [some (.ref (E.2.1 0)), some (.int x1), some (.int x2)] from ⟨rfl, ⟨rfl, trivial⟩⟩) (t_X8_findPlace_J67 hc  x1 _ hw)
    · have hw := hw.2 c21
      refine vAload_n (pc := 24) hc dX8_findPlace_24 rfl ?_
      refine vIload_n (pc := 25) hc dX8_findPlace_25 rfl ?_
      refine vCallVi (pc := 26) (st := []) hc ok_X8_isOpen tw_678 (c_X8_isOpen hc.2.2.2.2.2.2.1 hc.G hw) (hc.G 0 (Nat.le_of_ble_eq_true rfl)) rfl rfl rfl ⟨rfl, rfl⟩ ⟨Nat.le_of_ble_eq_true rfl, Nat.le_of_ble_eq_true rfl⟩ rfl (Nat.le_of_ble_eq_true rfl) dX8_findPlace_26 (fun r26 σ26 hw => ?_)
      refine vIf_eq (pc := 29) (tgt := 61) hc dX8_findPlace_29 (by decide) (fun c29 => ?_) (fun c29 => ?_)
      · have hw := hw.1 c29
        refine vIinc (pc := 61) (v := x2 + 1) (L2 := [some (.ref (E.2.1 0)), some (.int x1), some (.int (x2 + 1))]) hc dX8_findPlace_61 rfl rfl rfl (Nat.le_of_ble_eq_true rfl) ?_
        refine vGoto (pc := 64) (tgt := 18) hc dX8_findPlace_64 (by decide) ?_
        exact vMono (L2 := [some (.ref (E.2.1 0)), some (.int x1), some (.int (x2 + 1))]) (show subL [some (.ref (E.2.1 0)), some (.int x1), some (.int (x2 + 1))] [some (.ref (E.2.1 0)), some (.int x1), some (.int (x2 + 1))] from ⟨rfl, ⟨rfl, ⟨rfl, trivial⟩⟩⟩) (ih x1 (x2 + 1) _ hw)
      · have hw := hw.2 c29
        refine vAload_n (pc := 32) hc dX8_findPlace_32 rfl ?_
        refine vAload_n (pc := 33) hc dX8_findPlace_33 rfl ?_
        refine vGetR (pc := 34) (k := 0) (j := 5) hc rfl inG8 (hc.G 0 (Nat.le_of_ble_eq_true rfl)) rfl (Nat.le_of_ble_eq_true rfl) tw_312 rfl dX8_findPlace_34 ?_
        refine vIload_n (pc := 37) hc dX8_findPlace_37 rfl ?_
        refine vCallVi (pc := 38) (st := [(.ref (E.2.1 0))]) hc ok_X4_poolAt tw_641 (c_X4_poolAt hc.2.2.2.2.2.2.1 hc.G hw) (hc.G 11 (Nat.le_of_ble_eq_true rfl)) rfl rfl rfl ⟨rfl, rfl⟩ ⟨Nat.le_of_ble_eq_true rfl, Nat.le_of_ble_eq_true rfl⟩ rfl (Nat.le_of_ble_eq_true rfl) dX8_findPlace_38 (fun r38 σ38 hw => ?_)
        refine vIconst (pc := 41) (v := 1) hc dX8_findPlace_41 ki_1 ?_
        refine vIload_n (pc := 42) hc dX8_findPlace_42 rfl ?_
        refine vIshl (pc := 43) hc dX8_findPlace_43 ?_
        refine vIor (pc := 44) hc dX8_findPlace_44 ?_
        refine vAload_n (pc := 45) hc dX8_findPlace_45 rfl ?_
        refine vGetR (pc := 46) (k := 0) (j := 5) hc rfl inG8 (hc.G 0 (Nat.le_of_ble_eq_true rfl)) rfl (Nat.le_of_ble_eq_true rfl) tw_312 rfl dX8_findPlace_46 ?_
        refine vIload_n (pc := 49) hc dX8_findPlace_49 rfl ?_
        refine vCallVi (pc := 50) (st := [(.int (r38 ||| ((1 : Int32) <<< (x1 &&& 31)))), (.ref (E.2.1 0))]) hc ok_X4_driverAt tw_645 (c_X4_driverAt hc.2.2.2.2.2.2.1 hc.G hw) (hc.G 11 (Nat.le_of_ble_eq_true rfl)) rfl rfl rfl ⟨rfl, rfl⟩ ⟨Nat.le_of_ble_eq_true rfl, Nat.le_of_ble_eq_true rfl⟩ rfl (Nat.le_of_ble_eq_true rfl) dX8_findPlace_50 (fun r50 σ50 hw => ?_)
        refine vCallVi (pc := 53) (st := []) hc ok_X8_putIntoPlan tw_584 (c_X8_putIntoPlan hc.2.2.2.2.2.2.1 hc.G hw) (hc.G 0 (Nat.le_of_ble_eq_true rfl)) rfl rfl rfl ⟨rfl, rfl⟩ ⟨Nat.le_of_ble_eq_true rfl, Nat.le_of_ble_eq_true rfl⟩ rfl (Nat.le_of_ble_eq_true rfl) dX8_findPlace_53 (fun r53 σ53 hw => ?_)
        refine vIf_eq (pc := 56) (tgt := 61) hc dX8_findPlace_56 (by decide) (fun c56 => ?_) (fun c56 => ?_)
        · have hw := hw.1 c56
          refine vIinc (pc := 61) (v := x2 + 1) (L2 := [some (.ref (E.2.1 0)), some (.int x1), some (.int (x2 + 1))]) hc dX8_findPlace_61 rfl rfl rfl (Nat.le_of_ble_eq_true rfl) ?_
          refine vGoto (pc := 64) (tgt := 18) hc dX8_findPlace_64 (by decide) ?_
          exact vMono (L2 := [some (.ref (E.2.1 0)), some (.int x1), some (.int (x2 + 1))]) (show subL [some (.ref (E.2.1 0)), some (.int x1), some (.int (x2 + 1))] [some (.ref (E.2.1 0)), some (.int x1), some (.int (x2 + 1))] from ⟨rfl, ⟨rfl, ⟨rfl, trivial⟩⟩⟩) (ih x1 (x2 + 1) _ hw)
        · have hw := hw.2 c56
          refine vIconst (pc := 59) (v := 1) hc dX8_findPlace_59 ki_1 ?_
          exact vZret (pc := 60) hc dX8_findPlace_60 (Or.inr rfl) hw
set_option maxRecDepth 100000 in
set_option maxHeartbeats 4000000 in
theorem t_X8_findPlace_E {p : Program} {l : Launch} {e : Env} {s : State} {m : MethodId} {args : Array Value} {below : List Frame} {meth : Method} {c : Code} {E : WD} {Q : Int32 → MS → Prop} (hc : Cx p rm_X8_findPlace s m args meth c E (AD E) cX8_findPlace RX8 (some .boolean) 3 0 0 fdm) (x1 : Int32) (σ : MS) (hw : w_X8_findPlace_E Q x1 σ) : V p l e rm_X8_findPlace s m args below meth c E (AD E) 3 0 0 (MQ below (va_Qi Q (BW E) (AD E)) args s 0 0 (AD E)) σ 0 [some (.ref (E.2.1 0)), some (.int x1), none] [] := by
  unfold w_X8_findPlace_E at hw
  refine vAload_n (pc := 0) hc dX8_findPlace_0 rfl ?_
  refine vGetR (pc := 1) (k := 0) (j := 1) hc rfl inG8 (hc.G 0 (Nat.le_of_ble_eq_true rfl)) rfl (Nat.le_of_ble_eq_true rfl) tw_308 rfl dX8_findPlace_1 ?_
  refine vIload_n (pc := 4) hc dX8_findPlace_4 rfl ?_
  refine vCallVr (pc := 5) (st := []) hc ok_X2_at tw_371 (c_X2_at hc.2.2.2.2.2.2.1 hc.G hw) (hc.G 4 (Nat.le_of_ble_eq_true rfl)) rfl rfl rfl ⟨rfl, rfl⟩ ⟨Nat.le_of_ble_eq_true rfl, Nat.le_of_ble_eq_true rfl⟩ rfl (Nat.le_of_ble_eq_true rfl) dX8_findPlace_5 (fun r5 σ5 hw => ?_)
  obtain ⟨hp1, hw⟩ := hw
  refine vGetIN (pc := 8) (k := r5) (j := 7) hc (pn_c hp1) inG3 (hc.G _ (pn_N hp1)) (pn_0 hp1) (Nat.le_of_ble_eq_true rfl) nw_14 (pn_j hp1 rfl) dX8_findPlace_8 ?_
  refine vIf_eq (pc := 11) (tgt := 16) hc dX8_findPlace_11 (by decide) (fun c11 => ?_) (fun c11 => ?_)
  · have hw := hw.1 c11
    refine vIconst (pc := 16) (v := 0) hc dX8_findPlace_16 ki_0 ?_
    refine vIstore_n (pc := 17) (L2 := [some (.ref (E.2.1 0)), some (.int x1), some (.int 0)]) hc dX8_findPlace_17 rfl (Nat.le_of_ble_eq_true rfl) ?_
    obtain ⟨n18, hw⟩ := hw
    exact vMono (L2 := [some (.ref (E.2.1 0)), some (.int x1), some (.int 0)]) (show subL [some (.ref (E.2.1 0)), some (.int x1), some (.int 0)] [some (.ref (E.2.1 0)), some (.int x1), some (.int 0)] from ⟨rfl, ⟨rfl, ⟨rfl, trivial⟩⟩⟩) (t_X8_findPlace_H18 hc  n18 x1 0 _ hw)
  · have hw := hw.2 c11
    refine vIconst (pc := 14) (v := 0) hc dX8_findPlace_14 ki_0 ?_
    exact vZret (pc := 15) hc dX8_findPlace_15 (Or.inl rfl) hw
set_option maxRecDepth 100000 in
set_option maxHeartbeats 4000000 in
theorem c_X8_findPlace {l : Launch} {E : WD} (hE : inj E) (hG : ∀ k, fdm k → k ∈ E.2.2.2) {x1 : Int32} {σ : MS} {Q : Int32 → MS → Prop} (hw : w_X8_findPlace x1 σ Q) : Ci l E yX8_findPlace cX8_findPlace 3 (some .boolean) rm_X8_findPlace [.ref (E.2.1 0), .int x1] σ Q :=
  Ct_of (by decide) rfl (by
    intro v hv
    simp only [List.mem_cons, List.not_mem_nil, or_false] at hv
    rcases hv with rfl | rfl <;> rfl) (Nat.le_of_ble_eq_true rfl) hE hG (fun p e s m below meth c hc => t_X8_findPlace_E hc x1 σ hw)
def w_X8_fail_H76 (Q : Int32 → MS → Prop) : Nat → Int32 → Int32 → Int32 → MS → Prop
  | 0, _, _, _, _ => False
  | n + 1, x2, x3, x4, σ => ((9 ≤ x4 → Q x3 σ) ∧ (¬ 9 ≤ x4 → w_X8_contains x2 x4 σ (fun r86 σ86 => ((r86 = 0 → w_X8_fail_H76 Q n x2 x3 (x4 + 1) σ86) ∧ (¬ r86 = 0 → w_X8_findPlace x4 σ86 (fun r95 σ95 => ((¬ r95 = 0 → w_X8_fail_H76 Q n x2 x3 (x4 + 1) σ95) ∧ (r95 = 0 → w_X4_leave x4 σ95 (fun σ107 => w_X8_fail_H76 Q n x2 (x3 + 1) (x4 + 1) σ107)))))))))
def w_X8_fail_E (Q : Int32 → MS → Prop) (x1 : Int32) (σ : MS) : Prop := w_X4_isMade  σ (fun r4 σ4 => ((¬ r4 = 0 → w_X2_has x1 σ4 (fun r22 σ22 => ((¬ r22 = 0 → w_X8_setBroken x1 1 σ22 (fun r37 σ37 => w_X4_drives x1 σ37 (fun r46 σ46 => ((¬ r46 = 0 → w_X4_poolAt x1 σ46 (fun r59 σ59 => w_X4_dissolve r59 σ59 (fun σ68 => (∃ n76, w_X8_fail_H76 Q n76 r59 0 0 σ68)))) ∧ (r46 = 0 → Q 0 σ46))))) ∧ (r22 = 0 → w_X8_refuse (-1) σ22 (fun r30 σ30 => Q r30 σ30))))) ∧ (r4 = 0 → w_X8_refuse (-3) σ4 (fun r13 σ13 => Q r13 σ13))))
abbrev w_X8_fail (x1 : Int32) (σ : MS) (Q : Int32 → MS → Prop) : Prop := w_X8_fail_E Q x1 σ
abbrev rm_X8_fail : Room := { frames := 18, cells := 0, slots := 0, locals := 526 }
theorem ok_X8_fail : OkV yX8_fail RX8 cX8_fail 5 (some .int) 1 := ⟨tw_662, tw_663, tw_45, tw_664, rfl, by decide, by decide, by decide +kernel⟩
set_option maxRecDepth 100000 in
set_option maxHeartbeats 4000000 in
theorem t_X8_fail_H76 {p : Program} {l : Launch} {e : Env} {s : State} {m : MethodId} {args : Array Value} {below : List Frame} {meth : Method} {c : Code} {E : WD} {Q : Int32 → MS → Prop} (hc : Cx p rm_X8_fail s m args meth c E (AD E) cX8_fail RX8 (some .int) 5 0 0 fdm) : ∀ (n : Nat) (x2 x3 x4 : Int32) (σ : MS), w_X8_fail_H76 Q n x2 x3 x4 σ → V p l e rm_X8_fail s m args below meth c E (AD E) 5 0 0 (MQ below (va_Qi Q (BW E) (AD E)) args s 0 0 (AD E)) σ 76 [some (.ref (E.2.1 0)), none, some (.int x2), some (.int x3), some (.int x4)] [] := by
  intro n
  induction n with
  | zero =>
    intro x2 x3 x4 σ hw
    exact hw.elim
  | succ n ih =>
    intro x2 x3 x4 σ hw
    unfold w_X8_fail_H76 at hw
    refine vIload (pc := 76) hc dX8_fail_76 rfl ?_
    refine vBipush (pc := 78) (v := 9) hc dX8_fail_78 kb_9 ?_
    refine vIcmp_ge (pc := 80) (tgt := 119) hc dX8_fail_80 (by decide) (fun c80 => ?_) (fun c80 => ?_)
    · have hw := hw.1 c80
      refine vIload_n (pc := 119) hc dX8_fail_119 rfl ?_
      exact vIret (pc := 120) hc dX8_fail_120 hw
    · have hw := hw.2 c80
      refine vIload_n (pc := 83) hc dX8_fail_83 rfl ?_
      refine vIload (pc := 84) hc dX8_fail_84 rfl ?_
      refine vCallSi (pc := 86) (st := []) hc ok_X8_contains tw_387 (c_X8_contains hc.2.2.2.2.2.2.1 hc.G hw) rfl ⟨rfl, rfl⟩ ⟨Nat.le_of_ble_eq_true rfl, Nat.le_of_ble_eq_true rfl⟩ rfl (Nat.le_of_ble_eq_true rfl) dX8_fail_86 (fun r86 σ86 hw => ?_)
      refine vIf_eq (pc := 89) (tgt := 113) hc dX8_fail_89 (by decide) (fun c89 => ?_) (fun c89 => ?_)
      · have hw := hw.1 c89
        refine vIinc (pc := 113) (v := x4 + 1) (L2 := [some (.ref (E.2.1 0)), none, some (.int x2), some (.int x3), some (.int (x4 + 1))]) hc dX8_fail_113 rfl rfl rfl (Nat.le_of_ble_eq_true rfl) ?_
        refine vGoto (pc := 116) (tgt := 76) hc dX8_fail_116 (by decide) ?_
        exact vMono (L2 := [some (.ref (E.2.1 0)), none, some (.int x2), some (.int x3), some (.int (x4 + 1))]) (show subL [some (.ref (E.2.1 0)), none, some (.int x2), some (.int x3), some (.int (x4 + 1))] [some (.ref (E.2.1 0)), none, some (.int x2), some (.int x3), some (.int (x4 + 1))] from ⟨rfl, ⟨rfl, ⟨rfl, ⟨rfl, trivial⟩⟩⟩⟩) (ih x2 x3 (x4 + 1) _ hw)
      · have hw := hw.2 c89
        refine vAload_n (pc := 92) hc dX8_fail_92 rfl ?_
        refine vIload (pc := 93) hc dX8_fail_93 rfl ?_
        refine vCallVi (pc := 95) (st := []) hc ok_X8_findPlace tw_674 (c_X8_findPlace hc.2.2.2.2.2.2.1 hc.G hw) (hc.G 0 (Nat.le_of_ble_eq_true rfl)) rfl rfl rfl ⟨rfl, rfl⟩ ⟨Nat.le_of_ble_eq_true rfl, Nat.le_of_ble_eq_true rfl⟩ rfl (Nat.le_of_ble_eq_true rfl) dX8_fail_95 (fun r95 σ95 hw => ?_)
        refine vIf_ne (pc := 98) (tgt := 113) hc dX8_fail_98 (by decide) (fun c98 => ?_) (fun c98 => ?_)
        · have hw := hw.1 c98
          refine vIinc (pc := 113) (v := x4 + 1) (L2 := [some (.ref (E.2.1 0)), none, some (.int x2), some (.int x3), some (.int (x4 + 1))]) hc dX8_fail_113 rfl rfl rfl (Nat.le_of_ble_eq_true rfl) ?_
          refine vGoto (pc := 116) (tgt := 76) hc dX8_fail_116 (by decide) ?_
          exact vMono (L2 := [some (.ref (E.2.1 0)), none, some (.int x2), some (.int x3), some (.int (x4 + 1))]) (show subL [some (.ref (E.2.1 0)), none, some (.int x2), some (.int x3), some (.int (x4 + 1))] [some (.ref (E.2.1 0)), none, some (.int x2), some (.int x3), some (.int (x4 + 1))] from ⟨rfl, ⟨rfl, ⟨rfl, ⟨rfl, trivial⟩⟩⟩⟩) (ih x2 x3 (x4 + 1) _ hw)
        · have hw := hw.2 c98
          refine vAload_n (pc := 101) hc dX8_fail_101 rfl ?_
          refine vGetR (pc := 102) (k := 0) (j := 5) hc rfl inG8 (hc.G 0 (Nat.le_of_ble_eq_true rfl)) rfl (Nat.le_of_ble_eq_true rfl) tw_312 rfl dX8_fail_102 ?_
          refine vIload (pc := 105) hc dX8_fail_105 rfl ?_
          refine vCallVv (pc := 107) (st := []) hc ok_X4_leave tw_580 (c_X4_leave hc.2.2.2.2.2.2.1 hc.G hw) (hc.G 11 (Nat.le_of_ble_eq_true rfl)) rfl rfl rfl ⟨rfl, rfl⟩ ⟨Nat.le_of_ble_eq_true rfl, Nat.le_of_ble_eq_true rfl⟩ rfl (Nat.le_of_ble_eq_true rfl) dX8_fail_107 (fun σ107 hw => ?_)
          refine vIinc (pc := 110) (v := x3 + 1) (L2 := [some (.ref (E.2.1 0)), none, some (.int x2), some (.int (x3 + 1)), some (.int x4)]) hc dX8_fail_110 rfl rfl rfl (Nat.le_of_ble_eq_true rfl) ?_
          refine vIinc (pc := 113) (v := x4 + 1) (L2 := [some (.ref (E.2.1 0)), none, some (.int x2), some (.int (x3 + 1)), some (.int (x4 + 1))]) hc dX8_fail_113 rfl rfl rfl (Nat.le_of_ble_eq_true rfl) ?_
          refine vGoto (pc := 116) (tgt := 76) hc dX8_fail_116 (by decide) ?_
          exact vMono (L2 := [some (.ref (E.2.1 0)), none, some (.int x2), some (.int (x3 + 1)), some (.int (x4 + 1))]) (show subL [some (.ref (E.2.1 0)), none, some (.int x2), some (.int (x3 + 1)), some (.int (x4 + 1))] [some (.ref (E.2.1 0)), none, some (.int x2), some (.int (x3 + 1)), some (.int (x4 + 1))] from ⟨rfl, ⟨rfl, ⟨rfl, ⟨rfl, trivial⟩⟩⟩⟩) (ih x2 (x3 + 1) (x4 + 1) _ hw)
set_option maxRecDepth 100000 in
set_option maxHeartbeats 4000000 in
theorem t_X8_fail_E {p : Program} {l : Launch} {e : Env} {s : State} {m : MethodId} {args : Array Value} {below : List Frame} {meth : Method} {c : Code} {E : WD} {Q : Int32 → MS → Prop} (hc : Cx p rm_X8_fail s m args meth c E (AD E) cX8_fail RX8 (some .int) 5 0 0 fdm) (x1 : Int32) (σ : MS) (hw : w_X8_fail_E Q x1 σ) : V p l e rm_X8_fail s m args below meth c E (AD E) 5 0 0 (MQ below (va_Qi Q (BW E) (AD E)) args s 0 0 (AD E)) σ 0 [some (.ref (E.2.1 0)), some (.int x1), none, none, none] [] := by
  unfold w_X8_fail_E at hw
  refine vAload_n (pc := 0) hc dX8_fail_0 rfl ?_
  refine vGetR (pc := 1) (k := 0) (j := 5) hc rfl inG8 (hc.G 0 (Nat.le_of_ble_eq_true rfl)) rfl (Nat.le_of_ble_eq_true rfl) tw_312 rfl dX8_fail_1 ?_
  refine vCallVi (pc := 4) (st := []) hc ok_X4_isMade tw_604 (c_X4_isMade hc.2.2.2.2.2.2.1 hc.G hw) (hc.G 11 (Nat.le_of_ble_eq_true rfl)) rfl rfl rfl ⟨rfl, rfl⟩ ⟨Nat.le_of_ble_eq_true rfl, Nat.le_of_ble_eq_true rfl⟩ rfl (Nat.le_of_ble_eq_true rfl) dX8_fail_4 (fun r4 σ4 hw => ?_)
  refine vIf_ne (pc := 7) (tgt := 17) hc dX8_fail_7 (by decide) (fun c7 => ?_) (fun c7 => ?_)
  · have hw := hw.1 c7
    refine vAload_n (pc := 17) hc dX8_fail_17 rfl ?_
    refine vGetR (pc := 18) (k := 0) (j := 1) hc rfl inG8 (hc.G 0 (Nat.le_of_ble_eq_true rfl)) rfl (Nat.le_of_ble_eq_true rfl) tw_308 rfl dX8_fail_18 ?_
    refine vIload_n (pc := 21) hc dX8_fail_21 rfl ?_
    refine vCallVi (pc := 22) (st := []) hc ok_X2_has tw_379 (c_X2_has hc.2.2.2.2.2.2.1 hc.G hw) (hc.G 4 (Nat.le_of_ble_eq_true rfl)) rfl rfl rfl ⟨rfl, rfl⟩ ⟨Nat.le_of_ble_eq_true rfl, Nat.le_of_ble_eq_true rfl⟩ rfl (Nat.le_of_ble_eq_true rfl) dX8_fail_22 (fun r22 σ22 hw => ?_)
    refine vIf_ne (pc := 25) (tgt := 34) hc dX8_fail_25 (by decide) (fun c25 => ?_) (fun c25 => ?_)
    · have hw := hw.1 c25
      refine vAload_n (pc := 34) hc dX8_fail_34 rfl ?_
      refine vIload_n (pc := 35) hc dX8_fail_35 rfl ?_
      refine vIconst (pc := 36) (v := 1) hc dX8_fail_36 ki_1 ?_
      refine vCallVi (pc := 37) (st := []) hc ok_X8_setBroken tw_398 (c_X8_setBroken hc.2.2.2.2.2.2.1 hc.G hw) (hc.G 0 (Nat.le_of_ble_eq_true rfl)) rfl rfl rfl ⟨rfl, rfl⟩ ⟨Nat.le_of_ble_eq_true rfl, Nat.le_of_ble_eq_true rfl⟩ rfl (Nat.le_of_ble_eq_true rfl) dX8_fail_37 (fun r37 σ37 hw => ?_)
      refine vPop (pc := 40) hc dX8_fail_40 rfl ?_
      refine vAload_n (pc := 41) hc dX8_fail_41 rfl ?_
      refine vGetR (pc := 42) (k := 0) (j := 5) hc rfl inG8 (hc.G 0 (Nat.le_of_ble_eq_true rfl)) rfl (Nat.le_of_ble_eq_true rfl) tw_312 rfl dX8_fail_42 ?_
      refine vIload_n (pc := 45) hc dX8_fail_45 rfl ?_
      refine vCallVi (pc := 46) (st := []) hc ok_X4_drives tw_665 (c_X4_drives hc.2.2.2.2.2.2.1 hc.G hw) (hc.G 11 (Nat.le_of_ble_eq_true rfl)) rfl rfl rfl ⟨rfl, rfl⟩ ⟨Nat.le_of_ble_eq_true rfl, Nat.le_of_ble_eq_true rfl⟩ rfl (Nat.le_of_ble_eq_true rfl) dX8_fail_46 (fun r46 σ46 hw => ?_)
      refine vIf_ne (pc := 49) (tgt := 54) hc dX8_fail_49 (by decide) (fun c49 => ?_) (fun c49 => ?_)
      · have hw := hw.1 c49
        refine vAload_n (pc := 54) hc dX8_fail_54 rfl ?_
        refine vGetR (pc := 55) (k := 0) (j := 5) hc rfl inG8 (hc.G 0 (Nat.le_of_ble_eq_true rfl)) rfl (Nat.le_of_ble_eq_true rfl) tw_312 rfl dX8_fail_55 ?_
        refine vIload_n (pc := 58) hc dX8_fail_58 rfl ?_
        refine vCallVi (pc := 59) (st := []) hc ok_X4_poolAt tw_641 (c_X4_poolAt hc.2.2.2.2.2.2.1 hc.G hw) (hc.G 11 (Nat.le_of_ble_eq_true rfl)) rfl rfl rfl ⟨rfl, rfl⟩ ⟨Nat.le_of_ble_eq_true rfl, Nat.le_of_ble_eq_true rfl⟩ rfl (Nat.le_of_ble_eq_true rfl) dX8_fail_59 (fun r59 σ59 hw => ?_)
        refine vIstore_n (pc := 62) (L2 := [some (.ref (E.2.1 0)), some (.int x1), some (.int r59), none, none]) hc dX8_fail_62 rfl (Nat.le_of_ble_eq_true rfl) ?_
        refine vAload_n (pc := 63) hc dX8_fail_63 rfl ?_
        refine vGetR (pc := 64) (k := 0) (j := 5) hc rfl inG8 (hc.G 0 (Nat.le_of_ble_eq_true rfl)) rfl (Nat.le_of_ble_eq_true rfl) tw_312 rfl dX8_fail_64 ?_
        refine vIload_n (pc := 67) hc dX8_fail_67 rfl ?_
        refine vCallVv (pc := 68) (st := []) hc ok_X4_dissolve tw_669 (c_X4_dissolve hc.2.2.2.2.2.2.1 hc.G hw) (hc.G 11 (Nat.le_of_ble_eq_true rfl)) rfl rfl rfl ⟨rfl, rfl⟩ ⟨Nat.le_of_ble_eq_true rfl, Nat.le_of_ble_eq_true rfl⟩ rfl (Nat.le_of_ble_eq_true rfl) dX8_fail_68 (fun σ68 hw => ?_)
        refine vIconst (pc := 71) (v := 0) hc dX8_fail_71 ki_0 ?_
        refine vIstore_n (pc := 72) (L2 := [some (.ref (E.2.1 0)), some (.int x1), some (.int r59), some (.int 0), none]) hc dX8_fail_72 rfl (Nat.le_of_ble_eq_true rfl) ?_
        refine vIconst (pc := 73) (v := 0) hc dX8_fail_73 ki_0 ?_
        refine vIstore (pc := 74) (L2 := [some (.ref (E.2.1 0)), some (.int x1), some (.int r59), some (.int 0), some (.int 0)]) hc dX8_fail_74 rfl (Nat.le_of_ble_eq_true rfl) ?_
        obtain ⟨n76, hw⟩ := hw
        exact vMono (L2 := [some (.ref (E.2.1 0)), none, some (.int r59), some (.int 0), some (.int 0)]) (show subL [some (.ref (E.2.1 0)), none, some (.int r59), some (.int 0), some (.int 0)] [some (.ref (E.2.1 0)), some (.int x1), some (.int r59), some (.int 0), some (.int 0)] from ⟨rfl, ⟨rfl, ⟨rfl, ⟨rfl, trivial⟩⟩⟩⟩) (t_X8_fail_H76 hc  n76 r59 0 0 _ hw)
      · have hw := hw.2 c49
        refine vIconst (pc := 52) (v := 0) hc dX8_fail_52 ki_0 ?_
        exact vIret (pc := 53) hc dX8_fail_53 hw
    · have hw := hw.2 c25
      refine vAload_n (pc := 28) hc dX8_fail_28 rfl ?_
      refine vIconst (pc := 29) (v := (-1)) hc dX8_fail_29 ki_m1 ?_
      refine vCallVi (pc := 30) (st := []) hc ok_X8_refuse tw_339 (c_X8_refuse hc.2.2.2.2.2.2.1 hc.G hw) (hc.G 0 (Nat.le_of_ble_eq_true rfl)) rfl rfl rfl ⟨rfl, rfl⟩ ⟨Nat.le_of_ble_eq_true rfl, Nat.le_of_ble_eq_true rfl⟩ rfl (Nat.le_of_ble_eq_true rfl) dX8_fail_30 (fun r30 σ30 hw => ?_)
      exact vIret (pc := 33) hc dX8_fail_33 hw
  · have hw := hw.2 c7
    refine vAload_n (pc := 10) hc dX8_fail_10 rfl ?_
    refine vBipush (pc := 11) (v := (-3)) hc dX8_fail_11 kb_m3 ?_
    refine vCallVi (pc := 13) (st := []) hc ok_X8_refuse tw_339 (c_X8_refuse hc.2.2.2.2.2.2.1 hc.G hw) (hc.G 0 (Nat.le_of_ble_eq_true rfl)) rfl rfl rfl ⟨rfl, rfl⟩ ⟨Nat.le_of_ble_eq_true rfl, Nat.le_of_ble_eq_true rfl⟩ rfl (Nat.le_of_ble_eq_true rfl) dX8_fail_13 (fun r13 σ13 hw => ?_)
    exact vIret (pc := 16) hc dX8_fail_16 hw
set_option maxRecDepth 100000 in
set_option maxHeartbeats 4000000 in
theorem c_X8_fail {l : Launch} {E : WD} (hE : inj E) (hG : ∀ k, fdm k → k ∈ E.2.2.2) {x1 : Int32} {σ : MS} {Q : Int32 → MS → Prop} (hw : w_X8_fail x1 σ Q) : Ci l E yX8_fail cX8_fail 5 (some .int) rm_X8_fail [.ref (E.2.1 0), .int x1] σ Q :=
  Ct_of (by decide) rfl (by
    intro v hv
    simp only [List.mem_cons, List.not_mem_nil, or_false] at hv
    rcases hv with rfl | rfl <;> rfl) (Nat.le_of_ble_eq_true rfl) hE hG (fun p e s m below meth c hc => t_X8_fail_E hc x1 σ hw)
def w_X8_few_E (Q : Int32 → MS → Prop) (σ : MS) : Prop := w_X2_notAway  σ (fun r4 σ4 => w_X0_learnAll r4 σ4 (fun σ13 => w_X1_fewestPools r4 σ13 (fun r21 σ21 => Q r21 σ21)))
abbrev w_X8_few (σ : MS) (Q : Int32 → MS → Prop) : Prop := w_X8_few_E Q  σ
abbrev rm_X8_few : Room := { frames := 18, cells := 0, slots := 0, locals := 526 }
theorem ok_X8_few : OkV yX8_few RX8 cX8_few 2 (some .int) 0 := ⟨tw_683, tw_684, tw_45, tw_685, rfl, by decide, by decide, by decide +kernel⟩
set_option maxRecDepth 100000 in
set_option maxHeartbeats 4000000 in
theorem t_X8_few_E {p : Program} {l : Launch} {e : Env} {s : State} {m : MethodId} {args : Array Value} {below : List Frame} {meth : Method} {c : Code} {E : WD} {Q : Int32 → MS → Prop} (hc : Cx p rm_X8_few s m args meth c E (AD E) cX8_few RX8 (some .int) 2 0 0 fdm) (σ : MS) (hw : w_X8_few_E Q  σ) : V p l e rm_X8_few s m args below meth c E (AD E) 2 0 0 (MQ below (va_Qi Q (BW E) (AD E)) args s 0 0 (AD E)) σ 0 [some (.ref (E.2.1 0)), none] [] := by
  unfold w_X8_few_E at hw
  refine vAload_n (pc := 0) hc dX8_few_0 rfl ?_
  refine vGetR (pc := 1) (k := 0) (j := 1) hc rfl inG8 (hc.G 0 (Nat.le_of_ble_eq_true rfl)) rfl (Nat.le_of_ble_eq_true rfl) tw_308 rfl dX8_few_1 ?_
  refine vCallVi (pc := 4) (st := []) hc ok_X2_notAway tw_541 (c_X2_notAway hc.2.2.2.2.2.2.1 hc.G hw) (hc.G 4 (Nat.le_of_ble_eq_true rfl)) rfl rfl rfl ⟨rfl, rfl⟩ ⟨Nat.le_of_ble_eq_true rfl, Nat.le_of_ble_eq_true rfl⟩ rfl (Nat.le_of_ble_eq_true rfl) dX8_few_4 (fun r4 σ4 hw => ?_)
  refine vIstore_n (pc := 7) (L2 := [some (.ref (E.2.1 0)), some (.int r4)]) hc dX8_few_7 rfl (Nat.le_of_ble_eq_true rfl) ?_
  refine vAload_n (pc := 8) hc dX8_few_8 rfl ?_
  refine vGetR (pc := 9) (k := 0) (j := 3) hc rfl inG8 (hc.G 0 (Nat.le_of_ble_eq_true rfl)) rfl (Nat.le_of_ble_eq_true rfl) tw_310 rfl dX8_few_9 ?_
  refine vIload_n (pc := 12) hc dX8_few_12 rfl ?_
  refine vCallVv (pc := 13) (st := []) hc ok_X0_learnAll tw_542 (c_X0_learnAll hc.2.2.2.2.2.2.1 hc.G hw) (hc.G 9 (Nat.le_of_ble_eq_true rfl)) rfl rfl rfl ⟨rfl, rfl⟩ ⟨Nat.le_of_ble_eq_true rfl, Nat.le_of_ble_eq_true rfl⟩ rfl (Nat.le_of_ble_eq_true rfl) dX8_few_13 (fun σ13 hw => ?_)
  refine vAload_n (pc := 16) hc dX8_few_16 rfl ?_
  refine vGetR (pc := 17) (k := 0) (j := 4) hc rfl inG8 (hc.G 0 (Nat.le_of_ble_eq_true rfl)) rfl (Nat.le_of_ble_eq_true rfl) tw_311 rfl dX8_few_17 ?_
  refine vIload_n (pc := 20) hc dX8_few_20 rfl ?_
  refine vCallVi (pc := 21) (st := []) hc ok_X1_fewestPools tw_686 (c_X1_fewestPools hc.2.2.2.2.2.2.1 hc.G hw) (hc.G 10 (Nat.le_of_ble_eq_true rfl)) rfl rfl rfl ⟨rfl, rfl⟩ ⟨Nat.le_of_ble_eq_true rfl, Nat.le_of_ble_eq_true rfl⟩ rfl (Nat.le_of_ble_eq_true rfl) dX8_few_21 (fun r21 σ21 hw => ?_)
  exact vIret (pc := 24) hc dX8_few_24 hw
set_option maxRecDepth 100000 in
set_option maxHeartbeats 4000000 in
theorem c_X8_few {l : Launch} {E : WD} (hE : inj E) (hG : ∀ k, fdm k → k ∈ E.2.2.2) {σ : MS} {Q : Int32 → MS → Prop} (hw : w_X8_few  σ Q) : Ci l E yX8_few cX8_few 2 (some .int) rm_X8_few [.ref (E.2.1 0)] σ Q :=
  Ct_of (by decide) rfl (by
    intro v hv
    simp only [List.mem_cons, List.not_mem_nil, or_false] at hv
    rcases hv with rfl <;> rfl) (Nat.le_of_ble_eq_true rfl) hE hG (fun p e s m below meth c hc => t_X8_few_E hc  σ hw)
def w_X8_personOf_E (Q : Int32 → MS → Prop) (x1 x2 : Int32) (σ : MS) : Prop := w_X2_has x1 σ (fun r5 σ5 => ((¬ r5 = 0 → w_X2_at x1 σ5 (fun r22 σ22 => ((x2 = 0 → ((37 ≤ r22 ∧ r22 < 46) ∧ Q (σ22 r22 0) σ22)) ∧ (¬ x2 = 0 → ((x2 = 1 → ((37 ≤ r22 ∧ r22 < 46) ∧ Q (σ22 r22 1) σ22)) ∧ (¬ x2 = 1 → ((x2 = 2 → ((37 ≤ r22 ∧ r22 < 46) ∧ Q (σ22 r22 2) σ22)) ∧ (¬ x2 = 2 → ((x2 = 3 → ((37 ≤ r22 ∧ r22 < 46) ∧ Q (σ22 r22 3) σ22)) ∧ (¬ x2 = 3 → ((x2 = 4 → ((37 ≤ r22 ∧ r22 < 46) ∧ Q (σ22 r22 4) σ22)) ∧ (¬ x2 = 4 → ((x2 = 5 → ((37 ≤ r22 ∧ r22 < 46) ∧ Q (σ22 r22 5) σ22)) ∧ (¬ x2 = 5 → ((x2 = 6 → ((37 ≤ r22 ∧ r22 < 46) ∧ Q (σ22 r22 6) σ22)) ∧ (¬ x2 = 6 → ((x2 = 7 → ((37 ≤ r22 ∧ r22 < 46) ∧ (((σ22 r22 7) = 0 → Q 0 σ22) ∧ (¬ (σ22 r22 7) = 0 → Q 1 σ22)))) ∧ (¬ x2 = 7 → ((x2 = 8 → ((37 ≤ r22 ∧ r22 < 46) ∧ (((σ22 r22 8) = 0 → Q 0 σ22) ∧ (¬ (σ22 r22 8) = 0 → Q 1 σ22)))) ∧ (¬ x2 = 8 → ((x2 = 9 → ((37 ≤ r22 ∧ r22 < 46) ∧ Q (σ22 r22 9) σ22)) ∧ (¬ x2 = 9 → ((x2 = 10 → ((37 ≤ r22 ∧ r22 < 46) ∧ w_X5_shortest (σ22 r22 1) (σ22 r22 2) σ22 (fun r166 σ166 => Q r166 σ166))) ∧ (¬ x2 = 10 → ((x2 = 11 → ((37 ≤ r22 ∧ r22 < 46) ∧ Q ((1000000000 : Int32) + (σ22 r22 10)) σ22)) ∧ (¬ x2 = 11 → w_X8_refuse (-2) σ22 (fun r181 σ181 => Q r181 σ181))))))))))))))))))))))))))) ∧ (r5 = 0 → w_X8_refuse (-1) σ5 (fun r13 σ13 => Q r13 σ13))))
abbrev w_X8_personOf (x1 x2 : Int32) (σ : MS) (Q : Int32 → MS → Prop) : Prop := w_X8_personOf_E Q x1 x2 σ
abbrev rm_X8_personOf : Room := { frames := 1, cells := 0, slots := 0, locals := 22 }
theorem ok_X8_personOf : OkV yX8_personOf RX8 cX8_personOf 4 (some .int) 2 := ⟨tw_691, tw_692, tw_45, tw_693, rfl, by decide, by decide, by decide +kernel⟩
set_option maxRecDepth 100000 in
set_option maxHeartbeats 4000000 in
theorem t_X8_personOf_E {p : Program} {l : Launch} {e : Env} {s : State} {m : MethodId} {args : Array Value} {below : List Frame} {meth : Method} {c : Code} {E : WD} {Q : Int32 → MS → Prop} (hc : Cx p rm_X8_personOf s m args meth c E (AD E) cX8_personOf RX8 (some .int) 4 0 0 fdm) (x1 x2 : Int32) (σ : MS) (hw : w_X8_personOf_E Q x1 x2 σ) : V p l e rm_X8_personOf s m args below meth c E (AD E) 4 0 0 (MQ below (va_Qi Q (BW E) (AD E)) args s 0 0 (AD E)) σ 0 [some (.ref (E.2.1 0)), some (.int x1), some (.int x2), none] [] := by
  unfold w_X8_personOf_E at hw
  refine vAload_n (pc := 0) hc dX8_personOf_0 rfl ?_
  refine vGetR (pc := 1) (k := 0) (j := 1) hc rfl inG8 (hc.G 0 (Nat.le_of_ble_eq_true rfl)) rfl (Nat.le_of_ble_eq_true rfl) tw_308 rfl dX8_personOf_1 ?_
  refine vIload_n (pc := 4) hc dX8_personOf_4 rfl ?_
  refine vCallVi (pc := 5) (st := []) hc ok_X2_has tw_379 (c_X2_has hc.2.2.2.2.2.2.1 hc.G hw) (hc.G 4 (Nat.le_of_ble_eq_true rfl)) rfl rfl rfl ⟨rfl, rfl⟩ ⟨Nat.le_of_ble_eq_true rfl, Nat.le_of_ble_eq_true rfl⟩ rfl (Nat.le_of_ble_eq_true rfl) dX8_personOf_5 (fun r5 σ5 hw => ?_)
  refine vIf_ne (pc := 8) (tgt := 17) hc dX8_personOf_8 (by decide) (fun c8 => ?_) (fun c8 => ?_)
  · have hw := hw.1 c8
    refine vAload_n (pc := 17) hc dX8_personOf_17 rfl ?_
    refine vGetR (pc := 18) (k := 0) (j := 1) hc rfl inG8 (hc.G 0 (Nat.le_of_ble_eq_true rfl)) rfl (Nat.le_of_ble_eq_true rfl) tw_308 rfl dX8_personOf_18 ?_
    refine vIload_n (pc := 21) hc dX8_personOf_21 rfl ?_
    refine vCallVr (pc := 22) (st := []) hc ok_X2_at tw_371 (c_X2_at hc.2.2.2.2.2.2.1 hc.G hw) (hc.G 4 (Nat.le_of_ble_eq_true rfl)) rfl rfl rfl ⟨rfl, rfl⟩ ⟨Nat.le_of_ble_eq_true rfl, Nat.le_of_ble_eq_true rfl⟩ rfl (Nat.le_of_ble_eq_true rfl) dX8_personOf_22 (fun r22 σ22 hw => ?_)
    refine vAstore_n (pc := 25) (L2 := [some (.ref (E.2.1 0)), some (.int x1), some (.int x2), some (.ref (E.2.1 r22))]) hc dX8_personOf_25 rfl (Nat.le_of_ble_eq_true rfl) ?_
    refine vIload_n (pc := 26) hc dX8_personOf_26 rfl ?_
    by_cases b27_0 : x2 = 0
    · have hw := hw.1 b27_0
      refine vTop (y := 0) b27_0.symm ?_
      refine vTabIn (pc := 27) (tgt := 88) hc dX8_personOf_27 (by decide) (by decide) rfl (by decide) ?_
      refine vAload_n (pc := 88) hc dX8_personOf_88 rfl ?_
      obtain ⟨hp1, hw⟩ := hw
      refine vGetIN (pc := 89) (k := r22) (j := 0) hc (pn_c hp1) inG3 (hc.G _ (pn_N hp1)) (pn_0 hp1) (Nat.le_of_ble_eq_true rfl) nw_1 (pn_j hp1 rfl) dX8_personOf_89 ?_
      exact vIret (pc := 92) hc dX8_personOf_92 hw
    · have hw := hw.2 b27_0
      by_cases b27_1 : x2 = 1
      · have hw := hw.1 b27_1
        refine vTop (y := 1) b27_1.symm ?_
        refine vTabIn (pc := 27) (tgt := 93) hc dX8_personOf_27 (by decide) (by decide) rfl (by decide) ?_
        refine vAload_n (pc := 93) hc dX8_personOf_93 rfl ?_
        obtain ⟨hp2, hw⟩ := hw
        refine vGetIN (pc := 94) (k := r22) (j := 1) hc (pn_c hp2) inG3 (hc.G _ (pn_N hp2)) (pn_0 hp2) (Nat.le_of_ble_eq_true rfl) nw_2 (pn_j hp2 rfl) dX8_personOf_94 ?_
        exact vIret (pc := 97) hc dX8_personOf_97 hw
      · have hw := hw.2 b27_1
        by_cases b27_2 : x2 = 2
        · have hw := hw.1 b27_2
          refine vTop (y := 2) b27_2.symm ?_
          refine vTabIn (pc := 27) (tgt := 98) hc dX8_personOf_27 (by decide) (by decide) rfl (by decide) ?_
          refine vAload_n (pc := 98) hc dX8_personOf_98 rfl ?_
          obtain ⟨hp3, hw⟩ := hw
          refine vGetIN (pc := 99) (k := r22) (j := 2) hc (pn_c hp3) inG3 (hc.G _ (pn_N hp3)) (pn_0 hp3) (Nat.le_of_ble_eq_true rfl) nw_4 (pn_j hp3 rfl) dX8_personOf_99 ?_
          exact vIret (pc := 102) hc dX8_personOf_102 hw
        · have hw := hw.2 b27_2
          by_cases b27_3 : x2 = 3
          · have hw := hw.1 b27_3
            refine vTop (y := 3) b27_3.symm ?_
            refine vTabIn (pc := 27) (tgt := 103) hc dX8_personOf_27 (by decide) (by decide) rfl (by decide) ?_
            refine vAload_n (pc := 103) hc dX8_personOf_103 rfl ?_
            obtain ⟨hp4, hw⟩ := hw
            refine vGetIN (pc := 104) (k := r22) (j := 3) hc (pn_c hp4) inG3 (hc.G _ (pn_N hp4)) (pn_0 hp4) (Nat.le_of_ble_eq_true rfl) nw_6 (pn_j hp4 rfl) dX8_personOf_104 ?_
            exact vIret (pc := 107) hc dX8_personOf_107 hw
          · have hw := hw.2 b27_3
            by_cases b27_4 : x2 = 4
            · have hw := hw.1 b27_4
              refine vTop (y := 4) b27_4.symm ?_
              refine vTabIn (pc := 27) (tgt := 108) hc dX8_personOf_27 (by decide) (by decide) rfl (by decide) ?_
              refine vAload_n (pc := 108) hc dX8_personOf_108 rfl ?_
              obtain ⟨hp5, hw⟩ := hw
              refine vGetIN (pc := 109) (k := r22) (j := 4) hc (pn_c hp5) inG3 (hc.G _ (pn_N hp5)) (pn_0 hp5) (Nat.le_of_ble_eq_true rfl) nw_8 (pn_j hp5 rfl) dX8_personOf_109 ?_
              exact vIret (pc := 112) hc dX8_personOf_112 hw
            · have hw := hw.2 b27_4
              by_cases b27_5 : x2 = 5
              · have hw := hw.1 b27_5
                refine vTop (y := 5) b27_5.symm ?_
                refine vTabIn (pc := 27) (tgt := 113) hc dX8_personOf_27 (by decide) (by decide) rfl (by decide) ?_
                refine vAload_n (pc := 113) hc dX8_personOf_113 rfl ?_
                obtain ⟨hp6, hw⟩ := hw
                refine vGetIN (pc := 114) (k := r22) (j := 5) hc (pn_c hp6) inG3 (hc.G _ (pn_N hp6)) (pn_0 hp6) (Nat.le_of_ble_eq_true rfl) nw_10 (pn_j hp6 rfl) dX8_personOf_114 ?_
                exact vIret (pc := 117) hc dX8_personOf_117 hw
              · have hw := hw.2 b27_5
                by_cases b27_6 : x2 = 6
                · have hw := hw.1 b27_6
                  refine vTop (y := 6) b27_6.symm ?_
                  refine vTabIn (pc := 27) (tgt := 118) hc dX8_personOf_27 (by decide) (by decide) rfl (by decide) ?_
                  refine vAload_n (pc := 118) hc dX8_personOf_118 rfl ?_
                  obtain ⟨hp7, hw⟩ := hw
                  refine vGetIN (pc := 119) (k := r22) (j := 6) hc (pn_c hp7) inG3 (hc.G _ (pn_N hp7)) (pn_0 hp7) (Nat.le_of_ble_eq_true rfl) nw_12 (pn_j hp7 rfl) dX8_personOf_119 ?_
                  exact vIret (pc := 122) hc dX8_personOf_122 hw
                · have hw := hw.2 b27_6
                  by_cases b27_7 : x2 = 7
                  · have hw := hw.1 b27_7
                    refine vTop (y := 7) b27_7.symm ?_
                    refine vTabIn (pc := 27) (tgt := 123) hc dX8_personOf_27 (by decide) (by decide) rfl (by decide) ?_
                    refine vAload_n (pc := 123) hc dX8_personOf_123 rfl ?_
                    obtain ⟨hp8, hw⟩ := hw
                    refine vGetIN (pc := 124) (k := r22) (j := 7) hc (pn_c hp8) inG3 (hc.G _ (pn_N hp8)) (pn_0 hp8) (Nat.le_of_ble_eq_true rfl) nw_14 (pn_j hp8 rfl) dX8_personOf_124 ?_
                    refine vIf_eq (pc := 127) (tgt := 134) hc dX8_personOf_127 (by decide) (fun c127 => ?_) (fun c127 => ?_)
                    · have hw := hw.1 c127
                      refine vIconst (pc := 134) (v := 0) hc dX8_personOf_134 ki_0 ?_
                      exact vIret (pc := 135) hc dX8_personOf_135 hw
                    · have hw := hw.2 c127
                      refine vIconst (pc := 130) (v := 1) hc dX8_personOf_130 ki_1 ?_
                      refine vGoto (pc := 131) (tgt := 135) hc dX8_personOf_131 (by decide) ?_
                      exact vIret (pc := 135) hc dX8_personOf_135 hw
                  · have hw := hw.2 b27_7
                    by_cases b27_8 : x2 = 8
                    · have hw := hw.1 b27_8
                      refine vTop (y := 8) b27_8.symm ?_
                      refine vTabIn (pc := 27) (tgt := 136) hc dX8_personOf_27 (by decide) (by decide) rfl (by decide) ?_
                      refine vAload_n (pc := 136) hc dX8_personOf_136 rfl ?_
                      obtain ⟨hp9, hw⟩ := hw
                      refine vGetIN (pc := 137) (k := r22) (j := 8) hc (pn_c hp9) inG3 (hc.G _ (pn_N hp9)) (pn_0 hp9) (Nat.le_of_ble_eq_true rfl) nw_16 (pn_j hp9 rfl) dX8_personOf_137 ?_
                      refine vIf_eq (pc := 140) (tgt := 147) hc dX8_personOf_140 (by decide) (fun c140 => ?_) (fun c140 => ?_)
                      · have hw := hw.1 c140
                        refine vIconst (pc := 147) (v := 0) hc dX8_personOf_147 ki_0 ?_
                        exact vIret (pc := 148) hc dX8_personOf_148 hw
                      · have hw := hw.2 c140
                        refine vIconst (pc := 143) (v := 1) hc dX8_personOf_143 ki_1 ?_
                        refine vGoto (pc := 144) (tgt := 148) hc dX8_personOf_144 (by decide) ?_
                        exact vIret (pc := 148) hc dX8_personOf_148 hw
                    · have hw := hw.2 b27_8
                      by_cases b27_9 : x2 = 9
                      · have hw := hw.1 b27_9
                        refine vTop (y := 9) b27_9.symm ?_
                        refine vTabIn (pc := 27) (tgt := 149) hc dX8_personOf_27 (by decide) (by decide) rfl (by decide) ?_
                        refine vAload_n (pc := 149) hc dX8_personOf_149 rfl ?_
                        obtain ⟨hp10, hw⟩ := hw
                        refine vGetIN (pc := 150) (k := r22) (j := 9) hc (pn_c hp10) inG3 (hc.G _ (pn_N hp10)) (pn_0 hp10) (Nat.le_of_ble_eq_true rfl) nw_17 (pn_j hp10 rfl) dX8_personOf_150 ?_
                        exact vIret (pc := 153) hc dX8_personOf_153 hw
                      · have hw := hw.2 b27_9
                        by_cases b27_10 : x2 = 10
                        · have hw := hw.1 b27_10
                          refine vTop (y := 10) b27_10.symm ?_
                          refine vTabIn (pc := 27) (tgt := 154) hc dX8_personOf_27 (by decide) (by decide) rfl (by decide) ?_
                          refine vAload_n (pc := 154) hc dX8_personOf_154 rfl ?_
                          refine vGetR (pc := 155) (k := 0) (j := 0) hc rfl inG8 (hc.G 0 (Nat.le_of_ble_eq_true rfl)) rfl (Nat.le_of_ble_eq_true rfl) tw_307 rfl dX8_personOf_155 ?_
                          refine vAload_n (pc := 158) hc dX8_personOf_158 rfl ?_
                          obtain ⟨hp11, hw⟩ := hw
                          refine vGetIN (pc := 159) (k := r22) (j := 1) hc (pn_c hp11) inG3 (hc.G _ (pn_N hp11)) (pn_0 hp11) (Nat.le_of_ble_eq_true rfl) nw_2 (pn_j hp11 rfl) dX8_personOf_159 ?_
                          refine vAload_n (pc := 162) hc dX8_personOf_162 rfl ?_
                          refine vGetIN (pc := 163) (k := r22) (j := 2) hc (pn_c hp11) inG3 (hc.G _ (pn_N hp11)) (pn_0 hp11) (Nat.le_of_ble_eq_true rfl) nw_4 (pn_j hp11 rfl) dX8_personOf_163 ?_
                          refine vCallVi (pc := 166) (st := []) hc ok_X5_shortest tw_355 (c_X5_shortest hc.2.2.2.2.2.2.1 hc.G hw) (hc.G 1 (Nat.le_of_ble_eq_true rfl)) rfl rfl rfl ⟨rfl, rfl⟩ ⟨Nat.le_of_ble_eq_true rfl, Nat.le_of_ble_eq_true rfl⟩ rfl (Nat.le_of_ble_eq_true rfl) dX8_personOf_166 (fun r166 σ166 hw => ?_)
                          exact vIret (pc := 169) hc dX8_personOf_169 hw
                        · have hw := hw.2 b27_10
                          by_cases b27_11 : x2 = 11
                          · have hw := hw.1 b27_11
                            refine vTop (y := 11) b27_11.symm ?_
                            refine vTabIn (pc := 27) (tgt := 170) hc dX8_personOf_27 (by decide) (by decide) rfl (by decide) ?_
                            refine vLdc (pc := 170) hc tw_694 dX8_personOf_170 ?_
                            refine vAload_n (pc := 172) hc dX8_personOf_172 rfl ?_
                            obtain ⟨hp12, hw⟩ := hw
                            refine vGetIN (pc := 173) (k := r22) (j := 10) hc (pn_c hp12) inG3 (hc.G _ (pn_N hp12)) (pn_0 hp12) (Nat.le_of_ble_eq_true rfl) nw_19 (pn_j hp12 rfl) dX8_personOf_173 ?_
                            refine vIadd (pc := 176) hc dX8_personOf_176 ?_
                            exact vIret (pc := 177) hc dX8_personOf_177 hw
                          · have hw := hw.2 b27_11
                            refine vTabOut (pc := 27) (tgt := 178) hc dX8_personOf_27 (by
                              have f0 := lv_neT b27_0 (by decide : (0 : Int32).toInt = 0)
                              have f1 := lv_neT b27_1 (by decide : (1 : Int32).toInt = 1)
                              have f2 := lv_neT b27_2 (by decide : (2 : Int32).toInt = 2)
                              have f3 := lv_neT b27_3 (by decide : (3 : Int32).toInt = 3)
                              have f4 := lv_neT b27_4 (by decide : (4 : Int32).toInt = 4)
                              have f5 := lv_neT b27_5 (by decide : (5 : Int32).toInt = 5)
                              have f6 := lv_neT b27_6 (by decide : (6 : Int32).toInt = 6)
                              have f7 := lv_neT b27_7 (by decide : (7 : Int32).toInt = 7)
                              have f8 := lv_neT b27_8 (by decide : (8 : Int32).toInt = 8)
                              have f9 := lv_neT b27_9 (by decide : (9 : Int32).toInt = 9)
                              have f10 := lv_neT b27_10 (by decide : (10 : Int32).toInt = 10)
                              have f11 := lv_neT b27_11 (by decide : (11 : Int32).toInt = 11)
                              omega) (by decide) ?_
                            refine vAload_n (pc := 178) hc dX8_personOf_178 rfl ?_
                            refine vBipush (pc := 179) (v := (-2)) hc dX8_personOf_179 kb_m2 ?_
                            refine vCallVi (pc := 181) (st := []) hc ok_X8_refuse tw_339 (c_X8_refuse hc.2.2.2.2.2.2.1 hc.G hw) (hc.G 0 (Nat.le_of_ble_eq_true rfl)) rfl rfl rfl ⟨rfl, rfl⟩ ⟨Nat.le_of_ble_eq_true rfl, Nat.le_of_ble_eq_true rfl⟩ rfl (Nat.le_of_ble_eq_true rfl) dX8_personOf_181 (fun r181 σ181 hw => ?_)
                            exact vIret (pc := 184) hc dX8_personOf_184 hw
  · have hw := hw.2 c8
    refine vAload_n (pc := 11) hc dX8_personOf_11 rfl ?_
    refine vIconst (pc := 12) (v := (-1)) hc dX8_personOf_12 ki_m1 ?_
    refine vCallVi (pc := 13) (st := []) hc ok_X8_refuse tw_339 (c_X8_refuse hc.2.2.2.2.2.2.1 hc.G hw) (hc.G 0 (Nat.le_of_ble_eq_true rfl)) rfl rfl rfl ⟨rfl, rfl⟩ ⟨Nat.le_of_ble_eq_true rfl, Nat.le_of_ble_eq_true rfl⟩ rfl (Nat.le_of_ble_eq_true rfl) dX8_personOf_13 (fun r13 σ13 hw => ?_)
    exact vIret (pc := 16) hc dX8_personOf_16 hw
set_option maxRecDepth 100000 in
set_option maxHeartbeats 4000000 in
theorem c_X8_personOf {l : Launch} {E : WD} (hE : inj E) (hG : ∀ k, fdm k → k ∈ E.2.2.2) {x1 x2 : Int32} {σ : MS} {Q : Int32 → MS → Prop} (hw : w_X8_personOf x1 x2 σ Q) : Ci l E yX8_personOf cX8_personOf 4 (some .int) rm_X8_personOf [.ref (E.2.1 0), .int x1, .int x2] σ Q :=
  Ct_of (by decide) rfl (by
    intro v hv
    simp only [List.mem_cons, List.not_mem_nil, or_false] at hv
    rcases hv with rfl | rfl | rfl <;> rfl) (Nat.le_of_ble_eq_true rfl) hE hG (fun p e s m below meth c hc => t_X8_personOf_E hc x1 x2 σ hw)
def w_X8_count_E (Q : Int32 → MS → Prop) (x1 : Int32) (σ : MS) : Prop := ((x1 = 0 → w_X2_size  σ (fun r40 σ40 => Q r40 σ40)) ∧ (¬ x1 = 0 → ((x1 = 1 → w_X2_notAway  σ (fun r48 σ48 => w_J6_bitCount_0f7a4 r48 σ48 (fun r51 σ51 => Q r51 σ51))) ∧ (¬ x1 = 1 → ((x1 = 2 → w_X2_withCar  σ (fun r59 σ59 => Q r59 σ59)) ∧ (¬ x1 = 2 → ((x1 = 3 → w_X4_isMade  σ (fun r67 σ67 => ((r67 = 0 → Q 0 σ67) ∧ (¬ r67 = 0 → Q 1 σ67)))) ∧ (¬ x1 = 3 → ((x1 = 4 → Q (σ 0 7) σ) ∧ (¬ x1 = 4 → ((x1 ≤ 10 → Q (-9) σ) ∧ (¬ x1 ≤ 10 → ((16 < x1 → Q (-9) σ) ∧ (¬ 16 < x1 → ((vp_in (x1 - 10) 7) ∧ Q (σ 12 (x1 - 10).toNatClampNeg) σ)))))))))))))))
abbrev w_X8_count (x1 : Int32) (σ : MS) (Q : Int32 → MS → Prop) : Prop := w_X8_count_E Q x1 σ
abbrev rm_X8_count : Room := { frames := 2, cells := 0, slots := 0, locals := 42 }
theorem ok_X8_count : OkV yX8_count RX8 cX8_count 2 (some .int) 1 := ⟨tw_696, tw_697, tw_45, tw_698, rfl, by decide, by decide, by decide +kernel⟩
set_option maxRecDepth 100000 in
set_option maxHeartbeats 4000000 in
theorem t_X8_count_E {p : Program} {l : Launch} {e : Env} {s : State} {m : MethodId} {args : Array Value} {below : List Frame} {meth : Method} {c : Code} {E : WD} {Q : Int32 → MS → Prop} (hc : Cx p rm_X8_count s m args meth c E (AD E) cX8_count RX8 (some .int) 2 0 0 fdm) (x1 : Int32) (σ : MS) (hw : w_X8_count_E Q x1 σ) : V p l e rm_X8_count s m args below meth c E (AD E) 2 0 0 (MQ below (va_Qi Q (BW E) (AD E)) args s 0 0 (AD E)) σ 0 [some (.ref (E.2.1 0)), some (.int x1)] [] := by
  unfold w_X8_count_E at hw
  refine vIload_n (pc := 0) hc dX8_count_0 rfl ?_
  by_cases b1_0 : x1 = 0
  · have hw := hw.1 b1_0
    refine vTop (y := 0) b1_0.symm ?_
    refine vTabIn (pc := 1) (tgt := 36) hc dX8_count_1 (by decide) (by decide) rfl (by decide) ?_
    refine vAload_n (pc := 36) hc dX8_count_36 rfl ?_
    refine vGetR (pc := 37) (k := 0) (j := 1) hc rfl inG8 (hc.G 0 (Nat.le_of_ble_eq_true rfl)) rfl (Nat.le_of_ble_eq_true rfl) tw_308 rfl dX8_count_37 ?_
    refine vCallVi (pc := 40) (st := []) hc ok_X2_size tw_699 (c_X2_size hc.2.2.2.2.2.2.1 hc.G hw) (hc.G 4 (Nat.le_of_ble_eq_true rfl)) rfl rfl rfl ⟨rfl, rfl⟩ ⟨Nat.le_of_ble_eq_true rfl, Nat.le_of_ble_eq_true rfl⟩ rfl (Nat.le_of_ble_eq_true rfl) dX8_count_40 (fun r40 σ40 hw => ?_)
    exact vIret (pc := 43) hc dX8_count_43 hw
  · have hw := hw.2 b1_0
    by_cases b1_1 : x1 = 1
    · have hw := hw.1 b1_1
      refine vTop (y := 1) b1_1.symm ?_
      refine vTabIn (pc := 1) (tgt := 44) hc dX8_count_1 (by decide) (by decide) rfl (by decide) ?_
      refine vAload_n (pc := 44) hc dX8_count_44 rfl ?_
      refine vGetR (pc := 45) (k := 0) (j := 1) hc rfl inG8 (hc.G 0 (Nat.le_of_ble_eq_true rfl)) rfl (Nat.le_of_ble_eq_true rfl) tw_308 rfl dX8_count_45 ?_
      refine vCallVi (pc := 48) (st := []) hc ok_X2_notAway tw_541 (c_X2_notAway hc.2.2.2.2.2.2.1 hc.G hw) (hc.G 4 (Nat.le_of_ble_eq_true rfl)) rfl rfl rfl ⟨rfl, rfl⟩ ⟨Nat.le_of_ble_eq_true rfl, Nat.le_of_ble_eq_true rfl⟩ rfl (Nat.le_of_ble_eq_true rfl) dX8_count_48 (fun r48 σ48 hw => ?_)
      refine vCallSi (pc := 51) (st := []) hc ok_J6_bitCount_0f7a4 tw_418 (c_J6_bitCount_0f7a4 hc.2.2.2.2.2.2.1 hc.G hw) rfl ⟨rfl, rfl⟩ ⟨Nat.le_of_ble_eq_true rfl, Nat.le_of_ble_eq_true rfl⟩ rfl (Nat.le_of_ble_eq_true rfl) dX8_count_51 (fun r51 σ51 hw => ?_)
      exact vIret (pc := 54) hc dX8_count_54 hw
    · have hw := hw.2 b1_1
      by_cases b1_2 : x1 = 2
      · have hw := hw.1 b1_2
        refine vTop (y := 2) b1_2.symm ?_
        refine vTabIn (pc := 1) (tgt := 55) hc dX8_count_1 (by decide) (by decide) rfl (by decide) ?_
        refine vAload_n (pc := 55) hc dX8_count_55 rfl ?_
        refine vGetR (pc := 56) (k := 0) (j := 1) hc rfl inG8 (hc.G 0 (Nat.le_of_ble_eq_true rfl)) rfl (Nat.le_of_ble_eq_true rfl) tw_308 rfl dX8_count_56 ?_
        refine vCallVi (pc := 59) (st := []) hc ok_X2_withCar tw_703 (c_X2_withCar hc.2.2.2.2.2.2.1 hc.G hw) (hc.G 4 (Nat.le_of_ble_eq_true rfl)) rfl rfl rfl ⟨rfl, rfl⟩ ⟨Nat.le_of_ble_eq_true rfl, Nat.le_of_ble_eq_true rfl⟩ rfl (Nat.le_of_ble_eq_true rfl) dX8_count_59 (fun r59 σ59 hw => ?_)
        exact vIret (pc := 62) hc dX8_count_62 hw
      · have hw := hw.2 b1_2
        by_cases b1_3 : x1 = 3
        · have hw := hw.1 b1_3
          refine vTop (y := 3) b1_3.symm ?_
          refine vTabIn (pc := 1) (tgt := 63) hc dX8_count_1 (by decide) (by decide) rfl (by decide) ?_
          refine vAload_n (pc := 63) hc dX8_count_63 rfl ?_
          refine vGetR (pc := 64) (k := 0) (j := 5) hc rfl inG8 (hc.G 0 (Nat.le_of_ble_eq_true rfl)) rfl (Nat.le_of_ble_eq_true rfl) tw_312 rfl dX8_count_64 ?_
          refine vCallVi (pc := 67) (st := []) hc ok_X4_isMade tw_604 (c_X4_isMade hc.2.2.2.2.2.2.1 hc.G hw) (hc.G 11 (Nat.le_of_ble_eq_true rfl)) rfl rfl rfl ⟨rfl, rfl⟩ ⟨Nat.le_of_ble_eq_true rfl, Nat.le_of_ble_eq_true rfl⟩ rfl (Nat.le_of_ble_eq_true rfl) dX8_count_67 (fun r67 σ67 hw => ?_)
          refine vIf_eq (pc := 70) (tgt := 77) hc dX8_count_70 (by decide) (fun c70 => ?_) (fun c70 => ?_)
          · have hw := hw.1 c70
            refine vIconst (pc := 77) (v := 0) hc dX8_count_77 ki_0 ?_
            exact vIret (pc := 78) hc dX8_count_78 hw
          · have hw := hw.2 c70
            refine vIconst (pc := 73) (v := 1) hc dX8_count_73 ki_1 ?_
            refine vGoto (pc := 74) (tgt := 78) hc dX8_count_74 (by decide) ?_
            exact vIret (pc := 78) hc dX8_count_78 hw
        · have hw := hw.2 b1_3
          by_cases b1_4 : x1 = 4
          · have hw := hw.1 b1_4
            refine vTop (y := 4) b1_4.symm ?_
            refine vTabIn (pc := 1) (tgt := 79) hc dX8_count_1 (by decide) (by decide) rfl (by decide) ?_
            refine vAload_n (pc := 79) hc dX8_count_79 rfl ?_
            refine vGetI (pc := 80) (k := 0) (j := 7) hc rfl inG8 (hc.G 0 (Nat.le_of_ble_eq_true rfl)) rfl (Nat.le_of_ble_eq_true rfl) tw_314 rfl dX8_count_80 ?_
            exact vIret (pc := 83) hc dX8_count_83 hw
          · have hw := hw.2 b1_4
            refine vTabOut (pc := 1) (tgt := 84) hc dX8_count_1 (by
              have f0 := lv_neT b1_0 (by decide : (0 : Int32).toInt = 0)
              have f1 := lv_neT b1_1 (by decide : (1 : Int32).toInt = 1)
              have f2 := lv_neT b1_2 (by decide : (2 : Int32).toInt = 2)
              have f3 := lv_neT b1_3 (by decide : (3 : Int32).toInt = 3)
              have f4 := lv_neT b1_4 (by decide : (4 : Int32).toInt = 4)
              omega) (by decide) ?_
            refine vIload_n (pc := 84) hc dX8_count_84 rfl ?_
            refine vBipush (pc := 85) (v := 10) hc dX8_count_85 kb_10 ?_
            refine vIcmp_le (pc := 87) (tgt := 108) hc dX8_count_87 (by decide) (fun c87 => ?_) (fun c87 => ?_)
            · have hw := hw.1 c87
              refine vBipush (pc := 108) (v := (-9)) hc dX8_count_108 kb_m9 ?_
              exact vIret (pc := 110) hc dX8_count_110 hw
            · have hw := hw.2 c87
              refine vIload_n (pc := 90) hc dX8_count_90 rfl ?_
              refine vBipush (pc := 91) (v := 16) hc dX8_count_91 kb_16 ?_
              refine vIcmp_gt (pc := 93) (tgt := 108) hc dX8_count_93 (by decide) (fun c93 => ?_) (fun c93 => ?_)
              · have hw := hw.1 c93
                refine vBipush (pc := 108) (v := (-9)) hc dX8_count_108 kb_m9 ?_
                exact vIret (pc := 110) hc dX8_count_110 hw
              · have hw := hw.2 c93
                refine vAload_n (pc := 96) hc dX8_count_96 rfl ?_
                refine vGetR (pc := 97) (k := 0) (j := 6) hc rfl inG8 (hc.G 0 (Nat.le_of_ble_eq_true rfl)) rfl (Nat.le_of_ble_eq_true rfl) tw_313 rfl dX8_count_97 ?_
                refine vIload_n (pc := 100) hc dX8_count_100 rfl ?_
                refine vBipush (pc := 101) (v := 10) hc dX8_count_101 kb_10 ?_
                refine vIsub (pc := 103) hc dX8_count_103 ?_
                obtain ⟨hi1, hw⟩ := hw
                refine vIald (pc := 104) (k := 12) hc (hc.G 12 (Nat.le_of_ble_eq_true rfl)) rfl rfl hi1 dX8_count_104 ?_
                refine vGoto (pc := 105) (tgt := 110) hc dX8_count_105 (by decide) ?_
                exact vIret (pc := 110) hc dX8_count_110 hw
set_option maxRecDepth 100000 in
set_option maxHeartbeats 4000000 in
theorem c_X8_count {l : Launch} {E : WD} (hE : inj E) (hG : ∀ k, fdm k → k ∈ E.2.2.2) {x1 : Int32} {σ : MS} {Q : Int32 → MS → Prop} (hw : w_X8_count x1 σ Q) : Ci l E yX8_count cX8_count 2 (some .int) rm_X8_count [.ref (E.2.1 0), .int x1] σ Q :=
  Ct_of (by decide) rfl (by
    intro v hv
    simp only [List.mem_cons, List.not_mem_nil, or_false] at hv
    rcases hv with rfl | rfl <;> rfl) (Nat.le_of_ble_eq_true rfl) hE hG (fun p e s m below meth c hc => t_X8_count_E hc x1 σ hw)
def w_X9_refuse_E (Q : Int32 → MS → Prop) (x1 : Int32) (σ : MS) : Prop := ((vp_in (-x1) 7) ∧ (∀ σ10, σ10 = mst σ 67 (-x1).toNatClampNeg ((σ 67 (-x1).toNatClampNeg) + 1) → Q x1 σ10))
abbrev w_X9_refuse (x1 : Int32) (σ : MS) (Q : Int32 → MS → Prop) : Prop := w_X9_refuse_E Q x1 σ
abbrev rm_X9_refuse : Room := { frames := 0, cells := 0, slots := 0, locals := 0 }
theorem ok_X9_refuse : OkV yX9_refuse RX9 cX9_refuse 2 (some .int) 1 := ⟨tw_863, tw_23, tw_57, tw_864, rfl, by decide, by decide, by decide +kernel⟩
set_option maxRecDepth 100000 in
set_option maxHeartbeats 4000000 in
theorem t_X9_refuse_E {p : Program} {l : Launch} {e : Env} {s : State} {m : MethodId} {args : Array Value} {below : List Frame} {meth : Method} {c : Code} {E : WD} {Q : Int32 → MS → Prop} (hc : Cx p rm_X9_refuse s m args meth c E (AD E) cX9_refuse RX9 (some .int) 2 0 0 fdm) (x1 : Int32) (σ : MS) (hw : w_X9_refuse_E Q x1 σ) : V p l e rm_X9_refuse s m args below meth c E (AD E) 2 0 0 (MQ below (va_Qi Q (BW E) (AD E)) args s 0 0 (AD E)) σ 0 [some (.ref (E.2.1 66)), some (.int x1)] [] := by
  unfold w_X9_refuse_E at hw
  refine vAload_n (pc := 0) hc dX9_refuse_0 rfl ?_
  refine vGetR (pc := 1) (k := 66) (j := 0) hc rfl inG9 (hc.G 66 (Nat.le_of_ble_eq_true rfl)) rfl (Nat.le_of_ble_eq_true rfl) tw_723 rfl dX9_refuse_1 ?_
  refine vIload_n (pc := 4) hc dX9_refuse_4 rfl ?_
  refine vIneg (pc := 5) hc dX9_refuse_5 ?_
  refine vDup2 (pc := 6) hc dX9_refuse_6 rfl rfl ?_
  obtain ⟨hi1, hw⟩ := hw
  refine vIald (pc := 7) (k := 67) hc (hc.G 67 (Nat.le_of_ble_eq_true rfl)) rfl rfl hi1 dX9_refuse_7 ?_
  refine vIconst (pc := 8) (v := 1) hc dX9_refuse_8 ki_1 ?_
  refine vIadd (pc := 9) hc dX9_refuse_9 ?_
  refine vIast (pc := 10) (k := 67) hc (hc.G 67 (Nat.le_of_ble_eq_true rfl)) rfl rfl hi1 dX9_refuse_10 (fun σ10 eσ10 => ?_)
  have hw := hw σ10 eσ10
  refine vIload_n (pc := 11) hc dX9_refuse_11 rfl ?_
  exact vIret (pc := 12) hc dX9_refuse_12 hw
set_option maxRecDepth 100000 in
set_option maxHeartbeats 4000000 in
theorem c_X9_refuse {l : Launch} {E : WD} (hE : inj E) (hG : ∀ k, fdm k → k ∈ E.2.2.2) {x1 : Int32} {σ : MS} {Q : Int32 → MS → Prop} (hw : w_X9_refuse x1 σ Q) : Ci l E yX9_refuse cX9_refuse 2 (some .int) rm_X9_refuse [.ref (E.2.1 66), .int x1] σ Q :=
  Ct_of (by decide) rfl (by
    intro v hv
    simp only [List.mem_cons, List.not_mem_nil, or_false] at hv
    rcases hv with rfl | rfl <;> rfl) (Nat.le_of_ble_eq_true rfl) hE hG (fun p e s m below meth c hc => t_X9_refuse_E hc x1 σ hw)
def w_X9_isIn_E (Q : Int32 → MS → Prop) (x0 x1 : Int32) (σ : MS) : Prop := ((x0 < 0 → Q 0 σ) ∧ (¬ x0 < 0 → ((x1 ≤ x0 → Q 0 σ) ∧ (¬ x1 ≤ x0 → Q 1 σ))))
abbrev w_X9_isIn (x0 x1 : Int32) (σ : MS) (Q : Int32 → MS → Prop) : Prop := w_X9_isIn_E Q x0 x1 σ
abbrev rm_X9_isIn : Room := { frames := 0, cells := 0, slots := 0, locals := 0 }
theorem ok_X9_isIn : OkS yX9_isIn cX9_isIn 2 (some .boolean) 2 := ⟨tw_859, tw_57, tw_860, by decide, by decide, by decide +kernel⟩
set_option maxRecDepth 100000 in
set_option maxHeartbeats 4000000 in
theorem t_X9_isIn_E {p : Program} {l : Launch} {e : Env} {s : State} {m : MethodId} {args : Array Value} {below : List Frame} {meth : Method} {c : Code} {E : WD} {Q : Int32 → MS → Prop} (hc : Cx p rm_X9_isIn s m args meth c E (AD E) cX9_isIn RX9 (some .boolean) 2 0 0 fdm) (x0 x1 : Int32) (σ : MS) (hw : w_X9_isIn_E Q x0 x1 σ) : V p l e rm_X9_isIn s m args below meth c E (AD E) 2 0 0 (MQ below (va_Qi Q (BW E) (AD E)) args s 0 0 (AD E)) σ 0 [some (.int x0), some (.int x1)] [] := by
  unfold w_X9_isIn_E at hw
  refine vIload_n (pc := 0) hc dX9_isIn_0 rfl ?_
  refine vIf_lt (pc := 1) (tgt := 13) hc dX9_isIn_1 (by decide) (fun c1 => ?_) (fun c1 => ?_)
  · have hw := hw.1 c1
    refine vIconst (pc := 13) (v := 0) hc dX9_isIn_13 ki_0 ?_
    exact vZret (pc := 14) hc dX9_isIn_14 (Or.inl rfl) hw
  · have hw := hw.2 c1
    refine vIload_n (pc := 4) hc dX9_isIn_4 rfl ?_
    refine vIload_n (pc := 5) hc dX9_isIn_5 rfl ?_
    refine vIcmp_ge (pc := 6) (tgt := 13) hc dX9_isIn_6 (by decide) (fun c6 => ?_) (fun c6 => ?_)
    · have hw := hw.1 c6
      refine vIconst (pc := 13) (v := 0) hc dX9_isIn_13 ki_0 ?_
      exact vZret (pc := 14) hc dX9_isIn_14 (Or.inl rfl) hw
    · have hw := hw.2 c6
      refine vIconst (pc := 9) (v := 1) hc dX9_isIn_9 ki_1 ?_
      refine vGoto (pc := 10) (tgt := 14) hc dX9_isIn_10 (by decide) ?_
      exact vZret (pc := 14) hc dX9_isIn_14 (Or.inr rfl) hw
set_option maxRecDepth 100000 in
set_option maxHeartbeats 4000000 in
theorem c_X9_isIn {l : Launch} {E : WD} (hE : inj E) (hG : ∀ k, fdm k → k ∈ E.2.2.2) {x0 x1 : Int32} {σ : MS} {Q : Int32 → MS → Prop} (hw : w_X9_isIn x0 x1 σ Q) : Ci l E yX9_isIn cX9_isIn 2 (some .boolean) rm_X9_isIn [.int x0, .int x1] σ Q :=
  Ct_of (by decide) rfl (by
    intro v hv
    simp only [List.mem_cons, List.not_mem_nil, or_false] at hv
    rcases hv with rfl | rfl <;> rfl) (Nat.le_of_ble_eq_true rfl) hE hG (fun p e s m below meth c hc => t_X9_isIn_E hc x0 x1 σ hw)
def w_X9_changes_E (Q : MS → Prop) (σ : MS) : Prop := (∀ σ2, σ2 = mst σ 66 27 0 → Q σ2)
abbrev w_X9_changes (σ : MS) (Q : MS → Prop) : Prop := w_X9_changes_E Q  σ
abbrev rm_X9_changes : Room := { frames := 0, cells := 0, slots := 0, locals := 0 }
theorem ok_X9_changes : OkV yX9_changes RX9 cX9_changes 1 none 0 := ⟨tw_721, tw_22, tw_57, tw_722, rfl, by decide, by decide, by decide +kernel⟩
set_option maxRecDepth 100000 in
set_option maxHeartbeats 4000000 in
theorem t_X9_changes_E {p : Program} {l : Launch} {e : Env} {s : State} {m : MethodId} {args : Array Value} {below : List Frame} {meth : Method} {c : Code} {E : WD} {Q : MS → Prop} (hc : Cx p rm_X9_changes s m args meth c E (AD E) cX9_changes RX9 none 1 0 0 fdm) (σ : MS) (hw : w_X9_changes_E Q  σ) : V p l e rm_X9_changes s m args below meth c E (AD E) 1 0 0 (MQ below (va_Qv Q (BW E) (AD E)) args s 0 0 (AD E)) σ 0 [some (.ref (E.2.1 66))] [] := by
  unfold w_X9_changes_E at hw
  refine vAload_n (pc := 0) hc dX9_changes_0 rfl ?_
  refine vIconst (pc := 1) (v := 0) hc dX9_changes_1 ki_0 ?_
  refine vPut (pc := 2) (k := 66) (j := 27) hc rfl inG9 (hc.G 66 (Nat.le_of_ble_eq_true rfl)) rfl (Nat.le_of_ble_eq_true rfl) tyX9 tyX9_ok nmX9 tw_750 rfl rfl (zb_nar (Or.inl rfl)) (zb_fit (Or.inl rfl)) dX9_changes_2 (fun σ2 eσ2 => ?_)
  have hw := hw σ2 eσ2
  exact vVret (pc := 5) hc dX9_changes_5 hw
set_option maxRecDepth 100000 in
set_option maxHeartbeats 4000000 in
theorem c_X9_changes {l : Launch} {E : WD} (hE : inj E) (hG : ∀ k, fdm k → k ∈ E.2.2.2) {σ : MS} {Q : MS → Prop} (hw : w_X9_changes  σ Q) : Cv l E yX9_changes cX9_changes 1 none rm_X9_changes [.ref (E.2.1 66)] σ Q :=
  Ct_of (by decide) rfl (by
    intro v hv
    simp only [List.mem_cons, List.not_mem_nil, or_false] at hv
    rcases hv with rfl <;> rfl) (Nat.le_of_ble_eq_true rfl) hE hG (fun p e s m below meth c hc => t_X9_changes_E hc  σ hw)
def w_X9_measure_J116 (Q : MS → Prop) (σ : MS) : Prop := w_X9_changes  σ (fun σ117 => Q σ117)
def w_X9_measure_H44 (K28 : Int32 → MS → Prop) (K36 : Int32 → Int32 → MS → Prop) (Q : MS → Prop) : Nat → Int32 → Int32 → Int32 → MS → Prop
  | 0, _, _, _, _ => False
  | n + 1, x1, x2, x3, σ => ((10 ≤ x3 → K36 x1 (x2 + 1) σ) ∧ (¬ 10 ≤ x3 → ((vp_in (((10 : Int32) * x2) + x3) 100) ∧ ((vp_in (((10 : Int32) * x2) + x1) 100) ∧ ((vp_in (((10 : Int32) * x1) + x3) 100) ∧ (∀ σ97, σ97 = mst σ 69 (((10 : Int32) * x2) + x3).toNatClampNeg (if ((σ 69 (((10 : Int32) * x2) + x1).toNatClampNeg) + (σ 69 (((10 : Int32) * x1) + x3).toNatClampNeg)) < (σ 69 (((10 : Int32) * x2) + x3).toNatClampNeg) then ((σ 69 (((10 : Int32) * x2) + x1).toNatClampNeg) + (σ 69 (((10 : Int32) * x1) + x3).toNatClampNeg)) else (σ 69 (((10 : Int32) * x2) + x3).toNatClampNeg)) → w_X9_measure_H44 K28 K36 Q n x1 x2 (x3 + 1) σ97))))))
def w_X9_measure_H36 (K28 : Int32 → MS → Prop) (Q : MS → Prop) : Nat → Int32 → Int32 → MS → Prop
  | 0, _, _, _ => False
  | n + 1, x1, x2, σ => ((10 ≤ x2 → K28 (x1 + 1) σ) ∧ (¬ 10 ≤ x2 → (∃ n44, w_X9_measure_H44 K28 (fun x1 x2 σ => w_X9_measure_H36 K28 Q n x1 x2 σ) Q n44 x1 x2 0 σ)))
def w_X9_measure_H28 (Q : MS → Prop) : Nat → Int32 → MS → Prop
  | 0, _, _ => False
  | n + 1, x1, σ => ((10 ≤ x1 → w_X9_measure_J116 Q σ) ∧ (¬ 10 ≤ x1 → (∃ n36, w_X9_measure_H36 (fun x1 σ => w_X9_measure_H28 Q n x1 σ) Q n36 x1 0 σ)))
def w_X9_measure_H2 (Q : MS → Prop) : Nat → Int32 → MS → Prop
  | 0, _, _ => False
  | n + 1, x1, σ => ((100 ≤ x1 → (∃ n28, w_X9_measure_H28 Q n28 0 σ)) ∧ (¬ 100 ≤ x1 → ((vp_in x1 100) ∧ (∀ σ19, σ19 = mst σ 69 x1.toNatClampNeg (σ 68 x1.toNatClampNeg) → w_X9_measure_H2 Q n (x1 + 1) σ19))))
def w_X9_measure_E (Q : MS → Prop) (σ : MS) : Prop := (∃ n2, w_X9_measure_H2 Q n2 0 σ)
abbrev w_X9_measure (σ : MS) (Q : MS → Prop) : Prop := w_X9_measure_E Q  σ
abbrev rm_X9_measure : Room := { frames := 1, cells := 0, slots := 0, locals := 60 }
theorem ok_X9_measure : OkV yX9_measure RX9 cX9_measure 4 none 0 := ⟨tw_716, tw_21, tw_57, tw_717, rfl, by decide, by decide, by decide +kernel⟩
set_option maxRecDepth 100000 in
set_option maxHeartbeats 4000000 in
theorem t_X9_measure_J116 {p : Program} {l : Launch} {e : Env} {s : State} {m : MethodId} {args : Array Value} {below : List Frame} {meth : Method} {c : Code} {E : WD} {Q : MS → Prop} (hc : Cx p rm_X9_measure s m args meth c E (AD E) cX9_measure RX9 none 4 0 0 fdm) (σ : MS) (hw : w_X9_measure_J116 Q  σ) : V p l e rm_X9_measure s m args below meth c E (AD E) 4 0 0 (MQ below (va_Qv Q (BW E) (AD E)) args s 0 0 (AD E)) σ 116 [some (.ref (E.2.1 66)), none, none, none] [] := by
  unfold w_X9_measure_J116 at hw
  refine vAload_n (pc := 116) hc dX9_measure_116 rfl ?_
  refine vCallVv (pc := 117) (st := []) hc ok_X9_changes tw_719 (c_X9_changes hc.2.2.2.2.2.2.1 hc.G hw) (hc.G 66 (Nat.le_of_ble_eq_true rfl)) rfl rfl rfl ⟨rfl, rfl⟩ ⟨Nat.le_of_ble_eq_true rfl, Nat.le_of_ble_eq_true rfl⟩ rfl (Nat.le_of_ble_eq_true rfl) dX9_measure_117 (fun σ117 hw => ?_)
  exact vVret (pc := 120) hc dX9_measure_120 hw
set_option maxRecDepth 100000 in
set_option maxHeartbeats 4000000 in
theorem t_X9_measure_H44 {p : Program} {l : Launch} {e : Env} {s : State} {m : MethodId} {args : Array Value} {below : List Frame} {meth : Method} {c : Code} {E : WD} {Q : MS → Prop} (hc : Cx p rm_X9_measure s m args meth c E (AD E) cX9_measure RX9 none 4 0 0 fdm) {K28 : Int32 → MS → Prop} (hK28 : ∀ (x1 : Int32) (σ : MS), K28 x1 σ → V p l e rm_X9_measure s m args below meth c E (AD E) 4 0 0 (MQ below (va_Qv Q (BW E) (AD E)) args s 0 0 (AD E)) σ 28 [some (.ref (E.2.1 66)), some (.int x1), none, none] []) {K36 : Int32 → Int32 → MS → Prop} (hK36 : ∀ (x1 x2 : Int32) (σ : MS), K36 x1 x2 σ → V p l e rm_X9_measure s m args below meth c E (AD E) 4 0 0 (MQ below (va_Qv Q (BW E) (AD E)) args s 0 0 (AD E)) σ 36 [some (.ref (E.2.1 66)), some (.int x1), some (.int x2), none] []) : ∀ (n : Nat) (x1 x2 x3 : Int32) (σ : MS), w_X9_measure_H44 K28 K36 Q n x1 x2 x3 σ → V p l e rm_X9_measure s m args below meth c E (AD E) 4 0 0 (MQ below (va_Qv Q (BW E) (AD E)) args s 0 0 (AD E)) σ 44 [some (.ref (E.2.1 66)), some (.int x1), some (.int x2), some (.int x3)] [] := by
  intro n
  induction n with
  | zero =>
    intro x1 x2 x3 σ hw
    exact hw.elim
  | succ n ih =>
    intro x1 x2 x3 σ hw
    unfold w_X9_measure_H44 at hw
    refine vIload_n (pc := 44) hc dX9_measure_44 rfl ?_
    refine vBipush (pc := 45) (v := 10) hc dX9_measure_45 kb_10 ?_
    refine vIcmp_ge (pc := 47) (tgt := 104) hc dX9_measure_47 (by decide) (fun c47 => ?_) (fun c47 => ?_)
    · have hw := hw.1 c47
      refine vIinc (pc := 104) (v := x2 + 1) (L2 := [some (.ref (E.2.1 66)), some (.int x1), some (.int (x2 + 1)), some (.int x3)]) hc dX9_measure_104 rfl rfl rfl (Nat.le_of_ble_eq_true rfl) ?_
      refine vGoto (pc := 107) (tgt := 36) hc dX9_measure_107 (by decide) ?_
      exact vMono (L2 := [some (.ref (E.2.1 66)), some (.int x1), some (.int (x2 + 1)), none]) (show subL [some (.ref (E.2.1 66)), some (.int x1), some (.int (x2 + 1)), none] [some (.ref (E.2.1 66)), some (.int x1), some (.int (x2 + 1)), some (.int x3)] from ⟨rfl, ⟨rfl, ⟨rfl, trivial⟩⟩⟩) (hK36 x1 (x2 + 1) _ hw)
    · have hw := hw.2 c47
      refine vAload_n (pc := 50) hc dX9_measure_50 rfl ?_
      refine vGetR (pc := 51) (k := 66) (j := 2) hc rfl inG9 (hc.G 66 (Nat.le_of_ble_eq_true rfl)) rfl (Nat.le_of_ble_eq_true rfl) tw_725 rfl dX9_measure_51 ?_
      refine vBipush (pc := 54) (v := 10) hc dX9_measure_54 kb_10 ?_
      refine vIload_n (pc := 56) hc dX9_measure_56 rfl ?_
      refine vImul (pc := 57) hc dX9_measure_57 ?_
      refine vIload_n (pc := 58) hc dX9_measure_58 rfl ?_
      refine vIadd (pc := 59) hc dX9_measure_59 ?_
      refine vAload_n (pc := 60) hc dX9_measure_60 rfl ?_
      refine vGetR (pc := 61) (k := 66) (j := 2) hc rfl inG9 (hc.G 66 (Nat.le_of_ble_eq_true rfl)) rfl (Nat.le_of_ble_eq_true rfl) tw_725 rfl dX9_measure_61 ?_
      refine vBipush (pc := 64) (v := 10) hc dX9_measure_64 kb_10 ?_
      refine vIload_n (pc := 66) hc dX9_measure_66 rfl ?_
      refine vImul (pc := 67) hc dX9_measure_67 ?_
      refine vIload_n (pc := 68) hc dX9_measure_68 rfl ?_
      refine vIadd (pc := 69) hc dX9_measure_69 ?_
      obtain ⟨hi1, hw⟩ := hw
      refine vIald (pc := 70) (k := 69) hc (hc.G 69 (Nat.le_of_ble_eq_true rfl)) rfl rfl hi1 dX9_measure_70 ?_
      refine vAload_n (pc := 71) hc dX9_measure_71 rfl ?_
      refine vGetR (pc := 72) (k := 66) (j := 2) hc rfl inG9 (hc.G 66 (Nat.le_of_ble_eq_true rfl)) rfl (Nat.le_of_ble_eq_true rfl) tw_725 rfl dX9_measure_72 ?_
      refine vBipush (pc := 75) (v := 10) hc dX9_measure_75 kb_10 ?_
      refine vIload_n (pc := 77) hc dX9_measure_77 rfl ?_
      refine vImul (pc := 78) hc dX9_measure_78 ?_
      refine vIload_n (pc := 79) hc dX9_measure_79 rfl ?_
      refine vIadd (pc := 80) hc dX9_measure_80 ?_
      obtain ⟨hi2, hw⟩ := hw
      refine vIald (pc := 81) (k := 69) hc (hc.G 69 (Nat.le_of_ble_eq_true rfl)) rfl rfl hi2 dX9_measure_81 ?_
      refine vAload_n (pc := 82) hc dX9_measure_82 rfl ?_
      refine vGetR (pc := 83) (k := 66) (j := 2) hc rfl inG9 (hc.G 66 (Nat.le_of_ble_eq_true rfl)) rfl (Nat.le_of_ble_eq_true rfl) tw_725 rfl dX9_measure_83 ?_
      refine vBipush (pc := 86) (v := 10) hc dX9_measure_86 kb_10 ?_
      refine vIload_n (pc := 88) hc dX9_measure_88 rfl ?_
      refine vImul (pc := 89) hc dX9_measure_89 ?_
      refine vIload_n (pc := 90) hc dX9_measure_90 rfl ?_
      refine vIadd (pc := 91) hc dX9_measure_91 ?_
      obtain ⟨hi3, hw⟩ := hw
      refine vIald (pc := 92) (k := 69) hc (hc.G 69 (Nat.le_of_ble_eq_true rfl)) rfl rfl hi3 dX9_measure_92 ?_
      refine vIadd (pc := 93) hc dX9_measure_93 ?_
      refine vMin (pc := 94) hc tw_718 tw_90 tw_49 tw_91 ⟨Nat.le_of_ble_eq_true rfl, Nat.le_of_ble_eq_true rfl⟩ dX9_measure_94 ?_
      refine vIast (pc := 97) (k := 69) hc (hc.G 69 (Nat.le_of_ble_eq_true rfl)) rfl rfl hi1 dX9_measure_97 (fun σ97 eσ97 => ?_)
      have hw := hw σ97 eσ97
      refine vIinc (pc := 98) (v := x3 + 1) (L2 := [some (.ref (E.2.1 66)), some (.int x1), some (.int x2), some (.int (x3 + 1))]) hc dX9_measure_98 rfl rfl rfl (Nat.le_of_ble_eq_true rfl) ?_
      refine vGoto (pc := 101) (tgt := 44) hc dX9_measure_101 (by decide) ?_
      exact vMono (L2 := [some (.ref (E.2.1 66)), some (.int x1), some (.int x2), some (.int (x3 + 1))]) (show subL [some (.ref (E.2.1 66)), some (.int x1), some (.int x2), some (.int (x3 + 1))] [some (.ref (E.2.1 66)), some (.int x1), some (.int x2), some (.int (x3 + 1))] from ⟨rfl, ⟨rfl, ⟨rfl, ⟨rfl, trivial⟩⟩⟩⟩) (ih x1 x2 (x3 + 1) _ hw)
set_option maxRecDepth 100000 in
set_option maxHeartbeats 4000000 in
theorem t_X9_measure_H36 {p : Program} {l : Launch} {e : Env} {s : State} {m : MethodId} {args : Array Value} {below : List Frame} {meth : Method} {c : Code} {E : WD} {Q : MS → Prop} (hc : Cx p rm_X9_measure s m args meth c E (AD E) cX9_measure RX9 none 4 0 0 fdm) {K28 : Int32 → MS → Prop} (hK28 : ∀ (x1 : Int32) (σ : MS), K28 x1 σ → V p l e rm_X9_measure s m args below meth c E (AD E) 4 0 0 (MQ below (va_Qv Q (BW E) (AD E)) args s 0 0 (AD E)) σ 28 [some (.ref (E.2.1 66)), some (.int x1), none, none] []) : ∀ (n : Nat) (x1 x2 : Int32) (σ : MS), w_X9_measure_H36 K28 Q n x1 x2 σ → V p l e rm_X9_measure s m args below meth c E (AD E) 4 0 0 (MQ below (va_Qv Q (BW E) (AD E)) args s 0 0 (AD E)) σ 36 [some (.ref (E.2.1 66)), some (.int x1), some (.int x2), none] [] := by
  intro n
  induction n with
  | zero =>
    intro x1 x2 σ hw
    exact hw.elim
  | succ n ih =>
    intro x1 x2 σ hw
    unfold w_X9_measure_H36 at hw
    refine vIload_n (pc := 36) hc dX9_measure_36 rfl ?_
    refine vBipush (pc := 37) (v := 10) hc dX9_measure_37 kb_10 ?_
    refine vIcmp_ge (pc := 39) (tgt := 110) hc dX9_measure_39 (by decide) (fun c39 => ?_) (fun c39 => ?_)
    · have hw := hw.1 c39
      refine vIinc (pc := 110) (v := x1 + 1) (L2 := [some (.ref (E.2.1 66)), some (.int (x1 + 1)), some (.int x2), none]) hc dX9_measure_110 rfl rfl rfl (Nat.le_of_ble_eq_true rfl) ?_
      refine vGoto (pc := 113) (tgt := 28) hc dX9_measure_113 (by decide) ?_
      exact vMono (L2 := [some (.ref (E.2.1 66)), some (.int (x1 + 1)), none, none]) (show subL [some (.ref (E.2.1 66)), some (.int (x1 + 1)), none, none] [some (.ref (E.2.1 66)), some (.int (x1 + 1)), some (.int x2), none] from ⟨rfl, ⟨rfl, trivial⟩⟩) (hK28 (x1 + 1) _ hw)
    · have hw := hw.2 c39
      refine vIconst (pc := 42) (v := 0) hc dX9_measure_42 ki_0 ?_
      refine vIstore_n (pc := 43) (L2 := [some (.ref (E.2.1 66)), some (.int x1), some (.int x2), some (.int 0)]) hc dX9_measure_43 rfl (Nat.le_of_ble_eq_true rfl) ?_
      obtain ⟨n44, hw⟩ := hw
      exact vMono (L2 := [some (.ref (E.2.1 66)), some (.int x1), some (.int x2), some (.int 0)]) (show subL [some (.ref (E.2.1 66)), some (.int x1), some (.int x2), some (.int 0)] [some (.ref (E.2.1 66)), some (.int x1), some (.int x2), some (.int 0)] from ⟨rfl, ⟨rfl, ⟨rfl, ⟨rfl, trivial⟩⟩⟩⟩) (t_X9_measure_H44 hc hK28 (fun x1 x2 σ hw => ih x1 x2 σ hw) n44 x1 x2 0 _ hw)
set_option maxRecDepth 100000 in
set_option maxHeartbeats 4000000 in
theorem t_X9_measure_H28 {p : Program} {l : Launch} {e : Env} {s : State} {m : MethodId} {args : Array Value} {below : List Frame} {meth : Method} {c : Code} {E : WD} {Q : MS → Prop} (hc : Cx p rm_X9_measure s m args meth c E (AD E) cX9_measure RX9 none 4 0 0 fdm) : ∀ (n : Nat) (x1 : Int32) (σ : MS), w_X9_measure_H28 Q n x1 σ → V p l e rm_X9_measure s m args below meth c E (AD E) 4 0 0 (MQ below (va_Qv Q (BW E) (AD E)) args s 0 0 (AD E)) σ 28 [some (.ref (E.2.1 66)), some (.int x1), none, none] [] := by
  intro n
  induction n with
  | zero =>
    intro x1 σ hw
    exact hw.elim
  | succ n ih =>
    intro x1 σ hw
    unfold w_X9_measure_H28 at hw
    refine vIload_n (pc := 28) hc dX9_measure_28 rfl ?_
    refine vBipush (pc := 29) (v := 10) hc dX9_measure_29 kb_10 ?_
    refine vIcmp_ge (pc := 31) (tgt := 116) hc dX9_measure_31 (by decide) (fun c31 => ?_) (fun c31 => ?_)
    · have hw := hw.1 c31
      exact vMono (L2 := [some (.ref (E.2.1 66)), none, none, none]) (show subL [some (.ref (E.2.1 66)), none, none, none] [some (.ref (E.2.1 66)), some (.int x1), none, none] from ⟨rfl, trivial⟩) (t_X9_measure_J116 hc   _ hw)
    · have hw := hw.2 c31
      refine vIconst (pc := 34) (v := 0) hc dX9_measure_34 ki_0 ?_
      refine vIstore_n (pc := 35) (L2 := [some (.ref (E.2.1 66)), some (.int x1), some (.int 0), none]) hc dX9_measure_35 rfl (Nat.le_of_ble_eq_true rfl) ?_
      obtain ⟨n36, hw⟩ := hw
      exact vMono (L2 := [some (.ref (E.2.1 66)), some (.int x1), some (.int 0), none]) (show subL [some (.ref (E.2.1 66)), some (.int x1), some (.int 0), none] [some (.ref (E.2.1 66)), some (.int x1), some (.int 0), none] from ⟨rfl, ⟨rfl, ⟨rfl, trivial⟩⟩⟩) (t_X9_measure_H36 hc (fun x1 σ hw => ih x1 σ hw) n36 x1 0 _ hw)
set_option maxRecDepth 100000 in
set_option maxHeartbeats 4000000 in
theorem t_X9_measure_H2 {p : Program} {l : Launch} {e : Env} {s : State} {m : MethodId} {args : Array Value} {below : List Frame} {meth : Method} {c : Code} {E : WD} {Q : MS → Prop} (hc : Cx p rm_X9_measure s m args meth c E (AD E) cX9_measure RX9 none 4 0 0 fdm) : ∀ (n : Nat) (x1 : Int32) (σ : MS), w_X9_measure_H2 Q n x1 σ → V p l e rm_X9_measure s m args below meth c E (AD E) 4 0 0 (MQ below (va_Qv Q (BW E) (AD E)) args s 0 0 (AD E)) σ 2 [some (.ref (E.2.1 66)), some (.int x1), none, none] [] := by
  intro n
  induction n with
  | zero =>
    intro x1 σ hw
    exact hw.elim
  | succ n ih =>
    intro x1 σ hw
    unfold w_X9_measure_H2 at hw
    refine vIload_n (pc := 2) hc dX9_measure_2 rfl ?_
    refine vBipush (pc := 3) (v := 100) hc dX9_measure_3 kb_100 ?_
    refine vIcmp_ge (pc := 5) (tgt := 26) hc dX9_measure_5 (by decide) (fun c5 => ?_) (fun c5 => ?_)
    · have hw := hw.1 c5
      refine vIconst (pc := 26) (v := 0) hc dX9_measure_26 ki_0 ?_
      refine vIstore_n (pc := 27) (L2 := [some (.ref (E.2.1 66)), some (.int 0), none, none]) hc dX9_measure_27 rfl (Nat.le_of_ble_eq_true rfl) ?_
      obtain ⟨n28, hw⟩ := hw
      exact vMono (L2 := [some (.ref (E.2.1 66)), some (.int 0), none, none]) (show subL [some (.ref (E.2.1 66)), some (.int 0), none, none] [some (.ref (E.2.1 66)), some (.int 0), none, none] from ⟨rfl, ⟨rfl, trivial⟩⟩) (t_X9_measure_H28 hc  n28 0 _ hw)
    · have hw := hw.2 c5
      refine vAload_n (pc := 8) hc dX9_measure_8 rfl ?_
      refine vGetR (pc := 9) (k := 66) (j := 2) hc rfl inG9 (hc.G 66 (Nat.le_of_ble_eq_true rfl)) rfl (Nat.le_of_ble_eq_true rfl) tw_725 rfl dX9_measure_9 ?_
      refine vIload_n (pc := 12) hc dX9_measure_12 rfl ?_
      refine vAload_n (pc := 13) hc dX9_measure_13 rfl ?_
      refine vGetR (pc := 14) (k := 66) (j := 1) hc rfl inG9 (hc.G 66 (Nat.le_of_ble_eq_true rfl)) rfl (Nat.le_of_ble_eq_true rfl) tw_724 rfl dX9_measure_14 ?_
      refine vIload_n (pc := 17) hc dX9_measure_17 rfl ?_
      obtain ⟨hi1, hw⟩ := hw
      refine vIald (pc := 18) (k := 68) hc (hc.G 68 (Nat.le_of_ble_eq_true rfl)) rfl rfl hi1 dX9_measure_18 ?_
      refine vIast (pc := 19) (k := 69) hc (hc.G 69 (Nat.le_of_ble_eq_true rfl)) rfl rfl hi1 dX9_measure_19 (fun σ19 eσ19 => ?_)
      have hw := hw σ19 eσ19
      refine vIinc (pc := 20) (v := x1 + 1) (L2 := [some (.ref (E.2.1 66)), some (.int (x1 + 1)), none, none]) hc dX9_measure_20 rfl rfl rfl (Nat.le_of_ble_eq_true rfl) ?_
      refine vGoto (pc := 23) (tgt := 2) hc dX9_measure_23 (by decide) ?_
      exact vMono (L2 := [some (.ref (E.2.1 66)), some (.int (x1 + 1)), none, none]) (show subL [some (.ref (E.2.1 66)), some (.int (x1 + 1)), none, none] [some (.ref (E.2.1 66)), some (.int (x1 + 1)), none, none] from ⟨rfl, ⟨rfl, trivial⟩⟩) (ih (x1 + 1) _ hw)
set_option maxRecDepth 100000 in
set_option maxHeartbeats 4000000 in
theorem t_X9_measure_E {p : Program} {l : Launch} {e : Env} {s : State} {m : MethodId} {args : Array Value} {below : List Frame} {meth : Method} {c : Code} {E : WD} {Q : MS → Prop} (hc : Cx p rm_X9_measure s m args meth c E (AD E) cX9_measure RX9 none 4 0 0 fdm) (σ : MS) (hw : w_X9_measure_E Q  σ) : V p l e rm_X9_measure s m args below meth c E (AD E) 4 0 0 (MQ below (va_Qv Q (BW E) (AD E)) args s 0 0 (AD E)) σ 0 [some (.ref (E.2.1 66)), none, none, none] [] := by
  unfold w_X9_measure_E at hw
  refine vIconst (pc := 0) (v := 0) hc dX9_measure_0 ki_0 ?_
  refine vIstore_n (pc := 1) (L2 := [some (.ref (E.2.1 66)), some (.int 0), none, none]) hc dX9_measure_1 rfl (Nat.le_of_ble_eq_true rfl) ?_
  obtain ⟨n2, hw⟩ := hw
  exact vMono (L2 := [some (.ref (E.2.1 66)), some (.int 0), none, none]) (show subL [some (.ref (E.2.1 66)), some (.int 0), none, none] [some (.ref (E.2.1 66)), some (.int 0), none, none] from ⟨rfl, ⟨rfl, trivial⟩⟩) (t_X9_measure_H2 hc  n2 0 _ hw)
set_option maxRecDepth 100000 in
set_option maxHeartbeats 4000000 in
theorem c_X9_measure {l : Launch} {E : WD} (hE : inj E) (hG : ∀ k, fdm k → k ∈ E.2.2.2) {σ : MS} {Q : MS → Prop} (hw : w_X9_measure  σ Q) : Cv l E yX9_measure cX9_measure 4 none rm_X9_measure [.ref (E.2.1 66)] σ Q :=
  Ct_of (by decide) rfl (by
    intro v hv
    simp only [List.mem_cons, List.not_mem_nil, or_false] at hv
    rcases hv with rfl <;> rfl) (Nat.le_of_ble_eq_true rfl) hE hG (fun p e s m below meth c hc => t_X9_measure_E hc  σ hw)
def w_X9_leastOf_E (Q : Int32 → MS → Prop) (x1 x2 : Int32) (σ : MS) : Prop := ((vp_in (((10 : Int32) * x1) + x2) 100) ∧ Q (σ 69 (((10 : Int32) * x1) + x2).toNatClampNeg) σ)
abbrev w_X9_leastOf (x1 x2 : Int32) (σ : MS) (Q : Int32 → MS → Prop) : Prop := w_X9_leastOf_E Q x1 x2 σ
abbrev rm_X9_leastOf : Room := { frames := 0, cells := 0, slots := 0, locals := 0 }
theorem ok_X9_leastOf : OkV yX9_leastOf RX9 cX9_leastOf 3 (some .int) 2 := ⟨tw_871, tw_24, tw_57, tw_872, rfl, by decide, by decide, by decide +kernel⟩
set_option maxRecDepth 100000 in
set_option maxHeartbeats 4000000 in
theorem t_X9_leastOf_E {p : Program} {l : Launch} {e : Env} {s : State} {m : MethodId} {args : Array Value} {below : List Frame} {meth : Method} {c : Code} {E : WD} {Q : Int32 → MS → Prop} (hc : Cx p rm_X9_leastOf s m args meth c E (AD E) cX9_leastOf RX9 (some .int) 3 0 0 fdm) (x1 x2 : Int32) (σ : MS) (hw : w_X9_leastOf_E Q x1 x2 σ) : V p l e rm_X9_leastOf s m args below meth c E (AD E) 3 0 0 (MQ below (va_Qi Q (BW E) (AD E)) args s 0 0 (AD E)) σ 0 [some (.ref (E.2.1 66)), some (.int x1), some (.int x2)] [] := by
  unfold w_X9_leastOf_E at hw
  refine vAload_n (pc := 0) hc dX9_leastOf_0 rfl ?_
  refine vGetR (pc := 1) (k := 66) (j := 2) hc rfl inG9 (hc.G 66 (Nat.le_of_ble_eq_true rfl)) rfl (Nat.le_of_ble_eq_true rfl) tw_725 rfl dX9_leastOf_1 ?_
  refine vBipush (pc := 4) (v := 10) hc dX9_leastOf_4 kb_10 ?_
  refine vIload_n (pc := 6) hc dX9_leastOf_6 rfl ?_
  refine vImul (pc := 7) hc dX9_leastOf_7 ?_
  refine vIload_n (pc := 8) hc dX9_leastOf_8 rfl ?_
  refine vIadd (pc := 9) hc dX9_leastOf_9 ?_
  obtain ⟨hi1, hw⟩ := hw
  refine vIald (pc := 10) (k := 69) hc (hc.G 69 (Nat.le_of_ble_eq_true rfl)) rfl rfl hi1 dX9_leastOf_10 ?_
  exact vIret (pc := 11) hc dX9_leastOf_11 hw
set_option maxRecDepth 100000 in
set_option maxHeartbeats 4000000 in
theorem c_X9_leastOf {l : Launch} {E : WD} (hE : inj E) (hG : ∀ k, fdm k → k ∈ E.2.2.2) {x1 x2 : Int32} {σ : MS} {Q : Int32 → MS → Prop} (hw : w_X9_leastOf x1 x2 σ Q) : Ci l E yX9_leastOf cX9_leastOf 3 (some .int) rm_X9_leastOf [.ref (E.2.1 66), .int x1, .int x2] σ Q :=
  Ct_of (by decide) rfl (by
    intro v hv
    simp only [List.mem_cons, List.not_mem_nil, or_false] at hv
    rcases hv with rfl | rfl | rfl <;> rfl) (Nat.le_of_ble_eq_true rfl) hE hG (fun p e s m below meth c hc => t_X9_leastOf_E hc x1 x2 σ hw)
def w_X9_minutes_J23 (Q : Int32 → MS → Prop) (σ : MS) : Prop := w_X9_refuse (-1) σ (fun r25 σ25 => Q r25 σ25)
def w_X9_minutes_E (Q : Int32 → MS → Prop) (x1 x2 x3 : Int32) (σ : MS) : Prop := w_X9_isIn x1 10 σ (fun r3 σ3 => ((r3 = 0 → w_X9_minutes_J23 Q σ3) ∧ (¬ r3 = 0 → w_X9_isIn x2 10 σ3 (fun r12 σ12 => ((r12 = 0 → w_X9_minutes_J23 Q σ12) ∧ (¬ r12 = 0 → ((¬ x1 = x2 → ((0 ≤ x3 → ((x3 ≤ 300 → ((vp_in (((10 : Int32) * x1) + x2) 100) ∧ (∀ x4_65 : Int32, x4_65 = (σ12 68 (((10 : Int32) * x1) + x2).toNatClampNeg) → (∀ σ78, σ78 = mst σ12 68 (((10 : Int32) * x1) + x2).toNatClampNeg x3 → w_X9_measure  σ78 (fun σ80 => Q x4_65 σ80))))) ∧ (¬ x3 ≤ 300 → w_X9_refuse (-6) σ12 (fun r50 σ50 => Q r50 σ50)))) ∧ (¬ 0 ≤ x3 → w_X9_refuse (-4) σ12 (fun r36 σ36 => Q r36 σ36)))) ∧ (x1 = x2 → w_X9_minutes_J23 Q σ12))))))))
abbrev w_X9_minutes (x1 x2 x3 : Int32) (σ : MS) (Q : Int32 → MS → Prop) : Prop := w_X9_minutes_E Q x1 x2 x3 σ
abbrev rm_X9_minutes : Room := { frames := 2, cells := 0, slots := 0, locals := 83 }
theorem ok_X9_minutes : OkV yX9_minutes RX9 cX9_minutes 5 (some .int) 3 := ⟨tw_855, tw_856, tw_57, tw_857, rfl, by decide, by decide, by decide +kernel⟩
set_option maxRecDepth 100000 in
set_option maxHeartbeats 4000000 in
theorem t_X9_minutes_J23 {p : Program} {l : Launch} {e : Env} {s : State} {m : MethodId} {args : Array Value} {below : List Frame} {meth : Method} {c : Code} {E : WD} {Q : Int32 → MS → Prop} (hc : Cx p rm_X9_minutes s m args meth c E (AD E) cX9_minutes RX9 (some .int) 5 0 0 fdm) (σ : MS) (hw : w_X9_minutes_J23 Q  σ) : V p l e rm_X9_minutes s m args below meth c E (AD E) 5 0 0 (MQ below (va_Qi Q (BW E) (AD E)) args s 0 0 (AD E)) σ 23 [some (.ref (E.2.1 66)), none, none, none, none] [] := by
  unfold w_X9_minutes_J23 at hw
  refine vAload_n (pc := 23) hc dX9_minutes_23 rfl ?_
  refine vIconst (pc := 24) (v := (-1)) hc dX9_minutes_24 ki_m1 ?_
  refine vCallVi (pc := 25) (st := []) hc ok_X9_refuse tw_861 (c_X9_refuse hc.2.2.2.2.2.2.1 hc.G hw) (hc.G 66 (Nat.le_of_ble_eq_true rfl)) rfl rfl rfl ⟨rfl, rfl⟩ ⟨Nat.le_of_ble_eq_true rfl, Nat.le_of_ble_eq_true rfl⟩ rfl (Nat.le_of_ble_eq_true rfl) dX9_minutes_25 (fun r25 σ25 hw => ?_)
  exact vIret (pc := 28) hc dX9_minutes_28 hw
set_option maxRecDepth 100000 in
set_option maxHeartbeats 4000000 in
theorem t_X9_minutes_E {p : Program} {l : Launch} {e : Env} {s : State} {m : MethodId} {args : Array Value} {below : List Frame} {meth : Method} {c : Code} {E : WD} {Q : Int32 → MS → Prop} (hc : Cx p rm_X9_minutes s m args meth c E (AD E) cX9_minutes RX9 (some .int) 5 0 0 fdm) (x1 x2 x3 : Int32) (σ : MS) (hw : w_X9_minutes_E Q x1 x2 x3 σ) : V p l e rm_X9_minutes s m args below meth c E (AD E) 5 0 0 (MQ below (va_Qi Q (BW E) (AD E)) args s 0 0 (AD E)) σ 0 [some (.ref (E.2.1 66)), some (.int x1), some (.int x2), some (.int x3), none] [] := by
  unfold w_X9_minutes_E at hw
  refine vIload_n (pc := 0) hc dX9_minutes_0 rfl ?_
  refine vBipush (pc := 1) (v := 10) hc dX9_minutes_1 kb_10 ?_
  refine vCallSi (pc := 3) (st := []) hc ok_X9_isIn tw_858 (c_X9_isIn hc.2.2.2.2.2.2.1 hc.G hw) rfl ⟨rfl, rfl⟩ ⟨Nat.le_of_ble_eq_true rfl, Nat.le_of_ble_eq_true rfl⟩ rfl (Nat.le_of_ble_eq_true rfl) dX9_minutes_3 (fun r3 σ3 hw => ?_)
  refine vIf_eq (pc := 6) (tgt := 23) hc dX9_minutes_6 (by decide) (fun c6 => ?_) (fun c6 => ?_)
  · have hw := hw.1 c6
    exact vMono (L2 := [some (.ref (E.2.1 66)), none, none, none, none]) (show subL [some (.ref (E.2.1 66)), none, none, none, none] [some (.ref (E.2.1 66)), some (.int x1), some (.int x2), some (.int x3), none] from ⟨rfl, trivial⟩) (t_X9_minutes_J23 hc   _ hw)
  · have hw := hw.2 c6
    refine vIload_n (pc := 9) hc dX9_minutes_9 rfl ?_
    refine vBipush (pc := 10) (v := 10) hc dX9_minutes_10 kb_10 ?_
    refine vCallSi (pc := 12) (st := []) hc ok_X9_isIn tw_858 (c_X9_isIn hc.2.2.2.2.2.2.1 hc.G hw) rfl ⟨rfl, rfl⟩ ⟨Nat.le_of_ble_eq_true rfl, Nat.le_of_ble_eq_true rfl⟩ rfl (Nat.le_of_ble_eq_true rfl) dX9_minutes_12 (fun r12 σ12 hw => ?_)
    refine vIf_eq (pc := 15) (tgt := 23) hc dX9_minutes_15 (by decide) (fun c15 => ?_) (fun c15 => ?_)
    · have hw := hw.1 c15
      exact vMono (L2 := [some (.ref (E.2.1 66)), none, none, none, none]) (show subL [some (.ref (E.2.1 66)), none, none, none, none] [some (.ref (E.2.1 66)), some (.int x1), some (.int x2), some (.int x3), none] from ⟨rfl, trivial⟩) (t_X9_minutes_J23 hc   _ hw)
    · have hw := hw.2 c15
      refine vIload_n (pc := 18) hc dX9_minutes_18 rfl ?_
      refine vIload_n (pc := 19) hc dX9_minutes_19 rfl ?_
      refine vIcmp_ne (pc := 20) (tgt := 29) hc dX9_minutes_20 (by decide) (fun c20 => ?_) (fun c20 => ?_)
      · have hw := hw.1 c20
        refine vIload_n (pc := 29) hc dX9_minutes_29 rfl ?_
        refine vIf_ge (pc := 30) (tgt := 40) hc dX9_minutes_30 (by decide) (fun c30 => ?_) (fun c30 => ?_)
        · have hw := hw.1 c30
          refine vIload_n (pc := 40) hc dX9_minutes_40 rfl ?_
          refine vSipush (pc := 41) (v := 300) hc dX9_minutes_41 ks_300 ?_
          refine vIcmp_le (pc := 44) (tgt := 54) hc dX9_minutes_44 (by decide) (fun c44 => ?_) (fun c44 => ?_)
          · have hw := hw.1 c44
            refine vAload_n (pc := 54) hc dX9_minutes_54 rfl ?_
            refine vGetR (pc := 55) (k := 66) (j := 1) hc rfl inG9 (hc.G 66 (Nat.le_of_ble_eq_true rfl)) rfl (Nat.le_of_ble_eq_true rfl) tw_724 rfl dX9_minutes_55 ?_
            refine vBipush (pc := 58) (v := 10) hc dX9_minutes_58 kb_10 ?_
            refine vIload_n (pc := 60) hc dX9_minutes_60 rfl ?_
            refine vImul (pc := 61) hc dX9_minutes_61 ?_
            refine vIload_n (pc := 62) hc dX9_minutes_62 rfl ?_
            refine vIadd (pc := 63) hc dX9_minutes_63 ?_
            obtain ⟨hi1, hw⟩ := hw
            refine vIald (pc := 64) (k := 68) hc (hc.G 68 (Nat.le_of_ble_eq_true rfl)) rfl rfl hi1 dX9_minutes_64 ?_
            obtain ⟨x4_65, ex4_65⟩ : ∃ z : Int32, z = σ12 68 (((10 : Int32) * x1) + x2).toNatClampNeg := ⟨_, rfl⟩
            have hw := hw x4_65 ex4_65
            refine vTop ex4_65 ?_
            refine vIstore (pc := 65) (L2 := [some (.ref (E.2.1 66)), some (.int x1), some (.int x2), some (.int x3), some (.int x4_65)]) hc dX9_minutes_65 rfl (Nat.le_of_ble_eq_true rfl) ?_
            refine vAload_n (pc := 67) hc dX9_minutes_67 rfl ?_
            refine vGetR (pc := 68) (k := 66) (j := 1) hc rfl inG9 (hc.G 66 (Nat.le_of_ble_eq_true rfl)) rfl (Nat.le_of_ble_eq_true rfl) tw_724 rfl dX9_minutes_68 ?_
            refine vBipush (pc := 71) (v := 10) hc dX9_minutes_71 kb_10 ?_
            refine vIload_n (pc := 73) hc dX9_minutes_73 rfl ?_
            refine vImul (pc := 74) hc dX9_minutes_74 ?_
            refine vIload_n (pc := 75) hc dX9_minutes_75 rfl ?_
            refine vIadd (pc := 76) hc dX9_minutes_76 ?_
            refine vIload_n (pc := 77) hc dX9_minutes_77 rfl ?_
            refine vIast (pc := 78) (k := 68) hc (hc.G 68 (Nat.le_of_ble_eq_true rfl)) rfl rfl hi1 dX9_minutes_78 (fun σ78 eσ78 => ?_)
            have hw := hw σ78 eσ78
            refine vAload_n (pc := 79) hc dX9_minutes_79 rfl ?_
            refine vCallVv (pc := 80) (st := []) hc ok_X9_measure tw_714 (c_X9_measure hc.2.2.2.2.2.2.1 hc.G hw) (hc.G 66 (Nat.le_of_ble_eq_true rfl)) rfl rfl rfl ⟨rfl, rfl⟩ ⟨Nat.le_of_ble_eq_true rfl, Nat.le_of_ble_eq_true rfl⟩ rfl (Nat.le_of_ble_eq_true rfl) dX9_minutes_80 (fun σ80 hw => ?_)
            refine vIload (pc := 83) hc dX9_minutes_83 rfl ?_
            exact vIret (pc := 85) hc dX9_minutes_85 hw
          · have hw := hw.2 c44
            refine vAload_n (pc := 47) hc dX9_minutes_47 rfl ?_
            refine vBipush (pc := 48) (v := (-6)) hc dX9_minutes_48 kb_m6 ?_
            refine vCallVi (pc := 50) (st := []) hc ok_X9_refuse tw_861 (c_X9_refuse hc.2.2.2.2.2.2.1 hc.G hw) (hc.G 66 (Nat.le_of_ble_eq_true rfl)) rfl rfl rfl ⟨rfl, rfl⟩ ⟨Nat.le_of_ble_eq_true rfl, Nat.le_of_ble_eq_true rfl⟩ rfl (Nat.le_of_ble_eq_true rfl) dX9_minutes_50 (fun r50 σ50 hw => ?_)
            exact vIret (pc := 53) hc dX9_minutes_53 hw
        · have hw := hw.2 c30
          refine vAload_n (pc := 33) hc dX9_minutes_33 rfl ?_
          refine vBipush (pc := 34) (v := (-4)) hc dX9_minutes_34 kb_m4 ?_
          refine vCallVi (pc := 36) (st := []) hc ok_X9_refuse tw_861 (c_X9_refuse hc.2.2.2.2.2.2.1 hc.G hw) (hc.G 66 (Nat.le_of_ble_eq_true rfl)) rfl rfl rfl ⟨rfl, rfl⟩ ⟨Nat.le_of_ble_eq_true rfl, Nat.le_of_ble_eq_true rfl⟩ rfl (Nat.le_of_ble_eq_true rfl) dX9_minutes_36 (fun r36 σ36 hw => ?_)
          exact vIret (pc := 39) hc dX9_minutes_39 hw
      · have hw := hw.2 c20
        exact vMono (L2 := [some (.ref (E.2.1 66)), none, none, none, none]) (show subL [some (.ref (E.2.1 66)), none, none, none, none] [some (.ref (E.2.1 66)), some (.int x1), some (.int x2), some (.int x3), none] from ⟨rfl, trivial⟩) (t_X9_minutes_J23 hc   _ hw)
set_option maxRecDepth 100000 in
set_option maxHeartbeats 4000000 in
theorem c_X9_minutes {l : Launch} {E : WD} (hE : inj E) (hG : ∀ k, fdm k → k ∈ E.2.2.2) {x1 x2 x3 : Int32} {σ : MS} {Q : Int32 → MS → Prop} (hw : w_X9_minutes x1 x2 x3 σ Q) : Ci l E yX9_minutes cX9_minutes 5 (some .int) rm_X9_minutes [.ref (E.2.1 66), .int x1, .int x2, .int x3] σ Q :=
  Ct_of (by decide) rfl (by
    intro v hv
    simp only [List.mem_cons, List.not_mem_nil, or_false] at hv
    rcases hv with rfl | rfl | rfl | rfl <;> rfl) (Nat.le_of_ble_eq_true rfl) hE hG (fun p e s m below meth c hc => t_X9_minutes_E hc x1 x2 x3 σ hw)
def w_X9_least_J27 (Q : Int32 → MS → Prop) (σ : MS) : Prop := w_X9_refuse (-1) σ (fun r29 σ29 => Q r29 σ29)
def w_X9_least_E (Q : Int32 → MS → Prop) (x1 x2 : Int32) (σ : MS) : Prop := w_X9_isIn x1 10 σ (fun r3 σ3 => ((r3 = 0 → w_X9_least_J27 Q σ3) ∧ (¬ r3 = 0 → w_X9_isIn x2 10 σ3 (fun r12 σ12 => ((r12 = 0 → w_X9_least_J27 Q σ12) ∧ (¬ r12 = 0 → w_X9_leastOf x1 x2 σ12 (fun r21 σ21 => Q r21 σ21)))))))
abbrev w_X9_least (x1 x2 : Int32) (σ : MS) (Q : Int32 → MS → Prop) : Prop := w_X9_least_E Q x1 x2 σ
abbrev rm_X9_least : Room := { frames := 1, cells := 0, slots := 0, locals := 22 }
theorem ok_X9_least : OkV yX9_least RX9 cX9_least 3 (some .int) 2 := ⟨tw_866, tw_867, tw_57, tw_868, rfl, by decide, by decide, by decide +kernel⟩
set_option maxRecDepth 100000 in
set_option maxHeartbeats 4000000 in
theorem t_X9_least_J27 {p : Program} {l : Launch} {e : Env} {s : State} {m : MethodId} {args : Array Value} {below : List Frame} {meth : Method} {c : Code} {E : WD} {Q : Int32 → MS → Prop} (hc : Cx p rm_X9_least s m args meth c E (AD E) cX9_least RX9 (some .int) 3 0 0 fdm) (σ : MS) (hw : w_X9_least_J27 Q  σ) : V p l e rm_X9_least s m args below meth c E (AD E) 3 0 0 (MQ below (va_Qi Q (BW E) (AD E)) args s 0 0 (AD E)) σ 27 [some (.ref (E.2.1 66)), none, none] [] := by
  unfold w_X9_least_J27 at hw
  refine vAload_n (pc := 27) hc dX9_least_27 rfl ?_
  refine vIconst (pc := 28) (v := (-1)) hc dX9_least_28 ki_m1 ?_
  refine vCallVi (pc := 29) (st := []) hc ok_X9_refuse tw_861 (c_X9_refuse hc.2.2.2.2.2.2.1 hc.G hw) (hc.G 66 (Nat.le_of_ble_eq_true rfl)) rfl rfl rfl ⟨rfl, rfl⟩ ⟨Nat.le_of_ble_eq_true rfl, Nat.le_of_ble_eq_true rfl⟩ rfl (Nat.le_of_ble_eq_true rfl) dX9_least_29 (fun r29 σ29 hw => ?_)
  exact vIret (pc := 32) hc dX9_least_32 hw
set_option maxRecDepth 100000 in
set_option maxHeartbeats 4000000 in
theorem t_X9_least_E {p : Program} {l : Launch} {e : Env} {s : State} {m : MethodId} {args : Array Value} {below : List Frame} {meth : Method} {c : Code} {E : WD} {Q : Int32 → MS → Prop} (hc : Cx p rm_X9_least s m args meth c E (AD E) cX9_least RX9 (some .int) 3 0 0 fdm) (x1 x2 : Int32) (σ : MS) (hw : w_X9_least_E Q x1 x2 σ) : V p l e rm_X9_least s m args below meth c E (AD E) 3 0 0 (MQ below (va_Qi Q (BW E) (AD E)) args s 0 0 (AD E)) σ 0 [some (.ref (E.2.1 66)), some (.int x1), some (.int x2)] [] := by
  unfold w_X9_least_E at hw
  refine vIload_n (pc := 0) hc dX9_least_0 rfl ?_
  refine vBipush (pc := 1) (v := 10) hc dX9_least_1 kb_10 ?_
  refine vCallSi (pc := 3) (st := []) hc ok_X9_isIn tw_858 (c_X9_isIn hc.2.2.2.2.2.2.1 hc.G hw) rfl ⟨rfl, rfl⟩ ⟨Nat.le_of_ble_eq_true rfl, Nat.le_of_ble_eq_true rfl⟩ rfl (Nat.le_of_ble_eq_true rfl) dX9_least_3 (fun r3 σ3 hw => ?_)
  refine vIf_eq (pc := 6) (tgt := 27) hc dX9_least_6 (by decide) (fun c6 => ?_) (fun c6 => ?_)
  · have hw := hw.1 c6
    exact vMono (L2 := [some (.ref (E.2.1 66)), none, none]) (show subL [some (.ref (E.2.1 66)), none, none] [some (.ref (E.2.1 66)), some (.int x1), some (.int x2)] from ⟨rfl, trivial⟩) (t_X9_least_J27 hc   _ hw)
  · have hw := hw.2 c6
    refine vIload_n (pc := 9) hc dX9_least_9 rfl ?_
    refine vBipush (pc := 10) (v := 10) hc dX9_least_10 kb_10 ?_
    refine vCallSi (pc := 12) (st := []) hc ok_X9_isIn tw_858 (c_X9_isIn hc.2.2.2.2.2.2.1 hc.G hw) rfl ⟨rfl, rfl⟩ ⟨Nat.le_of_ble_eq_true rfl, Nat.le_of_ble_eq_true rfl⟩ rfl (Nat.le_of_ble_eq_true rfl) dX9_least_12 (fun r12 σ12 hw => ?_)
    refine vIf_eq (pc := 15) (tgt := 27) hc dX9_least_15 (by decide) (fun c15 => ?_) (fun c15 => ?_)
    · have hw := hw.1 c15
      exact vMono (L2 := [some (.ref (E.2.1 66)), none, none]) (show subL [some (.ref (E.2.1 66)), none, none] [some (.ref (E.2.1 66)), some (.int x1), some (.int x2)] from ⟨rfl, trivial⟩) (t_X9_least_J27 hc   _ hw)
    · have hw := hw.2 c15
      refine vAload_n (pc := 18) hc dX9_least_18 rfl ?_
      refine vIload_n (pc := 19) hc dX9_least_19 rfl ?_
      refine vIload_n (pc := 20) hc dX9_least_20 rfl ?_
      refine vCallVi (pc := 21) (st := []) hc ok_X9_leastOf tw_869 (c_X9_leastOf hc.2.2.2.2.2.2.1 hc.G hw) (hc.G 66 (Nat.le_of_ble_eq_true rfl)) rfl rfl rfl ⟨rfl, rfl⟩ ⟨Nat.le_of_ble_eq_true rfl, Nat.le_of_ble_eq_true rfl⟩ rfl (Nat.le_of_ble_eq_true rfl) dX9_least_21 (fun r21 σ21 hw => ?_)
      refine vGoto (pc := 24) (tgt := 32) hc dX9_least_24 (by decide) ?_
      exact vIret (pc := 32) hc dX9_least_32 hw
set_option maxRecDepth 100000 in
set_option maxHeartbeats 4000000 in
theorem c_X9_least {l : Launch} {E : WD} (hE : inj E) (hG : ∀ k, fdm k → k ∈ E.2.2.2) {x1 x2 : Int32} {σ : MS} {Q : Int32 → MS → Prop} (hw : w_X9_least x1 x2 σ Q) : Ci l E yX9_least cX9_least 3 (some .int) rm_X9_least [.ref (E.2.1 66), .int x1, .int x2] σ Q :=
  Ct_of (by decide) rfl (by
    intro v hv
    simp only [List.mem_cons, List.not_mem_nil, or_false] at hv
    rcases hv with rfl | rfl | rfl <;> rfl) (Nat.le_of_ble_eq_true rfl) hE hG (fun p e s m below meth c hc => t_X9_least_E hc x1 x2 σ hw)
def w_X9_person_J110 (Q : Int32 → MS → Prop) (σ : MS) : Prop := w_X9_refuse (-6) σ (fun r113 σ113 => Q r113 σ113)
def w_X9_person_J64 (Q : Int32 → MS → Prop) (σ : MS) : Prop := w_X9_refuse (-4) σ (fun r67 σ67 => Q r67 σ67)
def w_X9_person_J23 (Q : Int32 → MS → Prop) (σ : MS) : Prop := w_X9_refuse (-1) σ (fun r25 σ25 => Q r25 σ25)
def w_X9_person_E (Q : Int32 → MS → Prop) (x1 x2 x3 x4 x5 x6 x7 : Int32) (σ : MS) : Prop := w_X9_isIn x2 10 σ (fun r3 σ3 => ((r3 = 0 → w_X9_person_J23 Q σ3) ∧ (¬ r3 = 0 → w_X9_isIn x3 10 σ3 (fun r12 σ12 => ((r12 = 0 → w_X9_person_J23 Q σ12) ∧ (¬ r12 = 0 → ((¬ x2 = x3 → w_X9_isIn x1 2 σ12 (fun r31 σ31 => ((¬ r31 = 0 → ((x4 < 0 → w_X9_person_J64 Q σ31) ∧ (¬ x4 < 0 → ((x5 < 0 → w_X9_person_J64 Q σ31) ∧ (¬ x5 < 0 → ((x6 < 0 → w_X9_person_J64 Q σ31) ∧ (¬ x6 < 0 → ((0 ≤ x7 → ((1440 < x4 → w_X9_person_J110 Q σ31) ∧ (¬ 1440 < x4 → ((1440 < x5 → w_X9_person_J110 Q σ31) ∧ (¬ 1440 < x5 → ((300 < x6 → w_X9_person_J110 Q σ31) ∧ (¬ 300 < x6 → ((5 < x7 → w_X9_person_J110 Q σ31) ∧ (¬ 5 < x7 → ((¬ (σ31 66 3) = 9 → (∀ x8_121 : Int32, x8_121 = (σ31 66 3) → (∀ σ130, σ130 = mst σ31 66 3 ((σ31 66 3) + 1) → ((vp_in x8_121 9) ∧ (∀ σ140, σ140 = mst σ130 70 x8_121.toNatClampNeg x1 → (∀ σ148, σ148 = mst σ140 71 x8_121.toNatClampNeg x2 → (∀ σ156, σ156 = mst σ148 72 x8_121.toNatClampNeg x3 → (∀ σ165, σ165 = mst σ156 73 x8_121.toNatClampNeg x4 → (∀ σ174, σ174 = mst σ165 74 x8_121.toNatClampNeg x5 → (∀ σ183, σ183 = mst σ174 75 x8_121.toNatClampNeg x6 → (∀ σ192, σ192 = mst σ183 76 x8_121.toNatClampNeg x7 → w_X9_changes  σ192 (fun σ194 => Q x8_121 σ194)))))))))))) ∧ ((σ31 66 3) = 9 → w_X9_person_J110 Q σ31))))))))))) ∧ (¬ 0 ≤ x7 → w_X9_person_J64 Q σ31))))))))) ∧ (r31 = 0 → w_X9_refuse (-2) σ31 (fun r40 σ40 => Q r40 σ40))))) ∧ (x2 = x3 → w_X9_person_J23 Q σ12))))))))
abbrev w_X9_person (x1 x2 x3 x4 x5 x6 x7 : Int32) (σ : MS) (Q : Int32 → MS → Prop) : Prop := w_X9_person_E Q x1 x2 x3 x4 x5 x6 x7 σ
abbrev rm_X9_person : Room := { frames := 1, cells := 0, slots := 0, locals := 21 }
theorem ok_X9_person : OkV yX9_person RX9 cX9_person 9 (some .int) 7 := ⟨tw_874, tw_875, tw_57, tw_876, rfl, by decide, by decide, by decide +kernel⟩
set_option maxRecDepth 100000 in
set_option maxHeartbeats 4000000 in
theorem t_X9_person_J110 {p : Program} {l : Launch} {e : Env} {s : State} {m : MethodId} {args : Array Value} {below : List Frame} {meth : Method} {c : Code} {E : WD} {Q : Int32 → MS → Prop} (hc : Cx p rm_X9_person s m args meth c E (AD E) cX9_person RX9 (some .int) 9 0 0 fdm) (σ : MS) (hw : w_X9_person_J110 Q  σ) : V p l e rm_X9_person s m args below meth c E (AD E) 9 0 0 (MQ below (va_Qi Q (BW E) (AD E)) args s 0 0 (AD E)) σ 110 [some (.ref (E.2.1 66)), none, none, none, none, none, none, none, none] [] := by
  unfold w_X9_person_J110 at hw
  refine vAload_n (pc := 110) hc dX9_person_110 rfl ?_
  refine vBipush (pc := 111) (v := (-6)) hc dX9_person_111 kb_m6 ?_
  refine vCallVi (pc := 113) (st := []) hc ok_X9_refuse tw_861 (c_X9_refuse hc.2.2.2.2.2.2.1 hc.G hw) (hc.G 66 (Nat.le_of_ble_eq_true rfl)) rfl rfl rfl ⟨rfl, rfl⟩ ⟨Nat.le_of_ble_eq_true rfl, Nat.le_of_ble_eq_true rfl⟩ rfl (Nat.le_of_ble_eq_true rfl) dX9_person_113 (fun r113 σ113 hw => ?_)
  exact vIret (pc := 116) hc dX9_person_116 hw
set_option maxRecDepth 100000 in
set_option maxHeartbeats 4000000 in
theorem t_X9_person_J64 {p : Program} {l : Launch} {e : Env} {s : State} {m : MethodId} {args : Array Value} {below : List Frame} {meth : Method} {c : Code} {E : WD} {Q : Int32 → MS → Prop} (hc : Cx p rm_X9_person s m args meth c E (AD E) cX9_person RX9 (some .int) 9 0 0 fdm) (σ : MS) (hw : w_X9_person_J64 Q  σ) : V p l e rm_X9_person s m args below meth c E (AD E) 9 0 0 (MQ below (va_Qi Q (BW E) (AD E)) args s 0 0 (AD E)) σ 64 [some (.ref (E.2.1 66)), none, none, none, none, none, none, none, none] [] := by
  unfold w_X9_person_J64 at hw
  refine vAload_n (pc := 64) hc dX9_person_64 rfl ?_
  refine vBipush (pc := 65) (v := (-4)) hc dX9_person_65 kb_m4 ?_
  refine vCallVi (pc := 67) (st := []) hc ok_X9_refuse tw_861 (c_X9_refuse hc.2.2.2.2.2.2.1 hc.G hw) (hc.G 66 (Nat.le_of_ble_eq_true rfl)) rfl rfl rfl ⟨rfl, rfl⟩ ⟨Nat.le_of_ble_eq_true rfl, Nat.le_of_ble_eq_true rfl⟩ rfl (Nat.le_of_ble_eq_true rfl) dX9_person_67 (fun r67 σ67 hw => ?_)
  exact vIret (pc := 70) hc dX9_person_70 hw
set_option maxRecDepth 100000 in
set_option maxHeartbeats 4000000 in
theorem t_X9_person_J23 {p : Program} {l : Launch} {e : Env} {s : State} {m : MethodId} {args : Array Value} {below : List Frame} {meth : Method} {c : Code} {E : WD} {Q : Int32 → MS → Prop} (hc : Cx p rm_X9_person s m args meth c E (AD E) cX9_person RX9 (some .int) 9 0 0 fdm) (σ : MS) (hw : w_X9_person_J23 Q  σ) : V p l e rm_X9_person s m args below meth c E (AD E) 9 0 0 (MQ below (va_Qi Q (BW E) (AD E)) args s 0 0 (AD E)) σ 23 [some (.ref (E.2.1 66)), none, none, none, none, none, none, none, none] [] := by
  unfold w_X9_person_J23 at hw
  refine vAload_n (pc := 23) hc dX9_person_23 rfl ?_
  refine vIconst (pc := 24) (v := (-1)) hc dX9_person_24 ki_m1 ?_
  refine vCallVi (pc := 25) (st := []) hc ok_X9_refuse tw_861 (c_X9_refuse hc.2.2.2.2.2.2.1 hc.G hw) (hc.G 66 (Nat.le_of_ble_eq_true rfl)) rfl rfl rfl ⟨rfl, rfl⟩ ⟨Nat.le_of_ble_eq_true rfl, Nat.le_of_ble_eq_true rfl⟩ rfl (Nat.le_of_ble_eq_true rfl) dX9_person_25 (fun r25 σ25 hw => ?_)
  exact vIret (pc := 28) hc dX9_person_28 hw
set_option maxRecDepth 100000 in
set_option maxHeartbeats 4000000 in
theorem t_X9_person_E {p : Program} {l : Launch} {e : Env} {s : State} {m : MethodId} {args : Array Value} {below : List Frame} {meth : Method} {c : Code} {E : WD} {Q : Int32 → MS → Prop} (hc : Cx p rm_X9_person s m args meth c E (AD E) cX9_person RX9 (some .int) 9 0 0 fdm) (x1 x2 x3 x4 x5 x6 x7 : Int32) (σ : MS) (hw : w_X9_person_E Q x1 x2 x3 x4 x5 x6 x7 σ) : V p l e rm_X9_person s m args below meth c E (AD E) 9 0 0 (MQ below (va_Qi Q (BW E) (AD E)) args s 0 0 (AD E)) σ 0 [some (.ref (E.2.1 66)), some (.int x1), some (.int x2), some (.int x3), some (.int x4), some (.int x5), some (.int x6), some (.int x7), none] [] := by
  unfold w_X9_person_E at hw
  refine vIload_n (pc := 0) hc dX9_person_0 rfl ?_
  refine vBipush (pc := 1) (v := 10) hc dX9_person_1 kb_10 ?_
  refine vCallSi (pc := 3) (st := []) hc ok_X9_isIn tw_858 (c_X9_isIn hc.2.2.2.2.2.2.1 hc.G hw) rfl ⟨rfl, rfl⟩ ⟨Nat.le_of_ble_eq_true rfl, Nat.le_of_ble_eq_true rfl⟩ rfl (Nat.le_of_ble_eq_true rfl) dX9_person_3 (fun r3 σ3 hw => ?_)
  refine vIf_eq (pc := 6) (tgt := 23) hc dX9_person_6 (by decide) (fun c6 => ?_) (fun c6 => ?_)
  · have hw := hw.1 c6
    exact vMono (L2 := [some (.ref (E.2.1 66)), none, none, none, none, none, none, none, none]) (show subL [some (.ref (E.2.1 66)), none, none, none, none, none, none, none, none] [some (.ref (E.2.1 66)), some (.int x1), some (.int x2), some (.int x3), some (.int x4), some (.int x5), some (.int x6), some (.int x7), none] from ⟨rfl, trivial⟩) (t_X9_person_J23 hc   _ hw)
  · have hw := hw.2 c6
    refine vIload_n (pc := 9) hc dX9_person_9 rfl ?_
    refine vBipush (pc := 10) (v := 10) hc dX9_person_10 kb_10 ?_
    refine vCallSi (pc := 12) (st := []) hc ok_X9_isIn tw_858 (c_X9_isIn hc.2.2.2.2.2.2.1 hc.G hw) rfl ⟨rfl, rfl⟩ ⟨Nat.le_of_ble_eq_true rfl, Nat.le_of_ble_eq_true rfl⟩ rfl (Nat.le_of_ble_eq_true rfl) dX9_person_12 (fun r12 σ12 hw => ?_)
    refine vIf_eq (pc := 15) (tgt := 23) hc dX9_person_15 (by decide) (fun c15 => ?_) (fun c15 => ?_)
    · have hw := hw.1 c15
      exact vMono (L2 := [some (.ref (E.2.1 66)), none, none, none, none, none, none, none, none]) (show subL [some (.ref (E.2.1 66)), none, none, none, none, none, none, none, none] [some (.ref (E.2.1 66)), some (.int x1), some (.int x2), some (.int x3), some (.int x4), some (.int x5), some (.int x6), some (.int x7), none] from ⟨rfl, trivial⟩) (t_X9_person_J23 hc   _ hw)
    · have hw := hw.2 c15
      refine vIload_n (pc := 18) hc dX9_person_18 rfl ?_
      refine vIload_n (pc := 19) hc dX9_person_19 rfl ?_
      refine vIcmp_ne (pc := 20) (tgt := 29) hc dX9_person_20 (by decide) (fun c20 => ?_) (fun c20 => ?_)
      · have hw := hw.1 c20
        refine vIload_n (pc := 29) hc dX9_person_29 rfl ?_
        refine vIconst (pc := 30) (v := 2) hc dX9_person_30 ki_2 ?_
        refine vCallSi (pc := 31) (st := []) hc ok_X9_isIn tw_858 (c_X9_isIn hc.2.2.2.2.2.2.1 hc.G hw) rfl ⟨rfl, rfl⟩ ⟨Nat.le_of_ble_eq_true rfl, Nat.le_of_ble_eq_true rfl⟩ rfl (Nat.le_of_ble_eq_true rfl) dX9_person_31 (fun r31 σ31 hw => ?_)
        refine vIf_ne (pc := 34) (tgt := 44) hc dX9_person_34 (by decide) (fun c34 => ?_) (fun c34 => ?_)
        · have hw := hw.1 c34
          refine vIload (pc := 44) hc dX9_person_44 rfl ?_
          refine vIf_lt (pc := 46) (tgt := 64) hc dX9_person_46 (by decide) (fun c46 => ?_) (fun c46 => ?_)
          · have hw := hw.1 c46
            exact vMono (L2 := [some (.ref (E.2.1 66)), none, none, none, none, none, none, none, none]) (show subL [some (.ref (E.2.1 66)), none, none, none, none, none, none, none, none] [some (.ref (E.2.1 66)), some (.int x1), some (.int x2), some (.int x3), some (.int x4), some (.int x5), some (.int x6), some (.int x7), none] from ⟨rfl, trivial⟩) (t_X9_person_J64 hc   _ hw)
          · have hw := hw.2 c46
            refine vIload (pc := 49) hc dX9_person_49 rfl ?_
            refine vIf_lt (pc := 51) (tgt := 64) hc dX9_person_51 (by decide) (fun c51 => ?_) (fun c51 => ?_)
            · have hw := hw.1 c51
              exact vMono (L2 := [some (.ref (E.2.1 66)), none, none, none, none, none, none, none, none]) (show subL [some (.ref (E.2.1 66)), none, none, none, none, none, none, none, none] [some (.ref (E.2.1 66)), some (.int x1), some (.int x2), some (.int x3), some (.int x4), some (.int x5), some (.int x6), some (.int x7), none] from ⟨rfl, trivial⟩) (t_X9_person_J64 hc   _ hw)
            · have hw := hw.2 c51
              refine vIload (pc := 54) hc dX9_person_54 rfl ?_
              refine vIf_lt (pc := 56) (tgt := 64) hc dX9_person_56 (by decide) (fun c56 => ?_) (fun c56 => ?_)
              · have hw := hw.1 c56
                exact vMono (L2 := [some (.ref (E.2.1 66)), none, none, none, none, none, none, none, none]) (show subL [some (.ref (E.2.1 66)), none, none, none, none, none, none, none, none] [some (.ref (E.2.1 66)), some (.int x1), some (.int x2), some (.int x3), some (.int x4), some (.int x5), some (.int x6), some (.int x7), none] from ⟨rfl, trivial⟩) (t_X9_person_J64 hc   _ hw)
              · have hw := hw.2 c56
                refine vIload (pc := 59) hc dX9_person_59 rfl ?_
                refine vIf_ge (pc := 61) (tgt := 71) hc dX9_person_61 (by decide) (fun c61 => ?_) (fun c61 => ?_)
                · have hw := hw.1 c61
                  refine vIload (pc := 71) hc dX9_person_71 rfl ?_
                  refine vSipush (pc := 73) (v := 1440) hc dX9_person_73 ks_1440 ?_
                  refine vIcmp_gt (pc := 76) (tgt := 110) hc dX9_person_76 (by decide) (fun c76 => ?_) (fun c76 => ?_)
                  · have hw := hw.1 c76
                    exact vMono (L2 := [some (.ref (E.2.1 66)), none, none, none, none, none, none, none, none]) (show subL [some (.ref (E.2.1 66)), none, none, none, none, none, none, none, none] [some (.ref (E.2.1 66)), some (.int x1), some (.int x2), some (.int x3), some (.int x4), some (.int x5), some (.int x6), some (.int x7), none] from ⟨rfl, trivial⟩) (t_X9_person_J110 hc   _ hw)
                  · have hw := hw.2 c76
                    refine vIload (pc := 79) hc dX9_person_79 rfl ?_
                    refine vSipush (pc := 81) (v := 1440) hc dX9_person_81 ks_1440 ?_
                    refine vIcmp_gt (pc := 84) (tgt := 110) hc dX9_person_84 (by decide) (fun c84 => ?_) (fun c84 => ?_)
                    · have hw := hw.1 c84
                      exact vMono (L2 := [some (.ref (E.2.1 66)), none, none, none, none, none, none, none, none]) (show subL [some (.ref (E.2.1 66)), none, none, none, none, none, none, none, none] [some (.ref (E.2.1 66)), some (.int x1), some (.int x2), some (.int x3), some (.int x4), some (.int x5), some (.int x6), some (.int x7), none] from ⟨rfl, trivial⟩) (t_X9_person_J110 hc   _ hw)
                    · have hw := hw.2 c84
                      refine vIload (pc := 87) hc dX9_person_87 rfl ?_
                      refine vSipush (pc := 89) (v := 300) hc dX9_person_89 ks_300 ?_
                      refine vIcmp_gt (pc := 92) (tgt := 110) hc dX9_person_92 (by decide) (fun c92 => ?_) (fun c92 => ?_)
                      · have hw := hw.1 c92
                        exact vMono (L2 := [some (.ref (E.2.1 66)), none, none, none, none, none, none, none, none]) (show subL [some (.ref (E.2.1 66)), none, none, none, none, none, none, none, none] [some (.ref (E.2.1 66)), some (.int x1), some (.int x2), some (.int x3), some (.int x4), some (.int x5), some (.int x6), some (.int x7), none] from ⟨rfl, trivial⟩) (t_X9_person_J110 hc   _ hw)
                      · have hw := hw.2 c92
                        refine vIload (pc := 95) hc dX9_person_95 rfl ?_
                        refine vIconst (pc := 97) (v := 5) hc dX9_person_97 ki_5 ?_
                        refine vIcmp_gt (pc := 98) (tgt := 110) hc dX9_person_98 (by decide) (fun c98 => ?_) (fun c98 => ?_)
                        · have hw := hw.1 c98
                          exact vMono (L2 := [some (.ref (E.2.1 66)), none, none, none, none, none, none, none, none]) (show subL [some (.ref (E.2.1 66)), none, none, none, none, none, none, none, none] [some (.ref (E.2.1 66)), some (.int x1), some (.int x2), some (.int x3), some (.int x4), some (.int x5), some (.int x6), some (.int x7), none] from ⟨rfl, trivial⟩) (t_X9_person_J110 hc   _ hw)
                        · have hw := hw.2 c98
                          refine vAload_n (pc := 101) hc dX9_person_101 rfl ?_
                          refine vGetI (pc := 102) (k := 66) (j := 3) hc rfl inG9 (hc.G 66 (Nat.le_of_ble_eq_true rfl)) rfl (Nat.le_of_ble_eq_true rfl) tw_726 rfl dX9_person_102 ?_
                          refine vBipush (pc := 105) (v := 9) hc dX9_person_105 kb_9 ?_
                          refine vIcmp_ne (pc := 107) (tgt := 117) hc dX9_person_107 (by decide) (fun c107 => ?_) (fun c107 => ?_)
                          · have hw := hw.1 c107
                            refine vAload_n (pc := 117) hc dX9_person_117 rfl ?_
                            refine vGetI (pc := 118) (k := 66) (j := 3) hc rfl inG9 (hc.G 66 (Nat.le_of_ble_eq_true rfl)) rfl (Nat.le_of_ble_eq_true rfl) tw_726 rfl dX9_person_118 ?_
                            obtain ⟨x8_121, ex8_121⟩ : ∃ z : Int32, z = σ31 66 3 := ⟨_, rfl⟩
                            have hw := hw x8_121 ex8_121
                            refine vTop ex8_121 ?_
                            refine vIstore (pc := 121) (L2 := [some (.ref (E.2.1 66)), some (.int x1), some (.int x2), some (.int x3), some (.int x4), some (.int x5), some (.int x6), some (.int x7), some (.int x8_121)]) hc dX9_person_121 rfl (Nat.le_of_ble_eq_true rfl) ?_
                            refine vAload_n (pc := 123) hc dX9_person_123 rfl ?_
                            refine vDup (pc := 124) hc dX9_person_124 rfl ?_
                            refine vGetI (pc := 125) (k := 66) (j := 3) hc rfl inG9 (hc.G 66 (Nat.le_of_ble_eq_true rfl)) rfl (Nat.le_of_ble_eq_true rfl) tw_726 rfl dX9_person_125 ?_
                            refine vIconst (pc := 128) (v := 1) hc dX9_person_128 ki_1 ?_
                            refine vIadd (pc := 129) hc dX9_person_129 ?_
                            refine vPut (pc := 130) (k := 66) (j := 3) hc rfl inG9 (hc.G 66 (Nat.le_of_ble_eq_true rfl)) rfl (Nat.le_of_ble_eq_true rfl) tyX9 tyX9_ok nmX9 tw_726 rfl rfl rfl rfl dX9_person_130 (fun σ130 eσ130 => ?_)
                            have hw := hw σ130 eσ130
                            refine vAload_n (pc := 133) hc dX9_person_133 rfl ?_
                            refine vGetR (pc := 134) (k := 66) (j := 5) hc rfl inG9 (hc.G 66 (Nat.le_of_ble_eq_true rfl)) rfl (Nat.le_of_ble_eq_true rfl) tw_728 rfl dX9_person_134 ?_
                            refine vIload (pc := 137) hc dX9_person_137 rfl ?_
                            refine vIload_n (pc := 139) hc dX9_person_139 rfl ?_
                            obtain ⟨hi1, hw⟩ := hw
                            refine vIast (pc := 140) (k := 70) hc (hc.G 70 (Nat.le_of_ble_eq_true rfl)) rfl rfl hi1 dX9_person_140 (fun σ140 eσ140 => ?_)
                            have hw := hw σ140 eσ140
                            refine vAload_n (pc := 141) hc dX9_person_141 rfl ?_
                            refine vGetR (pc := 142) (k := 66) (j := 6) hc rfl inG9 (hc.G 66 (Nat.le_of_ble_eq_true rfl)) rfl (Nat.le_of_ble_eq_true rfl) tw_729 rfl dX9_person_142 ?_
                            refine vIload (pc := 145) hc dX9_person_145 rfl ?_
                            refine vIload_n (pc := 147) hc dX9_person_147 rfl ?_
                            refine vIast (pc := 148) (k := 71) hc (hc.G 71 (Nat.le_of_ble_eq_true rfl)) rfl rfl hi1 dX9_person_148 (fun σ148 eσ148 => ?_)
                            have hw := hw σ148 eσ148
                            refine vAload_n (pc := 149) hc dX9_person_149 rfl ?_
                            refine vGetR (pc := 150) (k := 66) (j := 7) hc rfl inG9 (hc.G 66 (Nat.le_of_ble_eq_true rfl)) rfl (Nat.le_of_ble_eq_true rfl) tw_730 rfl dX9_person_150 ?_
                            refine vIload (pc := 153) hc dX9_person_153 rfl ?_
                            refine vIload_n (pc := 155) hc dX9_person_155 rfl ?_
                            refine vIast (pc := 156) (k := 72) hc (hc.G 72 (Nat.le_of_ble_eq_true rfl)) rfl rfl hi1 dX9_person_156 (fun σ156 eσ156 => ?_)
                            have hw := hw σ156 eσ156
                            refine vAload_n (pc := 157) hc dX9_person_157 rfl ?_
                            refine vGetR (pc := 158) (k := 66) (j := 8) hc rfl inG9 (hc.G 66 (Nat.le_of_ble_eq_true rfl)) rfl (Nat.le_of_ble_eq_true rfl) tw_731 rfl dX9_person_158 ?_
                            refine vIload (pc := 161) hc dX9_person_161 rfl ?_
                            refine vIload (pc := 163) hc dX9_person_163 rfl ?_
                            refine vIast (pc := 165) (k := 73) hc (hc.G 73 (Nat.le_of_ble_eq_true rfl)) rfl rfl hi1 dX9_person_165 (fun σ165 eσ165 => ?_)
                            have hw := hw σ165 eσ165
                            refine vAload_n (pc := 166) hc dX9_person_166 rfl ?_
                            refine vGetR (pc := 167) (k := 66) (j := 9) hc rfl inG9 (hc.G 66 (Nat.le_of_ble_eq_true rfl)) rfl (Nat.le_of_ble_eq_true rfl) tw_732 rfl dX9_person_167 ?_
                            refine vIload (pc := 170) hc dX9_person_170 rfl ?_
                            refine vIload (pc := 172) hc dX9_person_172 rfl ?_
                            refine vIast (pc := 174) (k := 74) hc (hc.G 74 (Nat.le_of_ble_eq_true rfl)) rfl rfl hi1 dX9_person_174 (fun σ174 eσ174 => ?_)
                            have hw := hw σ174 eσ174
                            refine vAload_n (pc := 175) hc dX9_person_175 rfl ?_
                            refine vGetR (pc := 176) (k := 66) (j := 10) hc rfl inG9 (hc.G 66 (Nat.le_of_ble_eq_true rfl)) rfl (Nat.le_of_ble_eq_true rfl) tw_733 rfl dX9_person_176 ?_
                            refine vIload (pc := 179) hc dX9_person_179 rfl ?_
                            refine vIload (pc := 181) hc dX9_person_181 rfl ?_
                            refine vIast (pc := 183) (k := 75) hc (hc.G 75 (Nat.le_of_ble_eq_true rfl)) rfl rfl hi1 dX9_person_183 (fun σ183 eσ183 => ?_)
                            have hw := hw σ183 eσ183
                            refine vAload_n (pc := 184) hc dX9_person_184 rfl ?_
                            refine vGetR (pc := 185) (k := 66) (j := 11) hc rfl inG9 (hc.G 66 (Nat.le_of_ble_eq_true rfl)) rfl (Nat.le_of_ble_eq_true rfl) tw_734 rfl dX9_person_185 ?_
                            refine vIload (pc := 188) hc dX9_person_188 rfl ?_
                            refine vIload (pc := 190) hc dX9_person_190 rfl ?_
                            refine vIast (pc := 192) (k := 76) hc (hc.G 76 (Nat.le_of_ble_eq_true rfl)) rfl rfl hi1 dX9_person_192 (fun σ192 eσ192 => ?_)
                            have hw := hw σ192 eσ192
                            refine vAload_n (pc := 193) hc dX9_person_193 rfl ?_
                            refine vCallVv (pc := 194) (st := []) hc ok_X9_changes tw_719 (c_X9_changes hc.2.2.2.2.2.2.1 hc.G hw) (hc.G 66 (Nat.le_of_ble_eq_true rfl)) rfl rfl rfl ⟨rfl, rfl⟩ ⟨Nat.le_of_ble_eq_true rfl, Nat.le_of_ble_eq_true rfl⟩ rfl (Nat.le_of_ble_eq_true rfl) dX9_person_194 (fun σ194 hw => ?_)
                            refine vIload (pc := 197) hc dX9_person_197 rfl ?_
                            exact vIret (pc := 199) hc dX9_person_199 hw
                          · have hw := hw.2 c107
                            exact vMono (L2 := [some (.ref (E.2.1 66)), none, none, none, none, none, none, none, none]) (show subL [some (.ref (E.2.1 66)), none, none, none, none, none, none, none, none] [some (.ref (E.2.1 66)), some (.int x1), some (.int x2), some (.int x3), some (.int x4), some (.int x5), some (.int x6), some (.int x7), none] from ⟨rfl, trivial⟩) (t_X9_person_J110 hc   _ hw)
                · have hw := hw.2 c61
                  exact vMono (L2 := [some (.ref (E.2.1 66)), none, none, none, none, none, none, none, none]) (show subL [some (.ref (E.2.1 66)), none, none, none, none, none, none, none, none] [some (.ref (E.2.1 66)), some (.int x1), some (.int x2), some (.int x3), some (.int x4), some (.int x5), some (.int x6), some (.int x7), none] from ⟨rfl, trivial⟩) (t_X9_person_J64 hc   _ hw)
        · have hw := hw.2 c34
          refine vAload_n (pc := 37) hc dX9_person_37 rfl ?_
          refine vBipush (pc := 38) (v := (-2)) hc dX9_person_38 kb_m2 ?_
          refine vCallVi (pc := 40) (st := []) hc ok_X9_refuse tw_861 (c_X9_refuse hc.2.2.2.2.2.2.1 hc.G hw) (hc.G 66 (Nat.le_of_ble_eq_true rfl)) rfl rfl rfl ⟨rfl, rfl⟩ ⟨Nat.le_of_ble_eq_true rfl, Nat.le_of_ble_eq_true rfl⟩ rfl (Nat.le_of_ble_eq_true rfl) dX9_person_40 (fun r40 σ40 hw => ?_)
          exact vIret (pc := 43) hc dX9_person_43 hw
      · have hw := hw.2 c20
        exact vMono (L2 := [some (.ref (E.2.1 66)), none, none, none, none, none, none, none, none]) (show subL [some (.ref (E.2.1 66)), none, none, none, none, none, none, none, none] [some (.ref (E.2.1 66)), some (.int x1), some (.int x2), some (.int x3), some (.int x4), some (.int x5), some (.int x6), some (.int x7), none] from ⟨rfl, trivial⟩) (t_X9_person_J23 hc   _ hw)
set_option maxRecDepth 100000 in
set_option maxHeartbeats 4000000 in
theorem c_X9_person {l : Launch} {E : WD} (hE : inj E) (hG : ∀ k, fdm k → k ∈ E.2.2.2) {x1 x2 x3 x4 x5 x6 x7 : Int32} {σ : MS} {Q : Int32 → MS → Prop} (hw : w_X9_person x1 x2 x3 x4 x5 x6 x7 σ Q) : Ci l E yX9_person cX9_person 9 (some .int) rm_X9_person [.ref (E.2.1 66), .int x1, .int x2, .int x3, .int x4, .int x5, .int x6, .int x7] σ Q :=
  Ct_of (by decide) rfl (by
    intro v hv
    simp only [List.mem_cons, List.not_mem_nil, or_false] at hv
    rcases hv with rfl | rfl | rfl | rfl | rfl | rfl | rfl | rfl <;> rfl) (Nat.le_of_ble_eq_true rfl) hE hG (fun p e s m below meth c hc => t_X9_person_E hc x1 x2 x3 x4 x5 x6 x7 σ hw)
def w_X9_isPerson_E (Q : Int32 → MS → Prop) (x1 : Int32) (σ : MS) : Prop := w_X9_isIn x1 (σ 66 3) σ (fun r5 σ5 => (zb r5 ∧ Q r5 σ5))
abbrev w_X9_isPerson (x1 : Int32) (σ : MS) (Q : Int32 → MS → Prop) : Prop := w_X9_isPerson_E Q x1 σ
abbrev rm_X9_isPerson : Room := { frames := 1, cells := 0, slots := 0, locals := 21 }
theorem ok_X9_isPerson : OkV yX9_isPerson RX9 cX9_isPerson 2 (some .boolean) 1 := ⟨tw_883, tw_25, tw_57, tw_884, rfl, by decide, by decide, by decide +kernel⟩
set_option maxRecDepth 100000 in
set_option maxHeartbeats 4000000 in
theorem t_X9_isPerson_E {p : Program} {l : Launch} {e : Env} {s : State} {m : MethodId} {args : Array Value} {below : List Frame} {meth : Method} {c : Code} {E : WD} {Q : Int32 → MS → Prop} (hc : Cx p rm_X9_isPerson s m args meth c E (AD E) cX9_isPerson RX9 (some .boolean) 2 0 0 fdm) (x1 : Int32) (σ : MS) (hw : w_X9_isPerson_E Q x1 σ) : V p l e rm_X9_isPerson s m args below meth c E (AD E) 2 0 0 (MQ below (va_Qi Q (BW E) (AD E)) args s 0 0 (AD E)) σ 0 [some (.ref (E.2.1 66)), some (.int x1)] [] := by
  unfold w_X9_isPerson_E at hw
  refine vIload_n (pc := 0) hc dX9_isPerson_0 rfl ?_
  refine vAload_n (pc := 1) hc dX9_isPerson_1 rfl ?_
  refine vGetI (pc := 2) (k := 66) (j := 3) hc rfl inG9 (hc.G 66 (Nat.le_of_ble_eq_true rfl)) rfl (Nat.le_of_ble_eq_true rfl) tw_726 rfl dX9_isPerson_2 ?_
  refine vCallSi (pc := 5) (st := []) hc ok_X9_isIn tw_858 (c_X9_isIn hc.2.2.2.2.2.2.1 hc.G hw) rfl ⟨rfl, rfl⟩ ⟨Nat.le_of_ble_eq_true rfl, Nat.le_of_ble_eq_true rfl⟩ rfl (Nat.le_of_ble_eq_true rfl) dX9_isPerson_5 (fun r5 σ5 hw => ?_)
  exact vZret (pc := 8) hc dX9_isPerson_8 hw.1 hw.2
set_option maxRecDepth 100000 in
set_option maxHeartbeats 4000000 in
theorem c_X9_isPerson {l : Launch} {E : WD} (hE : inj E) (hG : ∀ k, fdm k → k ∈ E.2.2.2) {x1 : Int32} {σ : MS} {Q : Int32 → MS → Prop} (hw : w_X9_isPerson x1 σ Q) : Ci l E yX9_isPerson cX9_isPerson 2 (some .boolean) rm_X9_isPerson [.ref (E.2.1 66), .int x1] σ Q :=
  Ct_of (by decide) rfl (by
    intro v hv
    simp only [List.mem_cons, List.not_mem_nil, or_false] at hv
    rcases hv with rfl | rfl <;> rfl) (Nat.le_of_ble_eq_true rfl) hE hG (fun p e s m below meth c hc => t_X9_isPerson_E hc x1 σ hw)
def w_X9_times_J43 (Q : Int32 → MS → Prop) (σ : MS) : Prop := w_X9_refuse (-6) σ (fun r46 σ46 => Q r46 σ46)
def w_X9_times_J22 (Q : Int32 → MS → Prop) (σ : MS) : Prop := w_X9_refuse (-4) σ (fun r25 σ25 => Q r25 σ25)
def w_X9_times_E (Q : Int32 → MS → Prop) (x1 x2 x3 : Int32) (σ : MS) : Prop := w_X9_isPerson x1 σ (fun r2 σ2 => ((¬ r2 = 0 → ((x2 < 0 → w_X9_times_J22 Q σ2) ∧ (¬ x2 < 0 → ((0 ≤ x3 → ((1440 < x2 → w_X9_times_J43 Q σ2) ∧ (¬ 1440 < x2 → ((x3 ≤ 1440 → ((vp_in x1 9) ∧ (∀ σ56, σ56 = mst σ2 73 x1.toNatClampNeg x2 → (∀ σ63, σ63 = mst σ56 74 x1.toNatClampNeg x3 → w_X9_changes  σ63 (fun σ65 => Q 1 σ65))))) ∧ (¬ x3 ≤ 1440 → w_X9_times_J43 Q σ2))))) ∧ (¬ 0 ≤ x3 → w_X9_times_J22 Q σ2))))) ∧ (r2 = 0 → w_X9_refuse (-1) σ2 (fun r10 σ10 => Q r10 σ10))))
abbrev w_X9_times (x1 x2 x3 : Int32) (σ : MS) (Q : Int32 → MS → Prop) : Prop := w_X9_times_E Q x1 x2 x3 σ
abbrev rm_X9_times : Room := { frames := 2, cells := 0, slots := 0, locals := 42 }
theorem ok_X9_times : OkV yX9_times RX9 cX9_times 4 (some .int) 3 := ⟨tw_878, tw_879, tw_57, tw_880, rfl, by decide, by decide, by decide +kernel⟩
set_option maxRecDepth 100000 in
set_option maxHeartbeats 4000000 in
theorem t_X9_times_J43 {p : Program} {l : Launch} {e : Env} {s : State} {m : MethodId} {args : Array Value} {below : List Frame} {meth : Method} {c : Code} {E : WD} {Q : Int32 → MS → Prop} (hc : Cx p rm_X9_times s m args meth c E (AD E) cX9_times RX9 (some .int) 4 0 0 fdm) (σ : MS) (hw : w_X9_times_J43 Q  σ) : V p l e rm_X9_times s m args below meth c E (AD E) 4 0 0 (MQ below (va_Qi Q (BW E) (AD E)) args s 0 0 (AD E)) σ 43 [some (.ref (E.2.1 66)), none, none, none] [] := by
  unfold w_X9_times_J43 at hw
  refine vAload_n (pc := 43) hc dX9_times_43 rfl ?_
  refine vBipush (pc := 44) (v := (-6)) hc dX9_times_44 kb_m6 ?_
  refine vCallVi (pc := 46) (st := []) hc ok_X9_refuse tw_861 (c_X9_refuse hc.2.2.2.2.2.2.1 hc.G hw) (hc.G 66 (Nat.le_of_ble_eq_true rfl)) rfl rfl rfl ⟨rfl, rfl⟩ ⟨Nat.le_of_ble_eq_true rfl, Nat.le_of_ble_eq_true rfl⟩ rfl (Nat.le_of_ble_eq_true rfl) dX9_times_46 (fun r46 σ46 hw => ?_)
  exact vIret (pc := 49) hc dX9_times_49 hw
set_option maxRecDepth 100000 in
set_option maxHeartbeats 4000000 in
theorem t_X9_times_J22 {p : Program} {l : Launch} {e : Env} {s : State} {m : MethodId} {args : Array Value} {below : List Frame} {meth : Method} {c : Code} {E : WD} {Q : Int32 → MS → Prop} (hc : Cx p rm_X9_times s m args meth c E (AD E) cX9_times RX9 (some .int) 4 0 0 fdm) (σ : MS) (hw : w_X9_times_J22 Q  σ) : V p l e rm_X9_times s m args below meth c E (AD E) 4 0 0 (MQ below (va_Qi Q (BW E) (AD E)) args s 0 0 (AD E)) σ 22 [some (.ref (E.2.1 66)), none, none, none] [] := by
  unfold w_X9_times_J22 at hw
  refine vAload_n (pc := 22) hc dX9_times_22 rfl ?_
  refine vBipush (pc := 23) (v := (-4)) hc dX9_times_23 kb_m4 ?_
  refine vCallVi (pc := 25) (st := []) hc ok_X9_refuse tw_861 (c_X9_refuse hc.2.2.2.2.2.2.1 hc.G hw) (hc.G 66 (Nat.le_of_ble_eq_true rfl)) rfl rfl rfl ⟨rfl, rfl⟩ ⟨Nat.le_of_ble_eq_true rfl, Nat.le_of_ble_eq_true rfl⟩ rfl (Nat.le_of_ble_eq_true rfl) dX9_times_25 (fun r25 σ25 hw => ?_)
  exact vIret (pc := 28) hc dX9_times_28 hw
set_option maxRecDepth 100000 in
set_option maxHeartbeats 4000000 in
theorem t_X9_times_E {p : Program} {l : Launch} {e : Env} {s : State} {m : MethodId} {args : Array Value} {below : List Frame} {meth : Method} {c : Code} {E : WD} {Q : Int32 → MS → Prop} (hc : Cx p rm_X9_times s m args meth c E (AD E) cX9_times RX9 (some .int) 4 0 0 fdm) (x1 x2 x3 : Int32) (σ : MS) (hw : w_X9_times_E Q x1 x2 x3 σ) : V p l e rm_X9_times s m args below meth c E (AD E) 4 0 0 (MQ below (va_Qi Q (BW E) (AD E)) args s 0 0 (AD E)) σ 0 [some (.ref (E.2.1 66)), some (.int x1), some (.int x2), some (.int x3)] [] := by
  unfold w_X9_times_E at hw
  refine vAload_n (pc := 0) hc dX9_times_0 rfl ?_
  refine vIload_n (pc := 1) hc dX9_times_1 rfl ?_
  refine vCallVi (pc := 2) (st := []) hc ok_X9_isPerson tw_881 (c_X9_isPerson hc.2.2.2.2.2.2.1 hc.G hw) (hc.G 66 (Nat.le_of_ble_eq_true rfl)) rfl rfl rfl ⟨rfl, rfl⟩ ⟨Nat.le_of_ble_eq_true rfl, Nat.le_of_ble_eq_true rfl⟩ rfl (Nat.le_of_ble_eq_true rfl) dX9_times_2 (fun r2 σ2 hw => ?_)
  refine vIf_ne (pc := 5) (tgt := 14) hc dX9_times_5 (by decide) (fun c5 => ?_) (fun c5 => ?_)
  · have hw := hw.1 c5
    refine vIload_n (pc := 14) hc dX9_times_14 rfl ?_
    refine vIf_lt (pc := 15) (tgt := 22) hc dX9_times_15 (by decide) (fun c15 => ?_) (fun c15 => ?_)
    · have hw := hw.1 c15
      exact vMono (L2 := [some (.ref (E.2.1 66)), none, none, none]) (show subL [some (.ref (E.2.1 66)), none, none, none] [some (.ref (E.2.1 66)), some (.int x1), some (.int x2), some (.int x3)] from ⟨rfl, trivial⟩) (t_X9_times_J22 hc   _ hw)
    · have hw := hw.2 c15
      refine vIload_n (pc := 18) hc dX9_times_18 rfl ?_
      refine vIf_ge (pc := 19) (tgt := 29) hc dX9_times_19 (by decide) (fun c19 => ?_) (fun c19 => ?_)
      · have hw := hw.1 c19
        refine vIload_n (pc := 29) hc dX9_times_29 rfl ?_
        refine vSipush (pc := 30) (v := 1440) hc dX9_times_30 ks_1440 ?_
        refine vIcmp_gt (pc := 33) (tgt := 43) hc dX9_times_33 (by decide) (fun c33 => ?_) (fun c33 => ?_)
        · have hw := hw.1 c33
          exact vMono (L2 := [some (.ref (E.2.1 66)), none, none, none]) (show subL [some (.ref (E.2.1 66)), none, none, none] [some (.ref (E.2.1 66)), some (.int x1), some (.int x2), some (.int x3)] from ⟨rfl, trivial⟩) (t_X9_times_J43 hc   _ hw)
        · have hw := hw.2 c33
          refine vIload_n (pc := 36) hc dX9_times_36 rfl ?_
          refine vSipush (pc := 37) (v := 1440) hc dX9_times_37 ks_1440 ?_
          refine vIcmp_le (pc := 40) (tgt := 50) hc dX9_times_40 (by decide) (fun c40 => ?_) (fun c40 => ?_)
          · have hw := hw.1 c40
            refine vAload_n (pc := 50) hc dX9_times_50 rfl ?_
            refine vGetR (pc := 51) (k := 66) (j := 8) hc rfl inG9 (hc.G 66 (Nat.le_of_ble_eq_true rfl)) rfl (Nat.le_of_ble_eq_true rfl) tw_731 rfl dX9_times_51 ?_
            refine vIload_n (pc := 54) hc dX9_times_54 rfl ?_
            refine vIload_n (pc := 55) hc dX9_times_55 rfl ?_
            obtain ⟨hi1, hw⟩ := hw
            refine vIast (pc := 56) (k := 73) hc (hc.G 73 (Nat.le_of_ble_eq_true rfl)) rfl rfl hi1 dX9_times_56 (fun σ56 eσ56 => ?_)
            have hw := hw σ56 eσ56
            refine vAload_n (pc := 57) hc dX9_times_57 rfl ?_
            refine vGetR (pc := 58) (k := 66) (j := 9) hc rfl inG9 (hc.G 66 (Nat.le_of_ble_eq_true rfl)) rfl (Nat.le_of_ble_eq_true rfl) tw_732 rfl dX9_times_58 ?_
            refine vIload_n (pc := 61) hc dX9_times_61 rfl ?_
            refine vIload_n (pc := 62) hc dX9_times_62 rfl ?_
            refine vIast (pc := 63) (k := 74) hc (hc.G 74 (Nat.le_of_ble_eq_true rfl)) rfl rfl hi1 dX9_times_63 (fun σ63 eσ63 => ?_)
            have hw := hw σ63 eσ63
            refine vAload_n (pc := 64) hc dX9_times_64 rfl ?_
            refine vCallVv (pc := 65) (st := []) hc ok_X9_changes tw_719 (c_X9_changes hc.2.2.2.2.2.2.1 hc.G hw) (hc.G 66 (Nat.le_of_ble_eq_true rfl)) rfl rfl rfl ⟨rfl, rfl⟩ ⟨Nat.le_of_ble_eq_true rfl, Nat.le_of_ble_eq_true rfl⟩ rfl (Nat.le_of_ble_eq_true rfl) dX9_times_65 (fun σ65 hw => ?_)
            refine vIconst (pc := 68) (v := 1) hc dX9_times_68 ki_1 ?_
            exact vIret (pc := 69) hc dX9_times_69 hw
          · have hw := hw.2 c40
            exact vMono (L2 := [some (.ref (E.2.1 66)), none, none, none]) (show subL [some (.ref (E.2.1 66)), none, none, none] [some (.ref (E.2.1 66)), some (.int x1), some (.int x2), some (.int x3)] from ⟨rfl, trivial⟩) (t_X9_times_J43 hc   _ hw)
      · have hw := hw.2 c19
        exact vMono (L2 := [some (.ref (E.2.1 66)), none, none, none]) (show subL [some (.ref (E.2.1 66)), none, none, none] [some (.ref (E.2.1 66)), some (.int x1), some (.int x2), some (.int x3)] from ⟨rfl, trivial⟩) (t_X9_times_J22 hc   _ hw)
  · have hw := hw.2 c5
    refine vAload_n (pc := 8) hc dX9_times_8 rfl ?_
    refine vIconst (pc := 9) (v := (-1)) hc dX9_times_9 ki_m1 ?_
    refine vCallVi (pc := 10) (st := []) hc ok_X9_refuse tw_861 (c_X9_refuse hc.2.2.2.2.2.2.1 hc.G hw) (hc.G 66 (Nat.le_of_ble_eq_true rfl)) rfl rfl rfl ⟨rfl, rfl⟩ ⟨Nat.le_of_ble_eq_true rfl, Nat.le_of_ble_eq_true rfl⟩ rfl (Nat.le_of_ble_eq_true rfl) dX9_times_10 (fun r10 σ10 hw => ?_)
    exact vIret (pc := 13) hc dX9_times_13 hw
set_option maxRecDepth 100000 in
set_option maxHeartbeats 4000000 in
theorem c_X9_times {l : Launch} {E : WD} (hE : inj E) (hG : ∀ k, fdm k → k ∈ E.2.2.2) {x1 x2 x3 : Int32} {σ : MS} {Q : Int32 → MS → Prop} (hw : w_X9_times x1 x2 x3 σ Q) : Ci l E yX9_times cX9_times 4 (some .int) rm_X9_times [.ref (E.2.1 66), .int x1, .int x2, .int x3] σ Q :=
  Ct_of (by decide) rfl (by
    intro v hv
    simp only [List.mem_cons, List.not_mem_nil, or_false] at hv
    rcases hv with rfl | rfl | rfl | rfl <;> rfl) (Nat.le_of_ble_eq_true rfl) hE hG (fun p e s m below meth c hc => t_X9_times_E hc x1 x2 x3 σ hw)
def w_X9_bar_J46 (Q : Int32 → MS → Prop) (x1 x2 x3 s0 : Int32) (σ : MS) : Prop := ((¬ s0 = x3 → ((vp_in x1 9) ∧ (∀ σ63, σ63 = mst σ 77 x1.toNatClampNeg ((σ 77 x1.toNatClampNeg) ^^^ ((1 : Int32) <<< (x2 &&& 31))) → ((vp_in x2 9) ∧ (∀ σ75, σ75 = mst σ63 77 x2.toNatClampNeg ((σ63 77 x2.toNatClampNeg) ^^^ ((1 : Int32) <<< (x1 &&& 31))) → w_X9_changes  σ75 (fun σ77 => Q 1 σ77)))))) ∧ (s0 = x3 → Q 0 σ))
def w_X9_bar_J21 (Q : Int32 → MS → Prop) (σ : MS) : Prop := w_X9_refuse (-1) σ (fun r23 σ23 => Q r23 σ23)
def w_X9_bar_E (Q : Int32 → MS → Prop) (x1 x2 x3 : Int32) (σ : MS) : Prop := w_X9_isPerson x1 σ (fun r2 σ2 => ((r2 = 0 → w_X9_bar_J21 Q σ2) ∧ (¬ r2 = 0 → w_X9_isPerson x2 σ2 (fun r10 σ10 => ((r10 = 0 → w_X9_bar_J21 Q σ10) ∧ (¬ r10 = 0 → ((¬ x1 = x2 → ((vp_in x1 9) ∧ ((¬ (((σ10 77 x1.toNatClampNeg) >>> (x2 &&& 31)) &&& 1) = 1 → w_X9_bar_J46 Q x1 x2 x3 0 σ10) ∧ ((((σ10 77 x1.toNatClampNeg) >>> (x2 &&& 31)) &&& 1) = 1 → w_X9_bar_J46 Q x1 x2 x3 1 σ10)))) ∧ (x1 = x2 → w_X9_bar_J21 Q σ10))))))))
abbrev w_X9_bar (x1 x2 x3 : Int32) (σ : MS) (Q : Int32 → MS → Prop) : Prop := w_X9_bar_E Q x1 x2 x3 σ
abbrev rm_X9_bar : Room := { frames := 2, cells := 0, slots := 0, locals := 42 }
theorem ok_X9_bar : OkV yX9_bar RX9 cX9_bar 4 (some .int) 3 := ⟨tw_886, tw_887, tw_57, tw_888, rfl, by decide, by decide, by decide +kernel⟩
set_option maxRecDepth 100000 in
set_option maxHeartbeats 4000000 in
theorem t_X9_bar_J46 {p : Program} {l : Launch} {e : Env} {s : State} {m : MethodId} {args : Array Value} {below : List Frame} {meth : Method} {c : Code} {E : WD} {Q : Int32 → MS → Prop} (hc : Cx p rm_X9_bar s m args meth c E (AD E) cX9_bar RX9 (some .int) 4 0 0 fdm) (x1 x2 x3 s0 : Int32) (σ : MS) (hw : w_X9_bar_J46 Q x1 x2 x3 s0 σ) : V p l e rm_X9_bar s m args below meth c E (AD E) 4 0 0 (MQ below (va_Qi Q (BW E) (AD E)) args s 0 0 (AD E)) σ 46 [some (.ref (E.2.1 66)), some (.int x1), some (.int x2), some (.int x3)] [(.int s0)] := by
  unfold w_X9_bar_J46 at hw
  refine vIload_n (pc := 46) hc dX9_bar_46 rfl ?_
  refine vIcmp_ne (pc := 47) (tgt := 52) hc dX9_bar_47 (by decide) (fun c47 => ?_) (fun c47 => ?_)
  · have hw := hw.1 c47
    refine vAload_n (pc := 52) hc dX9_bar_52 rfl ?_
    refine vGetR (pc := 53) (k := 66) (j := 12) hc rfl inG9 (hc.G 66 (Nat.le_of_ble_eq_true rfl)) rfl (Nat.le_of_ble_eq_true rfl) tw_735 rfl dX9_bar_53 ?_
    refine vIload_n (pc := 56) hc dX9_bar_56 rfl ?_
    refine vDup2 (pc := 57) hc dX9_bar_57 rfl rfl ?_
    obtain ⟨hi1, hw⟩ := hw
    refine vIald (pc := 58) (k := 77) hc (hc.G 77 (Nat.le_of_ble_eq_true rfl)) rfl rfl hi1 dX9_bar_58 ?_
    refine vIconst (pc := 59) (v := 1) hc dX9_bar_59 ki_1 ?_
    refine vIload_n (pc := 60) hc dX9_bar_60 rfl ?_
    refine vIshl (pc := 61) hc dX9_bar_61 ?_
    refine vIxor (pc := 62) hc dX9_bar_62 ?_
    refine vIast (pc := 63) (k := 77) hc (hc.G 77 (Nat.le_of_ble_eq_true rfl)) rfl rfl hi1 dX9_bar_63 (fun σ63 eσ63 => ?_)
    have hw := hw σ63 eσ63
    refine vAload_n (pc := 64) hc dX9_bar_64 rfl ?_
    refine vGetR (pc := 65) (k := 66) (j := 12) hc rfl inG9 (hc.G 66 (Nat.le_of_ble_eq_true rfl)) rfl (Nat.le_of_ble_eq_true rfl) tw_735 rfl dX9_bar_65 ?_
    refine vIload_n (pc := 68) hc dX9_bar_68 rfl ?_
    refine vDup2 (pc := 69) hc dX9_bar_69 rfl rfl ?_
    obtain ⟨hi2, hw⟩ := hw
    refine vIald (pc := 70) (k := 77) hc (hc.G 77 (Nat.le_of_ble_eq_true rfl)) rfl rfl hi2 dX9_bar_70 ?_
    refine vIconst (pc := 71) (v := 1) hc dX9_bar_71 ki_1 ?_
    refine vIload_n (pc := 72) hc dX9_bar_72 rfl ?_
    refine vIshl (pc := 73) hc dX9_bar_73 ?_
    refine vIxor (pc := 74) hc dX9_bar_74 ?_
    refine vIast (pc := 75) (k := 77) hc (hc.G 77 (Nat.le_of_ble_eq_true rfl)) rfl rfl hi2 dX9_bar_75 (fun σ75 eσ75 => ?_)
    have hw := hw σ75 eσ75
    refine vAload_n (pc := 76) hc dX9_bar_76 rfl ?_
    refine vCallVv (pc := 77) (st := []) hc ok_X9_changes tw_719 (c_X9_changes hc.2.2.2.2.2.2.1 hc.G hw) (hc.G 66 (Nat.le_of_ble_eq_true rfl)) rfl rfl rfl ⟨rfl, rfl⟩ ⟨Nat.le_of_ble_eq_true rfl, Nat.le_of_ble_eq_true rfl⟩ rfl (Nat.le_of_ble_eq_true rfl) dX9_bar_77 (fun σ77 hw => ?_)
    refine vIconst (pc := 80) (v := 1) hc dX9_bar_80 ki_1 ?_
    exact vIret (pc := 81) hc dX9_bar_81 hw
  · have hw := hw.2 c47
    refine vIconst (pc := 50) (v := 0) hc dX9_bar_50 ki_0 ?_
    exact vIret (pc := 51) hc dX9_bar_51 hw
set_option maxRecDepth 100000 in
set_option maxHeartbeats 4000000 in
theorem t_X9_bar_J21 {p : Program} {l : Launch} {e : Env} {s : State} {m : MethodId} {args : Array Value} {below : List Frame} {meth : Method} {c : Code} {E : WD} {Q : Int32 → MS → Prop} (hc : Cx p rm_X9_bar s m args meth c E (AD E) cX9_bar RX9 (some .int) 4 0 0 fdm) (σ : MS) (hw : w_X9_bar_J21 Q  σ) : V p l e rm_X9_bar s m args below meth c E (AD E) 4 0 0 (MQ below (va_Qi Q (BW E) (AD E)) args s 0 0 (AD E)) σ 21 [some (.ref (E.2.1 66)), none, none, none] [] := by
  unfold w_X9_bar_J21 at hw
  refine vAload_n (pc := 21) hc dX9_bar_21 rfl ?_
  refine vIconst (pc := 22) (v := (-1)) hc dX9_bar_22 ki_m1 ?_
  refine vCallVi (pc := 23) (st := []) hc ok_X9_refuse tw_861 (c_X9_refuse hc.2.2.2.2.2.2.1 hc.G hw) (hc.G 66 (Nat.le_of_ble_eq_true rfl)) rfl rfl rfl ⟨rfl, rfl⟩ ⟨Nat.le_of_ble_eq_true rfl, Nat.le_of_ble_eq_true rfl⟩ rfl (Nat.le_of_ble_eq_true rfl) dX9_bar_23 (fun r23 σ23 hw => ?_)
  exact vIret (pc := 26) hc dX9_bar_26 hw
set_option maxRecDepth 100000 in
set_option maxHeartbeats 4000000 in
theorem t_X9_bar_E {p : Program} {l : Launch} {e : Env} {s : State} {m : MethodId} {args : Array Value} {below : List Frame} {meth : Method} {c : Code} {E : WD} {Q : Int32 → MS → Prop} (hc : Cx p rm_X9_bar s m args meth c E (AD E) cX9_bar RX9 (some .int) 4 0 0 fdm) (x1 x2 x3 : Int32) (σ : MS) (hw : w_X9_bar_E Q x1 x2 x3 σ) : V p l e rm_X9_bar s m args below meth c E (AD E) 4 0 0 (MQ below (va_Qi Q (BW E) (AD E)) args s 0 0 (AD E)) σ 0 [some (.ref (E.2.1 66)), some (.int x1), some (.int x2), some (.int x3)] [] := by
  unfold w_X9_bar_E at hw
  refine vAload_n (pc := 0) hc dX9_bar_0 rfl ?_
  refine vIload_n (pc := 1) hc dX9_bar_1 rfl ?_
  refine vCallVi (pc := 2) (st := []) hc ok_X9_isPerson tw_881 (c_X9_isPerson hc.2.2.2.2.2.2.1 hc.G hw) (hc.G 66 (Nat.le_of_ble_eq_true rfl)) rfl rfl rfl ⟨rfl, rfl⟩ ⟨Nat.le_of_ble_eq_true rfl, Nat.le_of_ble_eq_true rfl⟩ rfl (Nat.le_of_ble_eq_true rfl) dX9_bar_2 (fun r2 σ2 hw => ?_)
  refine vIf_eq (pc := 5) (tgt := 21) hc dX9_bar_5 (by decide) (fun c5 => ?_) (fun c5 => ?_)
  · have hw := hw.1 c5
    exact vMono (L2 := [some (.ref (E.2.1 66)), none, none, none]) (show subL [some (.ref (E.2.1 66)), none, none, none] [some (.ref (E.2.1 66)), some (.int x1), some (.int x2), some (.int x3)] from ⟨rfl, trivial⟩) (t_X9_bar_J21 hc   _ hw)
  · have hw := hw.2 c5
    refine vAload_n (pc := 8) hc dX9_bar_8 rfl ?_
    refine vIload_n (pc := 9) hc dX9_bar_9 rfl ?_
    refine vCallVi (pc := 10) (st := []) hc ok_X9_isPerson tw_881 (c_X9_isPerson hc.2.2.2.2.2.2.1 hc.G hw) (hc.G 66 (Nat.le_of_ble_eq_true rfl)) rfl rfl rfl ⟨rfl, rfl⟩ ⟨Nat.le_of_ble_eq_true rfl, Nat.le_of_ble_eq_true rfl⟩ rfl (Nat.le_of_ble_eq_true rfl) dX9_bar_10 (fun r10 σ10 hw => ?_)
    refine vIf_eq (pc := 13) (tgt := 21) hc dX9_bar_13 (by decide) (fun c13 => ?_) (fun c13 => ?_)
    · have hw := hw.1 c13
      exact vMono (L2 := [some (.ref (E.2.1 66)), none, none, none]) (show subL [some (.ref (E.2.1 66)), none, none, none] [some (.ref (E.2.1 66)), some (.int x1), some (.int x2), some (.int x3)] from ⟨rfl, trivial⟩) (t_X9_bar_J21 hc   _ hw)
    · have hw := hw.2 c13
      refine vIload_n (pc := 16) hc dX9_bar_16 rfl ?_
      refine vIload_n (pc := 17) hc dX9_bar_17 rfl ?_
      refine vIcmp_ne (pc := 18) (tgt := 27) hc dX9_bar_18 (by decide) (fun c18 => ?_) (fun c18 => ?_)
      · have hw := hw.1 c18
        refine vAload_n (pc := 27) hc dX9_bar_27 rfl ?_
        refine vGetR (pc := 28) (k := 66) (j := 12) hc rfl inG9 (hc.G 66 (Nat.le_of_ble_eq_true rfl)) rfl (Nat.le_of_ble_eq_true rfl) tw_735 rfl dX9_bar_28 ?_
        refine vIload_n (pc := 31) hc dX9_bar_31 rfl ?_
        obtain ⟨hi1, hw⟩ := hw
        refine vIald (pc := 32) (k := 77) hc (hc.G 77 (Nat.le_of_ble_eq_true rfl)) rfl rfl hi1 dX9_bar_32 ?_
        refine vIload_n (pc := 33) hc dX9_bar_33 rfl ?_
        refine vIshr (pc := 34) hc dX9_bar_34 ?_
        refine vIconst (pc := 35) (v := 1) hc dX9_bar_35 ki_1 ?_
        refine vIand (pc := 36) hc dX9_bar_36 ?_
        refine vIconst (pc := 37) (v := 1) hc dX9_bar_37 ki_1 ?_
        refine vIcmp_ne (pc := 38) (tgt := 45) hc dX9_bar_38 (by decide) (fun c38 => ?_) (fun c38 => ?_)
        · have hw := hw.1 c38
          refine vIconst (pc := 45) (v := 0) hc dX9_bar_45 ki_0 ?_
          exact vMono (L2 := [some (.ref (E.2.1 66)), some (.int x1), some (.int x2), some (.int x3)]) (show subL [some (.ref (E.2.1 66)), some (.int x1), some (.int x2), some (.int x3)] [some (.ref (E.2.1 66)), some (.int x1), some (.int x2), some (.int x3)] from ⟨rfl, ⟨rfl, ⟨rfl, ⟨rfl, trivial⟩⟩⟩⟩) (t_X9_bar_J46 hc  x1 x2 x3 0 _ hw)
        · have hw := hw.2 c38
          refine vIconst (pc := 41) (v := 1) hc dX9_bar_41 ki_1 ?_
          refine vGoto (pc := 42) (tgt := 46) hc dX9_bar_42 (by decide) ?_
          exact vMono (L2 := [some (.ref (E.2.1 66)), some (.int x1), some (.int x2), some (.int x3)]) (show subL [some (.ref (E.2.1 66)), some (.int x1), some (.int x2), some (.int x3)] [some (.ref (E.2.1 66)), some (.int x1), some (.int x2), some (.int x3)] from ⟨rfl, ⟨rfl, ⟨rfl, ⟨rfl, trivial⟩⟩⟩⟩) (t_X9_bar_J46 hc  x1 x2 x3 1 _ hw)
      · have hw := hw.2 c18
        exact vMono (L2 := [some (.ref (E.2.1 66)), none, none, none]) (show subL [some (.ref (E.2.1 66)), none, none, none] [some (.ref (E.2.1 66)), some (.int x1), some (.int x2), some (.int x3)] from ⟨rfl, trivial⟩) (t_X9_bar_J21 hc   _ hw)
set_option maxRecDepth 100000 in
set_option maxHeartbeats 4000000 in
theorem c_X9_bar {l : Launch} {E : WD} (hE : inj E) (hG : ∀ k, fdm k → k ∈ E.2.2.2) {x1 x2 x3 : Int32} {σ : MS} {Q : Int32 → MS → Prop} (hw : w_X9_bar x1 x2 x3 σ Q) : Ci l E yX9_bar cX9_bar 4 (some .int) rm_X9_bar [.ref (E.2.1 66), .int x1, .int x2, .int x3] σ Q :=
  Ct_of (by decide) rfl (by
    intro v hv
    simp only [List.mem_cons, List.not_mem_nil, or_false] at hv
    rcases hv with rfl | rfl | rfl | rfl <;> rfl) (Nat.le_of_ble_eq_true rfl) hE hG (fun p e s m below meth c hc => t_X9_bar_E hc x1 x2 x3 σ hw)
def w_X9_away_E (Q : Int32 → MS → Prop) (x1 x2 : Int32) (σ : MS) : Prop := w_X9_isPerson x1 σ (fun r2 σ2 => ((¬ r2 = 0 → ((vp_in x1 9) ∧ ((¬ (σ2 79 x1.toNatClampNeg) = x2 → ((zb x2) ∧ (∀ σ32, σ32 = mst σ2 79 x1.toNatClampNeg x2 → w_X9_changes  σ32 (fun σ34 => Q 1 σ34)))) ∧ ((σ2 79 x1.toNatClampNeg) = x2 → Q 0 σ2)))) ∧ (r2 = 0 → w_X9_refuse (-1) σ2 (fun r10 σ10 => Q r10 σ10))))
abbrev w_X9_away (x1 x2 : Int32) (σ : MS) (Q : Int32 → MS → Prop) : Prop := w_X9_away_E Q x1 x2 σ
abbrev rm_X9_away : Room := { frames := 2, cells := 0, slots := 0, locals := 42 }
theorem ok_X9_away : OkV yX9_away RX9 cX9_away 3 (some .int) 2 := ⟨tw_890, tw_891, tw_57, tw_892, rfl, by decide, by decide, by decide +kernel⟩
set_option maxRecDepth 100000 in
set_option maxHeartbeats 4000000 in
theorem t_X9_away_E {p : Program} {l : Launch} {e : Env} {s : State} {m : MethodId} {args : Array Value} {below : List Frame} {meth : Method} {c : Code} {E : WD} {Q : Int32 → MS → Prop} (hc : Cx p rm_X9_away s m args meth c E (AD E) cX9_away RX9 (some .int) 3 0 0 fdm) (x1 x2 : Int32) (σ : MS) (hw : w_X9_away_E Q x1 x2 σ) : V p l e rm_X9_away s m args below meth c E (AD E) 3 0 0 (MQ below (va_Qi Q (BW E) (AD E)) args s 0 0 (AD E)) σ 0 [some (.ref (E.2.1 66)), some (.int x1), some (.int x2)] [] := by
  unfold w_X9_away_E at hw
  refine vAload_n (pc := 0) hc dX9_away_0 rfl ?_
  refine vIload_n (pc := 1) hc dX9_away_1 rfl ?_
  refine vCallVi (pc := 2) (st := []) hc ok_X9_isPerson tw_881 (c_X9_isPerson hc.2.2.2.2.2.2.1 hc.G hw) (hc.G 66 (Nat.le_of_ble_eq_true rfl)) rfl rfl rfl ⟨rfl, rfl⟩ ⟨Nat.le_of_ble_eq_true rfl, Nat.le_of_ble_eq_true rfl⟩ rfl (Nat.le_of_ble_eq_true rfl) dX9_away_2 (fun r2 σ2 hw => ?_)
  refine vIf_ne (pc := 5) (tgt := 14) hc dX9_away_5 (by decide) (fun c5 => ?_) (fun c5 => ?_)
  · have hw := hw.1 c5
    refine vAload_n (pc := 14) hc dX9_away_14 rfl ?_
    refine vGetR (pc := 15) (k := 66) (j := 14) hc rfl inG9 (hc.G 66 (Nat.le_of_ble_eq_true rfl)) rfl (Nat.le_of_ble_eq_true rfl) tw_737 rfl dX9_away_15 ?_
    refine vIload_n (pc := 18) hc dX9_away_18 rfl ?_
    obtain ⟨hi1, hw⟩ := hw
    refine vZald (pc := 19) (k := 79) hc (hc.G 79 (Nat.le_of_ble_eq_true rfl)) rfl rfl hi1 dX9_away_19 ?_
    refine vIload_n (pc := 20) hc dX9_away_20 rfl ?_
    refine vIcmp_ne (pc := 21) (tgt := 26) hc dX9_away_21 (by decide) (fun c21 => ?_) (fun c21 => ?_)
    · have hw := hw.1 c21
      refine vAload_n (pc := 26) hc dX9_away_26 rfl ?_
      refine vGetR (pc := 27) (k := 66) (j := 14) hc rfl inG9 (hc.G 66 (Nat.le_of_ble_eq_true rfl)) rfl (Nat.le_of_ble_eq_true rfl) tw_737 rfl dX9_away_27 ?_
      refine vIload_n (pc := 30) hc dX9_away_30 rfl ?_
      refine vIload_n (pc := 31) hc dX9_away_31 rfl ?_
      obtain ⟨hz2, hw⟩ := hw
      refine vZast (pc := 32) (k := 79) hc (hc.G 79 (Nat.le_of_ble_eq_true rfl)) rfl rfl hi1 hz2 dX9_away_32 (fun σ32 eσ32 => ?_)
      have hw := hw σ32 eσ32
      refine vAload_n (pc := 33) hc dX9_away_33 rfl ?_
      refine vCallVv (pc := 34) (st := []) hc ok_X9_changes tw_719 (c_X9_changes hc.2.2.2.2.2.2.1 hc.G hw) (hc.G 66 (Nat.le_of_ble_eq_true rfl)) rfl rfl rfl ⟨rfl, rfl⟩ ⟨Nat.le_of_ble_eq_true rfl, Nat.le_of_ble_eq_true rfl⟩ rfl (Nat.le_of_ble_eq_true rfl) dX9_away_34 (fun σ34 hw => ?_)
      refine vIconst (pc := 37) (v := 1) hc dX9_away_37 ki_1 ?_
      exact vIret (pc := 38) hc dX9_away_38 hw
    · have hw := hw.2 c21
      refine vIconst (pc := 24) (v := 0) hc dX9_away_24 ki_0 ?_
      exact vIret (pc := 25) hc dX9_away_25 hw
  · have hw := hw.2 c5
    refine vAload_n (pc := 8) hc dX9_away_8 rfl ?_
    refine vIconst (pc := 9) (v := (-1)) hc dX9_away_9 ki_m1 ?_
    refine vCallVi (pc := 10) (st := []) hc ok_X9_refuse tw_861 (c_X9_refuse hc.2.2.2.2.2.2.1 hc.G hw) (hc.G 66 (Nat.le_of_ble_eq_true rfl)) rfl rfl rfl ⟨rfl, rfl⟩ ⟨Nat.le_of_ble_eq_true rfl, Nat.le_of_ble_eq_true rfl⟩ rfl (Nat.le_of_ble_eq_true rfl) dX9_away_10 (fun r10 σ10 hw => ?_)
    exact vIret (pc := 13) hc dX9_away_13 hw
set_option maxRecDepth 100000 in
set_option maxHeartbeats 4000000 in
theorem c_X9_away {l : Launch} {E : WD} (hE : inj E) (hG : ∀ k, fdm k → k ∈ E.2.2.2) {x1 x2 : Int32} {σ : MS} {Q : Int32 → MS → Prop} (hw : w_X9_away x1 x2 σ Q) : Ci l E yX9_away cX9_away 3 (some .int) rm_X9_away [.ref (E.2.1 66), .int x1, .int x2] σ Q :=
  Ct_of (by decide) rfl (by
    intro v hv
    simp only [List.mem_cons, List.not_mem_nil, or_false] at hv
    rcases hv with rfl | rfl | rfl <;> rfl) (Nat.le_of_ble_eq_true rfl) hE hG (fun p e s m below meth c hc => t_X9_away_E hc x1 x2 σ hw)
