def w_X9_joins_J95 (Q : Int32 → MS → Prop) (x1 : Int32) (σ : MS) : Prop := w_X9_whyNot ((1 : Int32) <<< (x1 &&& 31)) x1 σ (fun r100 σ100 => ((r100 = 0 → w_X9_lays ((1 : Int32) <<< (x1 &&& 31)) x1 σ100 (fun σ113 => Q 1 σ113)) ∧ (¬ r100 = 0 → Q 0 σ100)))
def w_X9_joins_J76 (Q : Int32 → MS → Prop) (x2 x3 : Int32) (σ : MS) : Prop := ((vp_in x2 9) ∧ w_X9_lays x3 (σ 98 x2.toNatClampNeg) σ (fun σ84 => Q 1 σ84))
def w_X9_joins_H13 (Q : Int32 → MS → Prop) : Nat → Int32 → Int32 → MS → Prop
  | 0, _, _, _ => False
  | n + 1, x1, x2, σ => (((σ 66 3) ≤ x2 → w_X9_joins_J95 Q x1 σ) ∧ (¬ (σ 66 3) ≤ x2 → w_X9_isFirst x2 σ (fun r23 σ23 => ((¬ r23 = 0 → ((vp_in x2 9) ∧ (∀ x3_42 : Int32, x3_42 = ((σ23 97 x2.toNatClampNeg) ||| ((1 : Int32) <<< (x1 &&& 31))) → w_X9_isSet x3_42 σ23 (fun r45 σ45 => ((r45 = 0 → w_X9_joins_H13 Q n x1 (x2 + 1) σ45) ∧ (¬ r45 = 0 → w_X9_hasAway x3_42 σ45 (fun r53 σ53 => ((¬ r53 = 0 → w_X9_joins_H13 Q n x1 (x2 + 1) σ53) ∧ (r53 = 0 → w_X9_whyNot x3_42 (σ53 98 x2.toNatClampNeg) σ53 (fun r67 σ67 => ((r67 = 0 → w_X9_joins_J76 Q x2 x3_42 σ67) ∧ (¬ r67 = 0 → w_X9_joins_H13 Q n x1 (x2 + 1) σ67)))))))))))) ∧ (r23 = 0 → w_X9_joins_H13 Q n x1 (x2 + 1) σ23)))))
def w_X9_joins_E (Q : Int32 → MS → Prop) (x1 : Int32) (σ : MS) : Prop := ((vp_in x1 9) ∧ (((σ 79 x1.toNatClampNeg) = 0 → (∃ n13, w_X9_joins_H13 Q n13 x1 0 σ)) ∧ (¬ (σ 79 x1.toNatClampNeg) = 0 → Q 0 σ)))
abbrev w_X9_joins (x1 : Int32) (σ : MS) (Q : Int32 → MS → Prop) : Prop := w_X9_joins_E Q x1 σ
abbrev rm_X9_joins : Room := { frames := 18, cells := 0, slots := 0, locals := 484 }
theorem ok_X9_joins : OkV yX9_joins RX9 cX9_joins 4 (some .boolean) 1 := ⟨tw_1024, tw_43, tw_57, tw_1025, rfl, by decide, by decide, by decide +kernel⟩
set_option maxRecDepth 100000 in
set_option maxHeartbeats 4000000 in
theorem t_X9_joins_J95 {p : Program} {l : Launch} {e : Env} {s : State} {m : MethodId} {args : Array Value} {below : List Frame} {meth : Method} {c : Code} {E : WD} {Q : Int32 → MS → Prop} (hc : Cx p rm_X9_joins s m args meth c E (AD E) cX9_joins RX9 (some .boolean) 4 0 0 fdm) (x1 : Int32) (σ : MS) (hw : w_X9_joins_J95 Q x1 σ) : V p l e rm_X9_joins s m args below meth c E (AD E) 4 0 0 (MQ below (va_Qi Q (BW E) (AD E)) args s 0 0 (AD E)) σ 95 [some (.ref (E.2.1 66)), some (.int x1), none, none] [] := by
  unfold w_X9_joins_J95 at hw
  refine vAload_n (pc := 95) hc dX9_joins_95 rfl ?_
  refine vIconst (pc := 96) (v := 1) hc dX9_joins_96 ki_1 ?_
  refine vIload_n (pc := 97) hc dX9_joins_97 rfl ?_
  refine vIshl (pc := 98) hc dX9_joins_98 ?_
  refine vIload_n (pc := 99) hc dX9_joins_99 rfl ?_
  refine vCallVi (pc := 100) (st := []) hc ok_X9_whyNot tw_916 (c_X9_whyNot hc.2.2.2.2.2.2.1 hc.G hw) (hc.G 66 (Nat.le_of_ble_eq_true rfl)) rfl rfl rfl ⟨rfl, rfl⟩ ⟨Nat.le_of_ble_eq_true rfl, Nat.le_of_ble_eq_true rfl⟩ rfl (Nat.le_of_ble_eq_true rfl) dX9_joins_100 (fun r100 σ100 hw => ?_)
  refine vIf_eq (pc := 103) (tgt := 108) hc dX9_joins_103 (by decide) (fun c103 => ?_) (fun c103 => ?_)
  · have hw := hw.1 c103
    refine vAload_n (pc := 108) hc dX9_joins_108 rfl ?_
    refine vIconst (pc := 109) (v := 1) hc dX9_joins_109 ki_1 ?_
    refine vIload_n (pc := 110) hc dX9_joins_110 rfl ?_
    refine vIshl (pc := 111) hc dX9_joins_111 ?_
    refine vIload_n (pc := 112) hc dX9_joins_112 rfl ?_
    refine vCallVv (pc := 113) (st := []) hc ok_X9_lays tw_986 (c_X9_lays hc.2.2.2.2.2.2.1 hc.G hw) (hc.G 66 (Nat.le_of_ble_eq_true rfl)) rfl rfl rfl ⟨rfl, rfl⟩ ⟨Nat.le_of_ble_eq_true rfl, Nat.le_of_ble_eq_true rfl⟩ rfl (Nat.le_of_ble_eq_true rfl) dX9_joins_113 (fun σ113 hw => ?_)
    refine vIconst (pc := 116) (v := 1) hc dX9_joins_116 ki_1 ?_
    exact vZret (pc := 117) hc dX9_joins_117 (Or.inr rfl) hw
  · have hw := hw.2 c103
    refine vIconst (pc := 106) (v := 0) hc dX9_joins_106 ki_0 ?_
    exact vZret (pc := 107) hc dX9_joins_107 (Or.inl rfl) hw
set_option maxRecDepth 100000 in
set_option maxHeartbeats 4000000 in
theorem t_X9_joins_J76 {p : Program} {l : Launch} {e : Env} {s : State} {m : MethodId} {args : Array Value} {below : List Frame} {meth : Method} {c : Code} {E : WD} {Q : Int32 → MS → Prop} (hc : Cx p rm_X9_joins s m args meth c E (AD E) cX9_joins RX9 (some .boolean) 4 0 0 fdm) (x2 x3 : Int32) (σ : MS) (hw : w_X9_joins_J76 Q x2 x3 σ) : V p l e rm_X9_joins s m args below meth c E (AD E) 4 0 0 (MQ below (va_Qi Q (BW E) (AD E)) args s 0 0 (AD E)) σ 76 [some (.ref (E.2.1 66)), none, some (.int x2), some (.int x3)] [] := by
  unfold w_X9_joins_J76 at hw
  refine vAload_n (pc := 76) hc dX9_joins_76 rfl ?_
  refine vIload_n (pc := 77) hc dX9_joins_77 rfl ?_
  refine vAload_n (pc := 78) hc dX9_joins_78 rfl ?_
  refine vGetR (pc := 79) (k := 66) (j := 39) hc rfl inG9 (hc.G 66 (Nat.le_of_ble_eq_true rfl)) rfl (Nat.le_of_ble_eq_true rfl) tw_762 rfl dX9_joins_79 ?_
  refine vIload_n (pc := 82) hc dX9_joins_82 rfl ?_
  obtain ⟨hi1, hw⟩ := hw
  refine vIald (pc := 83) (k := 98) hc (hc.G 98 (Nat.le_of_ble_eq_true rfl)) rfl rfl hi1 dX9_joins_83 ?_
  refine vCallVv (pc := 84) (st := []) hc ok_X9_lays tw_986 (c_X9_lays hc.2.2.2.2.2.2.1 hc.G hw) (hc.G 66 (Nat.le_of_ble_eq_true rfl)) rfl rfl rfl ⟨rfl, rfl⟩ ⟨Nat.le_of_ble_eq_true rfl, Nat.le_of_ble_eq_true rfl⟩ rfl (Nat.le_of_ble_eq_true rfl) dX9_joins_84 (fun σ84 hw => ?_)
  refine vIconst (pc := 87) (v := 1) hc dX9_joins_87 ki_1 ?_
  exact vZret (pc := 88) hc dX9_joins_88 (Or.inr rfl) hw
set_option maxRecDepth 100000 in
set_option maxHeartbeats 4000000 in
theorem t_X9_joins_H13 {p : Program} {l : Launch} {e : Env} {s : State} {m : MethodId} {args : Array Value} {below : List Frame} {meth : Method} {c : Code} {E : WD} {Q : Int32 → MS → Prop} (hc : Cx p rm_X9_joins s m args meth c E (AD E) cX9_joins RX9 (some .boolean) 4 0 0 fdm) : ∀ (n : Nat) (x1 x2 : Int32) (σ : MS), w_X9_joins_H13 Q n x1 x2 σ → V p l e rm_X9_joins s m args below meth c E (AD E) 4 0 0 (MQ below (va_Qi Q (BW E) (AD E)) args s 0 0 (AD E)) σ 13 [some (.ref (E.2.1 66)), some (.int x1), some (.int x2), none] [] := by
  intro n
  induction n with
  | zero =>
    intro x1 x2 σ hw
    exact hw.elim
  | succ n ih =>
    intro x1 x2 σ hw
    unfold w_X9_joins_H13 at hw
    refine vIload_n (pc := 13) hc dX9_joins_13 rfl ?_
    refine vAload_n (pc := 14) hc dX9_joins_14 rfl ?_
    refine vGetI (pc := 15) (k := 66) (j := 3) hc rfl inG9 (hc.G 66 (Nat.le_of_ble_eq_true rfl)) rfl (Nat.le_of_ble_eq_true rfl) tw_726 rfl dX9_joins_15 ?_
    refine vIcmp_ge (pc := 18) (tgt := 95) hc dX9_joins_18 (by decide) (fun c18 => ?_) (fun c18 => ?_)
    · have hw := hw.1 c18
      exact vMono (L2 := [some (.ref (E.2.1 66)), some (.int x1), none, none]) (show subL [some (.ref (E.2.1 66)), some (.int x1), none, none] [some (.ref (E.2.1 66)), some (.int x1), some (.int x2), none] from ⟨rfl, ⟨rfl, trivial⟩⟩) (t_X9_joins_J95 hc  x1 _ hw)
    · have hw := hw.2 c18
      refine vAload_n (pc := 21) hc dX9_joins_21 rfl ?_
      refine vIload_n (pc := 22) hc dX9_joins_22 rfl ?_
      refine vCallVi (pc := 23) (st := []) hc ok_X9_isFirst tw_998 (c_X9_isFirst hc.2.2.2.2.2.2.1 hc.G hw) (hc.G 66 (Nat.le_of_ble_eq_true rfl)) rfl rfl rfl ⟨rfl, rfl⟩ ⟨Nat.le_of_ble_eq_true rfl, Nat.le_of_ble_eq_true rfl⟩ rfl (Nat.le_of_ble_eq_true rfl) dX9_joins_23 (fun r23 σ23 hw => ?_)
      refine vIf_ne (pc := 26) (tgt := 32) hc dX9_joins_26 (by decide) (fun c26 => ?_) (fun c26 => ?_)
      · have hw := hw.1 c26
        refine vAload_n (pc := 32) hc dX9_joins_32 rfl ?_
        refine vGetR (pc := 33) (k := 66) (j := 38) hc rfl inG9 (hc.G 66 (Nat.le_of_ble_eq_true rfl)) rfl (Nat.le_of_ble_eq_true rfl) tw_761 rfl dX9_joins_33 ?_
        refine vIload_n (pc := 36) hc dX9_joins_36 rfl ?_
        obtain ⟨hi1, hw⟩ := hw
        refine vIald (pc := 37) (k := 97) hc (hc.G 97 (Nat.le_of_ble_eq_true rfl)) rfl rfl hi1 dX9_joins_37 ?_
        refine vIconst (pc := 38) (v := 1) hc dX9_joins_38 ki_1 ?_
        refine vIload_n (pc := 39) hc dX9_joins_39 rfl ?_
        refine vIshl (pc := 40) hc dX9_joins_40 ?_
        refine vIor (pc := 41) hc dX9_joins_41 ?_
        obtain ⟨x3_42, ex3_42⟩ : ∃ z : Int32, z = (σ23 97 x2.toNatClampNeg) ||| ((1 : Int32) <<< (x1 &&& 31)) := ⟨_, rfl⟩
        have hw := hw x3_42 ex3_42
        refine vTop ex3_42 ?_
        refine vIstore_n (pc := 42) (L2 := [some (.ref (E.2.1 66)), some (.int x1), some (.int x2), some (.int x3_42)]) hc dX9_joins_42 rfl (Nat.le_of_ble_eq_true rfl) ?_
        refine vAload_n (pc := 43) hc dX9_joins_43 rfl ?_
        refine vIload_n (pc := 44) hc dX9_joins_44 rfl ?_
        refine vCallVi (pc := 45) (st := []) hc ok_X9_isSet tw_905 (c_X9_isSet hc.2.2.2.2.2.2.1 hc.G hw) (hc.G 66 (Nat.le_of_ble_eq_true rfl)) rfl rfl rfl ⟨rfl, rfl⟩ ⟨Nat.le_of_ble_eq_true rfl, Nat.le_of_ble_eq_true rfl⟩ rfl (Nat.le_of_ble_eq_true rfl) dX9_joins_45 (fun r45 σ45 hw => ?_)
        refine vIf_eq (pc := 48) (tgt := 89) hc dX9_joins_48 (by decide) (fun c48 => ?_) (fun c48 => ?_)
        · have hw := hw.1 c48
          refine vIinc (pc := 89) (v := x2 + 1) (L2 := [some (.ref (E.2.1 66)), some (.int x1), some (.int (x2 + 1)), some (.int x3_42)]) hc dX9_joins_89 rfl rfl rfl (Nat.le_of_ble_eq_true rfl) ?_
          refine vGoto (pc := 92) (tgt := 13) hc dX9_joins_92 (by decide) ?_
          exact vMono (L2 := [some (.ref (E.2.1 66)), some (.int x1), some (.int (x2 + 1)), none]) (show subL [some (.ref (E.2.1 66)), some (.int x1), some (.int (x2 + 1)), none] [some (.ref (E.2.1 66)), some (.int x1), some (.int (x2 + 1)), some (.int x3_42)] from ⟨rfl, ⟨rfl, ⟨rfl, trivial⟩⟩⟩) (ih x1 (x2 + 1) _ hw)
        · have hw := hw.2 c48
          refine vAload_n (pc := 51) hc dX9_joins_51 rfl ?_
          refine vIload_n (pc := 52) hc dX9_joins_52 rfl ?_
          refine vCallVi (pc := 53) (st := []) hc ok_X9_hasAway tw_912 (c_X9_hasAway hc.2.2.2.2.2.2.1 hc.G hw) (hc.G 66 (Nat.le_of_ble_eq_true rfl)) rfl rfl rfl ⟨rfl, rfl⟩ ⟨Nat.le_of_ble_eq_true rfl, Nat.le_of_ble_eq_true rfl⟩ rfl (Nat.le_of_ble_eq_true rfl) dX9_joins_53 (fun r53 σ53 hw => ?_)
          refine vIf_ne (pc := 56) (tgt := 89) hc dX9_joins_56 (by decide) (fun c56 => ?_) (fun c56 => ?_)
          · have hw := hw.1 c56
            refine vIinc (pc := 89) (v := x2 + 1) (L2 := [some (.ref (E.2.1 66)), some (.int x1), some (.int (x2 + 1)), some (.int x3_42)]) hc dX9_joins_89 rfl rfl rfl (Nat.le_of_ble_eq_true rfl) ?_
            refine vGoto (pc := 92) (tgt := 13) hc dX9_joins_92 (by decide) ?_
            exact vMono (L2 := [some (.ref (E.2.1 66)), some (.int x1), some (.int (x2 + 1)), none]) (show subL [some (.ref (E.2.1 66)), some (.int x1), some (.int (x2 + 1)), none] [some (.ref (E.2.1 66)), some (.int x1), some (.int (x2 + 1)), some (.int x3_42)] from ⟨rfl, ⟨rfl, ⟨rfl, trivial⟩⟩⟩) (ih x1 (x2 + 1) _ hw)
          · have hw := hw.2 c56
            refine vAload_n (pc := 59) hc dX9_joins_59 rfl ?_
            refine vIload_n (pc := 60) hc dX9_joins_60 rfl ?_
            refine vAload_n (pc := 61) hc dX9_joins_61 rfl ?_
            refine vGetR (pc := 62) (k := 66) (j := 39) hc rfl inG9 (hc.G 66 (Nat.le_of_ble_eq_true rfl)) rfl (Nat.le_of_ble_eq_true rfl) tw_762 rfl dX9_joins_62 ?_
            refine vIload_n (pc := 65) hc dX9_joins_65 rfl ?_
            refine vIald (pc := 66) (k := 98) hc (hc.G 98 (Nat.le_of_ble_eq_true rfl)) rfl rfl hi1 dX9_joins_66 ?_
            refine vCallVi (pc := 67) (st := []) hc ok_X9_whyNot tw_916 (c_X9_whyNot hc.2.2.2.2.2.2.1 hc.G hw) (hc.G 66 (Nat.le_of_ble_eq_true rfl)) rfl rfl rfl ⟨rfl, rfl⟩ ⟨Nat.le_of_ble_eq_true rfl, Nat.le_of_ble_eq_true rfl⟩ rfl (Nat.le_of_ble_eq_true rfl) dX9_joins_67 (fun r67 σ67 hw => ?_)
            refine vIf_eq (pc := 70) (tgt := 76) hc dX9_joins_70 (by decide) (fun c70 => ?_) (fun c70 => ?_)
            · have hw := hw.1 c70
              exact vMono (L2 := [some (.ref (E.2.1 66)), none, some (.int x2), some (.int x3_42)]) (show subL [some (.ref (E.2.1 66)), none, some (.int x2), some (.int x3_42)] [some (.ref (E.2.1 66)), some (.int x1), some (.int x2), some (.int x3_42)] from ⟨rfl, ⟨rfl, ⟨rfl, trivial⟩⟩⟩) (t_X9_joins_J76 hc  x2 x3_42 _ hw)
            · have hw := hw.2 c70
              refine vGoto (pc := 73) (tgt := 89) hc dX9_joins_73 (by decide) ?_
              refine vIinc (pc := 89) (v := x2 + 1) (L2 := [some (.ref (E.2.1 66)), some (.int x1), some (.int (x2 + 1)), some (.int x3_42)]) hc dX9_joins_89 rfl rfl rfl (Nat.le_of_ble_eq_true rfl) ?_
              refine vGoto (pc := 92) (tgt := 13) hc dX9_joins_92 (by decide) ?_
              exact vMono (L2 := [some (.ref (E.2.1 66)), some (.int x1), some (.int (x2 + 1)), none]) (show subL [some (.ref (E.2.1 66)), some (.int x1), some (.int (x2 + 1)), none] [some (.ref (E.2.1 66)), some (.int x1), some (.int (x2 + 1)), some (.int x3_42)] from ⟨rfl, ⟨rfl, ⟨rfl, trivial⟩⟩⟩) (ih x1 (x2 + 1) _ hw)
      · have hw := hw.2 c26
        refine vGoto (pc := 29) (tgt := 89) hc dX9_joins_29 (by decide) ?_
        refine vIinc (pc := 89) (v := x2 + 1) (L2 := [some (.ref (E.2.1 66)), some (.int x1), some (.int (x2 + 1)), none]) hc dX9_joins_89 rfl rfl rfl (Nat.le_of_ble_eq_true rfl) ?_
        refine vGoto (pc := 92) (tgt := 13) hc dX9_joins_92 (by decide) ?_
        exact vMono (L2 := [some (.ref (E.2.1 66)), some (.int x1), some (.int (x2 + 1)), none]) (show subL [some (.ref (E.2.1 66)), some (.int x1), some (.int (x2 + 1)), none] [some (.ref (E.2.1 66)), some (.int x1), some (.int (x2 + 1)), none] from ⟨rfl, ⟨rfl, ⟨rfl, trivial⟩⟩⟩) (ih x1 (x2 + 1) _ hw)
set_option maxRecDepth 100000 in
set_option maxHeartbeats 4000000 in
theorem t_X9_joins_E {p : Program} {l : Launch} {e : Env} {s : State} {m : MethodId} {args : Array Value} {below : List Frame} {meth : Method} {c : Code} {E : WD} {Q : Int32 → MS → Prop} (hc : Cx p rm_X9_joins s m args meth c E (AD E) cX9_joins RX9 (some .boolean) 4 0 0 fdm) (x1 : Int32) (σ : MS) (hw : w_X9_joins_E Q x1 σ) : V p l e rm_X9_joins s m args below meth c E (AD E) 4 0 0 (MQ below (va_Qi Q (BW E) (AD E)) args s 0 0 (AD E)) σ 0 [some (.ref (E.2.1 66)), some (.int x1), none, none] [] := by
  unfold w_X9_joins_E at hw
  refine vAload_n (pc := 0) hc dX9_joins_0 rfl ?_
  refine vGetR (pc := 1) (k := 66) (j := 14) hc rfl inG9 (hc.G 66 (Nat.le_of_ble_eq_true rfl)) rfl (Nat.le_of_ble_eq_true rfl) tw_737 rfl dX9_joins_1 ?_
  refine vIload_n (pc := 4) hc dX9_joins_4 rfl ?_
  obtain ⟨hi1, hw⟩ := hw
  refine vZald (pc := 5) (k := 79) hc (hc.G 79 (Nat.le_of_ble_eq_true rfl)) rfl rfl hi1 dX9_joins_5 ?_
  refine vIf_eq (pc := 6) (tgt := 11) hc dX9_joins_6 (by decide) (fun c6 => ?_) (fun c6 => ?_)
  · have hw := hw.1 c6
    refine vIconst (pc := 11) (v := 0) hc dX9_joins_11 ki_0 ?_
    refine vIstore_n (pc := 12) (L2 := [some (.ref (E.2.1 66)), some (.int x1), some (.int 0), none]) hc dX9_joins_12 rfl (Nat.le_of_ble_eq_true rfl) ?_
    obtain ⟨n13, hw⟩ := hw
    exact vMono (L2 := [some (.ref (E.2.1 66)), some (.int x1), some (.int 0), none]) (show subL [some (.ref (E.2.1 66)), some (.int x1), some (.int 0), none] [some (.ref (E.2.1 66)), some (.int x1), some (.int 0), none] from ⟨rfl, ⟨rfl, ⟨rfl, trivial⟩⟩⟩) (t_X9_joins_H13 hc  n13 x1 0 _ hw)
  · have hw := hw.2 c6
    refine vIconst (pc := 9) (v := 0) hc dX9_joins_9 ki_0 ?_
    exact vZret (pc := 10) hc dX9_joins_10 (Or.inl rfl) hw
set_option maxRecDepth 100000 in
set_option maxHeartbeats 4000000 in
theorem c_X9_joins {l : Launch} {E : WD} (hE : inj E) (hG : ∀ k, fdm k → k ∈ E.2.2.2) {x1 : Int32} {σ : MS} {Q : Int32 → MS → Prop} (hw : w_X9_joins x1 σ Q) : Ci l E yX9_joins cX9_joins 4 (some .boolean) rm_X9_joins [.ref (E.2.1 66), .int x1] σ Q :=
  Ct_of (by decide) rfl (by
    intro v hv
    simp only [List.mem_cons, List.not_mem_nil, or_false] at hv
    rcases hv with rfl | rfl <;> rfl) (Nat.le_of_ble_eq_true rfl) hE hG (fun p e s m below meth c hc => t_X9_joins_E hc x1 σ hw)
def w_X9_fail_J134 (Q : Int32 → MS → Prop) (x3 : Int32) (σ : MS) : Prop := (∀ σ141, σ141 = mst σ 66 37 ((σ 66 37) + x3) → Q x3 σ141)
def w_X9_fail_H97 (Q : Int32 → MS → Prop) : Nat → Int32 → Int32 → Int32 → MS → Prop
  | 0, _, _, _, _ => False
  | n + 1, x2, x3, x4, σ => (((σ 66 3) ≤ x4 → w_X9_fail_J134 Q x3 σ) ∧ (¬ (σ 66 3) ≤ x4 → ((¬ ((x2 >>> (x4 &&& 31)) &&& 1) = 1 → w_X9_fail_H97 Q n x2 x3 (x4 + 1) σ) ∧ (((x2 >>> (x4 &&& 31)) &&& 1) = 1 → w_X9_joins x4 σ (fun r119 σ119 => ((¬ r119 = 0 → w_X9_fail_H97 Q n x2 x3 (x4 + 1) σ119) ∧ (r119 = 0 → w_X9_fail_H97 Q n x2 (x3 + 1) (x4 + 1) σ119)))))))
def w_X9_fail_H64 (Q : Int32 → MS → Prop) : Nat → Int32 → Int32 → MS → Prop
  | 0, _, _, _ => False
  | n + 1, x2, x3, σ => (((σ 66 3) ≤ x3 → (∃ n97, w_X9_fail_H97 Q n97 x2 0 0 σ)) ∧ (¬ (σ 66 3) ≤ x3 → ((¬ ((x2 >>> (x3 &&& 31)) &&& 1) = 1 → w_X9_fail_H64 Q n x2 (x3 + 1) σ) ∧ (((x2 >>> (x3 &&& 31)) &&& 1) = 1 → w_X9_leaves x3 σ (fun σ83 => w_X9_fail_H64 Q n x2 (x3 + 1) σ83)))))
def w_X9_fail_E (Q : Int32 → MS → Prop) (x1 : Int32) (σ : MS) : Prop := ((¬ (σ 66 36) = 0 → w_X9_isPerson x1 σ (fun r16 σ16 => ((¬ r16 = 0 → ((vp_in x1 9) ∧ (∀ σ34, σ34 = mst σ16 80 x1.toNatClampNeg 1 → w_X9_changes  σ34 (fun σ36 => (∀ x2_45 : Int32, x2_45 = (σ36 97 x1.toNatClampNeg) → ((x2_45 = 0 → Q 0 σ36) ∧ (¬ x2_45 = 0 → (((σ36 98 x1.toNatClampNeg) = x1 → (∃ n64, w_X9_fail_H64 Q n64 x2_45 0 σ36)) ∧ (¬ (σ36 98 x1.toNatClampNeg) = x1 → Q 0 σ36))))))))) ∧ (r16 = 0 → w_X9_refuse (-1) σ16 (fun r24 σ24 => Q r24 σ24))))) ∧ ((σ 66 36) = 0 → w_X9_refuse (-3) σ (fun r10 σ10 => Q r10 σ10)))
abbrev w_X9_fail (x1 : Int32) (σ : MS) (Q : Int32 → MS → Prop) : Prop := w_X9_fail_E Q x1 σ
abbrev rm_X9_fail : Room := { frames := 19, cells := 0, slots := 0, locals := 507 }
theorem ok_X9_fail : OkV yX9_fail RX9 cX9_fail 5 (some .int) 1 := ⟨tw_1019, tw_1020, tw_57, tw_1021, rfl, by decide, by decide, by decide +kernel⟩
set_option maxRecDepth 100000 in
set_option maxHeartbeats 4000000 in
theorem t_X9_fail_J134 {p : Program} {l : Launch} {e : Env} {s : State} {m : MethodId} {args : Array Value} {below : List Frame} {meth : Method} {c : Code} {E : WD} {Q : Int32 → MS → Prop} (hc : Cx p rm_X9_fail s m args meth c E (AD E) cX9_fail RX9 (some .int) 5 0 0 fdm) (x3 : Int32) (σ : MS) (hw : w_X9_fail_J134 Q x3 σ) : V p l e rm_X9_fail s m args below meth c E (AD E) 5 0 0 (MQ below (va_Qi Q (BW E) (AD E)) args s 0 0 (AD E)) σ 134 [some (.ref (E.2.1 66)), none, none, some (.int x3), none] [] := by
  unfold w_X9_fail_J134 at hw
  refine vAload_n (pc := 134) hc dX9_fail_134 rfl ?_
  refine vDup (pc := 135) hc dX9_fail_135 rfl ?_
  refine vGetI (pc := 136) (k := 66) (j := 37) hc rfl inG9 (hc.G 66 (Nat.le_of_ble_eq_true rfl)) rfl (Nat.le_of_ble_eq_true rfl) tw_760 rfl dX9_fail_136 ?_
  refine vIload_n (pc := 139) hc dX9_fail_139 rfl ?_
  refine vIadd (pc := 140) hc dX9_fail_140 ?_
  refine vPut (pc := 141) (k := 66) (j := 37) hc rfl inG9 (hc.G 66 (Nat.le_of_ble_eq_true rfl)) rfl (Nat.le_of_ble_eq_true rfl) tyX9 tyX9_ok nmX9 tw_760 rfl rfl rfl rfl dX9_fail_141 (fun σ141 eσ141 => ?_)
  have hw := hw σ141 eσ141
  refine vIload_n (pc := 144) hc dX9_fail_144 rfl ?_
  exact vIret (pc := 145) hc dX9_fail_145 hw
set_option maxRecDepth 100000 in
set_option maxHeartbeats 4000000 in
theorem t_X9_fail_H97 {p : Program} {l : Launch} {e : Env} {s : State} {m : MethodId} {args : Array Value} {below : List Frame} {meth : Method} {c : Code} {E : WD} {Q : Int32 → MS → Prop} (hc : Cx p rm_X9_fail s m args meth c E (AD E) cX9_fail RX9 (some .int) 5 0 0 fdm) : ∀ (n : Nat) (x2 x3 x4 : Int32) (σ : MS), w_X9_fail_H97 Q n x2 x3 x4 σ → V p l e rm_X9_fail s m args below meth c E (AD E) 5 0 0 (MQ below (va_Qi Q (BW E) (AD E)) args s 0 0 (AD E)) σ 97 [some (.ref (E.2.1 66)), none, some (.int x2), some (.int x3), some (.int x4)] [] := by
  intro n
  induction n with
  | zero =>
    intro x2 x3 x4 σ hw
    exact hw.elim
  | succ n ih =>
    intro x2 x3 x4 σ hw
    unfold w_X9_fail_H97 at hw
    refine vIload (pc := 97) hc dX9_fail_97 rfl ?_
    refine vAload_n (pc := 99) hc dX9_fail_99 rfl ?_
    refine vGetI (pc := 100) (k := 66) (j := 3) hc rfl inG9 (hc.G 66 (Nat.le_of_ble_eq_true rfl)) rfl (Nat.le_of_ble_eq_true rfl) tw_726 rfl dX9_fail_100 ?_
    refine vIcmp_ge (pc := 103) (tgt := 134) hc dX9_fail_103 (by decide) (fun c103 => ?_) (fun c103 => ?_)
    · have hw := hw.1 c103
      exact vMono (L2 := [some (.ref (E.2.1 66)), none, none, some (.int x3), none]) (show subL [some (.ref (E.2.1 66)), none, none, some (.int x3), none] [some (.ref (E.2.1 66)), none, some (.int x2), some (.int x3), some (.int x4)] from ⟨rfl, ⟨rfl, trivial⟩⟩) (t_X9_fail_J134 hc  x3 _ hw)
    · have hw := hw.2 c103
      refine vIload_n (pc := 106) hc dX9_fail_106 rfl ?_
      refine vIload (pc := 107) hc dX9_fail_107 rfl ?_
      refine vIshr (pc := 109) hc dX9_fail_109 ?_
      refine vIconst (pc := 110) (v := 1) hc dX9_fail_110 ki_1 ?_
      refine vIand (pc := 111) hc dX9_fail_111 ?_
      refine vIconst (pc := 112) (v := 1) hc dX9_fail_112 ki_1 ?_
      refine vIcmp_ne (pc := 113) (tgt := 128) hc dX9_fail_113 (by decide) (fun c113 => ?_) (fun c113 => ?_)
      · have hw := hw.1 c113
        refine vIinc (pc := 128) (v := x4 + 1) (L2 := [some (.ref (E.2.1 66)), none, some (.int x2), some (.int x3), some (.int (x4 + 1))]) hc dX9_fail_128 rfl rfl rfl (Nat.le_of_ble_eq_true rfl) ?_
        refine vGoto (pc := 131) (tgt := 97) hc dX9_fail_131 (by decide) ?_
        exact vMono (L2 := [some (.ref (E.2.1 66)), none, some (.int x2), some (.int x3), some (.int (x4 + 1))]) (show subL [some (.ref (E.2.1 66)), none, some (.int x2), some (.int x3), some (.int (x4 + 1))] [some (.ref (E.2.1 66)), none, some (.int x2), some (.int x3), some (.int (x4 + 1))] from ⟨rfl, ⟨rfl, ⟨rfl, ⟨rfl, trivial⟩⟩⟩⟩) (ih x2 x3 (x4 + 1) _ hw)
      · have hw := hw.2 c113
        refine vAload_n (pc := 116) hc dX9_fail_116 rfl ?_
        refine vIload (pc := 117) hc dX9_fail_117 rfl ?_
        refine vCallVi (pc := 119) (st := []) hc ok_X9_joins tw_1022 (c_X9_joins hc.2.2.2.2.2.2.1 hc.G hw) (hc.G 66 (Nat.le_of_ble_eq_true rfl)) rfl rfl rfl ⟨rfl, rfl⟩ ⟨Nat.le_of_ble_eq_true rfl, Nat.le_of_ble_eq_true rfl⟩ rfl (Nat.le_of_ble_eq_true rfl) dX9_fail_119 (fun r119 σ119 hw => ?_)
        refine vIf_ne (pc := 122) (tgt := 128) hc dX9_fail_122 (by decide) (fun c122 => ?_) (fun c122 => ?_)
        · have hw := hw.1 c122
          refine vIinc (pc := 128) (v := x4 + 1) (L2 := [some (.ref (E.2.1 66)), none, some (.int x2), some (.int x3), some (.int (x4 + 1))]) hc dX9_fail_128 rfl rfl rfl (Nat.le_of_ble_eq_true rfl) ?_
          refine vGoto (pc := 131) (tgt := 97) hc dX9_fail_131 (by decide) ?_
          exact vMono (L2 := [some (.ref (E.2.1 66)), none, some (.int x2), some (.int x3), some (.int (x4 + 1))]) (show subL [some (.ref (E.2.1 66)), none, some (.int x2), some (.int x3), some (.int (x4 + 1))] [some (.ref (E.2.1 66)), none, some (.int x2), some (.int x3), some (.int (x4 + 1))] from ⟨rfl, ⟨rfl, ⟨rfl, ⟨rfl, trivial⟩⟩⟩⟩) (ih x2 x3 (x4 + 1) _ hw)
        · have hw := hw.2 c122
          refine vIinc (pc := 125) (v := x3 + 1) (L2 := [some (.ref (E.2.1 66)), none, some (.int x2), some (.int (x3 + 1)), some (.int x4)]) hc dX9_fail_125 rfl rfl rfl (Nat.le_of_ble_eq_true rfl) ?_
          refine vIinc (pc := 128) (v := x4 + 1) (L2 := [some (.ref (E.2.1 66)), none, some (.int x2), some (.int (x3 + 1)), some (.int (x4 + 1))]) hc dX9_fail_128 rfl rfl rfl (Nat.le_of_ble_eq_true rfl) ?_
          refine vGoto (pc := 131) (tgt := 97) hc dX9_fail_131 (by decide) ?_
          exact vMono (L2 := [some (.ref (E.2.1 66)), none, some (.int x2), some (.int (x3 + 1)), some (.int (x4 + 1))]) (show subL [some (.ref (E.2.1 66)), none, some (.int x2), some (.int (x3 + 1)), some (.int (x4 + 1))] [some (.ref (E.2.1 66)), none, some (.int x2), some (.int (x3 + 1)), some (.int (x4 + 1))] from ⟨rfl, ⟨rfl, ⟨rfl, ⟨rfl, trivial⟩⟩⟩⟩) (ih x2 (x3 + 1) (x4 + 1) _ hw)
set_option maxRecDepth 100000 in
set_option maxHeartbeats 4000000 in
theorem t_X9_fail_H64 {p : Program} {l : Launch} {e : Env} {s : State} {m : MethodId} {args : Array Value} {below : List Frame} {meth : Method} {c : Code} {E : WD} {Q : Int32 → MS → Prop} (hc : Cx p rm_X9_fail s m args meth c E (AD E) cX9_fail RX9 (some .int) 5 0 0 fdm) : ∀ (n : Nat) (x2 x3 : Int32) (σ : MS), w_X9_fail_H64 Q n x2 x3 σ → V p l e rm_X9_fail s m args below meth c E (AD E) 5 0 0 (MQ below (va_Qi Q (BW E) (AD E)) args s 0 0 (AD E)) σ 64 [some (.ref (E.2.1 66)), none, some (.int x2), some (.int x3), none] [] := by
  intro n
  induction n with
  | zero =>
    intro x2 x3 σ hw
    exact hw.elim
  | succ n ih =>
    intro x2 x3 σ hw
    unfold w_X9_fail_H64 at hw
    refine vIload_n (pc := 64) hc dX9_fail_64 rfl ?_
    refine vAload_n (pc := 65) hc dX9_fail_65 rfl ?_
    refine vGetI (pc := 66) (k := 66) (j := 3) hc rfl inG9 (hc.G 66 (Nat.le_of_ble_eq_true rfl)) rfl (Nat.le_of_ble_eq_true rfl) tw_726 rfl dX9_fail_66 ?_
    refine vIcmp_ge (pc := 69) (tgt := 92) hc dX9_fail_69 (by decide) (fun c69 => ?_) (fun c69 => ?_)
    · have hw := hw.1 c69
      refine vIconst (pc := 92) (v := 0) hc dX9_fail_92 ki_0 ?_
      refine vIstore_n (pc := 93) (L2 := [some (.ref (E.2.1 66)), none, some (.int x2), some (.int 0), none]) hc dX9_fail_93 rfl (Nat.le_of_ble_eq_true rfl) ?_
      refine vIconst (pc := 94) (v := 0) hc dX9_fail_94 ki_0 ?_
      refine vIstore (pc := 95) (L2 := [some (.ref (E.2.1 66)), none, some (.int x2), some (.int 0), some (.int 0)]) hc dX9_fail_95 rfl (Nat.le_of_ble_eq_true rfl) ?_
      obtain ⟨n97, hw⟩ := hw
      exact vMono (L2 := [some (.ref (E.2.1 66)), none, some (.int x2), some (.int 0), some (.int 0)]) (show subL [some (.ref (E.2.1 66)), none, some (.int x2), some (.int 0), some (.int 0)] [some (.ref (E.2.1 66)), none, some (.int x2), some (.int 0), some (.int 0)] from ⟨rfl, ⟨rfl, ⟨rfl, ⟨rfl, trivial⟩⟩⟩⟩) (t_X9_fail_H97 hc  n97 x2 0 0 _ hw)
    · have hw := hw.2 c69
      refine vIload_n (pc := 72) hc dX9_fail_72 rfl ?_
      refine vIload_n (pc := 73) hc dX9_fail_73 rfl ?_
      refine vIshr (pc := 74) hc dX9_fail_74 ?_
      refine vIconst (pc := 75) (v := 1) hc dX9_fail_75 ki_1 ?_
      refine vIand (pc := 76) hc dX9_fail_76 ?_
      refine vIconst (pc := 77) (v := 1) hc dX9_fail_77 ki_1 ?_
      refine vIcmp_ne (pc := 78) (tgt := 86) hc dX9_fail_78 (by decide) (fun c78 => ?_) (fun c78 => ?_)
      · have hw := hw.1 c78
        refine vIinc (pc := 86) (v := x3 + 1) (L2 := [some (.ref (E.2.1 66)), none, some (.int x2), some (.int (x3 + 1)), none]) hc dX9_fail_86 rfl rfl rfl (Nat.le_of_ble_eq_true rfl) ?_
        refine vGoto (pc := 89) (tgt := 64) hc dX9_fail_89 (by decide) ?_
        exact vMono (L2 := [some (.ref (E.2.1 66)), none, some (.int x2), some (.int (x3 + 1)), none]) (show subL [some (.ref (E.2.1 66)), none, some (.int x2), some (.int (x3 + 1)), none] [some (.ref (E.2.1 66)), none, some (.int x2), some (.int (x3 + 1)), none] from ⟨rfl, ⟨rfl, ⟨rfl, trivial⟩⟩⟩) (ih x2 (x3 + 1) _ hw)
      · have hw := hw.2 c78
        refine vAload_n (pc := 81) hc dX9_fail_81 rfl ?_
        refine vIload_n (pc := 82) hc dX9_fail_82 rfl ?_
        refine vCallVv (pc := 83) (st := []) hc ok_X9_leaves tw_982 (c_X9_leaves hc.2.2.2.2.2.2.1 hc.G hw) (hc.G 66 (Nat.le_of_ble_eq_true rfl)) rfl rfl rfl ⟨rfl, rfl⟩ ⟨Nat.le_of_ble_eq_true rfl, Nat.le_of_ble_eq_true rfl⟩ rfl (Nat.le_of_ble_eq_true rfl) dX9_fail_83 (fun σ83 hw => ?_)
        refine vIinc (pc := 86) (v := x3 + 1) (L2 := [some (.ref (E.2.1 66)), none, some (.int x2), some (.int (x3 + 1)), none]) hc dX9_fail_86 rfl rfl rfl (Nat.le_of_ble_eq_true rfl) ?_
        refine vGoto (pc := 89) (tgt := 64) hc dX9_fail_89 (by decide) ?_
        exact vMono (L2 := [some (.ref (E.2.1 66)), none, some (.int x2), some (.int (x3 + 1)), none]) (show subL [some (.ref (E.2.1 66)), none, some (.int x2), some (.int (x3 + 1)), none] [some (.ref (E.2.1 66)), none, some (.int x2), some (.int (x3 + 1)), none] from ⟨rfl, ⟨rfl, ⟨rfl, trivial⟩⟩⟩) (ih x2 (x3 + 1) _ hw)
set_option maxRecDepth 100000 in
set_option maxHeartbeats 4000000 in
theorem t_X9_fail_E {p : Program} {l : Launch} {e : Env} {s : State} {m : MethodId} {args : Array Value} {below : List Frame} {meth : Method} {c : Code} {E : WD} {Q : Int32 → MS → Prop} (hc : Cx p rm_X9_fail s m args meth c E (AD E) cX9_fail RX9 (some .int) 5 0 0 fdm) (x1 : Int32) (σ : MS) (hw : w_X9_fail_E Q x1 σ) : V p l e rm_X9_fail s m args below meth c E (AD E) 5 0 0 (MQ below (va_Qi Q (BW E) (AD E)) args s 0 0 (AD E)) σ 0 [some (.ref (E.2.1 66)), some (.int x1), none, none, none] [] := by
  unfold w_X9_fail_E at hw
  refine vAload_n (pc := 0) hc dX9_fail_0 rfl ?_
  refine vGetI (pc := 1) (k := 66) (j := 36) hc rfl inG9 (hc.G 66 (Nat.le_of_ble_eq_true rfl)) rfl (Nat.le_of_ble_eq_true rfl) tw_759 rfl dX9_fail_1 ?_
  refine vIf_ne (pc := 4) (tgt := 14) hc dX9_fail_4 (by decide) (fun c4 => ?_) (fun c4 => ?_)
  · have hw := hw.1 c4
    refine vAload_n (pc := 14) hc dX9_fail_14 rfl ?_
    refine vIload_n (pc := 15) hc dX9_fail_15 rfl ?_
    refine vCallVi (pc := 16) (st := []) hc ok_X9_isPerson tw_881 (c_X9_isPerson hc.2.2.2.2.2.2.1 hc.G hw) (hc.G 66 (Nat.le_of_ble_eq_true rfl)) rfl rfl rfl ⟨rfl, rfl⟩ ⟨Nat.le_of_ble_eq_true rfl, Nat.le_of_ble_eq_true rfl⟩ rfl (Nat.le_of_ble_eq_true rfl) dX9_fail_16 (fun r16 σ16 hw => ?_)
    refine vIf_ne (pc := 19) (tgt := 28) hc dX9_fail_19 (by decide) (fun c19 => ?_) (fun c19 => ?_)
    · have hw := hw.1 c19
      refine vAload_n (pc := 28) hc dX9_fail_28 rfl ?_
      refine vGetR (pc := 29) (k := 66) (j := 15) hc rfl inG9 (hc.G 66 (Nat.le_of_ble_eq_true rfl)) rfl (Nat.le_of_ble_eq_true rfl) tw_738 rfl dX9_fail_29 ?_
      refine vIload_n (pc := 32) hc dX9_fail_32 rfl ?_
      refine vIconst (pc := 33) (v := 1) hc dX9_fail_33 ki_1 ?_
      obtain ⟨hi1, hw⟩ := hw
      refine vZast (pc := 34) (k := 80) hc (hc.G 80 (Nat.le_of_ble_eq_true rfl)) rfl rfl hi1 (Or.inr rfl) dX9_fail_34 (fun σ34 eσ34 => ?_)
      have hw := hw σ34 eσ34
      refine vAload_n (pc := 35) hc dX9_fail_35 rfl ?_
      refine vCallVv (pc := 36) (st := []) hc ok_X9_changes tw_719 (c_X9_changes hc.2.2.2.2.2.2.1 hc.G hw) (hc.G 66 (Nat.le_of_ble_eq_true rfl)) rfl rfl rfl ⟨rfl, rfl⟩ ⟨Nat.le_of_ble_eq_true rfl, Nat.le_of_ble_eq_true rfl⟩ rfl (Nat.le_of_ble_eq_true rfl) dX9_fail_36 (fun σ36 hw => ?_)
      refine vAload_n (pc := 39) hc dX9_fail_39 rfl ?_
      refine vGetR (pc := 40) (k := 66) (j := 38) hc rfl inG9 (hc.G 66 (Nat.le_of_ble_eq_true rfl)) rfl (Nat.le_of_ble_eq_true rfl) tw_761 rfl dX9_fail_40 ?_
      refine vIload_n (pc := 43) hc dX9_fail_43 rfl ?_
      refine vIald (pc := 44) (k := 97) hc (hc.G 97 (Nat.le_of_ble_eq_true rfl)) rfl rfl hi1 dX9_fail_44 ?_
      obtain ⟨x2_45, ex2_45⟩ : ∃ z : Int32, z = σ36 97 x1.toNatClampNeg := ⟨_, rfl⟩
      have hw := hw x2_45 ex2_45
      refine vTop ex2_45 ?_
      refine vIstore_n (pc := 45) (L2 := [some (.ref (E.2.1 66)), some (.int x1), some (.int x2_45), none, none]) hc dX9_fail_45 rfl (Nat.le_of_ble_eq_true rfl) ?_
      refine vIload_n (pc := 46) hc dX9_fail_46 rfl ?_
      refine vIf_eq (pc := 47) (tgt := 60) hc dX9_fail_47 (by decide) (fun c47 => ?_) (fun c47 => ?_)
      · have hw := hw.1 c47
        refine vIconst (pc := 60) (v := 0) hc dX9_fail_60 ki_0 ?_
        exact vIret (pc := 61) hc dX9_fail_61 hw
      · have hw := hw.2 c47
        refine vAload_n (pc := 50) hc dX9_fail_50 rfl ?_
        refine vGetR (pc := 51) (k := 66) (j := 39) hc rfl inG9 (hc.G 66 (Nat.le_of_ble_eq_true rfl)) rfl (Nat.le_of_ble_eq_true rfl) tw_762 rfl dX9_fail_51 ?_
        refine vIload_n (pc := 54) hc dX9_fail_54 rfl ?_
        refine vIald (pc := 55) (k := 98) hc (hc.G 98 (Nat.le_of_ble_eq_true rfl)) rfl rfl hi1 dX9_fail_55 ?_
        refine vIload_n (pc := 56) hc dX9_fail_56 rfl ?_
        refine vIcmp_eq (pc := 57) (tgt := 62) hc dX9_fail_57 (by decide) (fun c57 => ?_) (fun c57 => ?_)
        · have hw := hw.1 c57
          refine vIconst (pc := 62) (v := 0) hc dX9_fail_62 ki_0 ?_
          refine vIstore_n (pc := 63) (L2 := [some (.ref (E.2.1 66)), some (.int x1), some (.int x2_45), some (.int 0), none]) hc dX9_fail_63 rfl (Nat.le_of_ble_eq_true rfl) ?_
          obtain ⟨n64, hw⟩ := hw
          exact vMono (L2 := [some (.ref (E.2.1 66)), none, some (.int x2_45), some (.int 0), none]) (show subL [some (.ref (E.2.1 66)), none, some (.int x2_45), some (.int 0), none] [some (.ref (E.2.1 66)), some (.int x1), some (.int x2_45), some (.int 0), none] from ⟨rfl, ⟨rfl, ⟨rfl, trivial⟩⟩⟩) (t_X9_fail_H64 hc  n64 x2_45 0 _ hw)
        · have hw := hw.2 c57
          refine vIconst (pc := 60) (v := 0) hc dX9_fail_60 ki_0 ?_
          exact vIret (pc := 61) hc dX9_fail_61 hw
    · have hw := hw.2 c19
      refine vAload_n (pc := 22) hc dX9_fail_22 rfl ?_
      refine vIconst (pc := 23) (v := (-1)) hc dX9_fail_23 ki_m1 ?_
      refine vCallVi (pc := 24) (st := []) hc ok_X9_refuse tw_861 (c_X9_refuse hc.2.2.2.2.2.2.1 hc.G hw) (hc.G 66 (Nat.le_of_ble_eq_true rfl)) rfl rfl rfl ⟨rfl, rfl⟩ ⟨Nat.le_of_ble_eq_true rfl, Nat.le_of_ble_eq_true rfl⟩ rfl (Nat.le_of_ble_eq_true rfl) dX9_fail_24 (fun r24 σ24 hw => ?_)
      exact vIret (pc := 27) hc dX9_fail_27 hw
  · have hw := hw.2 c4
    refine vAload_n (pc := 7) hc dX9_fail_7 rfl ?_
    refine vBipush (pc := 8) (v := (-3)) hc dX9_fail_8 kb_m3 ?_
    refine vCallVi (pc := 10) (st := []) hc ok_X9_refuse tw_861 (c_X9_refuse hc.2.2.2.2.2.2.1 hc.G hw) (hc.G 66 (Nat.le_of_ble_eq_true rfl)) rfl rfl rfl ⟨rfl, rfl⟩ ⟨Nat.le_of_ble_eq_true rfl, Nat.le_of_ble_eq_true rfl⟩ rfl (Nat.le_of_ble_eq_true rfl) dX9_fail_10 (fun r10 σ10 hw => ?_)
    exact vIret (pc := 13) hc dX9_fail_13 hw
set_option maxRecDepth 100000 in
set_option maxHeartbeats 4000000 in
theorem c_X9_fail {l : Launch} {E : WD} (hE : inj E) (hG : ∀ k, fdm k → k ∈ E.2.2.2) {x1 : Int32} {σ : MS} {Q : Int32 → MS → Prop} (hw : w_X9_fail x1 σ Q) : Ci l E yX9_fail cX9_fail 5 (some .int) rm_X9_fail [.ref (E.2.1 66), .int x1] σ Q :=
  Ct_of (by decide) rfl (by
    intro v hv
    simp only [List.mem_cons, List.not_mem_nil, or_false] at hv
    rcases hv with rfl | rfl <;> rfl) (Nat.le_of_ble_eq_true rfl) hE hG (fun p e s m below meth c hc => t_X9_fail_E hc x1 σ hw)
def w_X9_few_E (Q : Int32 → MS → Prop) (σ : MS) : Prop := w_X9_best  σ (fun σ1 => w_X9_present  σ1 (fun r9 σ9 => ((vp_in r9 512) ∧ (∀ x1_13 : Int32, x1_13 = (σ9 96 r9.toNatClampNeg) → ((x1_13 < 1000000 → Q x1_13 σ9) ∧ (¬ x1_13 < 1000000 → Q (-9) σ9))))))
abbrev w_X9_few (σ : MS) (Q : Int32 → MS → Prop) : Prop := w_X9_few_E Q  σ
abbrev rm_X9_few : Room := { frames := 19, cells := 0, slots := 0, locals := 504 }
theorem ok_X9_few : OkV yX9_few RX9 cX9_few 2 (some .int) 0 := ⟨tw_1027, tw_1028, tw_57, tw_1029, rfl, by decide, by decide, by decide +kernel⟩
set_option maxRecDepth 100000 in
set_option maxHeartbeats 4000000 in
theorem t_X9_few_E {p : Program} {l : Launch} {e : Env} {s : State} {m : MethodId} {args : Array Value} {below : List Frame} {meth : Method} {c : Code} {E : WD} {Q : Int32 → MS → Prop} (hc : Cx p rm_X9_few s m args meth c E (AD E) cX9_few RX9 (some .int) 2 0 0 fdm) (σ : MS) (hw : w_X9_few_E Q  σ) : V p l e rm_X9_few s m args below meth c E (AD E) 2 0 0 (MQ below (va_Qi Q (BW E) (AD E)) args s 0 0 (AD E)) σ 0 [some (.ref (E.2.1 66)), none] [] := by
  unfold w_X9_few_E at hw
  refine vAload_n (pc := 0) hc dX9_few_0 rfl ?_
  refine vCallVv (pc := 1) (st := []) hc ok_X9_best tw_970 (c_X9_best hc.2.2.2.2.2.2.1 hc.G hw) (hc.G 66 (Nat.le_of_ble_eq_true rfl)) rfl rfl rfl ⟨rfl, rfl⟩ ⟨Nat.le_of_ble_eq_true rfl, Nat.le_of_ble_eq_true rfl⟩ rfl (Nat.le_of_ble_eq_true rfl) dX9_few_1 (fun σ1 hw => ?_)
  refine vAload_n (pc := 4) hc dX9_few_4 rfl ?_
  refine vGetR (pc := 5) (k := 66) (j := 35) hc rfl inG9 (hc.G 66 (Nat.le_of_ble_eq_true rfl)) rfl (Nat.le_of_ble_eq_true rfl) tw_758 rfl dX9_few_5 ?_
  refine vAload_n (pc := 8) hc dX9_few_8 rfl ?_
  refine vCallVi (pc := 9) (st := [(.ref (E.2.1 96))]) hc ok_X9_present tw_974 (c_X9_present hc.2.2.2.2.2.2.1 hc.G hw) (hc.G 66 (Nat.le_of_ble_eq_true rfl)) rfl rfl rfl ⟨rfl, rfl⟩ ⟨Nat.le_of_ble_eq_true rfl, Nat.le_of_ble_eq_true rfl⟩ rfl (Nat.le_of_ble_eq_true rfl) dX9_few_9 (fun r9 σ9 hw => ?_)
  obtain ⟨hi1, hw⟩ := hw
  refine vIald (pc := 12) (k := 96) hc (hc.G 96 (Nat.le_of_ble_eq_true rfl)) rfl rfl hi1 dX9_few_12 ?_
  obtain ⟨x1_13, ex1_13⟩ : ∃ z : Int32, z = σ9 96 r9.toNatClampNeg := ⟨_, rfl⟩
  have hw := hw x1_13 ex1_13
  refine vTop ex1_13 ?_
  refine vIstore_n (pc := 13) (L2 := [some (.ref (E.2.1 66)), some (.int x1_13)]) hc dX9_few_13 rfl (Nat.le_of_ble_eq_true rfl) ?_
  refine vIload_n (pc := 14) hc dX9_few_14 rfl ?_
  refine vLdc (pc := 15) hc tw_920 dX9_few_15 ?_
  refine vIcmp_lt (pc := 17) (tgt := 25) hc dX9_few_17 (by decide) (fun c17 => ?_) (fun c17 => ?_)
  · have hw := hw.1 c17
    refine vIload_n (pc := 25) hc dX9_few_25 rfl ?_
    exact vIret (pc := 26) hc dX9_few_26 hw
  · have hw := hw.2 c17
    refine vBipush (pc := 20) (v := (-9)) hc dX9_few_20 kb_m9 ?_
    refine vGoto (pc := 22) (tgt := 26) hc dX9_few_22 (by decide) ?_
    exact vIret (pc := 26) hc dX9_few_26 hw
set_option maxRecDepth 100000 in
set_option maxHeartbeats 4000000 in
theorem c_X9_few {l : Launch} {E : WD} (hE : inj E) (hG : ∀ k, fdm k → k ∈ E.2.2.2) {σ : MS} {Q : Int32 → MS → Prop} (hw : w_X9_few  σ Q) : Ci l E yX9_few cX9_few 2 (some .int) rm_X9_few [.ref (E.2.1 66)] σ Q :=
  Ct_of (by decide) rfl (by
    intro v hv
    simp only [List.mem_cons, List.not_mem_nil, or_false] at hv
    rcases hv with rfl <;> rfl) (Nat.le_of_ble_eq_true rfl) hE hG (fun p e s m below meth c hc => t_X9_few_E hc  σ hw)
def w_X9_personOf_E (Q : Int32 → MS → Prop) (x1 x2 : Int32) (σ : MS) : Prop := w_X9_isPerson x1 σ (fun r2 σ2 => ((¬ r2 = 0 → ((x2 = 0 → ((vp_in x1 9) ∧ Q (σ2 70 x1.toNatClampNeg) σ2)) ∧ (¬ x2 = 0 → ((x2 = 1 → ((vp_in x1 9) ∧ Q (σ2 71 x1.toNatClampNeg) σ2)) ∧ (¬ x2 = 1 → ((x2 = 2 → ((vp_in x1 9) ∧ Q (σ2 72 x1.toNatClampNeg) σ2)) ∧ (¬ x2 = 2 → ((x2 = 3 → ((vp_in x1 9) ∧ Q (σ2 73 x1.toNatClampNeg) σ2)) ∧ (¬ x2 = 3 → ((x2 = 4 → ((vp_in x1 9) ∧ Q (σ2 74 x1.toNatClampNeg) σ2)) ∧ (¬ x2 = 4 → ((x2 = 5 → ((vp_in x1 9) ∧ Q (σ2 75 x1.toNatClampNeg) σ2)) ∧ (¬ x2 = 5 → ((x2 = 6 → ((vp_in x1 9) ∧ Q (σ2 76 x1.toNatClampNeg) σ2)) ∧ (¬ x2 = 6 → ((x2 = 7 → ((vp_in x1 9) ∧ (((σ2 79 x1.toNatClampNeg) = 0 → Q 0 σ2) ∧ (¬ (σ2 79 x1.toNatClampNeg) = 0 → Q 1 σ2)))) ∧ (¬ x2 = 7 → ((x2 = 8 → ((vp_in x1 9) ∧ (((σ2 80 x1.toNatClampNeg) = 0 → Q 0 σ2) ∧ (¬ (σ2 80 x1.toNatClampNeg) = 0 → Q 1 σ2)))) ∧ (¬ x2 = 8 → ((x2 = 9 → ((vp_in x1 9) ∧ Q (σ2 77 x1.toNatClampNeg) σ2)) ∧ (¬ x2 = 9 → ((x2 = 10 → ((vp_in x1 9) ∧ w_X9_leastOf (σ2 71 x1.toNatClampNeg) (σ2 72 x1.toNatClampNeg) σ2 (fun r175 σ175 => Q r175 σ175))) ∧ (¬ x2 = 10 → ((x2 = 11 → ((vp_in x1 9) ∧ Q ((σ2 78 x1.toNatClampNeg) + 1000000000) σ2)) ∧ (¬ x2 = 11 → w_X9_refuse (-2) σ2 (fun r192 σ192 => Q r192 σ192)))))))))))))))))))))))))) ∧ (r2 = 0 → w_X9_refuse (-1) σ2 (fun r10 σ10 => Q r10 σ10))))
abbrev w_X9_personOf (x1 x2 : Int32) (σ : MS) (Q : Int32 → MS → Prop) : Prop := w_X9_personOf_E Q x1 x2 σ
abbrev rm_X9_personOf : Room := { frames := 2, cells := 0, slots := 0, locals := 42 }
theorem ok_X9_personOf : OkV yX9_personOf RX9 cX9_personOf 3 (some .int) 2 := ⟨tw_1031, tw_1032, tw_57, tw_1033, rfl, by decide, by decide, by decide +kernel⟩
set_option maxRecDepth 100000 in
set_option maxHeartbeats 4000000 in
theorem t_X9_personOf_E {p : Program} {l : Launch} {e : Env} {s : State} {m : MethodId} {args : Array Value} {below : List Frame} {meth : Method} {c : Code} {E : WD} {Q : Int32 → MS → Prop} (hc : Cx p rm_X9_personOf s m args meth c E (AD E) cX9_personOf RX9 (some .int) 3 0 0 fdm) (x1 x2 : Int32) (σ : MS) (hw : w_X9_personOf_E Q x1 x2 σ) : V p l e rm_X9_personOf s m args below meth c E (AD E) 3 0 0 (MQ below (va_Qi Q (BW E) (AD E)) args s 0 0 (AD E)) σ 0 [some (.ref (E.2.1 66)), some (.int x1), some (.int x2)] [] := by
  unfold w_X9_personOf_E at hw
  refine vAload_n (pc := 0) hc dX9_personOf_0 rfl ?_
  refine vIload_n (pc := 1) hc dX9_personOf_1 rfl ?_
  refine vCallVi (pc := 2) (st := []) hc ok_X9_isPerson tw_881 (c_X9_isPerson hc.2.2.2.2.2.2.1 hc.G hw) (hc.G 66 (Nat.le_of_ble_eq_true rfl)) rfl rfl rfl ⟨rfl, rfl⟩ ⟨Nat.le_of_ble_eq_true rfl, Nat.le_of_ble_eq_true rfl⟩ rfl (Nat.le_of_ble_eq_true rfl) dX9_personOf_2 (fun r2 σ2 hw => ?_)
  refine vIf_ne (pc := 5) (tgt := 14) hc dX9_personOf_5 (by decide) (fun c5 => ?_) (fun c5 => ?_)
  · have hw := hw.1 c5
    refine vIload_n (pc := 14) hc dX9_personOf_14 rfl ?_
    by_cases b15_0 : x2 = 0
    · have hw := hw.1 b15_0
      refine vTop (y := 0) b15_0.symm ?_
      refine vTabIn (pc := 15) (tgt := 76) hc dX9_personOf_15 (by decide) (by decide) rfl (by decide) ?_
      refine vAload_n (pc := 76) hc dX9_personOf_76 rfl ?_
      refine vGetR (pc := 77) (k := 66) (j := 5) hc rfl inG9 (hc.G 66 (Nat.le_of_ble_eq_true rfl)) rfl (Nat.le_of_ble_eq_true rfl) tw_728 rfl dX9_personOf_77 ?_
      refine vIload_n (pc := 80) hc dX9_personOf_80 rfl ?_
      obtain ⟨hi1, hw⟩ := hw
      refine vIald (pc := 81) (k := 70) hc (hc.G 70 (Nat.le_of_ble_eq_true rfl)) rfl rfl hi1 dX9_personOf_81 ?_
      exact vIret (pc := 82) hc dX9_personOf_82 hw
    · have hw := hw.2 b15_0
      by_cases b15_1 : x2 = 1
      · have hw := hw.1 b15_1
        refine vTop (y := 1) b15_1.symm ?_
        refine vTabIn (pc := 15) (tgt := 83) hc dX9_personOf_15 (by decide) (by decide) rfl (by decide) ?_
        refine vAload_n (pc := 83) hc dX9_personOf_83 rfl ?_
        refine vGetR (pc := 84) (k := 66) (j := 6) hc rfl inG9 (hc.G 66 (Nat.le_of_ble_eq_true rfl)) rfl (Nat.le_of_ble_eq_true rfl) tw_729 rfl dX9_personOf_84 ?_
        refine vIload_n (pc := 87) hc dX9_personOf_87 rfl ?_
        obtain ⟨hi2, hw⟩ := hw
        refine vIald (pc := 88) (k := 71) hc (hc.G 71 (Nat.le_of_ble_eq_true rfl)) rfl rfl hi2 dX9_personOf_88 ?_
        exact vIret (pc := 89) hc dX9_personOf_89 hw
      · have hw := hw.2 b15_1
        by_cases b15_2 : x2 = 2
        · have hw := hw.1 b15_2
          refine vTop (y := 2) b15_2.symm ?_
          refine vTabIn (pc := 15) (tgt := 90) hc dX9_personOf_15 (by decide) (by decide) rfl (by decide) ?_
          refine vAload_n (pc := 90) hc dX9_personOf_90 rfl ?_
          refine vGetR (pc := 91) (k := 66) (j := 7) hc rfl inG9 (hc.G 66 (Nat.le_of_ble_eq_true rfl)) rfl (Nat.le_of_ble_eq_true rfl) tw_730 rfl dX9_personOf_91 ?_
          refine vIload_n (pc := 94) hc dX9_personOf_94 rfl ?_
          obtain ⟨hi3, hw⟩ := hw
          refine vIald (pc := 95) (k := 72) hc (hc.G 72 (Nat.le_of_ble_eq_true rfl)) rfl rfl hi3 dX9_personOf_95 ?_
          exact vIret (pc := 96) hc dX9_personOf_96 hw
        · have hw := hw.2 b15_2
          by_cases b15_3 : x2 = 3
          · have hw := hw.1 b15_3
            refine vTop (y := 3) b15_3.symm ?_
            refine vTabIn (pc := 15) (tgt := 97) hc dX9_personOf_15 (by decide) (by decide) rfl (by decide) ?_
            refine vAload_n (pc := 97) hc dX9_personOf_97 rfl ?_
            refine vGetR (pc := 98) (k := 66) (j := 8) hc rfl inG9 (hc.G 66 (Nat.le_of_ble_eq_true rfl)) rfl (Nat.le_of_ble_eq_true rfl) tw_731 rfl dX9_personOf_98 ?_
            refine vIload_n (pc := 101) hc dX9_personOf_101 rfl ?_
            obtain ⟨hi4, hw⟩ := hw
            refine vIald (pc := 102) (k := 73) hc (hc.G 73 (Nat.le_of_ble_eq_true rfl)) rfl rfl hi4 dX9_personOf_102 ?_
            exact vIret (pc := 103) hc dX9_personOf_103 hw
          · have hw := hw.2 b15_3
            by_cases b15_4 : x2 = 4
            · have hw := hw.1 b15_4
              refine vTop (y := 4) b15_4.symm ?_
              refine vTabIn (pc := 15) (tgt := 104) hc dX9_personOf_15 (by decide) (by decide) rfl (by decide) ?_
              refine vAload_n (pc := 104) hc dX9_personOf_104 rfl ?_
              refine vGetR (pc := 105) (k := 66) (j := 9) hc rfl inG9 (hc.G 66 (Nat.le_of_ble_eq_true rfl)) rfl (Nat.le_of_ble_eq_true rfl) tw_732 rfl dX9_personOf_105 ?_
              refine vIload_n (pc := 108) hc dX9_personOf_108 rfl ?_
              obtain ⟨hi5, hw⟩ := hw
              refine vIald (pc := 109) (k := 74) hc (hc.G 74 (Nat.le_of_ble_eq_true rfl)) rfl rfl hi5 dX9_personOf_109 ?_
              exact vIret (pc := 110) hc dX9_personOf_110 hw
            · have hw := hw.2 b15_4
              by_cases b15_5 : x2 = 5
              · have hw := hw.1 b15_5
                refine vTop (y := 5) b15_5.symm ?_
                refine vTabIn (pc := 15) (tgt := 111) hc dX9_personOf_15 (by decide) (by decide) rfl (by decide) ?_
                refine vAload_n (pc := 111) hc dX9_personOf_111 rfl ?_
                refine vGetR (pc := 112) (k := 66) (j := 10) hc rfl inG9 (hc.G 66 (Nat.le_of_ble_eq_true rfl)) rfl (Nat.le_of_ble_eq_true rfl) tw_733 rfl dX9_personOf_112 ?_
                refine vIload_n (pc := 115) hc dX9_personOf_115 rfl ?_
                obtain ⟨hi6, hw⟩ := hw
                refine vIald (pc := 116) (k := 75) hc (hc.G 75 (Nat.le_of_ble_eq_true rfl)) rfl rfl hi6 dX9_personOf_116 ?_
                exact vIret (pc := 117) hc dX9_personOf_117 hw
              · have hw := hw.2 b15_5
                by_cases b15_6 : x2 = 6
                · have hw := hw.1 b15_6
                  refine vTop (y := 6) b15_6.symm ?_
                  refine vTabIn (pc := 15) (tgt := 118) hc dX9_personOf_15 (by decide) (by decide) rfl (by decide) ?_
                  refine vAload_n (pc := 118) hc dX9_personOf_118 rfl ?_
                  refine vGetR (pc := 119) (k := 66) (j := 11) hc rfl inG9 (hc.G 66 (Nat.le_of_ble_eq_true rfl)) rfl (Nat.le_of_ble_eq_true rfl) tw_734 rfl dX9_personOf_119 ?_
                  refine vIload_n (pc := 122) hc dX9_personOf_122 rfl ?_
                  obtain ⟨hi7, hw⟩ := hw
                  refine vIald (pc := 123) (k := 76) hc (hc.G 76 (Nat.le_of_ble_eq_true rfl)) rfl rfl hi7 dX9_personOf_123 ?_
                  exact vIret (pc := 124) hc dX9_personOf_124 hw
                · have hw := hw.2 b15_6
                  by_cases b15_7 : x2 = 7
                  · have hw := hw.1 b15_7
                    refine vTop (y := 7) b15_7.symm ?_
                    refine vTabIn (pc := 15) (tgt := 125) hc dX9_personOf_15 (by decide) (by decide) rfl (by decide) ?_
                    refine vAload_n (pc := 125) hc dX9_personOf_125 rfl ?_
                    refine vGetR (pc := 126) (k := 66) (j := 14) hc rfl inG9 (hc.G 66 (Nat.le_of_ble_eq_true rfl)) rfl (Nat.le_of_ble_eq_true rfl) tw_737 rfl dX9_personOf_126 ?_
                    refine vIload_n (pc := 129) hc dX9_personOf_129 rfl ?_
                    obtain ⟨hi8, hw⟩ := hw
                    refine vZald (pc := 130) (k := 79) hc (hc.G 79 (Nat.le_of_ble_eq_true rfl)) rfl rfl hi8 dX9_personOf_130 ?_
                    refine vIf_eq (pc := 131) (tgt := 138) hc dX9_personOf_131 (by decide) (fun c131 => ?_) (fun c131 => ?_)
                    · have hw := hw.1 c131
                      refine vIconst (pc := 138) (v := 0) hc dX9_personOf_138 ki_0 ?_
                      exact vIret (pc := 139) hc dX9_personOf_139 hw
                    · have hw := hw.2 c131
                      refine vIconst (pc := 134) (v := 1) hc dX9_personOf_134 ki_1 ?_
                      refine vGoto (pc := 135) (tgt := 139) hc dX9_personOf_135 (by decide) ?_
                      exact vIret (pc := 139) hc dX9_personOf_139 hw
                  · have hw := hw.2 b15_7
                    by_cases b15_8 : x2 = 8
                    · have hw := hw.1 b15_8
                      refine vTop (y := 8) b15_8.symm ?_
                      refine vTabIn (pc := 15) (tgt := 140) hc dX9_personOf_15 (by decide) (by decide) rfl (by decide) ?_
                      refine vAload_n (pc := 140) hc dX9_personOf_140 rfl ?_
                      refine vGetR (pc := 141) (k := 66) (j := 15) hc rfl inG9 (hc.G 66 (Nat.le_of_ble_eq_true rfl)) rfl (Nat.le_of_ble_eq_true rfl) tw_738 rfl dX9_personOf_141 ?_
                      refine vIload_n (pc := 144) hc dX9_personOf_144 rfl ?_
                      obtain ⟨hi9, hw⟩ := hw
                      refine vZald (pc := 145) (k := 80) hc (hc.G 80 (Nat.le_of_ble_eq_true rfl)) rfl rfl hi9 dX9_personOf_145 ?_
                      refine vIf_eq (pc := 146) (tgt := 153) hc dX9_personOf_146 (by decide) (fun c146 => ?_) (fun c146 => ?_)
                      · have hw := hw.1 c146
                        refine vIconst (pc := 153) (v := 0) hc dX9_personOf_153 ki_0 ?_
                        exact vIret (pc := 154) hc dX9_personOf_154 hw
                      · have hw := hw.2 c146
                        refine vIconst (pc := 149) (v := 1) hc dX9_personOf_149 ki_1 ?_
                        refine vGoto (pc := 150) (tgt := 154) hc dX9_personOf_150 (by decide) ?_
                        exact vIret (pc := 154) hc dX9_personOf_154 hw
                    · have hw := hw.2 b15_8
                      by_cases b15_9 : x2 = 9
                      · have hw := hw.1 b15_9
                        refine vTop (y := 9) b15_9.symm ?_
                        refine vTabIn (pc := 15) (tgt := 155) hc dX9_personOf_15 (by decide) (by decide) rfl (by decide) ?_
                        refine vAload_n (pc := 155) hc dX9_personOf_155 rfl ?_
                        refine vGetR (pc := 156) (k := 66) (j := 12) hc rfl inG9 (hc.G 66 (Nat.le_of_ble_eq_true rfl)) rfl (Nat.le_of_ble_eq_true rfl) tw_735 rfl dX9_personOf_156 ?_
                        refine vIload_n (pc := 159) hc dX9_personOf_159 rfl ?_
                        obtain ⟨hi10, hw⟩ := hw
                        refine vIald (pc := 160) (k := 77) hc (hc.G 77 (Nat.le_of_ble_eq_true rfl)) rfl rfl hi10 dX9_personOf_160 ?_
                        exact vIret (pc := 161) hc dX9_personOf_161 hw
                      · have hw := hw.2 b15_9
                        by_cases b15_10 : x2 = 10
                        · have hw := hw.1 b15_10
                          refine vTop (y := 10) b15_10.symm ?_
                          refine vTabIn (pc := 15) (tgt := 162) hc dX9_personOf_15 (by decide) (by decide) rfl (by decide) ?_
                          refine vAload_n (pc := 162) hc dX9_personOf_162 rfl ?_
                          refine vAload_n (pc := 163) hc dX9_personOf_163 rfl ?_
                          refine vGetR (pc := 164) (k := 66) (j := 6) hc rfl inG9 (hc.G 66 (Nat.le_of_ble_eq_true rfl)) rfl (Nat.le_of_ble_eq_true rfl) tw_729 rfl dX9_personOf_164 ?_
                          refine vIload_n (pc := 167) hc dX9_personOf_167 rfl ?_
                          obtain ⟨hi11, hw⟩ := hw
                          refine vIald (pc := 168) (k := 71) hc (hc.G 71 (Nat.le_of_ble_eq_true rfl)) rfl rfl hi11 dX9_personOf_168 ?_
                          refine vAload_n (pc := 169) hc dX9_personOf_169 rfl ?_
                          refine vGetR (pc := 170) (k := 66) (j := 7) hc rfl inG9 (hc.G 66 (Nat.le_of_ble_eq_true rfl)) rfl (Nat.le_of_ble_eq_true rfl) tw_730 rfl dX9_personOf_170 ?_
                          refine vIload_n (pc := 173) hc dX9_personOf_173 rfl ?_
                          refine vIald (pc := 174) (k := 72) hc (hc.G 72 (Nat.le_of_ble_eq_true rfl)) rfl rfl hi11 dX9_personOf_174 ?_
                          refine vCallVi (pc := 175) (st := []) hc ok_X9_leastOf tw_869 (c_X9_leastOf hc.2.2.2.2.2.2.1 hc.G hw) (hc.G 66 (Nat.le_of_ble_eq_true rfl)) rfl rfl rfl ⟨rfl, rfl⟩ ⟨Nat.le_of_ble_eq_true rfl, Nat.le_of_ble_eq_true rfl⟩ rfl (Nat.le_of_ble_eq_true rfl) dX9_personOf_175 (fun r175 σ175 hw => ?_)
                          exact vIret (pc := 178) hc dX9_personOf_178 hw
                        · have hw := hw.2 b15_10
                          by_cases b15_11 : x2 = 11
                          · have hw := hw.1 b15_11
                            refine vTop (y := 11) b15_11.symm ?_
                            refine vTabIn (pc := 15) (tgt := 179) hc dX9_personOf_15 (by decide) (by decide) rfl (by decide) ?_
                            refine vAload_n (pc := 179) hc dX9_personOf_179 rfl ?_
                            refine vGetR (pc := 180) (k := 66) (j := 13) hc rfl inG9 (hc.G 66 (Nat.le_of_ble_eq_true rfl)) rfl (Nat.le_of_ble_eq_true rfl) tw_736 rfl dX9_personOf_180 ?_
                            refine vIload_n (pc := 183) hc dX9_personOf_183 rfl ?_
                            obtain ⟨hi12, hw⟩ := hw
                            refine vIald (pc := 184) (k := 78) hc (hc.G 78 (Nat.le_of_ble_eq_true rfl)) rfl rfl hi12 dX9_personOf_184 ?_
                            refine vLdc (pc := 185) hc tw_1034 dX9_personOf_185 ?_
                            refine vIadd (pc := 187) hc dX9_personOf_187 ?_
                            exact vIret (pc := 188) hc dX9_personOf_188 hw
                          · have hw := hw.2 b15_11
                            refine vTabOut (pc := 15) (tgt := 189) hc dX9_personOf_15 (by
                              have f0 := lv_neT b15_0 (by decide : (0 : Int32).toInt = 0)
                              have f1 := lv_neT b15_1 (by decide : (1 : Int32).toInt = 1)
                              have f2 := lv_neT b15_2 (by decide : (2 : Int32).toInt = 2)
                              have f3 := lv_neT b15_3 (by decide : (3 : Int32).toInt = 3)
                              have f4 := lv_neT b15_4 (by decide : (4 : Int32).toInt = 4)
                              have f5 := lv_neT b15_5 (by decide : (5 : Int32).toInt = 5)
                              have f6 := lv_neT b15_6 (by decide : (6 : Int32).toInt = 6)
                              have f7 := lv_neT b15_7 (by decide : (7 : Int32).toInt = 7)
                              have f8 := lv_neT b15_8 (by decide : (8 : Int32).toInt = 8)
                              have f9 := lv_neT b15_9 (by decide : (9 : Int32).toInt = 9)
                              have f10 := lv_neT b15_10 (by decide : (10 : Int32).toInt = 10)
                              have f11 := lv_neT b15_11 (by decide : (11 : Int32).toInt = 11)
                              omega) (by decide) ?_
                            refine vAload_n (pc := 189) hc dX9_personOf_189 rfl ?_
                            refine vBipush (pc := 190) (v := (-2)) hc dX9_personOf_190 kb_m2 ?_
                            refine vCallVi (pc := 192) (st := []) hc ok_X9_refuse tw_861 (c_X9_refuse hc.2.2.2.2.2.2.1 hc.G hw) (hc.G 66 (Nat.le_of_ble_eq_true rfl)) rfl rfl rfl ⟨rfl, rfl⟩ ⟨Nat.le_of_ble_eq_true rfl, Nat.le_of_ble_eq_true rfl⟩ rfl (Nat.le_of_ble_eq_true rfl) dX9_personOf_192 (fun r192 σ192 hw => ?_)
                            exact vIret (pc := 195) hc dX9_personOf_195 hw
  · have hw := hw.2 c5
    refine vAload_n (pc := 8) hc dX9_personOf_8 rfl ?_
    refine vIconst (pc := 9) (v := (-1)) hc dX9_personOf_9 ki_m1 ?_
    refine vCallVi (pc := 10) (st := []) hc ok_X9_refuse tw_861 (c_X9_refuse hc.2.2.2.2.2.2.1 hc.G hw) (hc.G 66 (Nat.le_of_ble_eq_true rfl)) rfl rfl rfl ⟨rfl, rfl⟩ ⟨Nat.le_of_ble_eq_true rfl, Nat.le_of_ble_eq_true rfl⟩ rfl (Nat.le_of_ble_eq_true rfl) dX9_personOf_10 (fun r10 σ10 hw => ?_)
    exact vIret (pc := 13) hc dX9_personOf_13 hw
set_option maxRecDepth 100000 in
set_option maxHeartbeats 4000000 in
theorem c_X9_personOf {l : Launch} {E : WD} (hE : inj E) (hG : ∀ k, fdm k → k ∈ E.2.2.2) {x1 x2 : Int32} {σ : MS} {Q : Int32 → MS → Prop} (hw : w_X9_personOf x1 x2 σ Q) : Ci l E yX9_personOf cX9_personOf 3 (some .int) rm_X9_personOf [.ref (E.2.1 66), .int x1, .int x2] σ Q :=
  Ct_of (by decide) rfl (by
    intro v hv
    simp only [List.mem_cons, List.not_mem_nil, or_false] at hv
    rcases hv with rfl | rfl | rfl <;> rfl) (Nat.le_of_ble_eq_true rfl) hE hG (fun p e s m below meth c hc => t_X9_personOf_E hc x1 x2 σ hw)
def w_X9_count_H75 (Q : Int32 → MS → Prop) : Nat → Int32 → Int32 → MS → Prop
  | 0, _, _, _ => False
  | n + 1, x2, x3, σ => (((σ 66 3) ≤ x3 → Q x2 σ) ∧ (¬ (σ 66 3) ≤ x3 → ((vp_in x3 9) ∧ (((σ 76 x3.toNatClampNeg) ≤ 0 → (∀ x2_108 : Int32, x2_108 = (x2 + 0) → w_X9_count_H75 Q n x2_108 (x3 + 1) σ)) ∧ (¬ (σ 76 x3.toNatClampNeg) ≤ 0 → ((¬ (σ 80 x3.toNatClampNeg) = 0 → (∀ x2_108 : Int32, x2_108 = (x2 + 0) → w_X9_count_H75 Q n x2_108 (x3 + 1) σ)) ∧ ((σ 80 x3.toNatClampNeg) = 0 → (∀ x2_108 : Int32, x2_108 = (x2 + 1) → w_X9_count_H75 Q n x2_108 (x3 + 1) σ))))))))
def w_X9_count_J22 (Q : Int32 → MS → Prop) (x1 : Int32) (σ : MS) : Prop := ((x1 = 0 → Q (σ 66 3) σ) ∧ (¬ x1 = 0 → ((x1 = 1 → w_X9_present  σ (fun r66 σ66 => w_X9_many r66 σ66 (fun r69 σ69 => Q r69 σ69))) ∧ (¬ x1 = 1 → ((x1 = 2 → (∃ n75, w_X9_count_H75 Q n75 0 0 σ)) ∧ (¬ x1 = 2 → ((x1 = 3 → (((σ 66 36) = 0 → Q 0 σ) ∧ (¬ (σ 66 36) = 0 → Q 1 σ))) ∧ (¬ x1 = 3 → ((x1 = 4 → Q (σ 66 4) σ) ∧ (¬ x1 = 4 → Q (-9) σ))))))))))
def w_X9_count_E (Q : Int32 → MS → Prop) (x1 : Int32) (σ : MS) : Prop := ((x1 ≤ 10 → w_X9_count_J22 Q x1 σ) ∧ (¬ x1 ≤ 10 → ((17 ≤ x1 → w_X9_count_J22 Q x1 σ) ∧ (¬ 17 ≤ x1 → ((vp_in (x1 - 10) 7) ∧ Q (σ 67 (x1 - 10).toNatClampNeg) σ)))))
abbrev w_X9_count (x1 : Int32) (σ : MS) (Q : Int32 → MS → Prop) : Prop := w_X9_count_E Q x1 σ
abbrev rm_X9_count : Room := { frames := 1, cells := 0, slots := 0, locals := 22 }
theorem ok_X9_count : OkV yX9_count RX9 cX9_count 4 (some .int) 1 := ⟨tw_1036, tw_1037, tw_57, tw_1038, rfl, by decide, by decide, by decide +kernel⟩
set_option maxRecDepth 100000 in
set_option maxHeartbeats 4000000 in
theorem t_X9_count_H75 {p : Program} {l : Launch} {e : Env} {s : State} {m : MethodId} {args : Array Value} {below : List Frame} {meth : Method} {c : Code} {E : WD} {Q : Int32 → MS → Prop} (hc : Cx p rm_X9_count s m args meth c E (AD E) cX9_count RX9 (some .int) 4 0 0 fdm) : ∀ (n : Nat) (x2 x3 : Int32) (σ : MS), w_X9_count_H75 Q n x2 x3 σ → V p l e rm_X9_count s m args below meth c E (AD E) 4 0 0 (MQ below (va_Qi Q (BW E) (AD E)) args s 0 0 (AD E)) σ 75 [some (.ref (E.2.1 66)), none, some (.int x2), some (.int x3)] [] := by
  intro n
  induction n with
  | zero =>
    intro x2 x3 σ hw
    exact hw.elim
  | succ n ih =>
    intro x2 x3 σ hw
    unfold w_X9_count_H75 at hw
    refine vIload_n (pc := 75) hc dX9_count_75 rfl ?_
    refine vAload_n (pc := 76) hc dX9_count_76 rfl ?_
    refine vGetI (pc := 77) (k := 66) (j := 3) hc rfl inG9 (hc.G 66 (Nat.le_of_ble_eq_true rfl)) rfl (Nat.le_of_ble_eq_true rfl) tw_726 rfl dX9_count_77 ?_
    refine vIcmp_ge (pc := 80) (tgt := 115) hc dX9_count_80 (by decide) (fun c80 => ?_) (fun c80 => ?_)
    · have hw := hw.1 c80
      refine vIload_n (pc := 115) hc dX9_count_115 rfl ?_
      exact vIret (pc := 116) hc dX9_count_116 hw
    · have hw := hw.2 c80
      refine vIload_n (pc := 83) hc dX9_count_83 rfl ?_
      refine vAload_n (pc := 84) hc dX9_count_84 rfl ?_
      refine vGetR (pc := 85) (k := 66) (j := 11) hc rfl inG9 (hc.G 66 (Nat.le_of_ble_eq_true rfl)) rfl (Nat.le_of_ble_eq_true rfl) tw_734 rfl dX9_count_85 ?_
      refine vIload_n (pc := 88) hc dX9_count_88 rfl ?_
      obtain ⟨hi1, hw⟩ := hw
      refine vIald (pc := 89) (k := 76) hc (hc.G 76 (Nat.le_of_ble_eq_true rfl)) rfl rfl hi1 dX9_count_89 ?_
      refine vIf_le (pc := 90) (tgt := 106) hc dX9_count_90 (by decide) (fun c90 => ?_) (fun c90 => ?_)
      · have hw := hw.1 c90
        refine vIconst (pc := 106) (v := 0) hc dX9_count_106 ki_0 ?_
        refine vIadd (pc := 107) hc dX9_count_107 ?_
        obtain ⟨x2_108, ex2_108⟩ : ∃ z : Int32, z = x2 + 0 := ⟨_, rfl⟩
        have hw := hw x2_108 ex2_108
        refine vTop ex2_108 ?_
        refine vIstore_n (pc := 108) (L2 := [some (.ref (E.2.1 66)), none, some (.int x2_108), some (.int x3)]) hc dX9_count_108 rfl (Nat.le_of_ble_eq_true rfl) ?_
        refine vIinc (pc := 109) (v := x3 + 1) (L2 := [some (.ref (E.2.1 66)), none, some (.int x2_108), some (.int (x3 + 1))]) hc dX9_count_109 rfl rfl rfl (Nat.le_of_ble_eq_true rfl) ?_
        refine vGoto (pc := 112) (tgt := 75) hc dX9_count_112 (by decide) ?_
        exact vMono (L2 := [some (.ref (E.2.1 66)), none, some (.int x2_108), some (.int (x3 + 1))]) (show subL [some (.ref (E.2.1 66)), none, some (.int x2_108), some (.int (x3 + 1))] [some (.ref (E.2.1 66)), none, some (.int x2_108), some (.int (x3 + 1))] from ⟨rfl, ⟨rfl, ⟨rfl, trivial⟩⟩⟩) (ih x2_108 (x3 + 1) _ hw)
      · have hw := hw.2 c90
        refine vAload_n (pc := 93) hc dX9_count_93 rfl ?_
        refine vGetR (pc := 94) (k := 66) (j := 15) hc rfl inG9 (hc.G 66 (Nat.le_of_ble_eq_true rfl)) rfl (Nat.le_of_ble_eq_true rfl) tw_738 rfl dX9_count_94 ?_
        refine vIload_n (pc := 97) hc dX9_count_97 rfl ?_
        refine vZald (pc := 98) (k := 80) hc (hc.G 80 (Nat.le_of_ble_eq_true rfl)) rfl rfl hi1 dX9_count_98 ?_
        refine vIf_ne (pc := 99) (tgt := 106) hc dX9_count_99 (by decide) (fun c99 => ?_) (fun c99 => ?_)
        · have hw := hw.1 c99
          refine vIconst (pc := 106) (v := 0) hc dX9_count_106 ki_0 ?_
          refine vIadd (pc := 107) hc dX9_count_107 ?_
          obtain ⟨x2_108, ex2_108⟩ : ∃ z : Int32, z = x2 + 0 := ⟨_, rfl⟩
          have hw := hw x2_108 ex2_108
          refine vTop ex2_108 ?_
          refine vIstore_n (pc := 108) (L2 := [some (.ref (E.2.1 66)), none, some (.int x2_108), some (.int x3)]) hc dX9_count_108 rfl (Nat.le_of_ble_eq_true rfl) ?_
          refine vIinc (pc := 109) (v := x3 + 1) (L2 := [some (.ref (E.2.1 66)), none, some (.int x2_108), some (.int (x3 + 1))]) hc dX9_count_109 rfl rfl rfl (Nat.le_of_ble_eq_true rfl) ?_
          refine vGoto (pc := 112) (tgt := 75) hc dX9_count_112 (by decide) ?_
          exact vMono (L2 := [some (.ref (E.2.1 66)), none, some (.int x2_108), some (.int (x3 + 1))]) (show subL [some (.ref (E.2.1 66)), none, some (.int x2_108), some (.int (x3 + 1))] [some (.ref (E.2.1 66)), none, some (.int x2_108), some (.int (x3 + 1))] from ⟨rfl, ⟨rfl, ⟨rfl, trivial⟩⟩⟩) (ih x2_108 (x3 + 1) _ hw)
        · have hw := hw.2 c99
          refine vIconst (pc := 102) (v := 1) hc dX9_count_102 ki_1 ?_
          refine vGoto (pc := 103) (tgt := 107) hc dX9_count_103 (by decide) ?_
          refine vIadd (pc := 107) hc dX9_count_107 ?_
          obtain ⟨x2_108, ex2_108⟩ : ∃ z : Int32, z = x2 + 1 := ⟨_, rfl⟩
          have hw := hw x2_108 ex2_108
          refine vTop ex2_108 ?_
          refine vIstore_n (pc := 108) (L2 := [some (.ref (E.2.1 66)), none, some (.int x2_108), some (.int x3)]) hc dX9_count_108 rfl (Nat.le_of_ble_eq_true rfl) ?_
          refine vIinc (pc := 109) (v := x3 + 1) (L2 := [some (.ref (E.2.1 66)), none, some (.int x2_108), some (.int (x3 + 1))]) hc dX9_count_109 rfl rfl rfl (Nat.le_of_ble_eq_true rfl) ?_
          refine vGoto (pc := 112) (tgt := 75) hc dX9_count_112 (by decide) ?_
          exact vMono (L2 := [some (.ref (E.2.1 66)), none, some (.int x2_108), some (.int (x3 + 1))]) (show subL [some (.ref (E.2.1 66)), none, some (.int x2_108), some (.int (x3 + 1))] [some (.ref (E.2.1 66)), none, some (.int x2_108), some (.int (x3 + 1))] from ⟨rfl, ⟨rfl, ⟨rfl, trivial⟩⟩⟩) (ih x2_108 (x3 + 1) _ hw)
set_option maxRecDepth 100000 in
set_option maxHeartbeats 4000000 in
theorem t_X9_count_J22 {p : Program} {l : Launch} {e : Env} {s : State} {m : MethodId} {args : Array Value} {below : List Frame} {meth : Method} {c : Code} {E : WD} {Q : Int32 → MS → Prop} (hc : Cx p rm_X9_count s m args meth c E (AD E) cX9_count RX9 (some .int) 4 0 0 fdm) (x1 : Int32) (σ : MS) (hw : w_X9_count_J22 Q x1 σ) : V p l e rm_X9_count s m args below meth c E (AD E) 4 0 0 (MQ below (va_Qi Q (BW E) (AD E)) args s 0 0 (AD E)) σ 22 [some (.ref (E.2.1 66)), some (.int x1), none, none] [] := by
  unfold w_X9_count_J22 at hw
  refine vIconst (pc := 22) (v := 0) hc dX9_count_22 ki_0 ?_
  refine vIstore_n (pc := 23) (L2 := [some (.ref (E.2.1 66)), some (.int x1), some (.int 0), none]) hc dX9_count_23 rfl (Nat.le_of_ble_eq_true rfl) ?_
  refine vIload_n (pc := 24) hc dX9_count_24 rfl ?_
  by_cases b25_0 : x1 = 0
  · have hw := hw.1 b25_0
    refine vTop (y := 0) b25_0.symm ?_
    refine vTabIn (pc := 25) (tgt := 60) hc dX9_count_25 (by decide) (by decide) rfl (by decide) ?_
    refine vAload_n (pc := 60) hc dX9_count_60 rfl ?_
    refine vGetI (pc := 61) (k := 66) (j := 3) hc rfl inG9 (hc.G 66 (Nat.le_of_ble_eq_true rfl)) rfl (Nat.le_of_ble_eq_true rfl) tw_726 rfl dX9_count_61 ?_
    exact vIret (pc := 64) hc dX9_count_64 hw
  · have hw := hw.2 b25_0
    by_cases b25_1 : x1 = 1
    · have hw := hw.1 b25_1
      refine vTop (y := 1) b25_1.symm ?_
      refine vTabIn (pc := 25) (tgt := 65) hc dX9_count_25 (by decide) (by decide) rfl (by decide) ?_
      refine vAload_n (pc := 65) hc dX9_count_65 rfl ?_
      refine vCallVi (pc := 66) (st := []) hc ok_X9_present tw_974 (c_X9_present hc.2.2.2.2.2.2.1 hc.G hw) (hc.G 66 (Nat.le_of_ble_eq_true rfl)) rfl rfl rfl ⟨rfl, rfl⟩ ⟨Nat.le_of_ble_eq_true rfl, Nat.le_of_ble_eq_true rfl⟩ rfl (Nat.le_of_ble_eq_true rfl) dX9_count_66 (fun r66 σ66 hw => ?_)
      refine vCallSi (pc := 69) (st := []) hc ok_X9_many tw_909 (c_X9_many hc.2.2.2.2.2.2.1 hc.G hw) rfl ⟨rfl, rfl⟩ ⟨Nat.le_of_ble_eq_true rfl, Nat.le_of_ble_eq_true rfl⟩ rfl (Nat.le_of_ble_eq_true rfl) dX9_count_69 (fun r69 σ69 hw => ?_)
      exact vIret (pc := 72) hc dX9_count_72 hw
    · have hw := hw.2 b25_1
      by_cases b25_2 : x1 = 2
      · have hw := hw.1 b25_2
        refine vTop (y := 2) b25_2.symm ?_
        refine vTabIn (pc := 25) (tgt := 73) hc dX9_count_25 (by decide) (by decide) rfl (by decide) ?_
        refine vIconst (pc := 73) (v := 0) hc dX9_count_73 ki_0 ?_
        refine vIstore_n (pc := 74) (L2 := [some (.ref (E.2.1 66)), some (.int x1), some (.int 0), some (.int 0)]) hc dX9_count_74 rfl (Nat.le_of_ble_eq_true rfl) ?_
        obtain ⟨n75, hw⟩ := hw
        exact vMono (L2 := [some (.ref (E.2.1 66)), none, some (.int 0), some (.int 0)]) (show subL [some (.ref (E.2.1 66)), none, some (.int 0), some (.int 0)] [some (.ref (E.2.1 66)), some (.int x1), some (.int 0), some (.int 0)] from ⟨rfl, ⟨rfl, ⟨rfl, trivial⟩⟩⟩) (t_X9_count_H75 hc  n75 0 0 _ hw)
      · have hw := hw.2 b25_2
        by_cases b25_3 : x1 = 3
        · have hw := hw.1 b25_3
          refine vTop (y := 3) b25_3.symm ?_
          refine vTabIn (pc := 25) (tgt := 117) hc dX9_count_25 (by decide) (by decide) rfl (by decide) ?_
          refine vAload_n (pc := 117) hc dX9_count_117 rfl ?_
          refine vGetI (pc := 118) (k := 66) (j := 36) hc rfl inG9 (hc.G 66 (Nat.le_of_ble_eq_true rfl)) rfl (Nat.le_of_ble_eq_true rfl) tw_759 rfl dX9_count_118 ?_
          refine vIf_eq (pc := 121) (tgt := 128) hc dX9_count_121 (by decide) (fun c121 => ?_) (fun c121 => ?_)
          · have hw := hw.1 c121
            refine vIconst (pc := 128) (v := 0) hc dX9_count_128 ki_0 ?_
            exact vIret (pc := 129) hc dX9_count_129 hw
          · have hw := hw.2 c121
            refine vIconst (pc := 124) (v := 1) hc dX9_count_124 ki_1 ?_
            refine vGoto (pc := 125) (tgt := 129) hc dX9_count_125 (by decide) ?_
            exact vIret (pc := 129) hc dX9_count_129 hw
        · have hw := hw.2 b25_3
          by_cases b25_4 : x1 = 4
          · have hw := hw.1 b25_4
            refine vTop (y := 4) b25_4.symm ?_
            refine vTabIn (pc := 25) (tgt := 130) hc dX9_count_25 (by decide) (by decide) rfl (by decide) ?_
            refine vAload_n (pc := 130) hc dX9_count_130 rfl ?_
            refine vGetI (pc := 131) (k := 66) (j := 4) hc rfl inG9 (hc.G 66 (Nat.le_of_ble_eq_true rfl)) rfl (Nat.le_of_ble_eq_true rfl) tw_727 rfl dX9_count_131 ?_
            exact vIret (pc := 134) hc dX9_count_134 hw
          · have hw := hw.2 b25_4
            refine vTabOut (pc := 25) (tgt := 135) hc dX9_count_25 (by
              have f0 := lv_neT b25_0 (by decide : (0 : Int32).toInt = 0)
              have f1 := lv_neT b25_1 (by decide : (1 : Int32).toInt = 1)
              have f2 := lv_neT b25_2 (by decide : (2 : Int32).toInt = 2)
              have f3 := lv_neT b25_3 (by decide : (3 : Int32).toInt = 3)
              have f4 := lv_neT b25_4 (by decide : (4 : Int32).toInt = 4)
              omega) (by decide) ?_
            refine vBipush (pc := 135) (v := (-9)) hc dX9_count_135 kb_m9 ?_
            exact vIret (pc := 137) hc dX9_count_137 hw
set_option maxRecDepth 100000 in
set_option maxHeartbeats 4000000 in
theorem t_X9_count_E {p : Program} {l : Launch} {e : Env} {s : State} {m : MethodId} {args : Array Value} {below : List Frame} {meth : Method} {c : Code} {E : WD} {Q : Int32 → MS → Prop} (hc : Cx p rm_X9_count s m args meth c E (AD E) cX9_count RX9 (some .int) 4 0 0 fdm) (x1 : Int32) (σ : MS) (hw : w_X9_count_E Q x1 σ) : V p l e rm_X9_count s m args below meth c E (AD E) 4 0 0 (MQ below (va_Qi Q (BW E) (AD E)) args s 0 0 (AD E)) σ 0 [some (.ref (E.2.1 66)), some (.int x1), none, none] [] := by
  unfold w_X9_count_E at hw
  refine vIload_n (pc := 0) hc dX9_count_0 rfl ?_
  refine vBipush (pc := 1) (v := 10) hc dX9_count_1 kb_10 ?_
  refine vIcmp_le (pc := 3) (tgt := 22) hc dX9_count_3 (by decide) (fun c3 => ?_) (fun c3 => ?_)
  · have hw := hw.1 c3
    exact vMono (L2 := [some (.ref (E.2.1 66)), some (.int x1), none, none]) (show subL [some (.ref (E.2.1 66)), some (.int x1), none, none] [some (.ref (E.2.1 66)), some (.int x1), none, none] from ⟨rfl, ⟨rfl, trivial⟩⟩) (t_X9_count_J22 hc  x1 _ hw)
  · have hw := hw.2 c3
    refine vIload_n (pc := 6) hc dX9_count_6 rfl ?_
    refine vBipush (pc := 7) (v := 17) hc dX9_count_7 kb_17 ?_
    refine vIcmp_ge (pc := 9) (tgt := 22) hc dX9_count_9 (by decide) (fun c9 => ?_) (fun c9 => ?_)
    · have hw := hw.1 c9
      exact vMono (L2 := [some (.ref (E.2.1 66)), some (.int x1), none, none]) (show subL [some (.ref (E.2.1 66)), some (.int x1), none, none] [some (.ref (E.2.1 66)), some (.int x1), none, none] from ⟨rfl, ⟨rfl, trivial⟩⟩) (t_X9_count_J22 hc  x1 _ hw)
    · have hw := hw.2 c9
      refine vAload_n (pc := 12) hc dX9_count_12 rfl ?_
      refine vGetR (pc := 13) (k := 66) (j := 0) hc rfl inG9 (hc.G 66 (Nat.le_of_ble_eq_true rfl)) rfl (Nat.le_of_ble_eq_true rfl) tw_723 rfl dX9_count_13 ?_
      refine vIload_n (pc := 16) hc dX9_count_16 rfl ?_
      refine vBipush (pc := 17) (v := 10) hc dX9_count_17 kb_10 ?_
      refine vIsub (pc := 19) hc dX9_count_19 ?_
      obtain ⟨hi1, hw⟩ := hw
      refine vIald (pc := 20) (k := 67) hc (hc.G 67 (Nat.le_of_ble_eq_true rfl)) rfl rfl hi1 dX9_count_20 ?_
      exact vIret (pc := 21) hc dX9_count_21 hw
set_option maxRecDepth 100000 in
set_option maxHeartbeats 4000000 in
theorem c_X9_count {l : Launch} {E : WD} (hE : inj E) (hG : ∀ k, fdm k → k ∈ E.2.2.2) {x1 : Int32} {σ : MS} {Q : Int32 → MS → Prop} (hw : w_X9_count x1 σ Q) : Ci l E yX9_count cX9_count 4 (some .int) rm_X9_count [.ref (E.2.1 66), .int x1] σ Q :=
  Ct_of (by decide) rfl (by
    intro v hv
    simp only [List.mem_cons, List.not_mem_nil, or_false] at hv
    rcases hv with rfl | rfl <;> rfl) (Nat.le_of_ble_eq_true rfl) hE hG (fun p e s m below meth c hc => t_X9_count_E hc x1 σ hw)
