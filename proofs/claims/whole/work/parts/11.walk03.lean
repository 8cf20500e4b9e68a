def w_X8_least_J14 (Q : Int32 → MS → Prop) (σ : MS) : Prop := w_X8_refuse (-1) σ (fun r16 σ16 => Q r16 σ16)
def w_X8_least_E (Q : Int32 → MS → Prop) (x1 x2 : Int32) (σ : MS) : Prop := w_X8_isStop x1 σ (fun r1 σ1 => ((r1 = 0 → w_X8_least_J14 Q σ1) ∧ (¬ r1 = 0 → w_X8_isStop x2 σ1 (fun r8 σ8 => ((¬ r8 = 0 → w_X5_shortest x1 x2 σ8 (fun r26 σ26 => Q r26 σ26)) ∧ (r8 = 0 → w_X8_least_J14 Q σ8))))))
abbrev w_X8_least (x1 x2 : Int32) (σ : MS) (Q : Int32 → MS → Prop) : Prop := w_X8_least_E Q x1 x2 σ
abbrev rm_X8_least : Room := { frames := 1, cells := 0, slots := 0, locals := 22 }
theorem ok_X8_least : OkV yX8_least RX8 cX8_least 3 (some .int) 2 := ⟨tw_352, tw_353, tw_45, tw_354, rfl, by decide, by decide, by decide +kernel⟩
set_option maxRecDepth 100000 in
set_option maxHeartbeats 4000000 in
theorem t_X8_least_J14 {p : Program} {l : Launch} {e : Env} {s : State} {m : MethodId} {args : Array Value} {below : List Frame} {meth : Method} {c : Code} {E : WD} {Q : Int32 → MS → Prop} (hc : Cx p rm_X8_least s m args meth c E (AD E) cX8_least RX8 (some .int) 3 0 0 fdm) (σ : MS) (hw : w_X8_least_J14 Q  σ) : V p l e rm_X8_least s m args below meth c E (AD E) 3 0 0 (MQ below (va_Qi Q (BW E) (AD E)) args s 0 0 (AD E)) σ 14 [some (.ref (E.2.1 0)), none, none] [] := by
  unfold w_X8_least_J14 at hw
  refine vAload_n (pc := 14) hc dX8_least_14 rfl ?_
  refine vIconst (pc := 15) (v := (-1)) hc dX8_least_15 ki_m1 ?_
  refine vCallVi (pc := 16) (st := []) hc ok_X8_refuse tw_339 (c_X8_refuse hc.2.2.2.2.2.2.1 hc.G hw) (hc.G 0 (Nat.le_of_ble_eq_true rfl)) rfl rfl rfl ⟨rfl, rfl⟩ ⟨Nat.le_of_ble_eq_true rfl, Nat.le_of_ble_eq_true rfl⟩ rfl (Nat.le_of_ble_eq_true rfl) dX8_least_16 (fun r16 σ16 hw => ?_)
  exact vIret (pc := 19) hc dX8_least_19 hw
set_option maxRecDepth 100000 in
set_option maxHeartbeats 4000000 in
theorem t_X8_least_E {p : Program} {l : Launch} {e : Env} {s : State} {m : MethodId} {args : Array Value} {below : List Frame} {meth : Method} {c : Code} {E : WD} {Q : Int32 → MS → Prop} (hc : Cx p rm_X8_least s m args meth c E (AD E) cX8_least RX8 (some .int) 3 0 0 fdm) (x1 x2 : Int32) (σ : MS) (hw : w_X8_least_E Q x1 x2 σ) : V p l e rm_X8_least s m args below meth c E (AD E) 3 0 0 (MQ below (va_Qi Q (BW E) (AD E)) args s 0 0 (AD E)) σ 0 [some (.ref (E.2.1 0)), some (.int x1), some (.int x2)] [] := by
  unfold w_X8_least_E at hw
  refine vIload_n (pc := 0) hc dX8_least_0 rfl ?_
  refine vCallSi (pc := 1) (st := []) hc ok_X8_isStop tw_336 (c_X8_isStop hc.2.2.2.2.2.2.1 hc.G hw) rfl ⟨rfl, rfl⟩ ⟨Nat.le_of_ble_eq_true rfl, Nat.le_of_ble_eq_true rfl⟩ rfl (Nat.le_of_ble_eq_true rfl) dX8_least_1 (fun r1 σ1 hw => ?_)
  refine vIf_eq (pc := 4) (tgt := 14) hc dX8_least_4 (by decide) (fun c4 => ?_) (fun c4 => ?_)
  · have hw := hw.1 c4
    exact vMono (L2 := [some (.ref (E.2.1 0)), none, none]) (show subL [some (.ref (E.2.1 0)), none, none] [some (.ref (E.2.1 0)), some (.int x1), some (.int x2)] from ⟨rfl, trivial⟩) (t_X8_least_J14 hc   _ hw)
  · have hw := hw.2 c4
    refine vIload_n (pc := 7) hc dX8_least_7 rfl ?_
    refine vCallSi (pc := 8) (st := []) hc ok_X8_isStop tw_336 (c_X8_isStop hc.2.2.2.2.2.2.1 hc.G hw) rfl ⟨rfl, rfl⟩ ⟨Nat.le_of_ble_eq_true rfl, Nat.le_of_ble_eq_true rfl⟩ rfl (Nat.le_of_ble_eq_true rfl) dX8_least_8 (fun r8 σ8 hw => ?_)
    refine vIf_ne (pc := 11) (tgt := 20) hc dX8_least_11 (by decide) (fun c11 => ?_) (fun c11 => ?_)
    · have hw := hw.1 c11
      refine vAload_n (pc := 20) hc dX8_least_20 rfl ?_
      refine vGetR (pc := 21) (k := 0) (j := 0) hc rfl inG8 (hc.G 0 (Nat.le_of_ble_eq_true rfl)) rfl (Nat.le_of_ble_eq_true rfl) tw_307 rfl dX8_least_21 ?_
      refine vIload_n (pc := 24) hc dX8_least_24 rfl ?_
      refine vIload_n (pc := 25) hc dX8_least_25 rfl ?_
      refine vCallVi (pc := 26) (st := []) hc ok_X5_shortest tw_355 (c_X5_shortest hc.2.2.2.2.2.2.1 hc.G hw) (hc.G 1 (Nat.le_of_ble_eq_true rfl)) rfl rfl rfl ⟨rfl, rfl⟩ ⟨Nat.le_of_ble_eq_true rfl, Nat.le_of_ble_eq_true rfl⟩ rfl (Nat.le_of_ble_eq_true rfl) dX8_least_26 (fun r26 σ26 hw => ?_)
      exact vIret (pc := 29) hc dX8_least_29 hw
    · have hw := hw.2 c11
      exact vMono (L2 := [some (.ref (E.2.1 0)), none, none]) (show subL [some (.ref (E.2.1 0)), none, none] [some (.ref (E.2.1 0)), some (.int x1), some (.int x2)] from ⟨rfl, trivial⟩) (t_X8_least_J14 hc   _ hw)
set_option maxRecDepth 100000 in
set_option maxHeartbeats 4000000 in
theorem c_X8_least {l : Launch} {E : WD} (hE : inj E) (hG : ∀ k, fdm k → k ∈ E.2.2.2) {x1 x2 : Int32} {σ : MS} {Q : Int32 → MS → Prop} (hw : w_X8_least x1 x2 σ Q) : Ci l E yX8_least cX8_least 3 (some .int) rm_X8_least [.ref (E.2.1 0), .int x1, .int x2] σ Q :=
  Ct_of (by decide) rfl (by
    intro v hv
    simp only [List.mem_cons, List.not_mem_nil, or_false] at hv
    rcases hv with rfl | rfl | rfl <;> rfl) (Nat.le_of_ble_eq_true rfl) hE hG (fun p e s m below meth c hc => t_X8_least_E hc x1 x2 σ hw)
def w_X8_person_J108 (Q : Int32 → MS → Prop) (σ : MS) : Prop := w_X8_refuse (-6) σ (fun r111 σ111 => Q r111 σ111)
def w_X8_person_J61 (Q : Int32 → MS → Prop) (σ : MS) : Prop := w_X8_refuse (-4) σ (fun r64 σ64 => Q r64 σ64)
def w_X8_person_J41 (Q : Int32 → MS → Prop) (x1 x2 x3 x4 x5 x6 x7 : Int32) (σ : MS) : Prop := ((x4 < 0 → w_X8_person_J61 Q σ) ∧ (¬ x4 < 0 → ((x5 < 0 → w_X8_person_J61 Q σ) ∧ (¬ x5 < 0 → ((x6 < 0 → w_X8_person_J61 Q σ) ∧ (¬ x6 < 0 → ((0 ≤ x7 → ((1440 < x4 → w_X8_person_J108 Q σ) ∧ (¬ 1440 < x4 → ((1440 < x5 → w_X8_person_J108 Q σ) ∧ (¬ 1440 < x5 → ((300 < x6 → w_X8_person_J108 Q σ) ∧ (¬ 300 < x6 → ((5 < x7 → w_X8_person_J108 Q σ) ∧ (¬ 5 < x7 → w_X2_isFull  σ (fun r102 σ102 => ((r102 = 0 → w_X2_addOne  σ102 (fun r119 σ119 => w_X2_at r119 σ119 (fun r130 σ130 => ((37 ≤ r130 ∧ r130 < 46) ∧ (∀ σ138, σ138 = mst σ130 r130 0 x1 → (∀ σ144, σ144 = mst σ138 r130 1 x2 → (∀ σ150, σ150 = mst σ144 r130 2 x3 → (∀ σ157, σ157 = mst σ150 r130 3 x4 → (∀ σ164, σ164 = mst σ157 r130 4 x5 → (∀ σ171, σ171 = mst σ164 r130 5 x6 → (∀ σ178, σ178 = mst σ171 r130 6 x7 → Q r119 σ178))))))))))) ∧ (¬ r102 = 0 → w_X8_person_J108 Q σ102)))))))))))) ∧ (¬ 0 ≤ x7 → w_X8_person_J61 Q σ))))))))
def w_X8_person_J19 (Q : Int32 → MS → Prop) (σ : MS) : Prop := w_X8_refuse (-1) σ (fun r21 σ21 => Q r21 σ21)
def w_X8_person_E (Q : Int32 → MS → Prop) (x1 x2 x3 x4 x5 x6 x7 : Int32) (σ : MS) : Prop := w_X8_isStop x2 σ (fun r1 σ1 => ((r1 = 0 → w_X8_person_J19 Q σ1) ∧ (¬ r1 = 0 → w_X8_isStop x3 σ1 (fun r8 σ8 => ((r8 = 0 → w_X8_person_J19 Q σ8) ∧ (¬ r8 = 0 → ((¬ x2 = x3 → ((x1 = 0 → w_X8_person_J41 Q x1 x2 x3 x4 x5 x6 x7 σ8) ∧ (¬ x1 = 0 → ((x1 = 1 → w_X8_person_J41 Q x1 x2 x3 x4 x5 x6 x7 σ8) ∧ (¬ x1 = 1 → w_X8_refuse (-2) σ8 (fun r37 σ37 => Q r37 σ37)))))) ∧ (x2 = x3 → w_X8_person_J19 Q σ8))))))))
abbrev w_X8_person (x1 x2 x3 x4 x5 x6 x7 : Int32) (σ : MS) (Q : Int32 → MS → Prop) : Prop := w_X8_person_E Q x1 x2 x3 x4 x5 x6 x7 σ
abbrev rm_X8_person : Room := { frames := 1, cells := 0, slots := 0, locals := 21 }
theorem ok_X8_person : OkV yX8_person RX8 cX8_person 10 (some .int) 7 := ⟨tw_360, tw_361, tw_45, tw_362, rfl, by decide, by decide, by decide +kernel⟩
set_option maxRecDepth 100000 in
set_option maxHeartbeats 4000000 in
theorem t_X8_person_J108 {p : Program} {l : Launch} {e : Env} {s : State} {m : MethodId} {args : Array Value} {below : List Frame} {meth : Method} {c : Code} {E : WD} {Q : Int32 → MS → Prop} (hc : Cx p rm_X8_person s m args meth c E (AD E) cX8_person RX8 (some .int) 10 0 0 fdm) (σ : MS) (hw : w_X8_person_J108 Q  σ) : V p l e rm_X8_person s m args below meth c E (AD E) 10 0 0 (MQ below (va_Qi Q (BW E) (AD E)) args s 0 0 (AD E)) σ 108 [some (.ref (E.2.1 0)), none, none, none, none, none, none, none, none, none] [] := by
  unfold w_X8_person_J108 at hw
  refine vAload_n (pc := 108) hc dX8_person_108 rfl ?_
  refine vBipush (pc := 109) (v := (-6)) hc dX8_person_109 kb_m6 ?_
  refine vCallVi (pc := 111) (st := []) hc ok_X8_refuse tw_339 (c_X8_refuse hc.2.2.2.2.2.2.1 hc.G hw) (hc.G 0 (Nat.le_of_ble_eq_true rfl)) rfl rfl rfl ⟨rfl, rfl⟩ ⟨Nat.le_of_ble_eq_true rfl, Nat.le_of_ble_eq_true rfl⟩ rfl (Nat.le_of_ble_eq_true rfl) dX8_person_111 (fun r111 σ111 hw => ?_)
  exact vIret (pc := 114) hc dX8_person_114 hw
set_option maxRecDepth 100000 in
set_option maxHeartbeats 4000000 in
theorem t_X8_person_J61 {p : Program} {l : Launch} {e : Env} {s : State} {m : MethodId} {args : Array Value} {below : List Frame} {meth : Method} {c : Code} {E : WD} {Q : Int32 → MS → Prop} (hc : Cx p rm_X8_person s m args meth c E (AD E) cX8_person RX8 (some .int) 10 0 0 fdm) (σ : MS) (hw : w_X8_person_J61 Q  σ) : V p l e rm_X8_person s m args below meth c E (AD E) 10 0 0 (MQ below (va_Qi Q (BW E) (AD E)) args s 0 0 (AD E)) σ 61 [some (.ref (E.2.1 0)), none, none, none, none, none, none, none, none, none] [] := by
  unfold w_X8_person_J61 at hw
  refine vAload_n (pc := 61) hc dX8_person_61 rfl ?_
  refine vBipush (pc := 62) (v := (-4)) hc dX8_person_62 kb_m4 ?_
  refine vCallVi (pc := 64) (st := []) hc ok_X8_refuse tw_339 (c_X8_refuse hc.2.2.2.2.2.2.1 hc.G hw) (hc.G 0 (Nat.le_of_ble_eq_true rfl)) rfl rfl rfl ⟨rfl, rfl⟩ ⟨Nat.le_of_ble_eq_true rfl, Nat.le_of_ble_eq_true rfl⟩ rfl (Nat.le_of_ble_eq_true rfl) dX8_person_64 (fun r64 σ64 hw => ?_)
  exact vIret (pc := 67) hc dX8_person_67 hw
set_option maxRecDepth 100000 in
set_option maxHeartbeats 4000000 in
theorem t_X8_person_J41 {p : Program} {l : Launch} {e : Env} {s : State} {m : MethodId} {args : Array Value} {below : List Frame} {meth : Method} {c : Code} {E : WD} {Q : Int32 → MS → Prop} (hc : Cx p rm_X8_person s m args meth c E (AD E) cX8_person RX8 (some .int) 10 0 0 fdm) (x1 x2 x3 x4 x5 x6 x7 : Int32) (σ : MS) (hw : w_X8_person_J41 Q x1 x2 x3 x4 x5 x6 x7 σ) : V p l e rm_X8_person s m args below meth c E (AD E) 10 0 0 (MQ below (va_Qi Q (BW E) (AD E)) args s 0 0 (AD E)) σ 41 [some (.ref (E.2.1 0)), some (.int x1), some (.int x2), some (.int x3), some (.int x4), some (.int x5), some (.int x6), some (.int x7), none, none] [] := by
  unfold w_X8_person_J41 at hw
  refine vIload (pc := 41) hc dX8_person_41 rfl ?_
  refine vIf_lt (pc := 43) (tgt := 61) hc dX8_person_43 (by decide) (fun c43 => ?_) (fun c43 => ?_)
  · have hw := hw.1 c43
    exact vMono (L2 := [some (.ref (E.2.1 0)), none, none, none, none, none, none, none, none, none]) (show subL [some (.ref (E.2.1 0)), none, none, none, none, none, none, none, none, none] [some (.ref (E.2.1 0)), some (.int x1), some (.int x2), some (.int x3), some (.int x4), some (.int x5), some (.int x6), some (.int x7), none, none] from ⟨rfl, trivial⟩) (t_X8_person_J61 hc   _ hw)
  · have hw := hw.2 c43
    refine vIload (pc := 46) hc dX8_person_46 rfl ?_
    refine vIf_lt (pc := 48) (tgt := 61) hc dX8_person_48 (by decide) (fun c48 => ?_) (fun c48 => ?_)
    · have hw := hw.1 c48
      exact vMono (L2 := [some (.ref (E.2.1 0)), none, none, none, none, none, none, none, none, none]) (show subL [some (.ref (E.2.1 0)), none, none, none, none, none, none, none, none, none] [some (.ref (E.2.1 0)), some (.int x1), some (.int x2), some (.int x3), some (.int x4), some (.int x5), some (.int x6), some (.int x7), none, none] from ⟨rfl, trivial⟩) (t_X8_person_J61 hc   _ hw)
    · have hw := hw.2 c48
      refine vIload (pc := 51) hc dX8_person_51 rfl ?_
      refine vIf_lt (pc := 53) (tgt := 61) hc dX8_person_53 (by decide) (fun c53 => ?_) (fun c53 => ?_)
      · have hw := hw.1 c53
        exact vMono (L2 := [some (.ref (E.2.1 0)), none, none, none, none, none, none, none, none, none]) (show subL [some (.ref (E.2.1 0)), none, none, none, none, none, none, none, none, none] [some (.ref (E.2.1 0)), some (.int x1), some (.int x2), some (.int x3), some (.int x4), some (.int x5), some (.int x6), some (.int x7), none, none] from ⟨rfl, trivial⟩) (t_X8_person_J61 hc   _ hw)
      · have hw := hw.2 c53
        refine vIload (pc := 56) hc dX8_person_56 rfl ?_
        refine vIf_ge (pc := 58) (tgt := 68) hc dX8_person_58 (by decide) (fun c58 => ?_) (fun c58 => ?_)
        · have hw := hw.1 c58
          refine vIload (pc := 68) hc dX8_person_68 rfl ?_
          refine vSipush (pc := 70) (v := 1440) hc dX8_person_70 ks_1440 ?_
          refine vIcmp_gt (pc := 73) (tgt := 108) hc dX8_person_73 (by decide) (fun c73 => ?_) (fun c73 => ?_)
          · have hw := hw.1 c73
            exact vMono (L2 := [some (.ref (E.2.1 0)), none, none, none, none, none, none, none, none, none]) (show subL [some (.ref (E.2.1 0)), none, none, none, none, none, none, none, none, none] [some (.ref (E.2.1 0)), some (.int x1), some (.int x2), some (.int x3), some (.int x4), some (.int x5), some (.int x6), some (.int x7), none, none] from ⟨rfl, trivial⟩) (t_X8_person_J108 hc   _ hw)
          · have hw := hw.2 c73
            refine vIload (pc := 76) hc dX8_person_76 rfl ?_
            refine vSipush (pc := 78) (v := 1440) hc dX8_person_78 ks_1440 ?_
            refine vIcmp_gt (pc := 81) (tgt := 108) hc dX8_person_81 (by decide) (fun c81 => ?_) (fun c81 => ?_)
            · have hw := hw.1 c81
              exact vMono (L2 := [some (.ref (E.2.1 0)), none, none, none, none, none, none, none, none, none]) (show subL [some (.ref (E.2.1 0)), none, none, none, none, none, none, none, none, none] [some (.ref (E.2.1 0)), some (.int x1), some (.int x2), some (.int x3), some (.int x4), some (.int x5), some (.int x6), some (.int x7), none, none] from ⟨rfl, trivial⟩) (t_X8_person_J108 hc   _ hw)
            · have hw := hw.2 c81
              refine vIload (pc := 84) hc dX8_person_84 rfl ?_
              refine vSipush (pc := 86) (v := 300) hc dX8_person_86 ks_300 ?_
              refine vIcmp_gt (pc := 89) (tgt := 108) hc dX8_person_89 (by decide) (fun c89 => ?_) (fun c89 => ?_)
              · have hw := hw.1 c89
                exact vMono (L2 := [some (.ref (E.2.1 0)), none, none, none, none, none, none, none, none, none]) (show subL [some (.ref (E.2.1 0)), none, none, none, none, none, none, none, none, none] [some (.ref (E.2.1 0)), some (.int x1), some (.int x2), some (.int x3), some (.int x4), some (.int x5), some (.int x6), some (.int x7), none, none] from ⟨rfl, trivial⟩) (t_X8_person_J108 hc   _ hw)
              · have hw := hw.2 c89
                refine vIload (pc := 92) hc dX8_person_92 rfl ?_
                refine vIconst (pc := 94) (v := 5) hc dX8_person_94 ki_5 ?_
                refine vIcmp_gt (pc := 95) (tgt := 108) hc dX8_person_95 (by decide) (fun c95 => ?_) (fun c95 => ?_)
                · have hw := hw.1 c95
                  exact vMono (L2 := [some (.ref (E.2.1 0)), none, none, none, none, none, none, none, none, none]) (show subL [some (.ref (E.2.1 0)), none, none, none, none, none, none, none, none, none] [some (.ref (E.2.1 0)), some (.int x1), some (.int x2), some (.int x3), some (.int x4), some (.int x5), some (.int x6), some (.int x7), none, none] from ⟨rfl, trivial⟩) (t_X8_person_J108 hc   _ hw)
                · have hw := hw.2 c95
                  refine vAload_n (pc := 98) hc dX8_person_98 rfl ?_
                  refine vGetR (pc := 99) (k := 0) (j := 1) hc rfl inG8 (hc.G 0 (Nat.le_of_ble_eq_true rfl)) rfl (Nat.le_of_ble_eq_true rfl) tw_308 rfl dX8_person_99 ?_
                  refine vCallVi (pc := 102) (st := []) hc ok_X2_isFull tw_363 (c_X2_isFull hc.2.2.2.2.2.2.1 hc.G hw) (hc.G 4 (Nat.le_of_ble_eq_true rfl)) rfl rfl rfl ⟨rfl, rfl⟩ ⟨Nat.le_of_ble_eq_true rfl, Nat.le_of_ble_eq_true rfl⟩ rfl (Nat.le_of_ble_eq_true rfl) dX8_person_102 (fun r102 σ102 hw => ?_)
                  refine vIf_eq (pc := 105) (tgt := 115) hc dX8_person_105 (by decide) (fun c105 => ?_) (fun c105 => ?_)
                  · have hw := hw.1 c105
                    refine vAload_n (pc := 115) hc dX8_person_115 rfl ?_
                    refine vGetR (pc := 116) (k := 0) (j := 1) hc rfl inG8 (hc.G 0 (Nat.le_of_ble_eq_true rfl)) rfl (Nat.le_of_ble_eq_true rfl) tw_308 rfl dX8_person_116 ?_
                    refine vCallVi (pc := 119) (st := []) hc ok_X2_addOne tw_367 (c_X2_addOne hc.2.2.2.2.2.2.1 hc.G hw) (hc.G 4 (Nat.le_of_ble_eq_true rfl)) rfl rfl rfl ⟨rfl, rfl⟩ ⟨Nat.le_of_ble_eq_true rfl, Nat.le_of_ble_eq_true rfl⟩ rfl (Nat.le_of_ble_eq_true rfl) dX8_person_119 (fun r119 σ119 hw => ?_)
                    refine vIstore (pc := 122) (L2 := [some (.ref (E.2.1 0)), some (.int x1), some (.int x2), some (.int x3), some (.int x4), some (.int x5), some (.int x6), some (.int x7), some (.int r119), none]) hc dX8_person_122 rfl (Nat.le_of_ble_eq_true rfl) ?_
                    refine vAload_n (pc := 124) hc dX8_person_124 rfl ?_
                    refine vGetR (pc := 125) (k := 0) (j := 1) hc rfl inG8 (hc.G 0 (Nat.le_of_ble_eq_true rfl)) rfl (Nat.le_of_ble_eq_true rfl) tw_308 rfl dX8_person_125 ?_
                    refine vIload (pc := 128) hc dX8_person_128 rfl ?_
                    refine vCallVr (pc := 130) (st := []) hc ok_X2_at tw_371 (c_X2_at hc.2.2.2.2.2.2.1 hc.G hw) (hc.G 4 (Nat.le_of_ble_eq_true rfl)) rfl rfl rfl ⟨rfl, rfl⟩ ⟨Nat.le_of_ble_eq_true rfl, Nat.le_of_ble_eq_true rfl⟩ rfl (Nat.le_of_ble_eq_true rfl) dX8_person_130 (fun r130 σ130 hw => ?_)
                    refine vAstore (pc := 133) (L2 := [some (.ref (E.2.1 0)), some (.int x1), some (.int x2), some (.int x3), some (.int x4), some (.int x5), some (.int x6), some (.int x7), some (.int r119), some (.ref (E.2.1 r130))]) hc dX8_person_133 rfl (Nat.le_of_ble_eq_true rfl) ?_
                    refine vAload (pc := 135) hc dX8_person_135 rfl ?_
                    refine vIload_n (pc := 137) hc dX8_person_137 rfl ?_
                    obtain ⟨hp1, hw⟩ := hw
                    refine vPutN (pc := 138) (k := r130) (j := 0) hc (pn_c hp1) inG3 (hc.G _ (pn_N hp1)) (pn_0 hp1) (Nat.le_of_ble_eq_true rfl) tyX3 tyX3_ok nmX3 nw_1 rfl (pn_j hp1 rfl) rfl rfl dX8_person_138 (fun σ138 eσ138 => ?_)
                    have hw := hw σ138 eσ138
                    refine vAload (pc := 141) hc dX8_person_141 rfl ?_
                    refine vIload_n (pc := 143) hc dX8_person_143 rfl ?_
                    refine vPutN (pc := 144) (k := r130) (j := 1) hc (pn_c hp1) inG3 (hc.G _ (pn_N hp1)) (pn_0 hp1) (Nat.le_of_ble_eq_true rfl) tyX3 tyX3_ok nmX3 nw_2 rfl (pn_j hp1 rfl) rfl rfl dX8_person_144 (fun σ144 eσ144 => ?_)
                    have hw := hw σ144 eσ144
                    refine vAload (pc := 147) hc dX8_person_147 rfl ?_
                    refine vIload_n (pc := 149) hc dX8_person_149 rfl ?_
                    refine vPutN (pc := 150) (k := r130) (j := 2) hc (pn_c hp1) inG3 (hc.G _ (pn_N hp1)) (pn_0 hp1) (Nat.le_of_ble_eq_true rfl) tyX3 tyX3_ok nmX3 nw_4 rfl (pn_j hp1 rfl) rfl rfl dX8_person_150 (fun σ150 eσ150 => ?_)
                    have hw := hw σ150 eσ150
                    refine vAload (pc := 153) hc dX8_person_153 rfl ?_
                    refine vIload (pc := 155) hc dX8_person_155 rfl ?_
                    refine vPutN (pc := 157) (k := r130) (j := 3) hc (pn_c hp1) inG3 (hc.G _ (pn_N hp1)) (pn_0 hp1) (Nat.le_of_ble_eq_true rfl) tyX3 tyX3_ok nmX3 nw_6 rfl (pn_j hp1 rfl) rfl rfl dX8_person_157 (fun σ157 eσ157 => ?_)
                    have hw := hw σ157 eσ157
                    refine vAload (pc := 160) hc dX8_person_160 rfl ?_
                    refine vIload (pc := 162) hc dX8_person_162 rfl ?_
                    refine vPutN (pc := 164) (k := r130) (j := 4) hc (pn_c hp1) inG3 (hc.G _ (pn_N hp1)) (pn_0 hp1) (Nat.le_of_ble_eq_true rfl) tyX3 tyX3_ok nmX3 nw_8 rfl (pn_j hp1 rfl) rfl rfl dX8_person_164 (fun σ164 eσ164 => ?_)
                    have hw := hw σ164 eσ164
                    refine vAload (pc := 167) hc dX8_person_167 rfl ?_
                    refine vIload (pc := 169) hc dX8_person_169 rfl ?_
                    refine vPutN (pc := 171) (k := r130) (j := 5) hc (pn_c hp1) inG3 (hc.G _ (pn_N hp1)) (pn_0 hp1) (Nat.le_of_ble_eq_true rfl) tyX3 tyX3_ok nmX3 nw_10 rfl (pn_j hp1 rfl) rfl rfl dX8_person_171 (fun σ171 eσ171 => ?_)
                    have hw := hw σ171 eσ171
                    refine vAload (pc := 174) hc dX8_person_174 rfl ?_
                    refine vIload (pc := 176) hc dX8_person_176 rfl ?_
                    refine vPutN (pc := 178) (k := r130) (j := 6) hc (pn_c hp1) inG3 (hc.G _ (pn_N hp1)) (pn_0 hp1) (Nat.le_of_ble_eq_true rfl) tyX3 tyX3_ok nmX3 nw_12 rfl (pn_j hp1 rfl) rfl rfl dX8_person_178 (fun σ178 eσ178 => ?_)
                    have hw := hw σ178 eσ178
                    refine vIload (pc := 181) hc dX8_person_181 rfl ?_
                    exact vIret (pc := 183) hc dX8_person_183 hw
                  · have hw := hw.2 c105
                    exact vMono (L2 := [some (.ref (E.2.1 0)), none, none, none, none, none, none, none, none, none]) (show subL [some (.ref (E.2.1 0)), none, none, none, none, none, none, none, none, none] [some (.ref (E.2.1 0)), some (.int x1), some (.int x2), some (.int x3), some (.int x4), some (.int x5), some (.int x6), some (.int x7), none, none] from ⟨rfl, trivial⟩) (t_X8_person_J108 hc   _ hw)
        · have hw := hw.2 c58
          exact vMono (L2 := [some (.ref (E.2.1 0)), none, none, none, none, none, none, none, none, none]) (show subL [some (.ref (E.2.1 0)), none, none, none, none, none, none, none, none, none] [some (.ref (E.2.1 0)), some (.int x1), some (.int x2), some (.int x3), some (.int x4), some (.int x5), some (.int x6), some (.int x7), none, none] from ⟨rfl, trivial⟩) (t_X8_person_J61 hc   _ hw)
set_option maxRecDepth 100000 in
set_option maxHeartbeats 4000000 in
theorem t_X8_person_J19 {p : Program} {l : Launch} {e : Env} {s : State} {m : MethodId} {args : Array Value} {below : List Frame} {meth : Method} {c : Code} {E : WD} {Q : Int32 → MS → Prop} (hc : Cx p rm_X8_person s m args meth c E (AD E) cX8_person RX8 (some .int) 10 0 0 fdm) (σ : MS) (hw : w_X8_person_J19 Q  σ) : V p l e rm_X8_person s m args below meth c E (AD E) 10 0 0 (MQ below (va_Qi Q (BW E) (AD E)) args s 0 0 (AD E)) σ 19 [some (.ref (E.2.1 0)), none, none, none, none, none, none, none, none, none] [] := by
  unfold w_X8_person_J19 at hw
  refine vAload_n (pc := 19) hc dX8_person_19 rfl ?_
  refine vIconst (pc := 20) (v := (-1)) hc dX8_person_20 ki_m1 ?_
  refine vCallVi (pc := 21) (st := []) hc ok_X8_refuse tw_339 (c_X8_refuse hc.2.2.2.2.2.2.1 hc.G hw) (hc.G 0 (Nat.le_of_ble_eq_true rfl)) rfl rfl rfl ⟨rfl, rfl⟩ ⟨Nat.le_of_ble_eq_true rfl, Nat.le_of_ble_eq_true rfl⟩ rfl (Nat.le_of_ble_eq_true rfl) dX8_person_21 (fun r21 σ21 hw => ?_)
  exact vIret (pc := 24) hc dX8_person_24 hw
set_option maxRecDepth 100000 in
set_option maxHeartbeats 4000000 in
theorem t_X8_person_E {p : Program} {l : Launch} {e : Env} {s : State} {m : MethodId} {args : Array Value} {below : List Frame} {meth : Method} {c : Code} {E : WD} {Q : Int32 → MS → Prop} (hc : Cx p rm_X8_person s m args meth c E (AD E) cX8_person RX8 (some .int) 10 0 0 fdm) (x1 x2 x3 x4 x5 x6 x7 : Int32) (σ : MS) (hw : w_X8_person_E Q x1 x2 x3 x4 x5 x6 x7 σ) : V p l e rm_X8_person s m args below meth c E (AD E) 10 0 0 (MQ below (va_Qi Q (BW E) (AD E)) args s 0 0 (AD E)) σ 0 [some (.ref (E.2.1 0)), some (.int x1), some (.int x2), some (.int x3), some (.int x4), some (.int x5), some (.int x6), some (.int x7), none, none] [] := by
  unfold w_X8_person_E at hw
  refine vIload_n (pc := 0) hc dX8_person_0 rfl ?_
  refine vCallSi (pc := 1) (st := []) hc ok_X8_isStop tw_336 (c_X8_isStop hc.2.2.2.2.2.2.1 hc.G hw) rfl ⟨rfl, rfl⟩ ⟨Nat.le_of_ble_eq_true rfl, Nat.le_of_ble_eq_true rfl⟩ rfl (Nat.le_of_ble_eq_true rfl) dX8_person_1 (fun r1 σ1 hw => ?_)
  refine vIf_eq (pc := 4) (tgt := 19) hc dX8_person_4 (by decide) (fun c4 => ?_) (fun c4 => ?_)
  · have hw := hw.1 c4
    exact vMono (L2 := [some (.ref (E.2.1 0)), none, none, none, none, none, none, none, none, none]) (show subL [some (.ref (E.2.1 0)), none, none, none, none, none, none, none, none, none] [some (.ref (E.2.1 0)), some (.int x1), some (.int x2), some (.int x3), some (.int x4), some (.int x5), some (.int x6), some (.int x7), none, none] from ⟨rfl, trivial⟩) (t_X8_person_J19 hc   _ hw)
  · have hw := hw.2 c4
    refine vIload_n (pc := 7) hc dX8_person_7 rfl ?_
    refine vCallSi (pc := 8) (st := []) hc ok_X8_isStop tw_336 (c_X8_isStop hc.2.2.2.2.2.2.1 hc.G hw) rfl ⟨rfl, rfl⟩ ⟨Nat.le_of_ble_eq_true rfl, Nat.le_of_ble_eq_true rfl⟩ rfl (Nat.le_of_ble_eq_true rfl) dX8_person_8 (fun r8 σ8 hw => ?_)
    refine vIf_eq (pc := 11) (tgt := 19) hc dX8_person_11 (by decide) (fun c11 => ?_) (fun c11 => ?_)
    · have hw := hw.1 c11
      exact vMono (L2 := [some (.ref (E.2.1 0)), none, none, none, none, none, none, none, none, none]) (show subL [some (.ref (E.2.1 0)), none, none, none, none, none, none, none, none, none] [some (.ref (E.2.1 0)), some (.int x1), some (.int x2), some (.int x3), some (.int x4), some (.int x5), some (.int x6), some (.int x7), none, none] from ⟨rfl, trivial⟩) (t_X8_person_J19 hc   _ hw)
    · have hw := hw.2 c11
      refine vIload_n (pc := 14) hc dX8_person_14 rfl ?_
      refine vIload_n (pc := 15) hc dX8_person_15 rfl ?_
      refine vIcmp_ne (pc := 16) (tgt := 25) hc dX8_person_16 (by decide) (fun c16 => ?_) (fun c16 => ?_)
      · have hw := hw.1 c16
        refine vIload_n (pc := 25) hc dX8_person_25 rfl ?_
        refine vIf_eq (pc := 26) (tgt := 41) hc dX8_person_26 (by decide) (fun c26 => ?_) (fun c26 => ?_)
        · have hw := hw.1 c26
          exact vMono (L2 := [some (.ref (E.2.1 0)), some (.int x1), some (.int x2), some (.int x3), some (.int x4), some (.int x5), some (.int x6), some (.int x7), none, none]) (show subL [some (.ref (E.2.1 0)), some (.int x1), some (.int x2), some (.int x3), some (.int x4), some (.int x5), some (.int x6), some (.int x7), none, none] [some (.ref (E.2.1 0)), some (.int x1), some (.int x2), some (.int x3), some (.int x4), some (.int x5), some (.int x6), some (.int x7), none, none] from ⟨rfl, ⟨rfl, ⟨rfl, ⟨rfl, ⟨rfl, ⟨rfl, ⟨rfl, ⟨rfl, trivial⟩⟩⟩⟩⟩⟩⟩⟩) (t_X8_person_J41 hc  x1 x2 x3 x4 x5 x6 x7 _ hw)
        · have hw := hw.2 c26
          refine vIload_n (pc := 29) hc dX8_person_29 rfl ?_
          refine vIconst (pc := 30) (v := 1) hc dX8_person_30 ki_1 ?_
          refine vIcmp_eq (pc := 31) (tgt := 41) hc dX8_person_31 (by decide) (fun c31 => ?_) (fun c31 => ?_)
          · have hw := hw.1 c31
            exact vMono (L2 := [some (.ref (E.2.1 0)), some (.int x1), some (.int x2), some (.int x3), some (.int x4), some (.int x5), some (.int x6), some (.int x7), none, none]) (show subL [some (.ref (E.2.1 0)), some (.int x1), some (.int x2), some (.int x3), some (.int x4), some (.int x5), some (.int x6), some (.int x7), none, none] [some (.ref (E.2.1 0)), some (.int x1), some (.int x2), some (.int x3), some (.int x4), some (.int x5), some (.int x6), some (.int x7), none, none] from ⟨rfl, ⟨rfl, ⟨rfl, ⟨rfl, ⟨rfl, ⟨rfl, ⟨rfl, ⟨rfl, trivial⟩⟩⟩⟩⟩⟩⟩⟩) (t_X8_person_J41 hc  x1 x2 x3 x4 x5 x6 x7 _ hw)
          · have hw := hw.2 c31
            refine vAload_n (pc := 34) hc dX8_person_34 rfl ?_
            refine vBipush (pc := 35) (v := (-2)) hc dX8_person_35 kb_m2 ?_
            refine vCallVi (pc := 37) (st := []) hc ok_X8_refuse tw_339 (c_X8_refuse hc.2.2.2.2.2.2.1 hc.G hw) (hc.G 0 (Nat.le_of_ble_eq_true rfl)) rfl rfl rfl ⟨rfl, rfl⟩ ⟨Nat.le_of_ble_eq_true rfl, Nat.le_of_ble_eq_true rfl⟩ rfl (Nat.le_of_ble_eq_true rfl) dX8_person_37 (fun r37 σ37 hw => ?_)
            exact vIret (pc := 40) hc dX8_person_40 hw
      · have hw := hw.2 c16
        exact vMono (L2 := [some (.ref (E.2.1 0)), none, none, none, none, none, none, none, none, none]) (show subL [some (.ref (E.2.1 0)), none, none, none, none, none, none, none, none, none] [some (.ref (E.2.1 0)), some (.int x1), some (.int x2), some (.int x3), some (.int x4), some (.int x5), some (.int x6), some (.int x7), none, none] from ⟨rfl, trivial⟩) (t_X8_person_J19 hc   _ hw)
set_option maxRecDepth 100000 in
set_option maxHeartbeats 4000000 in
theorem c_X8_person {l : Launch} {E : WD} (hE : inj E) (hG : ∀ k, fdm k → k ∈ E.2.2.2) {x1 x2 x3 x4 x5 x6 x7 : Int32} {σ : MS} {Q : Int32 → MS → Prop} (hw : w_X8_person x1 x2 x3 x4 x5 x6 x7 σ Q) : Ci l E yX8_person cX8_person 10 (some .int) rm_X8_person [.ref (E.2.1 0), .int x1, .int x2, .int x3, .int x4, .int x5, .int x6, .int x7] σ Q :=
  Ct_of (by decide) rfl (by
    intro v hv
    simp only [List.mem_cons, List.not_mem_nil, or_false] at hv
    rcases hv with rfl | rfl | rfl | rfl | rfl | rfl | rfl | rfl <;> rfl) (Nat.le_of_ble_eq_true rfl) hE hG (fun p e s m below meth c hc => t_X8_person_E hc x1 x2 x3 x4 x5 x6 x7 σ hw)
def w_X8_times_J46 (Q : Int32 → MS → Prop) (σ : MS) : Prop := w_X8_refuse (-6) σ (fun r49 σ49 => Q r49 σ49)
def w_X8_times_J25 (Q : Int32 → MS → Prop) (σ : MS) : Prop := w_X8_refuse (-4) σ (fun r28 σ28 => Q r28 σ28)
def w_X8_times_E (Q : Int32 → MS → Prop) (x1 x2 x3 : Int32) (σ : MS) : Prop := w_X2_has x1 σ (fun r5 σ5 => ((¬ r5 = 0 → ((x2 < 0 → w_X8_times_J25 Q σ5) ∧ (¬ x2 < 0 → ((0 ≤ x3 → ((1440 < x2 → w_X8_times_J46 Q σ5) ∧ (¬ 1440 < x2 → ((x3 ≤ 1440 → w_X2_at x1 σ5 (fun r58 σ58 => ((37 ≤ r58 ∧ r58 < 46) ∧ (∀ σ62, σ62 = mst σ58 r58 3 x2 → w_X2_at x1 σ62 (fun r70 σ70 => ((37 ≤ r70 ∧ r70 < 46) ∧ (∀ σ74, σ74 = mst σ70 r70 4 x3 → w_X0_forgetWith ((1 : Int32) <<< (x1 &&& 31)) σ74 (fun σ84 => Q 1 σ84)))))))) ∧ (¬ x3 ≤ 1440 → w_X8_times_J46 Q σ5))))) ∧ (¬ 0 ≤ x3 → w_X8_times_J25 Q σ5))))) ∧ (r5 = 0 → w_X8_refuse (-1) σ5 (fun r13 σ13 => Q r13 σ13))))
abbrev w_X8_times (x1 x2 x3 : Int32) (σ : MS) (Q : Int32 → MS → Prop) : Prop := w_X8_times_E Q x1 x2 x3 σ
abbrev rm_X8_times : Room := { frames := 1, cells := 0, slots := 0, locals := 22 }
theorem ok_X8_times : OkV yX8_times RX8 cX8_times 4 (some .int) 3 := ⟨tw_376, tw_377, tw_45, tw_378, rfl, by decide, by decide, by decide +kernel⟩
set_option maxRecDepth 100000 in
set_option maxHeartbeats 4000000 in
theorem t_X8_times_J46 {p : Program} {l : Launch} {e : Env} {s : State} {m : MethodId} {args : Array Value} {below : List Frame} {meth : Method} {c : Code} {E : WD} {Q : Int32 → MS → Prop} (hc : Cx p rm_X8_times s m args meth c E (AD E) cX8_times RX8 (some .int) 4 0 0 fdm) (σ : MS) (hw : w_X8_times_J46 Q  σ) : V p l e rm_X8_times s m args below meth c E (AD E) 4 0 0 (MQ below (va_Qi Q (BW E) (AD E)) args s 0 0 (AD E)) σ 46 [some (.ref (E.2.1 0)), none, none, none] [] := by
  unfold w_X8_times_J46 at hw
  refine vAload_n (pc := 46) hc dX8_times_46 rfl ?_
  refine vBipush (pc := 47) (v := (-6)) hc dX8_times_47 kb_m6 ?_
  refine vCallVi (pc := 49) (st := []) hc ok_X8_refuse tw_339 (c_X8_refuse hc.2.2.2.2.2.2.1 hc.G hw) (hc.G 0 (Nat.le_of_ble_eq_true rfl)) rfl rfl rfl ⟨rfl, rfl⟩ ⟨Nat.le_of_ble_eq_true rfl, Nat.le_of_ble_eq_true rfl⟩ rfl (Nat.le_of_ble_eq_true rfl) dX8_times_49 (fun r49 σ49 hw => ?_)
  exact vIret (pc := 52) hc dX8_times_52 hw
set_option maxRecDepth 100000 in
set_option maxHeartbeats 4000000 in
theorem t_X8_times_J25 {p : Program} {l : Launch} {e : Env} {s : State} {m : MethodId} {args : Array Value} {below : List Frame} {meth : Method} {c : Code} {E : WD} {Q : Int32 → MS → Prop} (hc : Cx p rm_X8_times s m args meth c E (AD E) cX8_times RX8 (some .int) 4 0 0 fdm) (σ : MS) (hw : w_X8_times_J25 Q  σ) : V p l e rm_X8_times s m args below meth c E (AD E) 4 0 0 (MQ below (va_Qi Q (BW E) (AD E)) args s 0 0 (AD E)) σ 25 [some (.ref (E.2.1 0)), none, none, none] [] := by
  unfold w_X8_times_J25 at hw
  refine vAload_n (pc := 25) hc dX8_times_25 rfl ?_
  refine vBipush (pc := 26) (v := (-4)) hc dX8_times_26 kb_m4 ?_
  refine vCallVi (pc := 28) (st := []) hc ok_X8_refuse tw_339 (c_X8_refuse hc.2.2.2.2.2.2.1 hc.G hw) (hc.G 0 (Nat.le_of_ble_eq_true rfl)) rfl rfl rfl ⟨rfl, rfl⟩ ⟨Nat.le_of_ble_eq_true rfl, Nat.le_of_ble_eq_true rfl⟩ rfl (Nat.le_of_ble_eq_true rfl) dX8_times_28 (fun r28 σ28 hw => ?_)
  exact vIret (pc := 31) hc dX8_times_31 hw
set_option maxRecDepth 100000 in
set_option maxHeartbeats 4000000 in
theorem t_X8_times_E {p : Program} {l : Launch} {e : Env} {s : State} {m : MethodId} {args : Array Value} {below : List Frame} {meth : Method} {c : Code} {E : WD} {Q : Int32 → MS → Prop} (hc : Cx p rm_X8_times s m args meth c E (AD E) cX8_times RX8 (some .int) 4 0 0 fdm) (x1 x2 x3 : Int32) (σ : MS) (hw : w_X8_times_E Q x1 x2 x3 σ) : V p l e rm_X8_times s m args below meth c E (AD E) 4 0 0 (MQ below (va_Qi Q (BW E) (AD E)) args s 0 0 (AD E)) σ 0 [some (.ref (E.2.1 0)), some (.int x1), some (.int x2), some (.int x3)] [] := by
  unfold w_X8_times_E at hw
  refine vAload_n (pc := 0) hc dX8_times_0 rfl ?_
  refine vGetR (pc := 1) (k := 0) (j := 1) hc rfl inG8 (hc.G 0 (Nat.le_of_ble_eq_true rfl)) rfl (Nat.le_of_ble_eq_true rfl) tw_308 rfl dX8_times_1 ?_
  refine vIload_n (pc := 4) hc dX8_times_4 rfl ?_
  refine vCallVi (pc := 5) (st := []) hc ok_X2_has tw_379 (c_X2_has hc.2.2.2.2.2.2.1 hc.G hw) (hc.G 4 (Nat.le_of_ble_eq_true rfl)) rfl rfl rfl ⟨rfl, rfl⟩ ⟨Nat.le_of_ble_eq_true rfl, Nat.le_of_ble_eq_true rfl⟩ rfl (Nat.le_of_ble_eq_true rfl) dX8_times_5 (fun r5 σ5 hw => ?_)
  refine vIf_ne (pc := 8) (tgt := 17) hc dX8_times_8 (by decide) (fun c8 => ?_) (fun c8 => ?_)
  · have hw := hw.1 c8
    refine vIload_n (pc := 17) hc dX8_times_17 rfl ?_
    refine vIf_lt (pc := 18) (tgt := 25) hc dX8_times_18 (by decide) (fun c18 => ?_) (fun c18 => ?_)
    · have hw := hw.1 c18
      exact vMono (L2 := [some (.ref (E.2.1 0)), none, none, none]) (show subL [some (.ref (E.2.1 0)), none, none, none] [some (.ref (E.2.1 0)), some (.int x1), some (.int x2), some (.int x3)] from ⟨rfl, trivial⟩) (t_X8_times_J25 hc   _ hw)
    · have hw := hw.2 c18
      refine vIload_n (pc := 21) hc dX8_times_21 rfl ?_
      refine vIf_ge (pc := 22) (tgt := 32) hc dX8_times_22 (by decide) (fun c22 => ?_) (fun c22 => ?_)
      · have hw := hw.1 c22
        refine vIload_n (pc := 32) hc dX8_times_32 rfl ?_
        refine vSipush (pc := 33) (v := 1440) hc dX8_times_33 ks_1440 ?_
        refine vIcmp_gt (pc := 36) (tgt := 46) hc dX8_times_36 (by decide) (fun c36 => ?_) (fun c36 => ?_)
        · have hw := hw.1 c36
          exact vMono (L2 := [some (.ref (E.2.1 0)), none, none, none]) (show subL [some (.ref (E.2.1 0)), none, none, none] [some (.ref (E.2.1 0)), some (.int x1), some (.int x2), some (.int x3)] from ⟨rfl, trivial⟩) (t_X8_times_J46 hc   _ hw)
        · have hw := hw.2 c36
          refine vIload_n (pc := 39) hc dX8_times_39 rfl ?_
          refine vSipush (pc := 40) (v := 1440) hc dX8_times_40 ks_1440 ?_
          refine vIcmp_le (pc := 43) (tgt := 53) hc dX8_times_43 (by decide) (fun c43 => ?_) (fun c43 => ?_)
          · have hw := hw.1 c43
            refine vAload_n (pc := 53) hc dX8_times_53 rfl ?_
            refine vGetR (pc := 54) (k := 0) (j := 1) hc rfl inG8 (hc.G 0 (Nat.le_of_ble_eq_true rfl)) rfl (Nat.le_of_ble_eq_true rfl) tw_308 rfl dX8_times_54 ?_
            refine vIload_n (pc := 57) hc dX8_times_57 rfl ?_
            refine vCallVr (pc := 58) (st := []) hc ok_X2_at tw_371 (c_X2_at hc.2.2.2.2.2.2.1 hc.G hw) (hc.G 4 (Nat.le_of_ble_eq_true rfl)) rfl rfl rfl ⟨rfl, rfl⟩ ⟨Nat.le_of_ble_eq_true rfl, Nat.le_of_ble_eq_true rfl⟩ rfl (Nat.le_of_ble_eq_true rfl) dX8_times_58 (fun r58 σ58 hw => ?_)
            refine vIload_n (pc := 61) hc dX8_times_61 rfl ?_
            obtain ⟨hp1, hw⟩ := hw
            refine vPutN (pc := 62) (k := r58) (j := 3) hc (pn_c hp1) inG3 (hc.G _ (pn_N hp1)) (pn_0 hp1) (Nat.le_of_ble_eq_true rfl) tyX3 tyX3_ok nmX3 nw_6 rfl (pn_j hp1 rfl) rfl rfl dX8_times_62 (fun σ62 eσ62 => ?_)
            have hw := hw σ62 eσ62
            refine vAload_n (pc := 65) hc dX8_times_65 rfl ?_
            refine vGetR (pc := 66) (k := 0) (j := 1) hc rfl inG8 (hc.G 0 (Nat.le_of_ble_eq_true rfl)) rfl (Nat.le_of_ble_eq_true rfl) tw_308 rfl dX8_times_66 ?_
            refine vIload_n (pc := 69) hc dX8_times_69 rfl ?_
            refine vCallVr (pc := 70) (st := []) hc ok_X2_at tw_371 (c_X2_at hc.2.2.2.2.2.2.1 hc.G hw) (hc.G 4 (Nat.le_of_ble_eq_true rfl)) rfl rfl rfl ⟨rfl, rfl⟩ ⟨Nat.le_of_ble_eq_true rfl, Nat.le_of_ble_eq_true rfl⟩ rfl (Nat.le_of_ble_eq_true rfl) dX8_times_70 (fun r70 σ70 hw => ?_)
            refine vIload_n (pc := 73) hc dX8_times_73 rfl ?_
            obtain ⟨hp2, hw⟩ := hw
            refine vPutN (pc := 74) (k := r70) (j := 4) hc (pn_c hp2) inG3 (hc.G _ (pn_N hp2)) (pn_0 hp2) (Nat.le_of_ble_eq_true rfl) tyX3 tyX3_ok nmX3 nw_8 rfl (pn_j hp2 rfl) rfl rfl dX8_times_74 (fun σ74 eσ74 => ?_)
            have hw := hw σ74 eσ74
            refine vAload_n (pc := 77) hc dX8_times_77 rfl ?_
            refine vGetR (pc := 78) (k := 0) (j := 3) hc rfl inG8 (hc.G 0 (Nat.le_of_ble_eq_true rfl)) rfl (Nat.le_of_ble_eq_true rfl) tw_310 rfl dX8_times_78 ?_
            refine vIconst (pc := 81) (v := 1) hc dX8_times_81 ki_1 ?_
            refine vIload_n (pc := 82) hc dX8_times_82 rfl ?_
            refine vIshl (pc := 83) hc dX8_times_83 ?_
            refine vCallVv (pc := 84) (st := []) hc ok_X0_forgetWith tw_347 (c_X0_forgetWith hc.2.2.2.2.2.2.1 hc.G hw) (hc.G 9 (Nat.le_of_ble_eq_true rfl)) rfl rfl rfl ⟨rfl, rfl⟩ ⟨Nat.le_of_ble_eq_true rfl, Nat.le_of_ble_eq_true rfl⟩ rfl (Nat.le_of_ble_eq_true rfl) dX8_times_84 (fun σ84 hw => ?_)
            refine vIconst (pc := 87) (v := 1) hc dX8_times_87 ki_1 ?_
            exact vIret (pc := 88) hc dX8_times_88 hw
          · have hw := hw.2 c43
            exact vMono (L2 := [some (.ref (E.2.1 0)), none, none, none]) (show subL [some (.ref (E.2.1 0)), none, none, none] [some (.ref (E.2.1 0)), some (.int x1), some (.int x2), some (.int x3)] from ⟨rfl, trivial⟩) (t_X8_times_J46 hc   _ hw)
      · have hw := hw.2 c22
        exact vMono (L2 := [some (.ref (E.2.1 0)), none, none, none]) (show subL [some (.ref (E.2.1 0)), none, none, none] [some (.ref (E.2.1 0)), some (.int x1), some (.int x2), some (.int x3)] from ⟨rfl, trivial⟩) (t_X8_times_J25 hc   _ hw)
  · have hw := hw.2 c8
    refine vAload_n (pc := 11) hc dX8_times_11 rfl ?_
    refine vIconst (pc := 12) (v := (-1)) hc dX8_times_12 ki_m1 ?_
    refine vCallVi (pc := 13) (st := []) hc ok_X8_refuse tw_339 (c_X8_refuse hc.2.2.2.2.2.2.1 hc.G hw) (hc.G 0 (Nat.le_of_ble_eq_true rfl)) rfl rfl rfl ⟨rfl, rfl⟩ ⟨Nat.le_of_ble_eq_true rfl, Nat.le_of_ble_eq_true rfl⟩ rfl (Nat.le_of_ble_eq_true rfl) dX8_times_13 (fun r13 σ13 hw => ?_)
    exact vIret (pc := 16) hc dX8_times_16 hw
set_option maxRecDepth 100000 in
set_option maxHeartbeats 4000000 in
theorem c_X8_times {l : Launch} {E : WD} (hE : inj E) (hG : ∀ k, fdm k → k ∈ E.2.2.2) {x1 x2 x3 : Int32} {σ : MS} {Q : Int32 → MS → Prop} (hw : w_X8_times x1 x2 x3 σ Q) : Ci l E yX8_times cX8_times 4 (some .int) rm_X8_times [.ref (E.2.1 0), .int x1, .int x2, .int x3] σ Q :=
  Ct_of (by decide) rfl (by
    intro v hv
    simp only [List.mem_cons, List.not_mem_nil, or_false] at hv
    rcases hv with rfl | rfl | rfl | rfl <;> rfl) (Nat.le_of_ble_eq_true rfl) hE hG (fun p e s m below meth c hc => t_X8_times_E hc x1 x2 x3 σ hw)
def w_X8_bar_J27 (Q : Int32 → MS → Prop) (σ : MS) : Prop := w_X8_refuse (-1) σ (fun r29 σ29 => Q r29 σ29)
def w_X8_bar_E (Q : Int32 → MS → Prop) (x1 x2 x3 : Int32) (σ : MS) : Prop := w_X2_has x1 σ (fun r5 σ5 => ((r5 = 0 → w_X8_bar_J27 Q σ5) ∧ (¬ r5 = 0 → w_X2_has x2 σ5 (fun r16 σ16 => ((r16 = 0 → w_X8_bar_J27 Q σ16) ∧ (¬ r16 = 0 → ((¬ x1 = x2 → w_X2_at x1 σ16 (fun r38 σ38 => ((37 ≤ r38 ∧ r38 < 46) ∧ w_X8_contains (σ38 r38 9) x2 σ38 (fun r45 σ45 => ((¬ r45 = x3 → w_X2_at x1 σ45 (fun r59 σ59 => ((37 ≤ r59 ∧ r59 < 46) ∧ (∀ σ70, σ70 = mst σ59 r59 9 ((σ59 r59 9) ^^^ ((1 : Int32) <<< (x2 &&& 31))) → w_X2_at x2 σ70 (fun r78 σ78 => ((37 ≤ r78 ∧ r78 < 46) ∧ (∀ σ89, σ89 = mst σ78 r78 9 ((σ78 r78 9) ^^^ ((1 : Int32) <<< (x1 &&& 31))) → w_X0_forgetWith (((1 : Int32) <<< (x1 &&& 31)) ||| ((1 : Int32) <<< (x2 &&& 31))) σ89 (fun σ103 => Q 1 σ103)))))))) ∧ (r45 = x3 → Q 0 σ45)))))) ∧ (x1 = x2 → w_X8_bar_J27 Q σ16))))))))
abbrev w_X8_bar (x1 x2 x3 : Int32) (σ : MS) (Q : Int32 → MS → Prop) : Prop := w_X8_bar_E Q x1 x2 x3 σ
abbrev rm_X8_bar : Room := { frames := 1, cells := 0, slots := 0, locals := 22 }
theorem ok_X8_bar : OkV yX8_bar RX8 cX8_bar 4 (some .int) 3 := ⟨tw_384, tw_385, tw_45, tw_386, rfl, by decide, by decide, by decide +kernel⟩
set_option maxRecDepth 100000 in
set_option maxHeartbeats 4000000 in
theorem t_X8_bar_J27 {p : Program} {l : Launch} {e : Env} {s : State} {m : MethodId} {args : Array Value} {below : List Frame} {meth : Method} {c : Code} {E : WD} {Q : Int32 → MS → Prop} (hc : Cx p rm_X8_bar s m args meth c E (AD E) cX8_bar RX8 (some .int) 4 0 0 fdm) (σ : MS) (hw : w_X8_bar_J27 Q  σ) : V p l e rm_X8_bar s m args below meth c E (AD E) 4 0 0 (MQ below (va_Qi Q (BW E) (AD E)) args s 0 0 (AD E)) σ 27 [some (.ref (E.2.1 0)), none, none, none] [] := by
  unfold w_X8_bar_J27 at hw
  refine vAload_n (pc := 27) hc dX8_bar_27 rfl ?_
  refine vIconst (pc := 28) (v := (-1)) hc dX8_bar_28 ki_m1 ?_
  refine vCallVi (pc := 29) (st := []) hc ok_X8_refuse tw_339 (c_X8_refuse hc.2.2.2.2.2.2.1 hc.G hw) (hc.G 0 (Nat.le_of_ble_eq_true rfl)) rfl rfl rfl ⟨rfl, rfl⟩ ⟨Nat.le_of_ble_eq_true rfl, Nat.le_of_ble_eq_true rfl⟩ rfl (Nat.le_of_ble_eq_true rfl) dX8_bar_29 (fun r29 σ29 hw => ?_)
  exact vIret (pc := 32) hc dX8_bar_32 hw
set_option maxRecDepth 100000 in
set_option maxHeartbeats 4000000 in
theorem t_X8_bar_E {p : Program} {l : Launch} {e : Env} {s : State} {m : MethodId} {args : Array Value} {below : List Frame} {meth : Method} {c : Code} {E : WD} {Q : Int32 → MS → Prop} (hc : Cx p rm_X8_bar s m args meth c E (AD E) cX8_bar RX8 (some .int) 4 0 0 fdm) (x1 x2 x3 : Int32) (σ : MS) (hw : w_X8_bar_E Q x1 x2 x3 σ) : V p l e rm_X8_bar s m args below meth c E (AD E) 4 0 0 (MQ below (va_Qi Q (BW E) (AD E)) args s 0 0 (AD E)) σ 0 [some (.ref (E.2.1 0)), some (.int x1), some (.int x2), some (.int x3)] [] := by
  unfold w_X8_bar_E at hw
  refine vAload_n (pc := 0) hc dX8_bar_0 rfl ?_
  refine vGetR (pc := 1) (k := 0) (j := 1) hc rfl inG8 (hc.G 0 (Nat.le_of_ble_eq_true rfl)) rfl (Nat.le_of_ble_eq_true rfl) tw_308 rfl dX8_bar_1 ?_
  refine vIload_n (pc := 4) hc dX8_bar_4 rfl ?_
  refine vCallVi (pc := 5) (st := []) hc ok_X2_has tw_379 (c_X2_has hc.2.2.2.2.2.2.1 hc.G hw) (hc.G 4 (Nat.le_of_ble_eq_true rfl)) rfl rfl rfl ⟨rfl, rfl⟩ ⟨Nat.le_of_ble_eq_true rfl, Nat.le_of_ble_eq_true rfl⟩ rfl (Nat.le_of_ble_eq_true rfl) dX8_bar_5 (fun r5 σ5 hw => ?_)
  refine vIf_eq (pc := 8) (tgt := 27) hc dX8_bar_8 (by decide) (fun c8 => ?_) (fun c8 => ?_)
  · have hw := hw.1 c8
    exact vMono (L2 := [some (.ref (E.2.1 0)), none, none, none]) (show subL [some (.ref (E.2.1 0)), none, none, none] [some (.ref (E.2.1 0)), some (.int x1), some (.int x2), some (.int x3)] from ⟨rfl, trivial⟩) (t_X8_bar_J27 hc   _ hw)
  · have hw := hw.2 c8
    refine vAload_n (pc := 11) hc dX8_bar_11 rfl ?_
    refine vGetR (pc := 12) (k := 0) (j := 1) hc rfl inG8 (hc.G 0 (Nat.le_of_ble_eq_true rfl)) rfl (Nat.le_of_ble_eq_true rfl) tw_308 rfl dX8_bar_12 ?_
    refine vIload_n (pc := 15) hc dX8_bar_15 rfl ?_
    refine vCallVi (pc := 16) (st := []) hc ok_X2_has tw_379 (c_X2_has hc.2.2.2.2.2.2.1 hc.G hw) (hc.G 4 (Nat.le_of_ble_eq_true rfl)) rfl rfl rfl ⟨rfl, rfl⟩ ⟨Nat.le_of_ble_eq_true rfl, Nat.le_of_ble_eq_true rfl⟩ rfl (Nat.le_of_ble_eq_true rfl) dX8_bar_16 (fun r16 σ16 hw => ?_)
    refine vIf_eq (pc := 19) (tgt := 27) hc dX8_bar_19 (by decide) (fun c19 => ?_) (fun c19 => ?_)
    · have hw := hw.1 c19
      exact vMono (L2 := [some (.ref (E.2.1 0)), none, none, none]) (show subL [some (.ref (E.2.1 0)), none, none, none] [some (.ref (E.2.1 0)), some (.int x1), some (.int x2), some (.int x3)] from ⟨rfl, trivial⟩) (t_X8_bar_J27 hc   _ hw)
    · have hw := hw.2 c19
      refine vIload_n (pc := 22) hc dX8_bar_22 rfl ?_
      refine vIload_n (pc := 23) hc dX8_bar_23 rfl ?_
      refine vIcmp_ne (pc := 24) (tgt := 33) hc dX8_bar_24 (by decide) (fun c24 => ?_) (fun c24 => ?_)
      · have hw := hw.1 c24
        refine vAload_n (pc := 33) hc dX8_bar_33 rfl ?_
        refine vGetR (pc := 34) (k := 0) (j := 1) hc rfl inG8 (hc.G 0 (Nat.le_of_ble_eq_true rfl)) rfl (Nat.le_of_ble_eq_true rfl) tw_308 rfl dX8_bar_34 ?_
        refine vIload_n (pc := 37) hc dX8_bar_37 rfl ?_
        refine vCallVr (pc := 38) (st := []) hc ok_X2_at tw_371 (c_X2_at hc.2.2.2.2.2.2.1 hc.G hw) (hc.G 4 (Nat.le_of_ble_eq_true rfl)) rfl rfl rfl ⟨rfl, rfl⟩ ⟨Nat.le_of_ble_eq_true rfl, Nat.le_of_ble_eq_true rfl⟩ rfl (Nat.le_of_ble_eq_true rfl) dX8_bar_38 (fun r38 σ38 hw => ?_)
        obtain ⟨hp1, hw⟩ := hw
        refine vGetIN (pc := 41) (k := r38) (j := 9) hc (pn_c hp1) inG3 (hc.G _ (pn_N hp1)) (pn_0 hp1) (Nat.le_of_ble_eq_true rfl) nw_17 (pn_j hp1 rfl) dX8_bar_41 ?_
        refine vIload_n (pc := 44) hc dX8_bar_44 rfl ?_
        refine vCallSi (pc := 45) (st := []) hc ok_X8_contains tw_387 (c_X8_contains hc.2.2.2.2.2.2.1 hc.G hw) rfl ⟨rfl, rfl⟩ ⟨Nat.le_of_ble_eq_true rfl, Nat.le_of_ble_eq_true rfl⟩ rfl (Nat.le_of_ble_eq_true rfl) dX8_bar_45 (fun r45 σ45 hw => ?_)
        refine vIload_n (pc := 48) hc dX8_bar_48 rfl ?_
        refine vIcmp_ne (pc := 49) (tgt := 54) hc dX8_bar_49 (by decide) (fun c49 => ?_) (fun c49 => ?_)
        · have hw := hw.1 c49
          refine vAload_n (pc := 54) hc dX8_bar_54 rfl ?_
          refine vGetR (pc := 55) (k := 0) (j := 1) hc rfl inG8 (hc.G 0 (Nat.le_of_ble_eq_true rfl)) rfl (Nat.le_of_ble_eq_true rfl) tw_308 rfl dX8_bar_55 ?_
          refine vIload_n (pc := 58) hc dX8_bar_58 rfl ?_
          refine vCallVr (pc := 59) (st := []) hc ok_X2_at tw_371 (c_X2_at hc.2.2.2.2.2.2.1 hc.G hw) (hc.G 4 (Nat.le_of_ble_eq_true rfl)) rfl rfl rfl ⟨rfl, rfl⟩ ⟨Nat.le_of_ble_eq_true rfl, Nat.le_of_ble_eq_true rfl⟩ rfl (Nat.le_of_ble_eq_true rfl) dX8_bar_59 (fun r59 σ59 hw => ?_)
          refine vDup (pc := 62) hc dX8_bar_62 rfl ?_
          obtain ⟨hp2, hw⟩ := hw
          refine vGetIN (pc := 63) (k := r59) (j := 9) hc (pn_c hp2) inG3 (hc.G _ (pn_N hp2)) (pn_0 hp2) (Nat.le_of_ble_eq_true rfl) nw_17 (pn_j hp2 rfl) dX8_bar_63 ?_
          refine vIconst (pc := 66) (v := 1) hc dX8_bar_66 ki_1 ?_
          refine vIload_n (pc := 67) hc dX8_bar_67 rfl ?_
          refine vIshl (pc := 68) hc dX8_bar_68 ?_
          refine vIxor (pc := 69) hc dX8_bar_69 ?_
          refine vPutN (pc := 70) (k := r59) (j := 9) hc (pn_c hp2) inG3 (hc.G _ (pn_N hp2)) (pn_0 hp2) (Nat.le_of_ble_eq_true rfl) tyX3 tyX3_ok nmX3 nw_17 rfl (pn_j hp2 rfl) rfl rfl dX8_bar_70 (fun σ70 eσ70 => ?_)
          have hw := hw σ70 eσ70
          refine vAload_n (pc := 73) hc dX8_bar_73 rfl ?_
          refine vGetR (pc := 74) (k := 0) (j := 1) hc rfl inG8 (hc.G 0 (Nat.le_of_ble_eq_true rfl)) rfl (Nat.le_of_ble_eq_true rfl) tw_308 rfl dX8_bar_74 ?_
          refine vIload_n (pc := 77) hc dX8_bar_77 rfl ?_
          refine vCallVr (pc := 78) (st := []) hc ok_X2_at tw_371 (c_X2_at hc.2.2.2.2.2.2.1 hc.G hw) (hc.G 4 (Nat.le_of_ble_eq_true rfl)) rfl rfl rfl ⟨rfl, rfl⟩ ⟨Nat.le_of_ble_eq_true rfl, Nat.le_of_ble_eq_true rfl⟩ rfl (Nat.le_of_ble_eq_true rfl) dX8_bar_78 (fun r78 σ78 hw => ?_)
          refine vDup (pc := 81) hc dX8_bar_81 rfl ?_
          obtain ⟨hp3, hw⟩ := hw
          refine vGetIN (pc := 82) (k := r78) (j := 9) hc (pn_c hp3) inG3 (hc.G _ (pn_N hp3)) (pn_0 hp3) (Nat.le_of_ble_eq_true rfl) nw_17 (pn_j hp3 rfl) dX8_bar_82 ?_
          refine vIconst (pc := 85) (v := 1) hc dX8_bar_85 ki_1 ?_
          refine vIload_n (pc := 86) hc dX8_bar_86 rfl ?_
          refine vIshl (pc := 87) hc dX8_bar_87 ?_
          refine vIxor (pc := 88) hc dX8_bar_88 ?_
          refine vPutN (pc := 89) (k := r78) (j := 9) hc (pn_c hp3) inG3 (hc.G _ (pn_N hp3)) (pn_0 hp3) (Nat.le_of_ble_eq_true rfl) tyX3 tyX3_ok nmX3 nw_17 rfl (pn_j hp3 rfl) rfl rfl dX8_bar_89 (fun σ89 eσ89 => ?_)
          have hw := hw σ89 eσ89
          refine vAload_n (pc := 92) hc dX8_bar_92 rfl ?_
          refine vGetR (pc := 93) (k := 0) (j := 3) hc rfl inG8 (hc.G 0 (Nat.le_of_ble_eq_true rfl)) rfl (Nat.le_of_ble_eq_true rfl) tw_310 rfl dX8_bar_93 ?_
          refine vIconst (pc := 96) (v := 1) hc dX8_bar_96 ki_1 ?_
          refine vIload_n (pc := 97) hc dX8_bar_97 rfl ?_
          refine vIshl (pc := 98) hc dX8_bar_98 ?_
          refine vIconst (pc := 99) (v := 1) hc dX8_bar_99 ki_1 ?_
          refine vIload_n (pc := 100) hc dX8_bar_100 rfl ?_
          refine vIshl (pc := 101) hc dX8_bar_101 ?_
          refine vIor (pc := 102) hc dX8_bar_102 ?_
          refine vCallVv (pc := 103) (st := []) hc ok_X0_forgetWith tw_347 (c_X0_forgetWith hc.2.2.2.2.2.2.1 hc.G hw) (hc.G 9 (Nat.le_of_ble_eq_true rfl)) rfl rfl rfl ⟨rfl, rfl⟩ ⟨Nat.le_of_ble_eq_true rfl, Nat.le_of_ble_eq_true rfl⟩ rfl (Nat.le_of_ble_eq_true rfl) dX8_bar_103 (fun σ103 hw => ?_)
          refine vIconst (pc := 106) (v := 1) hc dX8_bar_106 ki_1 ?_
          exact vIret (pc := 107) hc dX8_bar_107 hw
        · have hw := hw.2 c49
          refine vIconst (pc := 52) (v := 0) hc dX8_bar_52 ki_0 ?_
          exact vIret (pc := 53) hc dX8_bar_53 hw
      · have hw := hw.2 c24
        exact vMono (L2 := [some (.ref (E.2.1 0)), none, none, none]) (show subL [some (.ref (E.2.1 0)), none, none, none] [some (.ref (E.2.1 0)), some (.int x1), some (.int x2), some (.int x3)] from ⟨rfl, trivial⟩) (t_X8_bar_J27 hc   _ hw)
set_option maxRecDepth 100000 in
set_option maxHeartbeats 4000000 in
theorem c_X8_bar {l : Launch} {E : WD} (hE : inj E) (hG : ∀ k, fdm k → k ∈ E.2.2.2) {x1 x2 x3 : Int32} {σ : MS} {Q : Int32 → MS → Prop} (hw : w_X8_bar x1 x2 x3 σ Q) : Ci l E yX8_bar cX8_bar 4 (some .int) rm_X8_bar [.ref (E.2.1 0), .int x1, .int x2, .int x3] σ Q :=
  Ct_of (by decide) rfl (by
    intro v hv
    simp only [List.mem_cons, List.not_mem_nil, or_false] at hv
    rcases hv with rfl | rfl | rfl | rfl <;> rfl) (Nat.le_of_ble_eq_true rfl) hE hG (fun p e s m below meth c hc => t_X8_bar_E hc x1 x2 x3 σ hw)
def w_X8_away_E (Q : Int32 → MS → Prop) (x1 x2 : Int32) (σ : MS) : Prop := w_X2_has x1 σ (fun r5 σ5 => ((¬ r5 = 0 → w_X2_at x1 σ5 (fun r22 σ22 => ((37 ≤ r22 ∧ r22 < 46) ∧ ((¬ (σ22 r22 7) = x2 → w_X2_at x1 σ22 (fun r39 σ39 => ((37 ≤ r39 ∧ r39 < 46) ∧ (zb x2 ∧ (∀ σ43, σ43 = mst σ39 r39 7 x2 → Q 1 σ43))))) ∧ ((σ22 r22 7) = x2 → Q 0 σ22))))) ∧ (r5 = 0 → w_X8_refuse (-1) σ5 (fun r13 σ13 => Q r13 σ13))))
abbrev w_X8_away (x1 x2 : Int32) (σ : MS) (Q : Int32 → MS → Prop) : Prop := w_X8_away_E Q x1 x2 σ
abbrev rm_X8_away : Room := { frames := 1, cells := 0, slots := 0, locals := 21 }
theorem ok_X8_away : OkV yX8_away RX8 cX8_away 3 (some .int) 2 := ⟨tw_391, tw_392, tw_45, tw_393, rfl, by decide, by decide, by decide +kernel⟩
set_option maxRecDepth 100000 in
set_option maxHeartbeats 4000000 in
theorem t_X8_away_E {p : Program} {l : Launch} {e : Env} {s : State} {m : MethodId} {args : Array Value} {below : List Frame} {meth : Method} {c : Code} {E : WD} {Q : Int32 → MS → Prop} (hc : Cx p rm_X8_away s m args meth c E (AD E) cX8_away RX8 (some .int) 3 0 0 fdm) (x1 x2 : Int32) (σ : MS) (hw : w_X8_away_E Q x1 x2 σ) : V p l e rm_X8_away s m args below meth c E (AD E) 3 0 0 (MQ below (va_Qi Q (BW E) (AD E)) args s 0 0 (AD E)) σ 0 [some (.ref (E.2.1 0)), some (.int x1), some (.int x2)] [] := by
  unfold w_X8_away_E at hw
  refine vAload_n (pc := 0) hc dX8_away_0 rfl ?_
  refine vGetR (pc := 1) (k := 0) (j := 1) hc rfl inG8 (hc.G 0 (Nat.le_of_ble_eq_true rfl)) rfl (Nat.le_of_ble_eq_true rfl) tw_308 rfl dX8_away_1 ?_
  refine vIload_n (pc := 4) hc dX8_away_4 rfl ?_
  refine vCallVi (pc := 5) (st := []) hc ok_X2_has tw_379 (c_X2_has hc.2.2.2.2.2.2.1 hc.G hw) (hc.G 4 (Nat.le_of_ble_eq_true rfl)) rfl rfl rfl ⟨rfl, rfl⟩ ⟨Nat.le_of_ble_eq_true rfl, Nat.le_of_ble_eq_true rfl⟩ rfl (Nat.le_of_ble_eq_true rfl) dX8_away_5 (fun r5 σ5 hw => ?_)
  refine vIf_ne (pc := 8) (tgt := 17) hc dX8_away_8 (by decide) (fun c8 => ?_) (fun c8 => ?_)
  · have hw := hw.1 c8
    refine vAload_n (pc := 17) hc dX8_away_17 rfl ?_
    refine vGetR (pc := 18) (k := 0) (j := 1) hc rfl inG8 (hc.G 0 (Nat.le_of_ble_eq_true rfl)) rfl (Nat.le_of_ble_eq_true rfl) tw_308 rfl dX8_away_18 ?_
    refine vIload_n (pc := 21) hc dX8_away_21 rfl ?_
    refine vCallVr (pc := 22) (st := []) hc ok_X2_at tw_371 (c_X2_at hc.2.2.2.2.2.2.1 hc.G hw) (hc.G 4 (Nat.le_of_ble_eq_true rfl)) rfl rfl rfl ⟨rfl, rfl⟩ ⟨Nat.le_of_ble_eq_true rfl, Nat.le_of_ble_eq_true rfl⟩ rfl (Nat.le_of_ble_eq_true rfl) dX8_away_22 (fun r22 σ22 hw => ?_)
    obtain ⟨hp1, hw⟩ := hw
    refine vGetIN (pc := 25) (k := r22) (j := 7) hc (pn_c hp1) inG3 (hc.G _ (pn_N hp1)) (pn_0 hp1) (Nat.le_of_ble_eq_true rfl) nw_14 (pn_j hp1 rfl) dX8_away_25 ?_
    refine vIload_n (pc := 28) hc dX8_away_28 rfl ?_
    refine vIcmp_ne (pc := 29) (tgt := 34) hc dX8_away_29 (by decide) (fun c29 => ?_) (fun c29 => ?_)
    · have hw := hw.1 c29
      refine vAload_n (pc := 34) hc dX8_away_34 rfl ?_
      refine vGetR (pc := 35) (k := 0) (j := 1) hc rfl inG8 (hc.G 0 (Nat.le_of_ble_eq_true rfl)) rfl (Nat.le_of_ble_eq_true rfl) tw_308 rfl dX8_away_35 ?_
      refine vIload_n (pc := 38) hc dX8_away_38 rfl ?_
      refine vCallVr (pc := 39) (st := []) hc ok_X2_at tw_371 (c_X2_at hc.2.2.2.2.2.2.1 hc.G hw) (hc.G 4 (Nat.le_of_ble_eq_true rfl)) rfl rfl rfl ⟨rfl, rfl⟩ ⟨Nat.le_of_ble_eq_true rfl, Nat.le_of_ble_eq_true rfl⟩ rfl (Nat.le_of_ble_eq_true rfl) dX8_away_39 (fun r39 σ39 hw => ?_)
      refine vIload_n (pc := 42) hc dX8_away_42 rfl ?_
      obtain ⟨hp2, hw⟩ := hw
      obtain ⟨hz3, hw⟩ := hw
      refine vPutN (pc := 43) (k := r39) (j := 7) hc (pn_c hp2) inG3 (hc.G _ (pn_N hp2)) (pn_0 hp2) (Nat.le_of_ble_eq_true rfl) tyX3 tyX3_ok nmX3 nw_14 rfl (pn_j hp2 rfl) (zb_nar hz3) (zb_fit hz3) dX8_away_43 (fun σ43 eσ43 => ?_)
      have hw := hw σ43 eσ43
      refine vIconst (pc := 46) (v := 1) hc dX8_away_46 ki_1 ?_
      exact vIret (pc := 47) hc dX8_away_47 hw
    · have hw := hw.2 c29
      refine vIconst (pc := 32) (v := 0) hc dX8_away_32 ki_0 ?_
      exact vIret (pc := 33) hc dX8_away_33 hw
  · have hw := hw.2 c8
    refine vAload_n (pc := 11) hc dX8_away_11 rfl ?_
    refine vIconst (pc := 12) (v := (-1)) hc dX8_away_12 ki_m1 ?_
    refine vCallVi (pc := 13) (st := []) hc ok_X8_refuse tw_339 (c_X8_refuse hc.2.2.2.2.2.2.1 hc.G hw) (hc.G 0 (Nat.le_of_ble_eq_true rfl)) rfl rfl rfl ⟨rfl, rfl⟩ ⟨Nat.le_of_ble_eq_true rfl, Nat.le_of_ble_eq_true rfl⟩ rfl (Nat.le_of_ble_eq_true rfl) dX8_away_13 (fun r13 σ13 hw => ?_)
    exact vIret (pc := 16) hc dX8_away_16 hw
set_option maxRecDepth 100000 in
set_option maxHeartbeats 4000000 in
theorem c_X8_away {l : Launch} {E : WD} (hE : inj E) (hG : ∀ k, fdm k → k ∈ E.2.2.2) {x1 x2 : Int32} {σ : MS} {Q : Int32 → MS → Prop} (hw : w_X8_away x1 x2 σ Q) : Ci l E yX8_away cX8_away 3 (some .int) rm_X8_away [.ref (E.2.1 0), .int x1, .int x2] σ Q :=
  Ct_of (by decide) rfl (by
    intro v hv
    simp only [List.mem_cons, List.not_mem_nil, or_false] at hv
    rcases hv with rfl | rfl | rfl <;> rfl) (Nat.le_of_ble_eq_true rfl) hE hG (fun p e s m below meth c hc => t_X8_away_E hc x1 x2 σ hw)
def w_X8_setBroken_E (Q : Int32 → MS → Prop) (x1 x2 : Int32) (σ : MS) : Prop := w_X2_at x1 σ (fun r5 σ5 => ((37 ≤ r5 ∧ r5 < 46) ∧ ((¬ (σ5 r5 8) = x2 → w_X2_at x1 σ5 (fun r22 σ22 => ((37 ≤ r22 ∧ r22 < 46) ∧ (zb x2 ∧ (∀ σ26, σ26 = mst σ22 r22 8 x2 → w_X0_forgetWith ((1 : Int32) <<< (x1 &&& 31)) σ26 (fun σ36 => Q 1 σ36)))))) ∧ ((σ5 r5 8) = x2 → Q 0 σ5))))
abbrev w_X8_setBroken (x1 x2 : Int32) (σ : MS) (Q : Int32 → MS → Prop) : Prop := w_X8_setBroken_E Q x1 x2 σ
abbrev rm_X8_setBroken : Room := { frames := 1, cells := 0, slots := 0, locals := 22 }
theorem ok_X8_setBroken : OkV yX8_setBroken RX8 cX8_setBroken 3 (some .boolean) 2 := ⟨tw_400, tw_3, tw_45, tw_401, rfl, by decide, by decide, by decide +kernel⟩
set_option maxRecDepth 100000 in
set_option maxHeartbeats 4000000 in
theorem t_X8_setBroken_E {p : Program} {l : Launch} {e : Env} {s : State} {m : MethodId} {args : Array Value} {below : List Frame} {meth : Method} {c : Code} {E : WD} {Q : Int32 → MS → Prop} (hc : Cx p rm_X8_setBroken s m args meth c E (AD E) cX8_setBroken RX8 (some .boolean) 3 0 0 fdm) (x1 x2 : Int32) (σ : MS) (hw : w_X8_setBroken_E Q x1 x2 σ) : V p l e rm_X8_setBroken s m args below meth c E (AD E) 3 0 0 (MQ below (va_Qi Q (BW E) (AD E)) args s 0 0 (AD E)) σ 0 [some (.ref (E.2.1 0)), some (.int x1), some (.int x2)] [] := by
  unfold w_X8_setBroken_E at hw
  refine vAload_n (pc := 0) hc dX8_setBroken_0 rfl ?_
  refine vGetR (pc := 1) (k := 0) (j := 1) hc rfl inG8 (hc.G 0 (Nat.le_of_ble_eq_true rfl)) rfl (Nat.le_of_ble_eq_true rfl) tw_308 rfl dX8_setBroken_1 ?_
  refine vIload_n (pc := 4) hc dX8_setBroken_4 rfl ?_
  refine vCallVr (pc := 5) (st := []) hc ok_X2_at tw_371 (c_X2_at hc.2.2.2.2.2.2.1 hc.G hw) (hc.G 4 (Nat.le_of_ble_eq_true rfl)) rfl rfl rfl ⟨rfl, rfl⟩ ⟨Nat.le_of_ble_eq_true rfl, Nat.le_of_ble_eq_true rfl⟩ rfl (Nat.le_of_ble_eq_true rfl) dX8_setBroken_5 (fun r5 σ5 hw => ?_)
  obtain ⟨hp1, hw⟩ := hw
  refine vGetIN (pc := 8) (k := r5) (j := 8) hc (pn_c hp1) inG3 (hc.G _ (pn_N hp1)) (pn_0 hp1) (Nat.le_of_ble_eq_true rfl) nw_16 (pn_j hp1 rfl) dX8_setBroken_8 ?_
  refine vIload_n (pc := 11) hc dX8_setBroken_11 rfl ?_
  refine vIcmp_ne (pc := 12) (tgt := 17) hc dX8_setBroken_12 (by decide) (fun c12 => ?_) (fun c12 => ?_)
  · have hw := hw.1 c12
    refine vAload_n (pc := 17) hc dX8_setBroken_17 rfl ?_
    refine vGetR (pc := 18) (k := 0) (j := 1) hc rfl inG8 (hc.G 0 (Nat.le_of_ble_eq_true rfl)) rfl (Nat.le_of_ble_eq_true rfl) tw_308 rfl dX8_setBroken_18 ?_
    refine vIload_n (pc := 21) hc dX8_setBroken_21 rfl ?_
    refine vCallVr (pc := 22) (st := []) hc ok_X2_at tw_371 (c_X2_at hc.2.2.2.2.2.2.1 hc.G hw) (hc.G 4 (Nat.le_of_ble_eq_true rfl)) rfl rfl rfl ⟨rfl, rfl⟩ ⟨Nat.le_of_ble_eq_true rfl, Nat.le_of_ble_eq_true rfl⟩ rfl (Nat.le_of_ble_eq_true rfl) dX8_setBroken_22 (fun r22 σ22 hw => ?_)
    refine vIload_n (pc := 25) hc dX8_setBroken_25 rfl ?_
    obtain ⟨hp2, hw⟩ := hw
    obtain ⟨hz3, hw⟩ := hw
    refine vPutN (pc := 26) (k := r22) (j := 8) hc (pn_c hp2) inG3 (hc.G _ (pn_N hp2)) (pn_0 hp2) (Nat.le_of_ble_eq_true rfl) tyX3 tyX3_ok nmX3 nw_16 rfl (pn_j hp2 rfl) (zb_nar hz3) (zb_fit hz3) dX8_setBroken_26 (fun σ26 eσ26 => ?_)
    have hw := hw σ26 eσ26
    refine vAload_n (pc := 29) hc dX8_setBroken_29 rfl ?_
    refine vGetR (pc := 30) (k := 0) (j := 3) hc rfl inG8 (hc.G 0 (Nat.le_of_ble_eq_true rfl)) rfl (Nat.le_of_ble_eq_true rfl) tw_310 rfl dX8_setBroken_30 ?_
    refine vIconst (pc := 33) (v := 1) hc dX8_setBroken_33 ki_1 ?_
    refine vIload_n (pc := 34) hc dX8_setBroken_34 rfl ?_
    refine vIshl (pc := 35) hc dX8_setBroken_35 ?_
    refine vCallVv (pc := 36) (st := []) hc ok_X0_forgetWith tw_347 (c_X0_forgetWith hc.2.2.2.2.2.2.1 hc.G hw) (hc.G 9 (Nat.le_of_ble_eq_true rfl)) rfl rfl rfl ⟨rfl, rfl⟩ ⟨Nat.le_of_ble_eq_true rfl, Nat.le_of_ble_eq_true rfl⟩ rfl (Nat.le_of_ble_eq_true rfl) dX8_setBroken_36 (fun σ36 hw => ?_)
    refine vIconst (pc := 39) (v := 1) hc dX8_setBroken_39 ki_1 ?_
    exact vZret (pc := 40) hc dX8_setBroken_40 (Or.inr rfl) hw
  · have hw := hw.2 c12
    refine vIconst (pc := 15) (v := 0) hc dX8_setBroken_15 ki_0 ?_
    exact vZret (pc := 16) hc dX8_setBroken_16 (Or.inl rfl) hw
set_option maxRecDepth 100000 in
set_option maxHeartbeats 4000000 in
theorem c_X8_setBroken {l : Launch} {E : WD} (hE : inj E) (hG : ∀ k, fdm k → k ∈ E.2.2.2) {x1 x2 : Int32} {σ : MS} {Q : Int32 → MS → Prop} (hw : w_X8_setBroken x1 x2 σ Q) : Ci l E yX8_setBroken cX8_setBroken 3 (some .boolean) rm_X8_setBroken [.ref (E.2.1 0), .int x1, .int x2] σ Q :=
  Ct_of (by decide) rfl (by
    intro v hv
    simp only [List.mem_cons, List.not_mem_nil, or_false] at hv
    rcases hv with rfl | rfl | rfl <;> rfl) (Nat.le_of_ble_eq_true rfl) hE hG (fun p e s m below meth c hc => t_X8_setBroken_E hc x1 x2 σ hw)
def w_X8_broken_E (Q : Int32 → MS → Prop) (x1 x2 : Int32) (σ : MS) : Prop := w_X2_has x1 σ (fun r5 σ5 => ((¬ r5 = 0 → w_X8_setBroken x1 x2 σ5 (fun r20 σ20 => ((r20 = 0 → Q 0 σ20) ∧ (¬ r20 = 0 → Q 1 σ20)))) ∧ (r5 = 0 → w_X8_refuse (-1) σ5 (fun r13 σ13 => Q r13 σ13))))
abbrev w_X8_broken (x1 x2 : Int32) (σ : MS) (Q : Int32 → MS → Prop) : Prop := w_X8_broken_E Q x1 x2 σ
abbrev rm_X8_broken : Room := { frames := 2, cells := 0, slots := 0, locals := 44 }
theorem ok_X8_broken : OkV yX8_broken RX8 cX8_broken 3 (some .int) 2 := ⟨tw_395, tw_396, tw_45, tw_397, rfl, by decide, by decide, by decide +kernel⟩
set_option maxRecDepth 100000 in
set_option maxHeartbeats 4000000 in
theorem t_X8_broken_E {p : Program} {l : Launch} {e : Env} {s : State} {m : MethodId} {args : Array Value} {below : List Frame} {meth : Method} {c : Code} {E : WD} {Q : Int32 → MS → Prop} (hc : Cx p rm_X8_broken s m args meth c E (AD E) cX8_broken RX8 (some .int) 3 0 0 fdm) (x1 x2 : Int32) (σ : MS) (hw : w_X8_broken_E Q x1 x2 σ) : V p l e rm_X8_broken s m args below meth c E (AD E) 3 0 0 (MQ below (va_Qi Q (BW E) (AD E)) args s 0 0 (AD E)) σ 0 [some (.ref (E.2.1 0)), some (.int x1), some (.int x2)] [] := by
  unfold w_X8_broken_E at hw
  refine vAload_n (pc := 0) hc dX8_broken_0 rfl ?_
  refine vGetR (pc := 1) (k := 0) (j := 1) hc rfl inG8 (hc.G 0 (Nat.le_of_ble_eq_true rfl)) rfl (Nat.le_of_ble_eq_true rfl) tw_308 rfl dX8_broken_1 ?_
  refine vIload_n (pc := 4) hc dX8_broken_4 rfl ?_
  refine vCallVi (pc := 5) (st := []) hc ok_X2_has tw_379 (c_X2_has hc.2.2.2.2.2.2.1 hc.G hw) (hc.G 4 (Nat.le_of_ble_eq_true rfl)) rfl rfl rfl ⟨rfl, rfl⟩ ⟨Nat.le_of_ble_eq_true rfl, Nat.le_of_ble_eq_true rfl⟩ rfl (Nat.le_of_ble_eq_true rfl) dX8_broken_5 (fun r5 σ5 hw => ?_)
  refine vIf_ne (pc := 8) (tgt := 17) hc dX8_broken_8 (by decide) (fun c8 => ?_) (fun c8 => ?_)
  · have hw := hw.1 c8
    refine vAload_n (pc := 17) hc dX8_broken_17 rfl ?_
    refine vIload_n (pc := 18) hc dX8_broken_18 rfl ?_
    refine vIload_n (pc := 19) hc dX8_broken_19 rfl ?_
    refine vCallVi (pc := 20) (st := []) hc ok_X8_setBroken tw_398 (c_X8_setBroken hc.2.2.2.2.2.2.1 hc.G hw) (hc.G 0 (Nat.le_of_ble_eq_true rfl)) rfl rfl rfl ⟨rfl, rfl⟩ ⟨Nat.le_of_ble_eq_true rfl, Nat.le_of_ble_eq_true rfl⟩ rfl (Nat.le_of_ble_eq_true rfl) dX8_broken_20 (fun r20 σ20 hw => ?_)
    refine vIf_eq (pc := 23) (tgt := 30) hc dX8_broken_23 (by decide) (fun c23 => ?_) (fun c23 => ?_)
    · have hw := hw.1 c23
      refine vIconst (pc := 30) (v := 0) hc dX8_broken_30 ki_0 ?_
      exact vIret (pc := 31) hc dX8_broken_31 hw
    · have hw := hw.2 c23
      refine vIconst (pc := 26) (v := 1) hc dX8_broken_26 ki_1 ?_
      refine vGoto (pc := 27) (tgt := 31) hc dX8_broken_27 (by decide) ?_
      exact vIret (pc := 31) hc dX8_broken_31 hw
  · have hw := hw.2 c8
    refine vAload_n (pc := 11) hc dX8_broken_11 rfl ?_
    refine vIconst (pc := 12) (v := (-1)) hc dX8_broken_12 ki_m1 ?_
    refine vCallVi (pc := 13) (st := []) hc ok_X8_refuse tw_339 (c_X8_refuse hc.2.2.2.2.2.2.1 hc.G hw) (hc.G 0 (Nat.le_of_ble_eq_true rfl)) rfl rfl rfl ⟨rfl, rfl⟩ ⟨Nat.le_of_ble_eq_true rfl, Nat.le_of_ble_eq_true rfl⟩ rfl (Nat.le_of_ble_eq_true rfl) dX8_broken_13 (fun r13 σ13 hw => ?_)
    exact vIret (pc := 16) hc dX8_broken_16 hw
set_option maxRecDepth 100000 in
set_option maxHeartbeats 4000000 in
theorem c_X8_broken {l : Launch} {E : WD} (hE : inj E) (hG : ∀ k, fdm k → k ∈ E.2.2.2) {x1 x2 : Int32} {σ : MS} {Q : Int32 → MS → Prop} (hw : w_X8_broken x1 x2 σ Q) : Ci l E yX8_broken cX8_broken 3 (some .int) rm_X8_broken [.ref (E.2.1 0), .int x1, .int x2] σ Q :=
  Ct_of (by decide) rfl (by
    intro v hv
    simp only [List.mem_cons, List.not_mem_nil, or_false] at hv
    rcases hv with rfl | rfl | rfl <;> rfl) (Nat.le_of_ble_eq_true rfl) hE hG (fun p e s m below meth c hc => t_X8_broken_E hc x1 x2 σ hw)
def w_X8_wrongSet_E (Q : Int32 → MS → Prop) (x1 : Int32) (σ : MS) : Prop := w_X2_hasAll x1 σ (fun r5 σ5 => ((r5 = 0 → Q (-1) σ5) ∧ (¬ r5 = 0 → w_J6_bitCount_0f7a4 x1 σ5 (fun r12 σ12 => ((r12 ≤ 4 → w_X2_someAway x1 σ12 (fun r26 σ26 => ((r26 = 0 → Q 0 σ26) ∧ (¬ r26 = 0 → Q (-3) σ26)))) ∧ (¬ r12 ≤ 4 → Q (-1) σ12))))))
abbrev w_X8_wrongSet (x1 : Int32) (σ : MS) (Q : Int32 → MS → Prop) : Prop := w_X8_wrongSet_E Q x1 σ
abbrev rm_X8_wrongSet : Room := { frames := 2, cells := 0, slots := 0, locals := 43 }
theorem ok_X8_wrongSet : OkV yX8_wrongSet RX8 cX8_wrongSet 2 (some .int) 1 := ⟨tw_412, tw_5, tw_45, tw_413, rfl, by decide, by decide, by decide +kernel⟩
set_option maxRecDepth 100000 in
set_option maxHeartbeats 4000000 in
theorem t_X8_wrongSet_E {p : Program} {l : Launch} {e : Env} {s : State} {m : MethodId} {args : Array Value} {below : List Frame} {meth : Method} {c : Code} {E : WD} {Q : Int32 → MS → Prop} (hc : Cx p rm_X8_wrongSet s m args meth c E (AD E) cX8_wrongSet RX8 (some .int) 2 0 0 fdm) (x1 : Int32) (σ : MS) (hw : w_X8_wrongSet_E Q x1 σ) : V p l e rm_X8_wrongSet s m args below meth c E (AD E) 2 0 0 (MQ below (va_Qi Q (BW E) (AD E)) args s 0 0 (AD E)) σ 0 [some (.ref (E.2.1 0)), some (.int x1)] [] := by
  unfold w_X8_wrongSet_E at hw
  refine vAload_n (pc := 0) hc dX8_wrongSet_0 rfl ?_
  refine vGetR (pc := 1) (k := 0) (j := 1) hc rfl inG8 (hc.G 0 (Nat.le_of_ble_eq_true rfl)) rfl (Nat.le_of_ble_eq_true rfl) tw_308 rfl dX8_wrongSet_1 ?_
  refine vIload_n (pc := 4) hc dX8_wrongSet_4 rfl ?_
  refine vCallVi (pc := 5) (st := []) hc ok_X2_hasAll tw_414 (c_X2_hasAll hc.2.2.2.2.2.2.1 hc.G hw) (hc.G 4 (Nat.le_of_ble_eq_true rfl)) rfl rfl rfl ⟨rfl, rfl⟩ ⟨Nat.le_of_ble_eq_true rfl, Nat.le_of_ble_eq_true rfl⟩ rfl (Nat.le_of_ble_eq_true rfl) dX8_wrongSet_5 (fun r5 σ5 hw => ?_)
  refine vIf_eq (pc := 8) (tgt := 19) hc dX8_wrongSet_8 (by decide) (fun c8 => ?_) (fun c8 => ?_)
  · have hw := hw.1 c8
    refine vIconst (pc := 19) (v := (-1)) hc dX8_wrongSet_19 ki_m1 ?_
    exact vIret (pc := 20) hc dX8_wrongSet_20 hw
  · have hw := hw.2 c8
    refine vIload_n (pc := 11) hc dX8_wrongSet_11 rfl ?_
    refine vCallSi (pc := 12) (st := []) hc ok_J6_bitCount_0f7a4 tw_418 (c_J6_bitCount_0f7a4 hc.2.2.2.2.2.2.1 hc.G hw) rfl ⟨rfl, rfl⟩ ⟨Nat.le_of_ble_eq_true rfl, Nat.le_of_ble_eq_true rfl⟩ rfl (Nat.le_of_ble_eq_true rfl) dX8_wrongSet_12 (fun r12 σ12 hw => ?_)
    refine vIconst (pc := 15) (v := 4) hc dX8_wrongSet_15 ki_4 ?_
    refine vIcmp_le (pc := 16) (tgt := 21) hc dX8_wrongSet_16 (by decide) (fun c16 => ?_) (fun c16 => ?_)
    · have hw := hw.1 c16
      refine vAload_n (pc := 21) hc dX8_wrongSet_21 rfl ?_
      refine vGetR (pc := 22) (k := 0) (j := 1) hc rfl inG8 (hc.G 0 (Nat.le_of_ble_eq_true rfl)) rfl (Nat.le_of_ble_eq_true rfl) tw_308 rfl dX8_wrongSet_22 ?_
      refine vIload_n (pc := 25) hc dX8_wrongSet_25 rfl ?_
      refine vCallVi (pc := 26) (st := []) hc ok_X2_someAway tw_424 (c_X2_someAway hc.2.2.2.2.2.2.1 hc.G hw) (hc.G 4 (Nat.le_of_ble_eq_true rfl)) rfl rfl rfl ⟨rfl, rfl⟩ ⟨Nat.le_of_ble_eq_true rfl, Nat.le_of_ble_eq_true rfl⟩ rfl (Nat.le_of_ble_eq_true rfl) dX8_wrongSet_26 (fun r26 σ26 hw => ?_)
      refine vIf_eq (pc := 29) (tgt := 37) hc dX8_wrongSet_29 (by decide) (fun c29 => ?_) (fun c29 => ?_)
      · have hw := hw.1 c29
        refine vIconst (pc := 37) (v := 0) hc dX8_wrongSet_37 ki_0 ?_
        exact vIret (pc := 38) hc dX8_wrongSet_38 hw
      · have hw := hw.2 c29
        refine vBipush (pc := 32) (v := (-3)) hc dX8_wrongSet_32 kb_m3 ?_
        refine vGoto (pc := 34) (tgt := 38) hc dX8_wrongSet_34 (by decide) ?_
        exact vIret (pc := 38) hc dX8_wrongSet_38 hw
    · have hw := hw.2 c16
      refine vIconst (pc := 19) (v := (-1)) hc dX8_wrongSet_19 ki_m1 ?_
      exact vIret (pc := 20) hc dX8_wrongSet_20 hw
set_option maxRecDepth 100000 in
set_option maxHeartbeats 4000000 in
theorem c_X8_wrongSet {l : Launch} {E : WD} (hE : inj E) (hG : ∀ k, fdm k → k ∈ E.2.2.2) {x1 : Int32} {σ : MS} {Q : Int32 → MS → Prop} (hw : w_X8_wrongSet x1 σ Q) : Ci l E yX8_wrongSet cX8_wrongSet 2 (some .int) rm_X8_wrongSet [.ref (E.2.1 0), .int x1] σ Q :=
  Ct_of (by decide) rfl (by
    intro v hv
    simp only [List.mem_cons, List.not_mem_nil, or_false] at hv
    rcases hv with rfl | rfl <;> rfl) (Nat.le_of_ble_eq_true rfl) hE hG (fun p e s m below meth c hc => t_X8_wrongSet_E hc x1 σ hw)
def w_X8_wrongRide_E (Q : Int32 → MS → Prop) (x1 x2 : Int32) (σ : MS) : Prop := w_X2_has x2 σ (fun r5 σ5 => ((r5 = 0 → Q (-1) σ5) ∧ (¬ r5 = 0 → w_X8_contains x1 x2 σ5 (fun r13 σ13 => ((¬ r13 = 0 → w_X8_wrongSet x1 σ13 (fun r23 σ23 => Q r23 σ23)) ∧ (r13 = 0 → Q (-1) σ13))))))
abbrev w_X8_wrongRide (x1 x2 : Int32) (σ : MS) (Q : Int32 → MS → Prop) : Prop := w_X8_wrongRide_E Q x1 x2 σ
abbrev rm_X8_wrongRide : Room := { frames := 3, cells := 0, slots := 0, locals := 64 }
theorem ok_X8_wrongRide : OkV yX8_wrongRide RX8 cX8_wrongRide 3 (some .int) 2 := ⟨tw_408, tw_4, tw_45, tw_409, rfl, by decide, by decide, by decide +kernel⟩
set_option maxRecDepth 100000 in
set_option maxHeartbeats 4000000 in
theorem t_X8_wrongRide_E {p : Program} {l : Launch} {e : Env} {s : State} {m : MethodId} {args : Array Value} {below : List Frame} {meth : Method} {c : Code} {E : WD} {Q : Int32 → MS → Prop} (hc : Cx p rm_X8_wrongRide s m args meth c E (AD E) cX8_wrongRide RX8 (some .int) 3 0 0 fdm) (x1 x2 : Int32) (σ : MS) (hw : w_X8_wrongRide_E Q x1 x2 σ) : V p l e rm_X8_wrongRide s m args below meth c E (AD E) 3 0 0 (MQ below (va_Qi Q (BW E) (AD E)) args s 0 0 (AD E)) σ 0 [some (.ref (E.2.1 0)), some (.int x1), some (.int x2)] [] := by
  unfold w_X8_wrongRide_E at hw
  refine vAload_n (pc := 0) hc dX8_wrongRide_0 rfl ?_
  refine vGetR (pc := 1) (k := 0) (j := 1) hc rfl inG8 (hc.G 0 (Nat.le_of_ble_eq_true rfl)) rfl (Nat.le_of_ble_eq_true rfl) tw_308 rfl dX8_wrongRide_1 ?_
  refine vIload_n (pc := 4) hc dX8_wrongRide_4 rfl ?_
  refine vCallVi (pc := 5) (st := []) hc ok_X2_has tw_379 (c_X2_has hc.2.2.2.2.2.2.1 hc.G hw) (hc.G 4 (Nat.le_of_ble_eq_true rfl)) rfl rfl rfl ⟨rfl, rfl⟩ ⟨Nat.le_of_ble_eq_true rfl, Nat.le_of_ble_eq_true rfl⟩ rfl (Nat.le_of_ble_eq_true rfl) dX8_wrongRide_5 (fun r5 σ5 hw => ?_)
  refine vIf_eq (pc := 8) (tgt := 19) hc dX8_wrongRide_8 (by decide) (fun c8 => ?_) (fun c8 => ?_)
  · have hw := hw.1 c8
    refine vIconst (pc := 19) (v := (-1)) hc dX8_wrongRide_19 ki_m1 ?_
    exact vIret (pc := 20) hc dX8_wrongRide_20 hw
  · have hw := hw.2 c8
    refine vIload_n (pc := 11) hc dX8_wrongRide_11 rfl ?_
    refine vIload_n (pc := 12) hc dX8_wrongRide_12 rfl ?_
    refine vCallSi (pc := 13) (st := []) hc ok_X8_contains tw_387 (c_X8_contains hc.2.2.2.2.2.2.1 hc.G hw) rfl ⟨rfl, rfl⟩ ⟨Nat.le_of_ble_eq_true rfl, Nat.le_of_ble_eq_true rfl⟩ rfl (Nat.le_of_ble_eq_true rfl) dX8_wrongRide_13 (fun r13 σ13 hw => ?_)
    refine vIf_ne (pc := 16) (tgt := 21) hc dX8_wrongRide_16 (by decide) (fun c16 => ?_) (fun c16 => ?_)
    · have hw := hw.1 c16
      refine vAload_n (pc := 21) hc dX8_wrongRide_21 rfl ?_
      refine vIload_n (pc := 22) hc dX8_wrongRide_22 rfl ?_
      refine vCallVi (pc := 23) (st := []) hc ok_X8_wrongSet tw_410 (c_X8_wrongSet hc.2.2.2.2.2.2.1 hc.G hw) (hc.G 0 (Nat.le_of_ble_eq_true rfl)) rfl rfl rfl ⟨rfl, rfl⟩ ⟨Nat.le_of_ble_eq_true rfl, Nat.le_of_ble_eq_true rfl⟩ rfl (Nat.le_of_ble_eq_true rfl) dX8_wrongRide_23 (fun r23 σ23 hw => ?_)
      exact vIret (pc := 26) hc dX8_wrongRide_26 hw
    · have hw := hw.2 c16
      refine vIconst (pc := 19) (v := (-1)) hc dX8_wrongRide_19 ki_m1 ?_
      exact vIret (pc := 20) hc dX8_wrongRide_20 hw
set_option maxRecDepth 100000 in
set_option maxHeartbeats 4000000 in
theorem c_X8_wrongRide {l : Launch} {E : WD} (hE : inj E) (hG : ∀ k, fdm k → k ∈ E.2.2.2) {x1 x2 : Int32} {σ : MS} {Q : Int32 → MS → Prop} (hw : w_X8_wrongRide x1 x2 σ Q) : Ci l E yX8_wrongRide cX8_wrongRide 3 (some .int) rm_X8_wrongRide [.ref (E.2.1 0), .int x1, .int x2] σ Q :=
  Ct_of (by decide) rfl (by
    intro v hv
    simp only [List.mem_cons, List.not_mem_nil, or_false] at hv
    rcases hv with rfl | rfl | rfl <;> rfl) (Nat.le_of_ble_eq_true rfl) hE hG (fun p e s m below meth c hc => t_X8_wrongRide_E hc x1 x2 σ hw)
def w_X8_fits_E (Q : Int32 → MS → Prop) (x1 x2 : Int32) (σ : MS) : Prop := w_X8_wrongRide x1 x2 σ (fun r3 σ3 => ((r3 = 0 → w_X7_reasonAgainst x1 x2 σ3 (fun r23 σ23 => ((¬ r23 = 0 → Q (-9) σ23) ∧ (r23 = 0 → w_X7_found  σ23 (fun r33 σ33 => r33 = 8 ∧ Q (σ33 8 6) σ33))))) ∧ (¬ r3 = 0 → w_X8_refuse r3 σ3 (fun r13 σ13 => Q r13 σ13))))
abbrev w_X8_fits (x1 x2 : Int32) (σ : MS) (Q : Int32 → MS → Prop) : Prop := w_X8_fits_E Q x1 x2 σ
abbrev rm_X8_fits : Room := { frames := 16, cells := 0, slots := 0, locals := 482 }
theorem ok_X8_fits : OkV yX8_fits RX8 cX8_fits 4 (some .int) 2 := ⟨tw_403, tw_404, tw_45, tw_405, rfl, by decide, by decide, by decide +kernel⟩
set_option maxRecDepth 100000 in
set_option maxHeartbeats 4000000 in
theorem t_X8_fits_E {p : Program} {l : Launch} {e : Env} {s : State} {m : MethodId} {args : Array Value} {below : List Frame} {meth : Method} {c : Code} {E : WD} {Q : Int32 → MS → Prop} (hc : Cx p rm_X8_fits s m args meth c E (AD E) cX8_fits RX8 (some .int) 4 0 0 fdm) (x1 x2 : Int32) (σ : MS) (hw : w_X8_fits_E Q x1 x2 σ) : V p l e rm_X8_fits s m args below meth c E (AD E) 4 0 0 (MQ below (va_Qi Q (BW E) (AD E)) args s 0 0 (AD E)) σ 0 [some (.ref (E.2.1 0)), some (.int x1), some (.int x2), none] [] := by
  unfold w_X8_fits_E at hw
  refine vAload_n (pc := 0) hc dX8_fits_0 rfl ?_
  refine vIload_n (pc := 1) hc dX8_fits_1 rfl ?_
  refine vIload_n (pc := 2) hc dX8_fits_2 rfl ?_
  refine vCallVi (pc := 3) (st := []) hc ok_X8_wrongRide tw_406 (c_X8_wrongRide hc.2.2.2.2.2.2.1 hc.G hw) (hc.G 0 (Nat.le_of_ble_eq_true rfl)) rfl rfl rfl ⟨rfl, rfl⟩ ⟨Nat.le_of_ble_eq_true rfl, Nat.le_of_ble_eq_true rfl⟩ rfl (Nat.le_of_ble_eq_true rfl) dX8_fits_3 (fun r3 σ3 hw => ?_)
  refine vIstore_n (pc := 6) (L2 := [some (.ref (E.2.1 0)), some (.int x1), some (.int x2), some (.int r3)]) hc dX8_fits_6 rfl (Nat.le_of_ble_eq_true rfl) ?_
  refine vIload_n (pc := 7) hc dX8_fits_7 rfl ?_
  refine vIf_eq (pc := 8) (tgt := 17) hc dX8_fits_8 (by decide) (fun c8 => ?_) (fun c8 => ?_)
  · have hw := hw.1 c8
    refine vAload_n (pc := 17) hc dX8_fits_17 rfl ?_
    refine vGetR (pc := 18) (k := 0) (j := 2) hc rfl inG8 (hc.G 0 (Nat.le_of_ble_eq_true rfl)) rfl (Nat.le_of_ble_eq_true rfl) tw_309 rfl dX8_fits_18 ?_
    refine vIload_n (pc := 21) hc dX8_fits_21 rfl ?_
    refine vIload_n (pc := 22) hc dX8_fits_22 rfl ?_
    refine vCallVi (pc := 23) (st := []) hc ok_X7_reasonAgainst tw_432 (c_X7_reasonAgainst hc.2.2.2.2.2.2.1 hc.G hw) (hc.G 6 (Nat.le_of_ble_eq_true rfl)) rfl rfl rfl ⟨rfl, rfl⟩ ⟨Nat.le_of_ble_eq_true rfl, Nat.le_of_ble_eq_true rfl⟩ rfl (Nat.le_of_ble_eq_true rfl) dX8_fits_23 (fun r23 σ23 hw => ?_)
    refine vIf_ne (pc := 26) (tgt := 42) hc dX8_fits_26 (by decide) (fun c26 => ?_) (fun c26 => ?_)
    · have hw := hw.1 c26
      refine vBipush (pc := 42) (v := (-9)) hc dX8_fits_42 kb_m9 ?_
      exact vIret (pc := 44) hc dX8_fits_44 hw
    · have hw := hw.2 c26
      refine vAload_n (pc := 29) hc dX8_fits_29 rfl ?_
      refine vGetR (pc := 30) (k := 0) (j := 2) hc rfl inG8 (hc.G 0 (Nat.le_of_ble_eq_true rfl)) rfl (Nat.le_of_ble_eq_true rfl) tw_309 rfl dX8_fits_30 ?_
      refine vCallVr (pc := 33) (st := []) hc ok_X7_found tw_486 (c_X7_found hc.2.2.2.2.2.2.1 hc.G hw) (hc.G 6 (Nat.le_of_ble_eq_true rfl)) rfl rfl rfl ⟨rfl, rfl⟩ ⟨Nat.le_of_ble_eq_true rfl, Nat.le_of_ble_eq_true rfl⟩ rfl (Nat.le_of_ble_eq_true rfl) dX8_fits_33 (fun r33 σ33 hw => ?_)
      obtain ⟨er33, hw⟩ := hw
      subst er33
      refine vGetIN (pc := 36) (k := 8) (j := 6) hc rfl inG6 (hc.G 8 (Nat.le_of_ble_eq_true rfl)) rfl (Nat.le_of_ble_eq_true rfl) nw_34 rfl dX8_fits_36 ?_
      refine vGoto (pc := 39) (tgt := 44) hc dX8_fits_39 (by decide) ?_
      exact vIret (pc := 44) hc dX8_fits_44 hw
  · have hw := hw.2 c8
    refine vAload_n (pc := 11) hc dX8_fits_11 rfl ?_
    refine vIload_n (pc := 12) hc dX8_fits_12 rfl ?_
    refine vCallVi (pc := 13) (st := []) hc ok_X8_refuse tw_339 (c_X8_refuse hc.2.2.2.2.2.2.1 hc.G hw) (hc.G 0 (Nat.le_of_ble_eq_true rfl)) rfl rfl rfl ⟨rfl, rfl⟩ ⟨Nat.le_of_ble_eq_true rfl, Nat.le_of_ble_eq_true rfl⟩ rfl (Nat.le_of_ble_eq_true rfl) dX8_fits_13 (fun r13 σ13 hw => ?_)
    exact vIret (pc := 16) hc dX8_fits_16 hw
set_option maxRecDepth 100000 in
set_option maxHeartbeats 4000000 in
theorem c_X8_fits {l : Launch} {E : WD} (hE : inj E) (hG : ∀ k, fdm k → k ∈ E.2.2.2) {x1 x2 : Int32} {σ : MS} {Q : Int32 → MS → Prop} (hw : w_X8_fits x1 x2 σ Q) : Ci l E yX8_fits cX8_fits 4 (some .int) rm_X8_fits [.ref (E.2.1 0), .int x1, .int x2] σ Q :=
  Ct_of (by decide) rfl (by
    intro v hv
    simp only [List.mem_cons, List.not_mem_nil, or_false] at hv
    rcases hv with rfl | rfl | rfl <;> rfl) (Nat.le_of_ble_eq_true rfl) hE hG (fun p e s m below meth c hc => t_X8_fits_E hc x1 x2 σ hw)
def w_X8_why_E (Q : Int32 → MS → Prop) (x1 x2 : Int32) (σ : MS) : Prop := w_X8_wrongRide x1 x2 σ (fun r3 σ3 => ((r3 = 0 → w_X7_reasonAgainst x1 x2 σ3 (fun r23 σ23 => Q r23 σ23)) ∧ (¬ r3 = 0 → w_X8_refuse r3 σ3 (fun r13 σ13 => Q r13 σ13))))
abbrev w_X8_why (x1 x2 : Int32) (σ : MS) (Q : Int32 → MS → Prop) : Prop := w_X8_why_E Q x1 x2 σ
abbrev rm_X8_why : Room := { frames := 16, cells := 0, slots := 0, locals := 482 }
theorem ok_X8_why : OkV yX8_why RX8 cX8_why 4 (some .int) 2 := ⟨tw_491, tw_492, tw_45, tw_493, rfl, by decide, by decide, by decide +kernel⟩
set_option maxRecDepth 100000 in
set_option maxHeartbeats 4000000 in
theorem t_X8_why_E {p : Program} {l : Launch} {e : Env} {s : State} {m : MethodId} {args : Array Value} {below : List Frame} {meth : Method} {c : Code} {E : WD} {Q : Int32 → MS → Prop} (hc : Cx p rm_X8_why s m args meth c E (AD E) cX8_why RX8 (some .int) 4 0 0 fdm) (x1 x2 : Int32) (σ : MS) (hw : w_X8_why_E Q x1 x2 σ) : V p l e rm_X8_why s m args below meth c E (AD E) 4 0 0 (MQ below (va_Qi Q (BW E) (AD E)) args s 0 0 (AD E)) σ 0 [some (.ref (E.2.1 0)), some (.int x1), some (.int x2), none] [] := by
  unfold w_X8_why_E at hw
  refine vAload_n (pc := 0) hc dX8_why_0 rfl ?_
  refine vIload_n (pc := 1) hc dX8_why_1 rfl ?_
  refine vIload_n (pc := 2) hc dX8_why_2 rfl ?_
  refine vCallVi (pc := 3) (st := []) hc ok_X8_wrongRide tw_406 (c_X8_wrongRide hc.2.2.2.2.2.2.1 hc.G hw) (hc.G 0 (Nat.le_of_ble_eq_true rfl)) rfl rfl rfl ⟨rfl, rfl⟩ ⟨Nat.le_of_ble_eq_true rfl, Nat.le_of_ble_eq_true rfl⟩ rfl (Nat.le_of_ble_eq_true rfl) dX8_why_3 (fun r3 σ3 hw => ?_)
  refine vIstore_n (pc := 6) (L2 := [some (.ref (E.2.1 0)), some (.int x1), some (.int x2), some (.int r3)]) hc dX8_why_6 rfl (Nat.le_of_ble_eq_true rfl) ?_
  refine vIload_n (pc := 7) hc dX8_why_7 rfl ?_
  refine vIf_eq (pc := 8) (tgt := 17) hc dX8_why_8 (by decide) (fun c8 => ?_) (fun c8 => ?_)
  · have hw := hw.1 c8
    refine vAload_n (pc := 17) hc dX8_why_17 rfl ?_
    refine vGetR (pc := 18) (k := 0) (j := 2) hc rfl inG8 (hc.G 0 (Nat.le_of_ble_eq_true rfl)) rfl (Nat.le_of_ble_eq_true rfl) tw_309 rfl dX8_why_18 ?_
    refine vIload_n (pc := 21) hc dX8_why_21 rfl ?_
    refine vIload_n (pc := 22) hc dX8_why_22 rfl ?_
    refine vCallVi (pc := 23) (st := []) hc ok_X7_reasonAgainst tw_432 (c_X7_reasonAgainst hc.2.2.2.2.2.2.1 hc.G hw) (hc.G 6 (Nat.le_of_ble_eq_true rfl)) rfl rfl rfl ⟨rfl, rfl⟩ ⟨Nat.le_of_ble_eq_true rfl, Nat.le_of_ble_eq_true rfl⟩ rfl (Nat.le_of_ble_eq_true rfl) dX8_why_23 (fun r23 σ23 hw => ?_)
    exact vIret (pc := 26) hc dX8_why_26 hw
  · have hw := hw.2 c8
    refine vAload_n (pc := 11) hc dX8_why_11 rfl ?_
    refine vIload_n (pc := 12) hc dX8_why_12 rfl ?_
    refine vCallVi (pc := 13) (st := []) hc ok_X8_refuse tw_339 (c_X8_refuse hc.2.2.2.2.2.2.1 hc.G hw) (hc.G 0 (Nat.le_of_ble_eq_true rfl)) rfl rfl rfl ⟨rfl, rfl⟩ ⟨Nat.le_of_ble_eq_true rfl, Nat.le_of_ble_eq_true rfl⟩ rfl (Nat.le_of_ble_eq_true rfl) dX8_why_13 (fun r13 σ13 hw => ?_)
    exact vIret (pc := 16) hc dX8_why_16 hw
set_option maxRecDepth 100000 in
set_option maxHeartbeats 4000000 in
theorem c_X8_why {l : Launch} {E : WD} (hE : inj E) (hG : ∀ k, fdm k → k ∈ E.2.2.2) {x1 x2 : Int32} {σ : MS} {Q : Int32 → MS → Prop} (hw : w_X8_why x1 x2 σ Q) : Ci l E yX8_why cX8_why 4 (some .int) rm_X8_why [.ref (E.2.1 0), .int x1, .int x2] σ Q :=
  Ct_of (by decide) rfl (by
    intro v hv
    simp only [List.mem_cons, List.not_mem_nil, or_false] at hv
    rcases hv with rfl | rfl | rfl <;> rfl) (Nat.le_of_ble_eq_true rfl) hE hG (fun p e s m below meth c hc => t_X8_why_E hc x1 x2 σ hw)
def w_X8_way_E (Q : Int32 → MS → Prop) (x1 x2 x3 : Int32) (σ : MS) : Prop := w_X8_wrongRide x1 x2 σ (fun r3 σ3 => ((r3 = 0 → w_X7_reasonAgainst x1 x2 σ3 (fun r26 σ26 => ((r26 = 0 → w_X7_found  σ26 (fun r39 σ39 => r39 = 8 ∧ w_X6_tell x3 σ39 (fun r43 σ43 => Q r43 σ43))) ∧ (¬ r26 = 0 → Q (-9) σ26)))) ∧ (¬ r3 = 0 → w_X8_refuse r3 σ3 (fun r16 σ16 => Q r16 σ16))))
abbrev w_X8_way (x1 x2 x3 : Int32) (σ : MS) (Q : Int32 → MS → Prop) : Prop := w_X8_way_E Q x1 x2 x3 σ
abbrev rm_X8_way : Room := { frames := 16, cells := 0, slots := 0, locals := 482 }
theorem ok_X8_way : OkV yX8_way RX8 cX8_way 5 (some .int) 3 := ⟨tw_495, tw_496, tw_45, tw_497, rfl, by decide, by decide, by decide +kernel⟩
set_option maxRecDepth 100000 in
set_option maxHeartbeats 4000000 in
theorem t_X8_way_E {p : Program} {l : Launch} {e : Env} {s : State} {m : MethodId} {args : Array Value} {below : List Frame} {meth : Method} {c : Code} {E : WD} {Q : Int32 → MS → Prop} (hc : Cx p rm_X8_way s m args meth c E (AD E) cX8_way RX8 (some .int) 5 0 0 fdm) (x1 x2 x3 : Int32) (σ : MS) (hw : w_X8_way_E Q x1 x2 x3 σ) : V p l e rm_X8_way s m args below meth c E (AD E) 5 0 0 (MQ below (va_Qi Q (BW E) (AD E)) args s 0 0 (AD E)) σ 0 [some (.ref (E.2.1 0)), some (.int x1), some (.int x2), some (.int x3), none] [] := by
  unfold w_X8_way_E at hw
  refine vAload_n (pc := 0) hc dX8_way_0 rfl ?_
  refine vIload_n (pc := 1) hc dX8_way_1 rfl ?_
  refine vIload_n (pc := 2) hc dX8_way_2 rfl ?_
  refine vCallVi (pc := 3) (st := []) hc ok_X8_wrongRide tw_406 (c_X8_wrongRide hc.2.2.2.2.2.2.1 hc.G hw) (hc.G 0 (Nat.le_of_ble_eq_true rfl)) rfl rfl rfl ⟨rfl, rfl⟩ ⟨Nat.le_of_ble_eq_true rfl, Nat.le_of_ble_eq_true rfl⟩ rfl (Nat.le_of_ble_eq_true rfl) dX8_way_3 (fun r3 σ3 hw => ?_)
  refine vIstore (pc := 6) (L2 := [some (.ref (E.2.1 0)), some (.int x1), some (.int x2), some (.int x3), some (.int r3)]) hc dX8_way_6 rfl (Nat.le_of_ble_eq_true rfl) ?_
  refine vIload (pc := 8) hc dX8_way_8 rfl ?_
  refine vIf_eq (pc := 10) (tgt := 20) hc dX8_way_10 (by decide) (fun c10 => ?_) (fun c10 => ?_)
  · have hw := hw.1 c10
    refine vAload_n (pc := 20) hc dX8_way_20 rfl ?_
    refine vGetR (pc := 21) (k := 0) (j := 2) hc rfl inG8 (hc.G 0 (Nat.le_of_ble_eq_true rfl)) rfl (Nat.le_of_ble_eq_true rfl) tw_309 rfl dX8_way_21 ?_
    refine vIload_n (pc := 24) hc dX8_way_24 rfl ?_
    refine vIload_n (pc := 25) hc dX8_way_25 rfl ?_
    refine vCallVi (pc := 26) (st := []) hc ok_X7_reasonAgainst tw_432 (c_X7_reasonAgainst hc.2.2.2.2.2.2.1 hc.G hw) (hc.G 6 (Nat.le_of_ble_eq_true rfl)) rfl rfl rfl ⟨rfl, rfl⟩ ⟨Nat.le_of_ble_eq_true rfl, Nat.le_of_ble_eq_true rfl⟩ rfl (Nat.le_of_ble_eq_true rfl) dX8_way_26 (fun r26 σ26 hw => ?_)
    refine vIf_eq (pc := 29) (tgt := 35) hc dX8_way_29 (by decide) (fun c29 => ?_) (fun c29 => ?_)
    · have hw := hw.1 c29
      refine vAload_n (pc := 35) hc dX8_way_35 rfl ?_
      refine vGetR (pc := 36) (k := 0) (j := 2) hc rfl inG8 (hc.G 0 (Nat.le_of_ble_eq_true rfl)) rfl (Nat.le_of_ble_eq_true rfl) tw_309 rfl dX8_way_36 ?_
      refine vCallVr (pc := 39) (st := []) hc ok_X7_found tw_486 (c_X7_found hc.2.2.2.2.2.2.1 hc.G hw) (hc.G 6 (Nat.le_of_ble_eq_true rfl)) rfl rfl rfl ⟨rfl, rfl⟩ ⟨Nat.le_of_ble_eq_true rfl, Nat.le_of_ble_eq_true rfl⟩ rfl (Nat.le_of_ble_eq_true rfl) dX8_way_39 (fun r39 σ39 hw => ?_)
      obtain ⟨er39, hw⟩ := hw
      subst er39
      refine vIload_n (pc := 42) hc dX8_way_42 rfl ?_
      refine vCallVi (pc := 43) (st := []) hc ok_X6_tell tw_498 (c_X6_tell hc.2.2.2.2.2.2.1 hc.G hw) (hc.G 8 (Nat.le_of_ble_eq_true rfl)) rfl rfl rfl ⟨rfl, rfl⟩ ⟨Nat.le_of_ble_eq_true rfl, Nat.le_of_ble_eq_true rfl⟩ rfl (Nat.le_of_ble_eq_true rfl) dX8_way_43 (fun r43 σ43 hw => ?_)
      exact vIret (pc := 46) hc dX8_way_46 hw
    · have hw := hw.2 c29
      refine vBipush (pc := 32) (v := (-9)) hc dX8_way_32 kb_m9 ?_
      exact vIret (pc := 34) hc dX8_way_34 hw
  · have hw := hw.2 c10
    refine vAload_n (pc := 13) hc dX8_way_13 rfl ?_
    refine vIload (pc := 14) hc dX8_way_14 rfl ?_
    refine vCallVi (pc := 16) (st := []) hc ok_X8_refuse tw_339 (c_X8_refuse hc.2.2.2.2.2.2.1 hc.G hw) (hc.G 0 (Nat.le_of_ble_eq_true rfl)) rfl rfl rfl ⟨rfl, rfl⟩ ⟨Nat.le_of_ble_eq_true rfl, Nat.le_of_ble_eq_true rfl⟩ rfl (Nat.le_of_ble_eq_true rfl) dX8_way_16 (fun r16 σ16 hw => ?_)
    exact vIret (pc := 19) hc dX8_way_19 hw
set_option maxRecDepth 100000 in
set_option maxHeartbeats 4000000 in
theorem c_X8_way {l : Launch} {E : WD} (hE : inj E) (hG : ∀ k, fdm k → k ∈ E.2.2.2) {x1 x2 x3 : Int32} {σ : MS} {Q : Int32 → MS → Prop} (hw : w_X8_way x1 x2 x3 σ Q) : Ci l E yX8_way cX8_way 5 (some .int) rm_X8_way [.ref (E.2.1 0), .int x1, .int x2, .int x3] σ Q :=
  Ct_of (by decide) rfl (by
    intro v hv
    simp only [List.mem_cons, List.not_mem_nil, or_false] at hv
    rcases hv with rfl | rfl | rfl | rfl <;> rfl) (Nat.le_of_ble_eq_true rfl) hE hG (fun p e s m below meth c hc => t_X8_way_E hc x1 x2 x3 σ hw)
def w_X8_cost_E (Q : Int32 → MS → Prop) (x1 : Int32) (σ : MS) : Prop := w_X8_wrongSet x1 σ (fun r2 σ2 => ((r2 = 0 → w_X0_learn x1 σ2 (fun σ21 => w_X0_minutesFor x1 σ21 (fun r29 σ29 => Q r29 σ29))) ∧ (¬ r2 = 0 → w_X8_refuse r2 σ2 (fun r12 σ12 => Q r12 σ12))))
abbrev w_X8_cost (x1 : Int32) (σ : MS) (Q : Int32 → MS → Prop) : Prop := w_X8_cost_E Q x1 σ
abbrev rm_X8_cost : Room := { frames := 17, cells := 0, slots := 0, locals := 504 }
theorem ok_X8_cost : OkV yX8_cost RX8 cX8_cost 3 (some .int) 1 := ⟨tw_503, tw_504, tw_45, tw_505, rfl, by decide, by decide, by decide +kernel⟩
set_option maxRecDepth 100000 in
set_option maxHeartbeats 4000000 in
theorem t_X8_cost_E {p : Program} {l : Launch} {e : Env} {s : State} {m : MethodId} {args : Array Value} {below : List Frame} {meth : Method} {c : Code} {E : WD} {Q : Int32 → MS → Prop} (hc : Cx p rm_X8_cost s m args meth c E (AD E) cX8_cost RX8 (some .int) 3 0 0 fdm) (x1 : Int32) (σ : MS) (hw : w_X8_cost_E Q x1 σ) : V p l e rm_X8_cost s m args below meth c E (AD E) 3 0 0 (MQ below (va_Qi Q (BW E) (AD E)) args s 0 0 (AD E)) σ 0 [some (.ref (E.2.1 0)), some (.int x1), none] [] := by
  unfold w_X8_cost_E at hw
  refine vAload_n (pc := 0) hc dX8_cost_0 rfl ?_
  refine vIload_n (pc := 1) hc dX8_cost_1 rfl ?_
  refine vCallVi (pc := 2) (st := []) hc ok_X8_wrongSet tw_410 (c_X8_wrongSet hc.2.2.2.2.2.2.1 hc.G hw) (hc.G 0 (Nat.le_of_ble_eq_true rfl)) rfl rfl rfl ⟨rfl, rfl⟩ ⟨Nat.le_of_ble_eq_true rfl, Nat.le_of_ble_eq_true rfl⟩ rfl (Nat.le_of_ble_eq_true rfl) dX8_cost_2 (fun r2 σ2 hw => ?_)
  refine vIstore_n (pc := 5) (L2 := [some (.ref (E.2.1 0)), some (.int x1), some (.int r2)]) hc dX8_cost_5 rfl (Nat.le_of_ble_eq_true rfl) ?_
  refine vIload_n (pc := 6) hc dX8_cost_6 rfl ?_
  refine vIf_eq (pc := 7) (tgt := 16) hc dX8_cost_7 (by decide) (fun c7 => ?_) (fun c7 => ?_)
  · have hw := hw.1 c7
    refine vAload_n (pc := 16) hc dX8_cost_16 rfl ?_
    refine vGetR (pc := 17) (k := 0) (j := 3) hc rfl inG8 (hc.G 0 (Nat.le_of_ble_eq_true rfl)) rfl (Nat.le_of_ble_eq_true rfl) tw_310 rfl dX8_cost_17 ?_
    refine vIload_n (pc := 20) hc dX8_cost_20 rfl ?_
    refine vCallVv (pc := 21) (st := []) hc ok_X0_learn tw_506 (c_X0_learn hc.2.2.2.2.2.2.1 hc.G hw) (hc.G 9 (Nat.le_of_ble_eq_true rfl)) rfl rfl rfl ⟨rfl, rfl⟩ ⟨Nat.le_of_ble_eq_true rfl, Nat.le_of_ble_eq_true rfl⟩ rfl (Nat.le_of_ble_eq_true rfl) dX8_cost_21 (fun σ21 hw => ?_)
    refine vAload_n (pc := 24) hc dX8_cost_24 rfl ?_
    refine vGetR (pc := 25) (k := 0) (j := 3) hc rfl inG8 (hc.G 0 (Nat.le_of_ble_eq_true rfl)) rfl (Nat.le_of_ble_eq_true rfl) tw_310 rfl dX8_cost_25 ?_
    refine vIload_n (pc := 28) hc dX8_cost_28 rfl ?_
    refine vCallVi (pc := 29) (st := []) hc ok_X0_minutesFor tw_517 (c_X0_minutesFor hc.2.2.2.2.2.2.1 hc.G hw) (hc.G 9 (Nat.le_of_ble_eq_true rfl)) rfl rfl rfl ⟨rfl, rfl⟩ ⟨Nat.le_of_ble_eq_true rfl, Nat.le_of_ble_eq_true rfl⟩ rfl (Nat.le_of_ble_eq_true rfl) dX8_cost_29 (fun r29 σ29 hw => ?_)
    exact vIret (pc := 32) hc dX8_cost_32 hw
  · have hw := hw.2 c7
    refine vAload_n (pc := 10) hc dX8_cost_10 rfl ?_
    refine vIload_n (pc := 11) hc dX8_cost_11 rfl ?_
    refine vCallVi (pc := 12) (st := []) hc ok_X8_refuse tw_339 (c_X8_refuse hc.2.2.2.2.2.2.1 hc.G hw) (hc.G 0 (Nat.le_of_ble_eq_true rfl)) rfl rfl rfl ⟨rfl, rfl⟩ ⟨Nat.le_of_ble_eq_true rfl, Nat.le_of_ble_eq_true rfl⟩ rfl (Nat.le_of_ble_eq_true rfl) dX8_cost_12 (fun r12 σ12 hw => ?_)
    exact vIret (pc := 15) hc dX8_cost_15 hw
set_option maxRecDepth 100000 in
set_option maxHeartbeats 4000000 in
theorem c_X8_cost {l : Launch} {E : WD} (hE : inj E) (hG : ∀ k, fdm k → k ∈ E.2.2.2) {x1 : Int32} {σ : MS} {Q : Int32 → MS → Prop} (hw : w_X8_cost x1 σ Q) : Ci l E yX8_cost cX8_cost 3 (some .int) rm_X8_cost [.ref (E.2.1 0), .int x1] σ Q :=
  Ct_of (by decide) rfl (by
    intro v hv
    simp only [List.mem_cons, List.not_mem_nil, or_false] at hv
    rcases hv with rfl | rfl <;> rfl) (Nat.le_of_ble_eq_true rfl) hE hG (fun p e s m below meth c hc => t_X8_cost_E hc x1 σ hw)
def w_X8_driver_E (Q : Int32 → MS → Prop) (x1 : Int32) (σ : MS) : Prop := w_X8_wrongSet x1 σ (fun r2 σ2 => ((r2 = 0 → w_X0_learn x1 σ2 (fun σ21 => w_X0_driverFor x1 σ21 (fun r29 σ29 => Q r29 σ29))) ∧ (¬ r2 = 0 → w_X8_refuse r2 σ2 (fun r12 σ12 => Q r12 σ12))))
abbrev w_X8_driver (x1 : Int32) (σ : MS) (Q : Int32 → MS → Prop) : Prop := w_X8_driver_E Q x1 σ
abbrev rm_X8_driver : Room := { frames := 17, cells := 0, slots := 0, locals := 504 }
theorem ok_X8_driver : OkV yX8_driver RX8 cX8_driver 3 (some .int) 1 := ⟨tw_522, tw_523, tw_45, tw_524, rfl, by decide, by decide, by decide +kernel⟩
set_option maxRecDepth 100000 in
set_option maxHeartbeats 4000000 in
theorem t_X8_driver_E {p : Program} {l : Launch} {e : Env} {s : State} {m : MethodId} {args : Array Value} {below : List Frame} {meth : Method} {c : Code} {E : WD} {Q : Int32 → MS → Prop} (hc : Cx p rm_X8_driver s m args meth c E (AD E) cX8_driver RX8 (some .int) 3 0 0 fdm) (x1 : Int32) (σ : MS) (hw : w_X8_driver_E Q x1 σ) : V p l e rm_X8_driver s m args below meth c E (AD E) 3 0 0 (MQ below (va_Qi Q (BW E) (AD E)) args s 0 0 (AD E)) σ 0 [some (.ref (E.2.1 0)), some (.int x1), none] [] := by
  unfold w_X8_driver_E at hw
  refine vAload_n (pc := 0) hc dX8_driver_0 rfl ?_
  refine vIload_n (pc := 1) hc dX8_driver_1 rfl ?_
  refine vCallVi (pc := 2) (st := []) hc ok_X8_wrongSet tw_410 (c_X8_wrongSet hc.2.2.2.2.2.2.1 hc.G hw) (hc.G 0 (Nat.le_of_ble_eq_true rfl)) rfl rfl rfl ⟨rfl, rfl⟩ ⟨Nat.le_of_ble_eq_true rfl, Nat.le_of_ble_eq_true rfl⟩ rfl (Nat.le_of_ble_eq_true rfl) dX8_driver_2 (fun r2 σ2 hw => ?_)
  refine vIstore_n (pc := 5) (L2 := [some (.ref (E.2.1 0)), some (.int x1), some (.int r2)]) hc dX8_driver_5 rfl (Nat.le_of_ble_eq_true rfl) ?_
  refine vIload_n (pc := 6) hc dX8_driver_6 rfl ?_
  refine vIf_eq (pc := 7) (tgt := 16) hc dX8_driver_7 (by decide) (fun c7 => ?_) (fun c7 => ?_)
  · have hw := hw.1 c7
    refine vAload_n (pc := 16) hc dX8_driver_16 rfl ?_
    refine vGetR (pc := 17) (k := 0) (j := 3) hc rfl inG8 (hc.G 0 (Nat.le_of_ble_eq_true rfl)) rfl (Nat.le_of_ble_eq_true rfl) tw_310 rfl dX8_driver_17 ?_
    refine vIload_n (pc := 20) hc dX8_driver_20 rfl ?_
    refine vCallVv (pc := 21) (st := []) hc ok_X0_learn tw_506 (c_X0_learn hc.2.2.2.2.2.2.1 hc.G hw) (hc.G 9 (Nat.le_of_ble_eq_true rfl)) rfl rfl rfl ⟨rfl, rfl⟩ ⟨Nat.le_of_ble_eq_true rfl, Nat.le_of_ble_eq_true rfl⟩ rfl (Nat.le_of_ble_eq_true rfl) dX8_driver_21 (fun σ21 hw => ?_)
    refine vAload_n (pc := 24) hc dX8_driver_24 rfl ?_
    refine vGetR (pc := 25) (k := 0) (j := 3) hc rfl inG8 (hc.G 0 (Nat.le_of_ble_eq_true rfl)) rfl (Nat.le_of_ble_eq_true rfl) tw_310 rfl dX8_driver_25 ?_
    refine vIload_n (pc := 28) hc dX8_driver_28 rfl ?_
    refine vCallVi (pc := 29) (st := []) hc ok_X0_driverFor tw_525 (c_X0_driverFor hc.2.2.2.2.2.2.1 hc.G hw) (hc.G 9 (Nat.le_of_ble_eq_true rfl)) rfl rfl rfl ⟨rfl, rfl⟩ ⟨Nat.le_of_ble_eq_true rfl, Nat.le_of_ble_eq_true rfl⟩ rfl (Nat.le_of_ble_eq_true rfl) dX8_driver_29 (fun r29 σ29 hw => ?_)
    exact vIret (pc := 32) hc dX8_driver_32 hw
  · have hw := hw.2 c7
    refine vAload_n (pc := 10) hc dX8_driver_10 rfl ?_
    refine vIload_n (pc := 11) hc dX8_driver_11 rfl ?_
    refine vCallVi (pc := 12) (st := []) hc ok_X8_refuse tw_339 (c_X8_refuse hc.2.2.2.2.2.2.1 hc.G hw) (hc.G 0 (Nat.le_of_ble_eq_true rfl)) rfl rfl rfl ⟨rfl, rfl⟩ ⟨Nat.le_of_ble_eq_true rfl, Nat.le_of_ble_eq_true rfl⟩ rfl (Nat.le_of_ble_eq_true rfl) dX8_driver_12 (fun r12 σ12 hw => ?_)
    exact vIret (pc := 15) hc dX8_driver_15 hw
set_option maxRecDepth 100000 in
set_option maxHeartbeats 4000000 in
theorem c_X8_driver {l : Launch} {E : WD} (hE : inj E) (hG : ∀ k, fdm k → k ∈ E.2.2.2) {x1 : Int32} {σ : MS} {Q : Int32 → MS → Prop} (hw : w_X8_driver x1 σ Q) : Ci l E yX8_driver cX8_driver 3 (some .int) rm_X8_driver [.ref (E.2.1 0), .int x1] σ Q :=
  Ct_of (by decide) rfl (by
    intro v hv
    simp only [List.mem_cons, List.not_mem_nil, or_false] at hv
    rcases hv with rfl | rfl <;> rfl) (Nat.le_of_ble_eq_true rfl) hE hG (fun p e s m below meth c hc => t_X8_driver_E hc x1 σ hw)
def w_X8_whoseTurn_J47 (K5 : Int32 → Int32 → Int32 → MS → Prop) (Q : Int32 → MS → Prop) (x1 x2 x3 s0 : Int32) (σ : MS) : Prop := w_X8_contains x1 x3 σ (fun r51 σ51 => ((r51 = 0 → K5 x1 x2 (x3 + 1) σ51) ∧ (¬ r51 = 0 → ((s0 = 0 → K5 x1 x2 (x3 + 1) σ51) ∧ (¬ s0 = 0 → w_X7_reasonAgainst x1 x3 σ51 (fun r68 σ68 => ((¬ r68 = 0 → K5 x1 x2 (x3 + 1) σ68) ∧ (r68 = 0 → K5 x1 x3 (x3 + 1) σ68))))))))
def w_X8_whoseTurn_J42 (K5 : Int32 → Int32 → Int32 → MS → Prop) (Q : Int32 → MS → Prop) (x1 x2 x3 : Int32) (σ : MS) : Prop := w_X8_whoseTurn_J47 K5 Q x1 x2 x3 1 σ
def w_X8_whoseTurn_H5 (Q : Int32 → MS → Prop) : Nat → Int32 → Int32 → Int32 → MS → Prop
  | 0, _, _, _, _ => False
  | n + 1, x1, x2, x3, σ => ((9 ≤ x3 → Q x2 σ) ∧ (¬ 9 ≤ x3 → ((x2 = (-9) → w_X8_whoseTurn_J42 (fun x1 x2 x3 σ => w_X8_whoseTurn_H5 Q n x1 x2 x3 σ) Q x1 x2 x3 σ) ∧ (¬ x2 = (-9) → w_X2_at x3 σ (fun r22 σ22 => ((37 ≤ r22 ∧ r22 < 46) ∧ w_X2_at x2 σ22 (fun r33 σ33 => ((37 ≤ r33 ∧ r33 < 46) ∧ (((σ33 r33 10) ≤ (σ22 r22 10) → w_X8_whoseTurn_J47 (fun x1 x2 x3 σ => w_X8_whoseTurn_H5 Q n x1 x2 x3 σ) Q x1 x2 x3 0 σ33) ∧ (¬ (σ33 r33 10) ≤ (σ22 r22 10) → w_X8_whoseTurn_J42 (fun x1 x2 x3 σ => w_X8_whoseTurn_H5 Q n x1 x2 x3 σ) Q x1 x2 x3 σ33))))))))))
def w_X8_whoseTurn_E (Q : Int32 → MS → Prop) (x1 : Int32) (σ : MS) : Prop := (∃ n5, w_X8_whoseTurn_H5 Q n5 x1 (-9) 0 σ)
abbrev w_X8_whoseTurn (x1 : Int32) (σ : MS) (Q : Int32 → MS → Prop) : Prop := w_X8_whoseTurn_E Q x1 σ
abbrev rm_X8_whoseTurn : Room := { frames := 16, cells := 0, slots := 0, locals := 482 }
theorem ok_X8_whoseTurn : OkV yX8_whoseTurn RX8 cX8_whoseTurn 5 (some .int) 1 := ⟨tw_535, tw_12, tw_45, tw_536, rfl, by decide, by decide, by decide +kernel⟩
set_option maxRecDepth 100000 in
set_option maxHeartbeats 4000000 in
theorem t_X8_whoseTurn_J47 {p : Program} {l : Launch} {e : Env} {s : State} {m : MethodId} {args : Array Value} {below : List Frame} {meth : Method} {c : Code} {E : WD} {Q : Int32 → MS → Prop} (hc : Cx p rm_X8_whoseTurn s m args meth c E (AD E) cX8_whoseTurn RX8 (some .int) 5 0 0 fdm) {K5 : Int32 → Int32 → Int32 → MS → Prop} (hK5 : ∀ (x1 x2 x3 : Int32) (σ : MS), K5 x1 x2 x3 σ → V p l e rm_X8_whoseTurn s m args below meth c E (AD E) 5 0 0 (MQ below (va_Qi Q (BW E) (AD E)) args s 0 0 (AD E)) σ 5 [some (.ref (E.2.1 0)), some (.int x1), some (.int x2), some (.int x3), none] []) (x1 x2 x3 s0 : Int32) (σ : MS) (hw : w_X8_whoseTurn_J47 K5 Q x1 x2 x3 s0 σ) : V p l e rm_X8_whoseTurn s m args below meth c E (AD E) 5 0 0 (MQ below (va_Qi Q (BW E) (AD E)) args s 0 0 (AD E)) σ 47 [some (.ref (E.2.1 0)), some (.int x1), some (.int x2), some (.int x3), none] [(.int s0)] := by
  unfold w_X8_whoseTurn_J47 at hw
  refine vIstore (pc := 47) (L2 := [some (.ref (E.2.1 0)), some (.int x1), some (.int x2), some (.int x3), some (.int s0)]) hc dX8_whoseTurn_47 rfl (Nat.le_of_ble_eq_true rfl) ?_
  refine vIload_n (pc := 49) hc dX8_whoseTurn_49 rfl ?_
  refine vIload_n (pc := 50) hc dX8_whoseTurn_50 rfl ?_
  refine vCallSi (pc := 51) (st := []) hc ok_X8_contains tw_387 (c_X8_contains hc.2.2.2.2.2.2.1 hc.G hw) rfl ⟨rfl, rfl⟩ ⟨Nat.le_of_ble_eq_true rfl, Nat.le_of_ble_eq_true rfl⟩ rfl (Nat.le_of_ble_eq_true rfl) dX8_whoseTurn_51 (fun r51 σ51 hw => ?_)
  refine vIf_eq (pc := 54) (tgt := 76) hc dX8_whoseTurn_54 (by decide) (fun c54 => ?_) (fun c54 => ?_)
  · have hw := hw.1 c54
    refine vIinc (pc := 76) (v := x3 + 1) (L2 := [some (.ref (E.2.1 0)), some (.int x1), some (.int x2), some (.int (x3 + 1)), some (.int s0)]) hc dX8_whoseTurn_76 rfl rfl rfl (Nat.le_of_ble_eq_true rfl) ?_
    refine vGoto (pc := 79) (tgt := 5) hc dX8_whoseTurn_79 (by decide) ?_
    exact vMono (L2 := [some (.ref (E.2.1 0)), some (.int x1), some (.int x2), some (.int (x3 + 1)), none]) (show subL [some (.ref (E.2.1 0)), some (.int x1), some (.int x2), some (.int (x3 + 1)), none] [some (.ref (E.2.1 0)), some (.int x1), some (.int x2), some (.int (x3 + 1)), some (.int s0)] from ⟨rfl, ⟨rfl, ⟨rfl, ⟨rfl, trivial⟩⟩⟩⟩) (hK5 x1 x2 (x3 + 1) _ hw)
  · have hw := hw.2 c54
    refine vIload (pc := 57) hc dX8_whoseTurn_57 rfl ?_
    refine vIf_eq (pc := 59) (tgt := 76) hc dX8_whoseTurn_59 (by decide) (fun c59 => ?_) (fun c59 => ?_)
    · have hw := hw.1 c59
      refine vIinc (pc := 76) (v := x3 + 1) (L2 := [some (.ref (E.2.1 0)), some (.int x1), some (.int x2), some (.int (x3 + 1)), some (.int s0)]) hc dX8_whoseTurn_76 rfl rfl rfl (Nat.le_of_ble_eq_true rfl) ?_
      refine vGoto (pc := 79) (tgt := 5) hc dX8_whoseTurn_79 (by decide) ?_
      exact vMono (L2 := [some (.ref (E.2.1 0)), some (.int x1), some (.int x2), some (.int (x3 + 1)), none]) (show subL [some (.ref (E.2.1 0)), some (.int x1), some (.int x2), some (.int (x3 + 1)), none] [some (.ref (E.2.1 0)), some (.int x1), some (.int x2), some (.int (x3 + 1)), some (.int s0)] from ⟨rfl, ⟨rfl, ⟨rfl, ⟨rfl, trivial⟩⟩⟩⟩) (hK5 x1 x2 (x3 + 1) _ hw)
    · have hw := hw.2 c59
      refine vAload_n (pc := 62) hc dX8_whoseTurn_62 rfl ?_
      refine vGetR (pc := 63) (k := 0) (j := 2) hc rfl inG8 (hc.G 0 (Nat.le_of_ble_eq_true rfl)) rfl (Nat.le_of_ble_eq_true rfl) tw_309 rfl dX8_whoseTurn_63 ?_
      refine vIload_n (pc := 66) hc dX8_whoseTurn_66 rfl ?_
      refine vIload_n (pc := 67) hc dX8_whoseTurn_67 rfl ?_
      refine vCallVi (pc := 68) (st := []) hc ok_X7_reasonAgainst tw_432 (c_X7_reasonAgainst hc.2.2.2.2.2.2.1 hc.G hw) (hc.G 6 (Nat.le_of_ble_eq_true rfl)) rfl rfl rfl ⟨rfl, rfl⟩ ⟨Nat.le_of_ble_eq_true rfl, Nat.le_of_ble_eq_true rfl⟩ rfl (Nat.le_of_ble_eq_true rfl) dX8_whoseTurn_68 (fun r68 σ68 hw => ?_)
      refine vIf_ne (pc := 71) (tgt := 76) hc dX8_whoseTurn_71 (by decide) (fun c71 => ?_) (fun c71 => ?_)
      · have hw := hw.1 c71
        refine vIinc (pc := 76) (v := x3 + 1) (L2 := [some (.ref (E.2.1 0)), some (.int x1), some (.int x2), some (.int (x3 + 1)), some (.int s0)]) hc dX8_whoseTurn_76 rfl rfl rfl (Nat.le_of_ble_eq_true rfl) ?_
        refine vGoto (pc := 79) (tgt := 5) hc dX8_whoseTurn_79 (by decide) ?_
        exact vMono (L2 := [some (.ref (E.2.1 0)), some (.int x1), some (.int x2), some (.int (x3 + 1)), none]) (show subL [some (.ref (E.2.1 0)), some (.int x1), some (.int x2), some (.int (x3 + 1)), none] [some (.ref (E.2.1 0)), some (.int x1), some (.int x2), some (.int (x3 + 1)), some (.int s0)] from ⟨rfl, ⟨rfl, ⟨rfl, ⟨rfl, trivial⟩⟩⟩⟩) (hK5 x1 x2 (x3 + 1) _ hw)
      · have hw := hw.2 c71
        refine vIload_n (pc := 74) hc dX8_whoseTurn_74 rfl ?_
        refine vIstore_n (pc := 75) (L2 := [some (.ref (E.2.1 0)), some (.int x1), some (.int x3), some (.int x3), some (.int s0)]) hc dX8_whoseTurn_75 rfl (Nat.le_of_ble_eq_true rfl) ?_
        refine vIinc (pc := 76) (v := x3 + 1) (L2 := [some (.ref (E.2.1 0)), some (.int x1), some (.int x3), some (.int (x3 + 1)), some (.int s0)]) hc dX8_whoseTurn_76 rfl rfl rfl (Nat.le_of_ble_eq_true rfl) ?_
        refine vGoto (pc := 79) (tgt := 5) hc dX8_whoseTurn_79 (by decide) ?_
        exact vMono (L2 := [some (.ref (E.2.1 0)), some (.int x1), some (.int x3), some (.int (x3 + 1)), none]) (show subL [some (.ref (E.2.1 0)), some (.int x1), some (.int x3), some (.int (x3 + 1)), none] [some (.ref (E.2.1 0)), some (.int x1), some (.int x3), some (.int (x3 + 1)), some (.int s0)] from ⟨rfl, ⟨rfl, ⟨rfl, ⟨rfl, trivial⟩⟩⟩⟩) (hK5 x1 x3 (x3 + 1) _ hw)
set_option maxRecDepth 100000 in
set_option maxHeartbeats 4000000 in
theorem t_X8_whoseTurn_J42 {p : Program} {l : Launch} {e : Env} {s : State} {m : MethodId} {args : Array Value} {below : List Frame} {meth : Method} {c : Code} {E : WD} {Q : Int32 → MS → Prop} (hc : Cx p rm_X8_whoseTurn s m args meth c E (AD E) cX8_whoseTurn RX8 (some .int) 5 0 0 fdm) {K5 : Int32 → Int32 → Int32 → MS → Prop} (hK5 : ∀ (x1 x2 x3 : Int32) (σ : MS), K5 x1 x2 x3 σ → V p l e rm_X8_whoseTurn s m args below meth c E (AD E) 5 0 0 (MQ below (va_Qi Q (BW E) (AD E)) args s 0 0 (AD E)) σ 5 [some (.ref (E.2.1 0)), some (.int x1), some (.int x2), some (.int x3), none] []) (x1 x2 x3 : Int32) (σ : MS) (hw : w_X8_whoseTurn_J42 K5 Q x1 x2 x3 σ) : V p l e rm_X8_whoseTurn s m args below meth c E (AD E) 5 0 0 (MQ below (va_Qi Q (BW E) (AD E)) args s 0 0 (AD E)) σ 42 [some (.ref (E.2.1 0)), some (.int x1), some (.int x2), some (.int x3), none] [] := by
  unfold w_X8_whoseTurn_J42 at hw
  refine vIconst (pc := 42) (v := 1) hc dX8_whoseTurn_42 ki_1 ?_
  refine vGoto (pc := 43) (tgt := 47) hc dX8_whoseTurn_43 (by decide) ?_
  exact vMono (L2 := [some (.ref (E.2.1 0)), some (.int x1), some (.int x2), some (.int x3), none]) (show subL [some (.ref (E.2.1 0)), some (.int x1), some (.int x2), some (.int x3), none] [some (.ref (E.2.1 0)), some (.int x1), some (.int x2), some (.int x3), none] from ⟨rfl, ⟨rfl, ⟨rfl, ⟨rfl, trivial⟩⟩⟩⟩) (t_X8_whoseTurn_J47 hc hK5 x1 x2 x3 1 _ hw)
set_option maxRecDepth 100000 in
set_option maxHeartbeats 4000000 in
theorem t_X8_whoseTurn_H5 {p : Program} {l : Launch} {e : Env} {s : State} {m : MethodId} {args : Array Value} {below : List Frame} {meth : Method} {c : Code} {E : WD} {Q : Int32 → MS → Prop} (hc : Cx p rm_X8_whoseTurn s m args meth c E (AD E) cX8_whoseTurn RX8 (some .int) 5 0 0 fdm) : ∀ (n : Nat) (x1 x2 x3 : Int32) (σ : MS), w_X8_whoseTurn_H5 Q n x1 x2 x3 σ → V p l e rm_X8_whoseTurn s m args below meth c E (AD E) 5 0 0 (MQ below (va_Qi Q (BW E) (AD E)) args s 0 0 (AD E)) σ 5 [some (.ref (E.2.1 0)), some (.int x1), some (.int x2), some (.int x3), none] [] := by
  intro n
  induction n with
  | zero =>
    intro x1 x2 x3 σ hw
    exact hw.elim
  | succ n ih =>
    intro x1 x2 x3 σ hw
    unfold w_X8_whoseTurn_H5 at hw
    refine vIload_n (pc := 5) hc dX8_whoseTurn_5 rfl ?_
    refine vBipush (pc := 6) (v := 9) hc dX8_whoseTurn_6 kb_9 ?_
    refine vIcmp_ge (pc := 8) (tgt := 82) hc dX8_whoseTurn_8 (by decide) (fun c8 => ?_) (fun c8 => ?_)
    · have hw := hw.1 c8
      refine vIload_n (pc := 82) hc dX8_whoseTurn_82 rfl ?_
      exact vIret (pc := 83) hc dX8_whoseTurn_83 hw
    · have hw := hw.2 c8
      refine vIload_n (pc := 11) hc dX8_whoseTurn_11 rfl ?_
      refine vBipush (pc := 12) (v := (-9)) hc dX8_whoseTurn_12 kb_m9 ?_
      refine vIcmp_eq (pc := 14) (tgt := 42) hc dX8_whoseTurn_14 (by decide) (fun c14 => ?_) (fun c14 => ?_)
      · have hw := hw.1 c14
        exact vMono (L2 := [some (.ref (E.2.1 0)), some (.int x1), some (.int x2), some (.int x3), none]) (show subL [some (.ref (E.2.1 0)), some (.int x1), some (.int x2), some (.int x3), none] [some (.ref (E.2.1 0)), some (.int x1), some (.int x2), some (.int x3), none] from ⟨rfl, ⟨rfl, ⟨rfl, ⟨rfl, trivial⟩⟩⟩⟩) (t_X8_whoseTurn_J42 hc (fun x1 x2 x3 σ hw => ih x1 x2 x3 σ hw) x1 x2 x3 _ hw)
      · have hw := hw.2 c14
        refine vAload_n (pc := 17) hc dX8_whoseTurn_17 rfl ?_
        refine vGetR (pc := 18) (k := 0) (j := 1) hc rfl inG8 (hc.G 0 (Nat.le_of_ble_eq_true rfl)) rfl (Nat.le_of_ble_eq_true rfl) tw_308 rfl dX8_whoseTurn_18 ?_
        refine vIload_n (pc := 21) hc dX8_whoseTurn_21 rfl ?_
        refine vCallVr (pc := 22) (st := []) hc ok_X2_at tw_371 (c_X2_at hc.2.2.2.2.2.2.1 hc.G hw) (hc.G 4 (Nat.le_of_ble_eq_true rfl)) rfl rfl rfl ⟨rfl, rfl⟩ ⟨Nat.le_of_ble_eq_true rfl, Nat.le_of_ble_eq_true rfl⟩ rfl (Nat.le_of_ble_eq_true rfl) dX8_whoseTurn_22 (fun r22 σ22 hw => ?_)
        obtain ⟨hp1, hw⟩ := hw
        refine vGetIN (pc := 25) (k := r22) (j := 10) hc (pn_c hp1) inG3 (hc.G _ (pn_N hp1)) (pn_0 hp1) (Nat.le_of_ble_eq_true rfl) nw_19 (pn_j hp1 rfl) dX8_whoseTurn_25 ?_
        refine vAload_n (pc := 28) hc dX8_whoseTurn_28 rfl ?_
        refine vGetR (pc := 29) (k := 0) (j := 1) hc rfl inG8 (hc.G 0 (Nat.le_of_ble_eq_true rfl)) rfl (Nat.le_of_ble_eq_true rfl) tw_308 rfl dX8_whoseTurn_29 ?_
        refine vIload_n (pc := 32) hc dX8_whoseTurn_32 rfl ?_
        refine vCallVr (pc := 33) (st := [(.int (σ22 r22 10))]) hc ok_X2_at tw_371 (c_X2_at hc.2.2.2.2.2.2.1 hc.G hw) (hc.G 4 (Nat.le_of_ble_eq_true rfl)) rfl rfl rfl ⟨rfl, rfl⟩ ⟨Nat.le_of_ble_eq_true rfl, Nat.le_of_ble_eq_true rfl⟩ rfl (Nat.le_of_ble_eq_true rfl) dX8_whoseTurn_33 (fun r33 σ33 hw => ?_)
        obtain ⟨hp2, hw⟩ := hw
        refine vGetIN (pc := 36) (k := r33) (j := 10) hc (pn_c hp2) inG3 (hc.G _ (pn_N hp2)) (pn_0 hp2) (Nat.le_of_ble_eq_true rfl) nw_19 (pn_j hp2 rfl) dX8_whoseTurn_36 ?_
        refine vIcmp_ge (pc := 39) (tgt := 46) hc dX8_whoseTurn_39 (by decide) (fun c39 => ?_) (fun c39 => ?_)
        · have hw := hw.1 c39
          refine vIconst (pc := 46) (v := 0) hc dX8_whoseTurn_46 ki_0 ?_
          exact vMono (L2 := [some (.ref (E.2.1 0)), some (.int x1), some (.int x2), some (.int x3), none]) (show subL [some (.ref (E.2.1 0)), some (.int x1), some (.int x2), some (.int x3), none] [some (.ref (E.2.1 0)), some (.int x1), some (.int x2), some (.int x3), none] from ⟨rfl, ⟨rfl, ⟨rfl, ⟨rfl, trivial⟩⟩⟩⟩) (t_X8_whoseTurn_J47 hc (fun x1 x2 x3 σ hw => ih x1 x2 x3 σ hw) x1 x2 x3 0 _ hw)
        · have hw := hw.2 c39
          exact vMono (L2 := [some (.ref (E.2.1 0)), some (.int x1), some (.int x2), some (.int x3), none]) (show subL [some (.ref (E.2.1 0)), some (.int x1), some (.int x2), some (.int x3), none] [some (.ref (E.2.1 0)), some (.int x1), some (.int x2), some (.int x3), none] from ⟨rfl, ⟨rfl, ⟨rfl, ⟨rfl, trivial⟩⟩⟩⟩) (t_X8_whoseTurn_J42 hc (fun x1 x2 x3 σ hw => ih x1 x2 x3 σ hw) x1 x2 x3 _ hw)
set_option maxRecDepth 100000 in
set_option maxHeartbeats 4000000 in
theorem t_X8_whoseTurn_E {p : Program} {l : Launch} {e : Env} {s : State} {m : MethodId} {args : Array Value} {below : List Frame} {meth : Method} {c : Code} {E : WD} {Q : Int32 → MS → Prop} (hc : Cx p rm_X8_whoseTurn s m args meth c E (AD E) cX8_whoseTurn RX8 (some .int) 5 0 0 fdm) (x1 : Int32) (σ : MS) (hw : w_X8_whoseTurn_E Q x1 σ) : V p l e rm_X8_whoseTurn s m args below meth c E (AD E) 5 0 0 (MQ below (va_Qi Q (BW E) (AD E)) args s 0 0 (AD E)) σ 0 [some (.ref (E.2.1 0)), some (.int x1), none, none, none] [] := by
  unfold w_X8_whoseTurn_E at hw
  refine vBipush (pc := 0) (v := (-9)) hc dX8_whoseTurn_0 kb_m9 ?_
  refine vIstore_n (pc := 2) (L2 := [some (.ref (E.2.1 0)), some (.int x1), some (.int (-9)), none, none]) hc dX8_whoseTurn_2 rfl (Nat.le_of_ble_eq_true rfl) ?_
  refine vIconst (pc := 3) (v := 0) hc dX8_whoseTurn_3 ki_0 ?_
  refine vIstore_n (pc := 4) (L2 := [some (.ref (E.2.1 0)), some (.int x1), some (.int (-9)), some (.int 0), none]) hc dX8_whoseTurn_4 rfl (Nat.le_of_ble_eq_true rfl) ?_
  obtain ⟨n5, hw⟩ := hw
  exact vMono (L2 := [some (.ref (E.2.1 0)), some (.int x1), some (.int (-9)), some (.int 0), none]) (show subL [some (.ref (E.2.1 0)), some (.int x1), some (.int (-9)), some (.int 0), none] [some (.ref (E.2.1 0)), some (.int x1), some (.int (-9)), some (.int 0), none] from ⟨rfl, ⟨rfl, ⟨rfl, ⟨rfl, trivial⟩⟩⟩⟩) (t_X8_whoseTurn_H5 hc  n5 x1 (-9) 0 _ hw)
set_option maxRecDepth 100000 in
set_option maxHeartbeats 4000000 in
theorem c_X8_whoseTurn {l : Launch} {E : WD} (hE : inj E) (hG : ∀ k, fdm k → k ∈ E.2.2.2) {x1 : Int32} {σ : MS} {Q : Int32 → MS → Prop} (hw : w_X8_whoseTurn x1 σ Q) : Ci l E yX8_whoseTurn cX8_whoseTurn 5 (some .int) rm_X8_whoseTurn [.ref (E.2.1 0), .int x1] σ Q :=
  Ct_of (by decide) rfl (by
    intro v hv
    simp only [List.mem_cons, List.not_mem_nil, or_false] at hv
    rcases hv with rfl | rfl <;> rfl) (Nat.le_of_ble_eq_true rfl) hE hG (fun p e s m below meth c hc => t_X8_whoseTurn_E hc x1 σ hw)
def w_X8_turn_E (Q : Int32 → MS → Prop) (x1 : Int32) (σ : MS) : Prop := w_X8_wrongSet x1 σ (fun r2 σ2 => ((r2 = 0 → w_X8_whoseTurn x1 σ2 (fun r18 σ18 => Q r18 σ18)) ∧ (¬ r2 = 0 → w_X8_refuse r2 σ2 (fun r12 σ12 => Q r12 σ12))))
abbrev w_X8_turn (x1 : Int32) (σ : MS) (Q : Int32 → MS → Prop) : Prop := w_X8_turn_E Q x1 σ
abbrev rm_X8_turn : Room := { frames := 17, cells := 0, slots := 0, locals := 506 }
theorem ok_X8_turn : OkV yX8_turn RX8 cX8_turn 3 (some .int) 1 := ⟨tw_530, tw_531, tw_45, tw_532, rfl, by decide, by decide, by decide +kernel⟩
set_option maxRecDepth 100000 in
set_option maxHeartbeats 4000000 in
theorem t_X8_turn_E {p : Program} {l : Launch} {e : Env} {s : State} {m : MethodId} {args : Array Value} {below : List Frame} {meth : Method} {c : Code} {E : WD} {Q : Int32 → MS → Prop} (hc : Cx p rm_X8_turn s m args meth c E (AD E) cX8_turn RX8 (some .int) 3 0 0 fdm) (x1 : Int32) (σ : MS) (hw : w_X8_turn_E Q x1 σ) : V p l e rm_X8_turn s m args below meth c E (AD E) 3 0 0 (MQ below (va_Qi Q (BW E) (AD E)) args s 0 0 (AD E)) σ 0 [some (.ref (E.2.1 0)), some (.int x1), none] [] := by
  unfold w_X8_turn_E at hw
  refine vAload_n (pc := 0) hc dX8_turn_0 rfl ?_
  refine vIload_n (pc := 1) hc dX8_turn_1 rfl ?_
  refine vCallVi (pc := 2) (st := []) hc ok_X8_wrongSet tw_410 (c_X8_wrongSet hc.2.2.2.2.2.2.1 hc.G hw) (hc.G 0 (Nat.le_of_ble_eq_true rfl)) rfl rfl rfl ⟨rfl, rfl⟩ ⟨Nat.le_of_ble_eq_true rfl, Nat.le_of_ble_eq_true rfl⟩ rfl (Nat.le_of_ble_eq_true rfl) dX8_turn_2 (fun r2 σ2 hw => ?_)
  refine vIstore_n (pc := 5) (L2 := [some (.ref (E.2.1 0)), some (.int x1), some (.int r2)]) hc dX8_turn_5 rfl (Nat.le_of_ble_eq_true rfl) ?_
  refine vIload_n (pc := 6) hc dX8_turn_6 rfl ?_
  refine vIf_eq (pc := 7) (tgt := 16) hc dX8_turn_7 (by decide) (fun c7 => ?_) (fun c7 => ?_)
  · have hw := hw.1 c7
    refine vAload_n (pc := 16) hc dX8_turn_16 rfl ?_
    refine vIload_n (pc := 17) hc dX8_turn_17 rfl ?_
    refine vCallVi (pc := 18) (st := []) hc ok_X8_whoseTurn tw_533 (c_X8_whoseTurn hc.2.2.2.2.2.2.1 hc.G hw) (hc.G 0 (Nat.le_of_ble_eq_true rfl)) rfl rfl rfl ⟨rfl, rfl⟩ ⟨Nat.le_of_ble_eq_true rfl, Nat.le_of_ble_eq_true rfl⟩ rfl (Nat.le_of_ble_eq_true rfl) dX8_turn_18 (fun r18 σ18 hw => ?_)
    exact vIret (pc := 21) hc dX8_turn_21 hw
  · have hw := hw.2 c7
    refine vAload_n (pc := 10) hc dX8_turn_10 rfl ?_
    refine vIload_n (pc := 11) hc dX8_turn_11 rfl ?_
    refine vCallVi (pc := 12) (st := []) hc ok_X8_refuse tw_339 (c_X8_refuse hc.2.2.2.2.2.2.1 hc.G hw) (hc.G 0 (Nat.le_of_ble_eq_true rfl)) rfl rfl rfl ⟨rfl, rfl⟩ ⟨Nat.le_of_ble_eq_true rfl, Nat.le_of_ble_eq_true rfl⟩ rfl (Nat.le_of_ble_eq_true rfl) dX8_turn_12 (fun r12 σ12 hw => ?_)
    exact vIret (pc := 15) hc dX8_turn_15 hw
set_option maxRecDepth 100000 in
set_option maxHeartbeats 4000000 in
theorem c_X8_turn {l : Launch} {E : WD} (hE : inj E) (hG : ∀ k, fdm k → k ∈ E.2.2.2) {x1 : Int32} {σ : MS} {Q : Int32 → MS → Prop} (hw : w_X8_turn x1 σ Q) : Ci l E yX8_turn cX8_turn 3 (some .int) rm_X8_turn [.ref (E.2.1 0), .int x1] σ Q :=
  Ct_of (by decide) rfl (by
    intro v hv
    simp only [List.mem_cons, List.not_mem_nil, or_false] at hv
    rcases hv with rfl | rfl <;> rfl) (Nat.le_of_ble_eq_true rfl) hE hG (fun p e s m below meth c hc => t_X8_turn_E hc x1 σ hw)
def w_X8_putIntoPlan_E (Q : Int32 → MS → Prop) (x1 x2 : Int32) (σ : MS) : Prop := w_X7_reasonAgainst x1 x2 σ (fun r6 σ6 => ((r6 = 0 → w_X7_found  σ6 (fun r24 σ24 => r24 = 8 ∧ w_X4_put x1 x2 σ24 (fun σ27 => Q 1 σ27))) ∧ (¬ r6 = 0 → Q 0 σ6)))
abbrev w_X8_putIntoPlan (x1 x2 : Int32) (σ : MS) (Q : Int32 → MS → Prop) : Prop := w_X8_putIntoPlan_E Q x1 x2 σ
abbrev rm_X8_putIntoPlan : Room := { frames := 16, cells := 0, slots := 0, locals := 482 }
theorem ok_X8_putIntoPlan : OkV yX8_putIntoPlan RX8 cX8_putIntoPlan 3 (some .boolean) 2 := ⟨tw_586, tw_17, tw_45, tw_587, rfl, by decide, by decide, by decide +kernel⟩
set_option maxRecDepth 100000 in
set_option maxHeartbeats 4000000 in
theorem t_X8_putIntoPlan_E {p : Program} {l : Launch} {e : Env} {s : State} {m : MethodId} {args : Array Value} {below : List Frame} {meth : Method} {c : Code} {E : WD} {Q : Int32 → MS → Prop} (hc : Cx p rm_X8_putIntoPlan s m args meth c E (AD E) cX8_putIntoPlan RX8 (some .boolean) 3 0 0 fdm) (x1 x2 : Int32) (σ : MS) (hw : w_X8_putIntoPlan_E Q x1 x2 σ) : V p l e rm_X8_putIntoPlan s m args below meth c E (AD E) 3 0 0 (MQ below (va_Qi Q (BW E) (AD E)) args s 0 0 (AD E)) σ 0 [some (.ref (E.2.1 0)), some (.int x1), some (.int x2)] [] := by
  unfold w_X8_putIntoPlan_E at hw
  refine vAload_n (pc := 0) hc dX8_putIntoPlan_0 rfl ?_
  refine vGetR (pc := 1) (k := 0) (j := 2) hc rfl inG8 (hc.G 0 (Nat.le_of_ble_eq_true rfl)) rfl (Nat.le_of_ble_eq_true rfl) tw_309 rfl dX8_putIntoPlan_1 ?_
  refine vIload_n (pc := 4) hc dX8_putIntoPlan_4 rfl ?_
  refine vIload_n (pc := 5) hc dX8_putIntoPlan_5 rfl ?_
  refine vCallVi (pc := 6) (st := []) hc ok_X7_reasonAgainst tw_432 (c_X7_reasonAgainst hc.2.2.2.2.2.2.1 hc.G hw) (hc.G 6 (Nat.le_of_ble_eq_true rfl)) rfl rfl rfl ⟨rfl, rfl⟩ ⟨Nat.le_of_ble_eq_true rfl, Nat.le_of_ble_eq_true rfl⟩ rfl (Nat.le_of_ble_eq_true rfl) dX8_putIntoPlan_6 (fun r6 σ6 hw => ?_)
  refine vIf_eq (pc := 9) (tgt := 14) hc dX8_putIntoPlan_9 (by decide) (fun c9 => ?_) (fun c9 => ?_)
  · have hw := hw.1 c9
    refine vAload_n (pc := 14) hc dX8_putIntoPlan_14 rfl ?_
    refine vGetR (pc := 15) (k := 0) (j := 5) hc rfl inG8 (hc.G 0 (Nat.le_of_ble_eq_true rfl)) rfl (Nat.le_of_ble_eq_true rfl) tw_312 rfl dX8_putIntoPlan_15 ?_
    refine vIload_n (pc := 18) hc dX8_putIntoPlan_18 rfl ?_
    refine vIload_n (pc := 19) hc dX8_putIntoPlan_19 rfl ?_
    refine vAload_n (pc := 20) hc dX8_putIntoPlan_20 rfl ?_
    refine vGetR (pc := 21) (k := 0) (j := 2) hc rfl inG8 (hc.G 0 (Nat.le_of_ble_eq_true rfl)) rfl (Nat.le_of_ble_eq_true rfl) tw_309 rfl dX8_putIntoPlan_21 ?_
    refine vCallVr (pc := 24) (st := [(.int x2), (.int x1), (.ref (E.2.1 11))]) hc ok_X7_found tw_486 (c_X7_found hc.2.2.2.2.2.2.1 hc.G hw) (hc.G 6 (Nat.le_of_ble_eq_true rfl)) rfl rfl rfl ⟨rfl, rfl⟩ ⟨Nat.le_of_ble_eq_true rfl, Nat.le_of_ble_eq_true rfl⟩ rfl (Nat.le_of_ble_eq_true rfl) dX8_putIntoPlan_24 (fun r24 σ24 hw => ?_)
    obtain ⟨er24, hw⟩ := hw
    subst er24
    refine vCallVv (pc := 27) (st := []) hc ok_X4_put tw_588 (c_X4_put hc.2.2.2.2.2.2.1 hc.G hw) (hc.G 11 (Nat.le_of_ble_eq_true rfl)) rfl rfl rfl ⟨rfl, rfl⟩ ⟨Nat.le_of_ble_eq_true rfl, Nat.le_of_ble_eq_true rfl⟩ rfl (Nat.le_of_ble_eq_true rfl) dX8_putIntoPlan_27 (fun σ27 hw => ?_)
    refine vIconst (pc := 30) (v := 1) hc dX8_putIntoPlan_30 ki_1 ?_
    exact vZret (pc := 31) hc dX8_putIntoPlan_31 (Or.inr rfl) hw
  · have hw := hw.2 c9
    refine vIconst (pc := 12) (v := 0) hc dX8_putIntoPlan_12 ki_0 ?_
    exact vZret (pc := 13) hc dX8_putIntoPlan_13 (Or.inl rfl) hw
set_option maxRecDepth 100000 in
set_option maxHeartbeats 4000000 in
theorem c_X8_putIntoPlan {l : Launch} {E : WD} (hE : inj E) (hG : ∀ k, fdm k → k ∈ E.2.2.2) {x1 x2 : Int32} {σ : MS} {Q : Int32 → MS → Prop} (hw : w_X8_putIntoPlan x1 x2 σ Q) : Ci l E yX8_putIntoPlan cX8_putIntoPlan 3 (some .boolean) rm_X8_putIntoPlan [.ref (E.2.1 0), .int x1, .int x2] σ Q :=
  Ct_of (by decide) rfl (by
    intro v hv
    simp only [List.mem_cons, List.not_mem_nil, or_false] at hv
    rcases hv with rfl | rfl | rfl <;> rfl) (Nat.le_of_ble_eq_true rfl) hE hG (fun p e s m below meth c hc => t_X8_putIntoPlan_E hc x1 x2 σ hw)
def w_X8_takeIntoPlan_E (Q : MS → Prop) (x1 x2 : Int32) (σ : MS) : Prop := ((¬ x2 = 0 → w_X0_driverFor x2 σ (fun r22 σ22 => w_X8_putIntoPlan x2 r22 σ22 (fun r25 σ25 => Q σ25))) ∧ (x2 = 0 → w_X4_leave x1 σ (fun σ9 => Q σ9)))
abbrev w_X8_takeIntoPlan (x1 x2 : Int32) (σ : MS) (Q : MS → Prop) : Prop := w_X8_takeIntoPlan_E Q x1 x2 σ
abbrev rm_X8_takeIntoPlan : Room := { frames := 17, cells := 0, slots := 0, locals := 504 }
theorem ok_X8_takeIntoPlan : OkV yX8_takeIntoPlan RX8 cX8_takeIntoPlan 3 none 2 := ⟨tw_578, tw_16, tw_45, tw_579, rfl, by decide, by decide, by decide +kernel⟩
set_option maxRecDepth 100000 in
set_option maxHeartbeats 4000000 in
theorem t_X8_takeIntoPlan_E {p : Program} {l : Launch} {e : Env} {s : State} {m : MethodId} {args : Array Value} {below : List Frame} {meth : Method} {c : Code} {E : WD} {Q : MS → Prop} (hc : Cx p rm_X8_takeIntoPlan s m args meth c E (AD E) cX8_takeIntoPlan RX8 none 3 0 0 fdm) (x1 x2 : Int32) (σ : MS) (hw : w_X8_takeIntoPlan_E Q x1 x2 σ) : V p l e rm_X8_takeIntoPlan s m args below meth c E (AD E) 3 0 0 (MQ below (va_Qv Q (BW E) (AD E)) args s 0 0 (AD E)) σ 0 [some (.ref (E.2.1 0)), some (.int x1), some (.int x2)] [] := by
  unfold w_X8_takeIntoPlan_E at hw
  refine vIload_n (pc := 0) hc dX8_takeIntoPlan_0 rfl ?_
  refine vIf_ne (pc := 1) (tgt := 15) hc dX8_takeIntoPlan_1 (by decide) (fun c1 => ?_) (fun c1 => ?_)
  · have hw := hw.1 c1
    refine vAload_n (pc := 15) hc dX8_takeIntoPlan_15 rfl ?_
    refine vIload_n (pc := 16) hc dX8_takeIntoPlan_16 rfl ?_
    refine vAload_n (pc := 17) hc dX8_takeIntoPlan_17 rfl ?_
    refine vGetR (pc := 18) (k := 0) (j := 3) hc rfl inG8 (hc.G 0 (Nat.le_of_ble_eq_true rfl)) rfl (Nat.le_of_ble_eq_true rfl) tw_310 rfl dX8_takeIntoPlan_18 ?_
    refine vIload_n (pc := 21) hc dX8_takeIntoPlan_21 rfl ?_
    refine vCallVi (pc := 22) (st := [(.int x2), (.ref (E.2.1 0))]) hc ok_X0_driverFor tw_525 (c_X0_driverFor hc.2.2.2.2.2.2.1 hc.G hw) (hc.G 9 (Nat.le_of_ble_eq_true rfl)) rfl rfl rfl ⟨rfl, rfl⟩ ⟨Nat.le_of_ble_eq_true rfl, Nat.le_of_ble_eq_true rfl⟩ rfl (Nat.le_of_ble_eq_true rfl) dX8_takeIntoPlan_22 (fun r22 σ22 hw => ?_)
    refine vCallVi (pc := 25) (st := []) hc ok_X8_putIntoPlan tw_584 (c_X8_putIntoPlan hc.2.2.2.2.2.2.1 hc.G hw) (hc.G 0 (Nat.le_of_ble_eq_true rfl)) rfl rfl rfl ⟨rfl, rfl⟩ ⟨Nat.le_of_ble_eq_true rfl, Nat.le_of_ble_eq_true rfl⟩ rfl (Nat.le_of_ble_eq_true rfl) dX8_takeIntoPlan_25 (fun r25 σ25 hw => ?_)
    refine vPop (pc := 28) hc dX8_takeIntoPlan_28 rfl ?_
    exact vVret (pc := 29) hc dX8_takeIntoPlan_29 hw
  · have hw := hw.2 c1
    refine vAload_n (pc := 4) hc dX8_takeIntoPlan_4 rfl ?_
    refine vGetR (pc := 5) (k := 0) (j := 5) hc rfl inG8 (hc.G 0 (Nat.le_of_ble_eq_true rfl)) rfl (Nat.le_of_ble_eq_true rfl) tw_312 rfl dX8_takeIntoPlan_5 ?_
    refine vIload_n (pc := 8) hc dX8_takeIntoPlan_8 rfl ?_
    refine vCallVv (pc := 9) (st := []) hc ok_X4_leave tw_580 (c_X4_leave hc.2.2.2.2.2.2.1 hc.G hw) (hc.G 11 (Nat.le_of_ble_eq_true rfl)) rfl rfl rfl ⟨rfl, rfl⟩ ⟨Nat.le_of_ble_eq_true rfl, Nat.le_of_ble_eq_true rfl⟩ rfl (Nat.le_of_ble_eq_true rfl) dX8_takeIntoPlan_9 (fun σ9 hw => ?_)
    refine vGoto (pc := 12) (tgt := 29) hc dX8_takeIntoPlan_12 (by decide) ?_
    exact vVret (pc := 29) hc dX8_takeIntoPlan_29 hw
set_option maxRecDepth 100000 in
set_option maxHeartbeats 4000000 in
theorem c_X8_takeIntoPlan {l : Launch} {E : WD} (hE : inj E) (hG : ∀ k, fdm k → k ∈ E.2.2.2) {x1 x2 : Int32} {σ : MS} {Q : MS → Prop} (hw : w_X8_takeIntoPlan x1 x2 σ Q) : Cv l E yX8_takeIntoPlan cX8_takeIntoPlan 3 none rm_X8_takeIntoPlan [.ref (E.2.1 0), .int x1, .int x2] σ Q :=
  Ct_of (by decide) rfl (by
    intro v hv
    simp only [List.mem_cons, List.not_mem_nil, or_false] at hv
    rcases hv with rfl | rfl | rfl <;> rfl) (Nat.le_of_ble_eq_true rfl) hE hG (fun p e s m below meth c hc => t_X8_takeIntoPlan_E hc x1 x2 σ hw)
def w_X8_plan_J84 (Q : Int32 → MS → Prop) (σ : MS) : Prop := w_X4_pools  σ (fun r88 σ88 => Q r88 σ88)
def w_X8_plan_H36 (Q : Int32 → MS → Prop) : Nat → Int32 → Int32 → MS → Prop
  | 0, _, _, _ => False
  | n + 1, x2, x3, σ => ((9 ≤ x3 → w_X8_plan_J84 Q σ) ∧ (¬ 9 ≤ x3 → w_X8_contains x2 x3 σ (fun r44 σ44 => ((r44 = 0 → w_X8_plan_H36 Q n x2 (x3 + 1) σ44) ∧ (¬ r44 = 0 → w_X1_choiceFor x2 σ44 (fun r55 σ55 => w_X8_takeIntoPlan x3 r55 σ55 (fun σ64 => (∀ x2_77 : Int32, x2_77 = (x2 &&& ((r55 ||| ((1 : Int32) <<< (x3 &&& 31))) ^^^ (-1))) → w_X8_plan_H36 Q n x2_77 (x3 + 1) σ64))))))))
def w_X8_plan_E (Q : Int32 → MS → Prop) (σ : MS) : Prop := w_X2_notAway  σ (fun r4 σ4 => w_X0_learnAll r4 σ4 (fun σ13 => w_X1_findBest r4 σ13 (fun r21 σ21 => w_X4_begin  σ21 (fun σ29 => (∃ n36, w_X8_plan_H36 Q n36 r4 0 σ29)))))
abbrev w_X8_plan (σ : MS) (Q : Int32 → MS → Prop) : Prop := w_X8_plan_E Q  σ
abbrev rm_X8_plan : Room := { frames := 18, cells := 0, slots := 0, locals := 526 }
theorem ok_X8_plan : OkV yX8_plan RX8 cX8_plan 5 (some .int) 0 := ⟨tw_538, tw_539, tw_45, tw_540, rfl, by decide, by decide, by decide +kernel⟩
set_option maxRecDepth 100000 in
set_option maxHeartbeats 4000000 in
theorem t_X8_plan_J84 {p : Program} {l : Launch} {e : Env} {s : State} {m : MethodId} {args : Array Value} {below : List Frame} {meth : Method} {c : Code} {E : WD} {Q : Int32 → MS → Prop} (hc : Cx p rm_X8_plan s m args meth c E (AD E) cX8_plan RX8 (some .int) 5 0 0 fdm) (σ : MS) (hw : w_X8_plan_J84 Q  σ) : V p l e rm_X8_plan s m args below meth c E (AD E) 5 0 0 (MQ below (va_Qi Q (BW E) (AD E)) args s 0 0 (AD E)) σ 84 [some (.ref (E.2.1 0)), none, none, none, none] [] := by
  unfold w_X8_plan_J84 at hw
  refine vAload_n (pc := 84) hc dX8_plan_84 rfl ?_
  refine vGetR (pc := 85) (k := 0) (j := 5) hc rfl inG8 (hc.G 0 (Nat.le_of_ble_eq_true rfl)) rfl (Nat.le_of_ble_eq_true rfl) tw_312 rfl dX8_plan_85 ?_
  refine vCallVi (pc := 88) (st := []) hc ok_X4_pools tw_592 (c_X4_pools hc.2.2.2.2.2.2.1 hc.G hw) (hc.G 11 (Nat.le_of_ble_eq_true rfl)) rfl rfl rfl ⟨rfl, rfl⟩ ⟨Nat.le_of_ble_eq_true rfl, Nat.le_of_ble_eq_true rfl⟩ rfl (Nat.le_of_ble_eq_true rfl) dX8_plan_88 (fun r88 σ88 hw => ?_)
  exact vIret (pc := 91) hc dX8_plan_91 hw
set_option maxRecDepth 100000 in
set_option maxHeartbeats 4000000 in
theorem t_X8_plan_H36 {p : Program} {l : Launch} {e : Env} {s : State} {m : MethodId} {args : Array Value} {below : List Frame} {meth : Method} {c : Code} {E : WD} {Q : Int32 → MS → Prop} (hc : Cx p rm_X8_plan s m args meth c E (AD E) cX8_plan RX8 (some .int) 5 0 0 fdm) : ∀ (n : Nat) (x2 x3 : Int32) (σ : MS), w_X8_plan_H36 Q n x2 x3 σ → V p l e rm_X8_plan s m args below meth c E (AD E) 5 0 0 (MQ below (va_Qi Q (BW E) (AD E)) args s 0 0 (AD E)) σ 36 [some (.ref (E.2.1 0)), none, some (.int x2), some (.int x3), none] [] := by
  intro n
  induction n with
  | zero =>
    intro x2 x3 σ hw
    exact hw.elim
  | succ n ih =>
    intro x2 x3 σ hw
    unfold w_X8_plan_H36 at hw
    refine vIload_n (pc := 36) hc dX8_plan_36 rfl ?_
    refine vBipush (pc := 37) (v := 9) hc dX8_plan_37 kb_9 ?_
    refine vIcmp_ge (pc := 39) (tgt := 84) hc dX8_plan_39 (by decide) (fun c39 => ?_) (fun c39 => ?_)
    · have hw := hw.1 c39
      exact vMono (L2 := [some (.ref (E.2.1 0)), none, none, none, none]) (show subL [some (.ref (E.2.1 0)), none, none, none, none] [some (.ref (E.2.1 0)), none, some (.int x2), some (.int x3), none] from ⟨rfl, trivial⟩) (t_X8_plan_J84 hc   _ hw)
    · have hw := hw.2 c39
      refine vIload_n (pc := 42) hc dX8_plan_42 rfl ?_
      refine vIload_n (pc := 43) hc dX8_plan_43 rfl ?_
      refine vCallSi (pc := 44) (st := []) hc ok_X8_contains tw_387 (c_X8_contains hc.2.2.2.2.2.2.1 hc.G hw) rfl ⟨rfl, rfl⟩ ⟨Nat.le_of_ble_eq_true rfl, Nat.le_of_ble_eq_true rfl⟩ rfl (Nat.le_of_ble_eq_true rfl) dX8_plan_44 (fun r44 σ44 hw => ?_)
      refine vIf_eq (pc := 47) (tgt := 78) hc dX8_plan_47 (by decide) (fun c47 => ?_) (fun c47 => ?_)
      · have hw := hw.1 c47
        refine vIinc (pc := 78) (v := x3 + 1) (L2 := [some (.ref (E.2.1 0)), none, some (.int x2), some (.int (x3 + 1)), none]) hc dX8_plan_78 rfl rfl rfl (Nat.le_of_ble_eq_true rfl) ?_
        refine vGoto (pc := 81) (tgt := 36) hc dX8_plan_81 (by decide) ?_
        exact vMono (L2 := [some (.ref (E.2.1 0)), none, some (.int x2), some (.int (x3 + 1)), none]) (show subL [some (.ref (E.2.1 0)), none, some (.int x2), some (.int (x3 + 1)), none] [some (.ref (E.2.1 0)), none, some (.int x2), some (.int (x3 + 1)), none] from ⟨rfl, ⟨rfl, ⟨rfl, trivial⟩⟩⟩) (ih x2 (x3 + 1) _ hw)
      · have hw := hw.2 c47
        refine vAload_n (pc := 50) hc dX8_plan_50 rfl ?_
        refine vGetR (pc := 51) (k := 0) (j := 4) hc rfl inG8 (hc.G 0 (Nat.le_of_ble_eq_true rfl)) rfl (Nat.le_of_ble_eq_true rfl) tw_311 rfl dX8_plan_51 ?_
        refine vIload_n (pc := 54) hc dX8_plan_54 rfl ?_
        refine vCallVi (pc := 55) (st := []) hc ok_X1_choiceFor tw_572 (c_X1_choiceFor hc.2.2.2.2.2.2.1 hc.G hw) (hc.G 10 (Nat.le_of_ble_eq_true rfl)) rfl rfl rfl ⟨rfl, rfl⟩ ⟨Nat.le_of_ble_eq_true rfl, Nat.le_of_ble_eq_true rfl⟩ rfl (Nat.le_of_ble_eq_true rfl) dX8_plan_55 (fun r55 σ55 hw => ?_)
        refine vIstore (pc := 58) (L2 := [some (.ref (E.2.1 0)), none, some (.int x2), some (.int x3), some (.int r55)]) hc dX8_plan_58 rfl (Nat.le_of_ble_eq_true rfl) ?_
        refine vAload_n (pc := 60) hc dX8_plan_60 rfl ?_
        refine vIload_n (pc := 61) hc dX8_plan_61 rfl ?_
        refine vIload (pc := 62) hc dX8_plan_62 rfl ?_
        refine vCallVv (pc := 64) (st := []) hc ok_X8_takeIntoPlan tw_576 (c_X8_takeIntoPlan hc.2.2.2.2.2.2.1 hc.G hw) (hc.G 0 (Nat.le_of_ble_eq_true rfl)) rfl rfl rfl ⟨rfl, rfl⟩ ⟨Nat.le_of_ble_eq_true rfl, Nat.le_of_ble_eq_true rfl⟩ rfl (Nat.le_of_ble_eq_true rfl) dX8_plan_64 (fun σ64 hw => ?_)
        refine vIload_n (pc := 67) hc dX8_plan_67 rfl ?_
        refine vIload (pc := 68) hc dX8_plan_68 rfl ?_
        refine vIconst (pc := 70) (v := 1) hc dX8_plan_70 ki_1 ?_
        refine vIload_n (pc := 71) hc dX8_plan_71 rfl ?_
        refine vIshl (pc := 72) hc dX8_plan_72 ?_
        refine vIor (pc := 73) hc dX8_plan_73 ?_
        refine vIconst (pc := 74) (v := (-1)) hc dX8_plan_74 ki_m1 ?_
        refine vIxor (pc := 75) hc dX8_plan_75 ?_
        refine vIand (pc := 76) hc dX8_plan_76 ?_
        obtain ⟨x2_77, ex2_77⟩ : ∃ z : Int32, z = x2 &&& ((r55 ||| ((1 : Int32) <<< (x3 &&& 31))) ^^^ (-1)) := ⟨_, rfl⟩
        have hw := hw x2_77 ex2_77
        refine vTop ex2_77 ?_
        refine vIstore_n (pc := 77) (L2 := [some (.ref (E.2.1 0)), none, some (.int x2_77), some (.int x3), some (.int r55)]) hc dX8_plan_77 rfl (Nat.le_of_ble_eq_true rfl) ?_
        refine vIinc (pc := 78) (v := x3 + 1) (L2 := [some (.ref (E.2.1 0)), none, some (.int x2_77), some (.int (x3 + 1)), some (.int r55)]) hc dX8_plan_78 rfl rfl rfl (Nat.le_of_ble_eq_true rfl) ?_
        refine vGoto (pc := 81) (tgt := 36) hc dX8_plan_81 (by decide) ?_
        exact vMono (L2 := [some (.ref (E.2.1 0)), none, some (.int x2_77), some (.int (x3 + 1)), none]) (show subL [some (.ref (E.2.1 0)), none, some (.int x2_77), some (.int (x3 + 1)), none] [some (.ref (E.2.1 0)), none, some (.int x2_77), some (.int (x3 + 1)), some (.int r55)] from ⟨rfl, ⟨rfl, ⟨rfl, trivial⟩⟩⟩) (ih x2_77 (x3 + 1) _ hw)
set_option maxRecDepth 100000 in
set_option maxHeartbeats 4000000 in
theorem t_X8_plan_E {p : Program} {l : Launch} {e : Env} {s : State} {m : MethodId} {args : Array Value} {below : List Frame} {meth : Method} {c : Code} {E : WD} {Q : Int32 → MS → Prop} (hc : Cx p rm_X8_plan s m args meth c E (AD E) cX8_plan RX8 (some .int) 5 0 0 fdm) (σ : MS) (hw : w_X8_plan_E Q  σ) : V p l e rm_X8_plan s m args below meth c E (AD E) 5 0 0 (MQ below (va_Qi Q (BW E) (AD E)) args s 0 0 (AD E)) σ 0 [some (.ref (E.2.1 0)), none, none, none, none] [] := by
  unfold w_X8_plan_E at hw
  refine vAload_n (pc := 0) hc dX8_plan_0 rfl ?_
  refine vGetR (pc := 1) (k := 0) (j := 1) hc rfl inG8 (hc.G 0 (Nat.le_of_ble_eq_true rfl)) rfl (Nat.le_of_ble_eq_true rfl) tw_308 rfl dX8_plan_1 ?_
  refine vCallVi (pc := 4) (st := []) hc ok_X2_notAway tw_541 (c_X2_notAway hc.2.2.2.2.2.2.1 hc.G hw) (hc.G 4 (Nat.le_of_ble_eq_true rfl)) rfl rfl rfl ⟨rfl, rfl⟩ ⟨Nat.le_of_ble_eq_true rfl, Nat.le_of_ble_eq_true rfl⟩ rfl (Nat.le_of_ble_eq_true rfl) dX8_plan_4 (fun r4 σ4 hw => ?_)
  refine vIstore_n (pc := 7) (L2 := [some (.ref (E.2.1 0)), some (.int r4), none, none, none]) hc dX8_plan_7 rfl (Nat.le_of_ble_eq_true rfl) ?_
  refine vAload_n (pc := 8) hc dX8_plan_8 rfl ?_
  refine vGetR (pc := 9) (k := 0) (j := 3) hc rfl inG8 (hc.G 0 (Nat.le_of_ble_eq_true rfl)) rfl (Nat.le_of_ble_eq_true rfl) tw_310 rfl dX8_plan_9 ?_
  refine vIload_n (pc := 12) hc dX8_plan_12 rfl ?_
  refine vCallVv (pc := 13) (st := []) hc ok_X0_learnAll tw_542 (c_X0_learnAll hc.2.2.2.2.2.2.1 hc.G hw) (hc.G 9 (Nat.le_of_ble_eq_true rfl)) rfl rfl rfl ⟨rfl, rfl⟩ ⟨Nat.le_of_ble_eq_true rfl, Nat.le_of_ble_eq_true rfl⟩ rfl (Nat.le_of_ble_eq_true rfl) dX8_plan_13 (fun σ13 hw => ?_)
  refine vAload_n (pc := 16) hc dX8_plan_16 rfl ?_
  refine vGetR (pc := 17) (k := 0) (j := 4) hc rfl inG8 (hc.G 0 (Nat.le_of_ble_eq_true rfl)) rfl (Nat.le_of_ble_eq_true rfl) tw_311 rfl dX8_plan_17 ?_
  refine vIload_n (pc := 20) hc dX8_plan_20 rfl ?_
  refine vCallVi (pc := 21) (st := []) hc ok_X1_findBest tw_548 (c_X1_findBest hc.2.2.2.2.2.2.1 hc.G hw) (hc.G 10 (Nat.le_of_ble_eq_true rfl)) rfl rfl rfl ⟨rfl, rfl⟩ ⟨Nat.le_of_ble_eq_true rfl, Nat.le_of_ble_eq_true rfl⟩ rfl (Nat.le_of_ble_eq_true rfl) dX8_plan_21 (fun r21 σ21 hw => ?_)
  refine vPop (pc := 24) hc dX8_plan_24 rfl ?_
  refine vAload_n (pc := 25) hc dX8_plan_25 rfl ?_
  refine vGetR (pc := 26) (k := 0) (j := 5) hc rfl inG8 (hc.G 0 (Nat.le_of_ble_eq_true rfl)) rfl (Nat.le_of_ble_eq_true rfl) tw_312 rfl dX8_plan_26 ?_
  refine vCallVv (pc := 29) (st := []) hc ok_X4_begin tw_567 (c_X4_begin hc.2.2.2.2.2.2.1 hc.G hw) (hc.G 11 (Nat.le_of_ble_eq_true rfl)) rfl rfl rfl ⟨rfl, rfl⟩ ⟨Nat.le_of_ble_eq_true rfl, Nat.le_of_ble_eq_true rfl⟩ rfl (Nat.le_of_ble_eq_true rfl) dX8_plan_29 (fun σ29 hw => ?_)
  refine vIload_n (pc := 32) hc dX8_plan_32 rfl ?_
  refine vIstore_n (pc := 33) (L2 := [some (.ref (E.2.1 0)), some (.int r4), some (.int r4), none, none]) hc dX8_plan_33 rfl (Nat.le_of_ble_eq_true rfl) ?_
  refine vIconst (pc := 34) (v := 0) hc dX8_plan_34 ki_0 ?_
  refine vIstore_n (pc := 35) (L2 := [some (.ref (E.2.1 0)), some (.int r4), some (.int r4), some (.int 0), none]) hc dX8_plan_35 rfl (Nat.le_of_ble_eq_true rfl) ?_
  obtain ⟨n36, hw⟩ := hw
  exact vMono (L2 := [some (.ref (E.2.1 0)), none, some (.int r4), some (.int 0), none]) (show subL [some (.ref (E.2.1 0)), none, some (.int r4), some (.int 0), none] [some (.ref (E.2.1 0)), some (.int r4), some (.int r4), some (.int 0), none] from ⟨rfl, ⟨rfl, ⟨rfl, trivial⟩⟩⟩) (t_X8_plan_H36 hc  n36 r4 0 _ hw)
set_option maxRecDepth 100000 in
set_option maxHeartbeats 4000000 in
theorem c_X8_plan {l : Launch} {E : WD} (hE : inj E) (hG : ∀ k, fdm k → k ∈ E.2.2.2) {σ : MS} {Q : Int32 → MS → Prop} (hw : w_X8_plan  σ Q) : Ci l E yX8_plan cX8_plan 5 (some .int) rm_X8_plan [.ref (E.2.1 0)] σ Q :=
  Ct_of (by decide) rfl (by
    intro v hv
    simp only [List.mem_cons, List.not_mem_nil, or_false] at hv
    rcases hv with rfl <;> rfl) (Nat.le_of_ble_eq_true rfl) hE hG (fun p e s m below meth c hc => t_X8_plan_E hc  σ hw)
def w_X8_planOf_E (Q : Int32 → MS → Prop) (x1 : Int32) (σ : MS) : Prop := w_X4_isMade  σ (fun r4 σ4 => ((¬ r4 = 0 → ((x1 = 0 → w_X4_pools  σ4 (fun r52 σ52 => Q r52 σ52)) ∧ (¬ x1 = 0 → ((x1 = 1 → w_X4_leftCount  σ4 (fun r60 σ60 => Q r60 σ60)) ∧ (¬ x1 = 1 → ((x1 = 2 → w_X4_minutesTogether  σ4 (fun r68 σ68 => Q r68 σ68)) ∧ (¬ x1 = 2 → ((x1 = 3 → w_X4_personsInPools  σ4 (fun r76 σ76 => Q r76 σ76)) ∧ (¬ x1 = 3 → w_X8_refuse (-2) σ4 (fun r83 σ83 => Q r83 σ83)))))))))) ∧ (r4 = 0 → w_X8_refuse (-3) σ4 (fun r13 σ13 => Q r13 σ13))))
abbrev w_X8_planOf (x1 : Int32) (σ : MS) (Q : Int32 → MS → Prop) : Prop := w_X8_planOf_E Q x1 σ
abbrev rm_X8_planOf : Room := { frames := 2, cells := 0, slots := 0, locals := 43 }
theorem ok_X8_planOf : OkV yX8_planOf RX8 cX8_planOf 2 (some .int) 1 := ⟨tw_601, tw_602, tw_45, tw_603, rfl, by decide, by decide, by decide +kernel⟩
set_option maxRecDepth 100000 in
set_option maxHeartbeats 4000000 in
theorem t_X8_planOf_E {p : Program} {l : Launch} {e : Env} {s : State} {m : MethodId} {args : Array Value} {below : List Frame} {meth : Method} {c : Code} {E : WD} {Q : Int32 → MS → Prop} (hc : Cx p rm_X8_planOf s m args meth c E (AD E) cX8_planOf RX8 (some .int) 2 0 0 fdm) (x1 : Int32) (σ : MS) (hw : w_X8_planOf_E Q x1 σ) : V p l e rm_X8_planOf s m args below meth c E (AD E) 2 0 0 (MQ below (va_Qi Q (BW E) (AD E)) args s 0 0 (AD E)) σ 0 [some (.ref (E.2.1 0)), some (.int x1)] [] := by
  unfold w_X8_planOf_E at hw
  refine vAload_n (pc := 0) hc dX8_planOf_0 rfl ?_
  refine vGetR (pc := 1) (k := 0) (j := 5) hc rfl inG8 (hc.G 0 (Nat.le_of_ble_eq_true rfl)) rfl (Nat.le_of_ble_eq_true rfl) tw_312 rfl dX8_planOf_1 ?_
  refine vCallVi (pc := 4) (st := []) hc ok_X4_isMade tw_604 (c_X4_isMade hc.2.2.2.2.2.2.1 hc.G hw) (hc.G 11 (Nat.le_of_ble_eq_true rfl)) rfl rfl rfl ⟨rfl, rfl⟩ ⟨Nat.le_of_ble_eq_true rfl, Nat.le_of_ble_eq_true rfl⟩ rfl (Nat.le_of_ble_eq_true rfl) dX8_planOf_4 (fun r4 σ4 hw => ?_)
  refine vIf_ne (pc := 7) (tgt := 17) hc dX8_planOf_7 (by decide) (fun c7 => ?_) (fun c7 => ?_)
  · have hw := hw.1 c7
    refine vIload_n (pc := 17) hc dX8_planOf_17 rfl ?_
    by_cases b18_0 : x1 = 0
    · have hw := hw.1 b18_0
      refine vTop (y := 0) b18_0.symm ?_
      refine vTabIn (pc := 18) (tgt := 48) hc dX8_planOf_18 (by decide) (by decide) rfl (by decide) ?_
      refine vAload_n (pc := 48) hc dX8_planOf_48 rfl ?_
      refine vGetR (pc := 49) (k := 0) (j := 5) hc rfl inG8 (hc.G 0 (Nat.le_of_ble_eq_true rfl)) rfl (Nat.le_of_ble_eq_true rfl) tw_312 rfl dX8_planOf_49 ?_
      refine vCallVi (pc := 52) (st := []) hc ok_X4_pools tw_592 (c_X4_pools hc.2.2.2.2.2.2.1 hc.G hw) (hc.G 11 (Nat.le_of_ble_eq_true rfl)) rfl rfl rfl ⟨rfl, rfl⟩ ⟨Nat.le_of_ble_eq_true rfl, Nat.le_of_ble_eq_true rfl⟩ rfl (Nat.le_of_ble_eq_true rfl) dX8_planOf_52 (fun r52 σ52 hw => ?_)
      exact vIret (pc := 55) hc dX8_planOf_55 hw
    · have hw := hw.2 b18_0
      by_cases b18_1 : x1 = 1
      · have hw := hw.1 b18_1
        refine vTop (y := 1) b18_1.symm ?_
        refine vTabIn (pc := 18) (tgt := 56) hc dX8_planOf_18 (by decide) (by decide) rfl (by decide) ?_
        refine vAload_n (pc := 56) hc dX8_planOf_56 rfl ?_
        refine vGetR (pc := 57) (k := 0) (j := 5) hc rfl inG8 (hc.G 0 (Nat.le_of_ble_eq_true rfl)) rfl (Nat.le_of_ble_eq_true rfl) tw_312 rfl dX8_planOf_57 ?_
        refine vCallVi (pc := 60) (st := []) hc ok_X4_leftCount tw_608 (c_X4_leftCount hc.2.2.2.2.2.2.1 hc.G hw) (hc.G 11 (Nat.le_of_ble_eq_true rfl)) rfl rfl rfl ⟨rfl, rfl⟩ ⟨Nat.le_of_ble_eq_true rfl, Nat.le_of_ble_eq_true rfl⟩ rfl (Nat.le_of_ble_eq_true rfl) dX8_planOf_60 (fun r60 σ60 hw => ?_)
        exact vIret (pc := 63) hc dX8_planOf_63 hw
      · have hw := hw.2 b18_1
        by_cases b18_2 : x1 = 2
        · have hw := hw.1 b18_2
          refine vTop (y := 2) b18_2.symm ?_
          refine vTabIn (pc := 18) (tgt := 64) hc dX8_planOf_18 (by decide) (by decide) rfl (by decide) ?_
          refine vAload_n (pc := 64) hc dX8_planOf_64 rfl ?_
          refine vGetR (pc := 65) (k := 0) (j := 5) hc rfl inG8 (hc.G 0 (Nat.le_of_ble_eq_true rfl)) rfl (Nat.le_of_ble_eq_true rfl) tw_312 rfl dX8_planOf_65 ?_
          refine vCallVi (pc := 68) (st := []) hc ok_X4_minutesTogether tw_613 (c_X4_minutesTogether hc.2.2.2.2.2.2.1 hc.G hw) (hc.G 11 (Nat.le_of_ble_eq_true rfl)) rfl rfl rfl ⟨rfl, rfl⟩ ⟨Nat.le_of_ble_eq_true rfl, Nat.le_of_ble_eq_true rfl⟩ rfl (Nat.le_of_ble_eq_true rfl) dX8_planOf_68 (fun r68 σ68 hw => ?_)
          exact vIret (pc := 71) hc dX8_planOf_71 hw
        · have hw := hw.2 b18_2
          by_cases b18_3 : x1 = 3
          · have hw := hw.1 b18_3
            refine vTop (y := 3) b18_3.symm ?_
            refine vTabIn (pc := 18) (tgt := 72) hc dX8_planOf_18 (by decide) (by decide) rfl (by decide) ?_
            refine vAload_n (pc := 72) hc dX8_planOf_72 rfl ?_
            refine vGetR (pc := 73) (k := 0) (j := 5) hc rfl inG8 (hc.G 0 (Nat.le_of_ble_eq_true rfl)) rfl (Nat.le_of_ble_eq_true rfl) tw_312 rfl dX8_planOf_73 ?_
            refine vCallVi (pc := 76) (st := []) hc ok_X4_personsInPools tw_617 (c_X4_personsInPools hc.2.2.2.2.2.2.1 hc.G hw) (hc.G 11 (Nat.le_of_ble_eq_true rfl)) rfl rfl rfl ⟨rfl, rfl⟩ ⟨Nat.le_of_ble_eq_true rfl, Nat.le_of_ble_eq_true rfl⟩ rfl (Nat.le_of_ble_eq_true rfl) dX8_planOf_76 (fun r76 σ76 hw => ?_)
            exact vIret (pc := 79) hc dX8_planOf_79 hw
          · have hw := hw.2 b18_3
            refine vTabOut (pc := 18) (tgt := 80) hc dX8_planOf_18 (by
              have f0 := lv_neT b18_0 (by decide : (0 : Int32).toInt = 0)
              have f1 := lv_neT b18_1 (by decide : (1 : Int32).toInt = 1)
              have f2 := lv_neT b18_2 (by decide : (2 : Int32).toInt = 2)
              have f3 := lv_neT b18_3 (by decide : (3 : Int32).toInt = 3)
              omega) (by decide) ?_
            refine vAload_n (pc := 80) hc dX8_planOf_80 rfl ?_
            refine vBipush (pc := 81) (v := (-2)) hc dX8_planOf_81 kb_m2 ?_
            refine vCallVi (pc := 83) (st := []) hc ok_X8_refuse tw_339 (c_X8_refuse hc.2.2.2.2.2.2.1 hc.G hw) (hc.G 0 (Nat.le_of_ble_eq_true rfl)) rfl rfl rfl ⟨rfl, rfl⟩ ⟨Nat.le_of_ble_eq_true rfl, Nat.le_of_ble_eq_true rfl⟩ rfl (Nat.le_of_ble_eq_true rfl) dX8_planOf_83 (fun r83 σ83 hw => ?_)
            exact vIret (pc := 86) hc dX8_planOf_86 hw
  · have hw := hw.2 c7
    refine vAload_n (pc := 10) hc dX8_planOf_10 rfl ?_
    refine vBipush (pc := 11) (v := (-3)) hc dX8_planOf_11 kb_m3 ?_
    refine vCallVi (pc := 13) (st := []) hc ok_X8_refuse tw_339 (c_X8_refuse hc.2.2.2.2.2.2.1 hc.G hw) (hc.G 0 (Nat.le_of_ble_eq_true rfl)) rfl rfl rfl ⟨rfl, rfl⟩ ⟨Nat.le_of_ble_eq_true rfl, Nat.le_of_ble_eq_true rfl⟩ rfl (Nat.le_of_ble_eq_true rfl) dX8_planOf_13 (fun r13 σ13 hw => ?_)
    exact vIret (pc := 16) hc dX8_planOf_16 hw
set_option maxRecDepth 100000 in
set_option maxHeartbeats 4000000 in
theorem c_X8_planOf {l : Launch} {E : WD} (hE : inj E) (hG : ∀ k, fdm k → k ∈ E.2.2.2) {x1 : Int32} {σ : MS} {Q : Int32 → MS → Prop} (hw : w_X8_planOf x1 σ Q) : Ci l E yX8_planOf cX8_planOf 2 (some .int) rm_X8_planOf [.ref (E.2.1 0), .int x1] σ Q :=
  Ct_of (by decide) rfl (by
    intro v hv
    simp only [List.mem_cons, List.not_mem_nil, or_false] at hv
    rcases hv with rfl | rfl <;> rfl) (Nat.le_of_ble_eq_true rfl) hE hG (fun p e s m below meth c hc => t_X8_planOf_E hc x1 σ hw)
def w_X8_poolOf_J43 (Q : Int32 → MS → Prop) (σ : MS) : Prop := w_X8_refuse (-2) σ (fun r46 σ46 => Q r46 σ46)
def w_X8_poolOf_E (Q : Int32 → MS → Prop) (x1 x2 : Int32) (σ : MS) : Prop := w_X4_isMade  σ (fun r4 σ4 => ((¬ r4 = 0 → w_X2_has x1 σ4 (fun r22 σ22 => ((¬ r22 = 0 → ((x2 < 0 → w_X8_poolOf_J43 Q σ22) ∧ (¬ x2 < 0 → ((x2 ≤ 3 → w_X4_tell x1 x2 σ22 (fun r56 σ56 => Q r56 σ56)) ∧ (¬ x2 ≤ 3 → w_X8_poolOf_J43 Q σ22))))) ∧ (r22 = 0 → w_X8_refuse (-1) σ22 (fun r30 σ30 => Q r30 σ30))))) ∧ (r4 = 0 → w_X8_refuse (-3) σ4 (fun r13 σ13 => Q r13 σ13))))
abbrev w_X8_poolOf (x1 x2 : Int32) (σ : MS) (Q : Int32 → MS → Prop) : Prop := w_X8_poolOf_E Q x1 x2 σ
abbrev rm_X8_poolOf : Room := { frames := 1, cells := 0, slots := 0, locals := 22 }
theorem ok_X8_poolOf : OkV yX8_poolOf RX8 cX8_poolOf 3 (some .int) 2 := ⟨tw_622, tw_623, tw_45, tw_624, rfl, by decide, by decide, by decide +kernel⟩
set_option maxRecDepth 100000 in
set_option maxHeartbeats 4000000 in
theorem t_X8_poolOf_J43 {p : Program} {l : Launch} {e : Env} {s : State} {m : MethodId} {args : Array Value} {below : List Frame} {meth : Method} {c : Code} {E : WD} {Q : Int32 → MS → Prop} (hc : Cx p rm_X8_poolOf s m args meth c E (AD E) cX8_poolOf RX8 (some .int) 3 0 0 fdm) (σ : MS) (hw : w_X8_poolOf_J43 Q  σ) : V p l e rm_X8_poolOf s m args below meth c E (AD E) 3 0 0 (MQ below (va_Qi Q (BW E) (AD E)) args s 0 0 (AD E)) σ 43 [some (.ref (E.2.1 0)), none, none] [] := by
  unfold w_X8_poolOf_J43 at hw
  refine vAload_n (pc := 43) hc dX8_poolOf_43 rfl ?_
  refine vBipush (pc := 44) (v := (-2)) hc dX8_poolOf_44 kb_m2 ?_
  refine vCallVi (pc := 46) (st := []) hc ok_X8_refuse tw_339 (c_X8_refuse hc.2.2.2.2.2.2.1 hc.G hw) (hc.G 0 (Nat.le_of_ble_eq_true rfl)) rfl rfl rfl ⟨rfl, rfl⟩ ⟨Nat.le_of_ble_eq_true rfl, Nat.le_of_ble_eq_true rfl⟩ rfl (Nat.le_of_ble_eq_true rfl) dX8_poolOf_46 (fun r46 σ46 hw => ?_)
  exact vIret (pc := 49) hc dX8_poolOf_49 hw
set_option maxRecDepth 100000 in
set_option maxHeartbeats 4000000 in
theorem t_X8_poolOf_E {p : Program} {l : Launch} {e : Env} {s : State} {m : MethodId} {args : Array Value} {below : List Frame} {meth : Method} {c : Code} {E : WD} {Q : Int32 → MS → Prop} (hc : Cx p rm_X8_poolOf s m args meth c E (AD E) cX8_poolOf RX8 (some .int) 3 0 0 fdm) (x1 x2 : Int32) (σ : MS) (hw : w_X8_poolOf_E Q x1 x2 σ) : V p l e rm_X8_poolOf s m args below meth c E (AD E) 3 0 0 (MQ below (va_Qi Q (BW E) (AD E)) args s 0 0 (AD E)) σ 0 [some (.ref (E.2.1 0)), some (.int x1), some (.int x2)] [] := by
  unfold w_X8_poolOf_E at hw
  refine vAload_n (pc := 0) hc dX8_poolOf_0 rfl ?_
  refine vGetR (pc := 1) (k := 0) (j := 5) hc rfl inG8 (hc.G 0 (Nat.le_of_ble_eq_true rfl)) rfl (Nat.le_of_ble_eq_true rfl) tw_312 rfl dX8_poolOf_1 ?_
  refine vCallVi (pc := 4) (st := []) hc ok_X4_isMade tw_604 (c_X4_isMade hc.2.2.2.2.2.2.1 hc.G hw) (hc.G 11 (Nat.le_of_ble_eq_true rfl)) rfl rfl rfl ⟨rfl, rfl⟩ ⟨Nat.le_of_ble_eq_true rfl, Nat.le_of_ble_eq_true rfl⟩ rfl (Nat.le_of_ble_eq_true rfl) dX8_poolOf_4 (fun r4 σ4 hw => ?_)
  refine vIf_ne (pc := 7) (tgt := 17) hc dX8_poolOf_7 (by decide) (fun c7 => ?_) (fun c7 => ?_)
  · have hw := hw.1 c7
    refine vAload_n (pc := 17) hc dX8_poolOf_17 rfl ?_
    refine vGetR (pc := 18) (k := 0) (j := 1) hc rfl inG8 (hc.G 0 (Nat.le_of_ble_eq_true rfl)) rfl (Nat.le_of_ble_eq_true rfl) tw_308 rfl dX8_poolOf_18 ?_
    refine vIload_n (pc := 21) hc dX8_poolOf_21 rfl ?_
    refine vCallVi (pc := 22) (st := []) hc ok_X2_has tw_379 (c_X2_has hc.2.2.2.2.2.2.1 hc.G hw) (hc.G 4 (Nat.le_of_ble_eq_true rfl)) rfl rfl rfl ⟨rfl, rfl⟩ ⟨Nat.le_of_ble_eq_true rfl, Nat.le_of_ble_eq_true rfl⟩ rfl (Nat.le_of_ble_eq_true rfl) dX8_poolOf_22 (fun r22 σ22 hw => ?_)
    refine vIf_ne (pc := 25) (tgt := 34) hc dX8_poolOf_25 (by decide) (fun c25 => ?_) (fun c25 => ?_)
    · have hw := hw.1 c25
      refine vIload_n (pc := 34) hc dX8_poolOf_34 rfl ?_
      refine vIf_lt (pc := 35) (tgt := 43) hc dX8_poolOf_35 (by decide) (fun c35 => ?_) (fun c35 => ?_)
      · have hw := hw.1 c35
        exact vMono (L2 := [some (.ref (E.2.1 0)), none, none]) (show subL [some (.ref (E.2.1 0)), none, none] [some (.ref (E.2.1 0)), some (.int x1), some (.int x2)] from ⟨rfl, trivial⟩) (t_X8_poolOf_J43 hc   _ hw)
      · have hw := hw.2 c35
        refine vIload_n (pc := 38) hc dX8_poolOf_38 rfl ?_
        refine vIconst (pc := 39) (v := 3) hc dX8_poolOf_39 ki_3 ?_
        refine vIcmp_le (pc := 40) (tgt := 50) hc dX8_poolOf_40 (by decide) (fun c40 => ?_) (fun c40 => ?_)
        · have hw := hw.1 c40
          refine vAload_n (pc := 50) hc dX8_poolOf_50 rfl ?_
          refine vGetR (pc := 51) (k := 0) (j := 5) hc rfl inG8 (hc.G 0 (Nat.le_of_ble_eq_true rfl)) rfl (Nat.le_of_ble_eq_true rfl) tw_312 rfl dX8_poolOf_51 ?_
          refine vIload_n (pc := 54) hc dX8_poolOf_54 rfl ?_
          refine vIload_n (pc := 55) hc dX8_poolOf_55 rfl ?_
          refine vCallVi (pc := 56) (st := []) hc ok_X4_tell tw_625 (c_X4_tell hc.2.2.2.2.2.2.1 hc.G hw) (hc.G 11 (Nat.le_of_ble_eq_true rfl)) rfl rfl rfl ⟨rfl, rfl⟩ ⟨Nat.le_of_ble_eq_true rfl, Nat.le_of_ble_eq_true rfl⟩ rfl (Nat.le_of_ble_eq_true rfl) dX8_poolOf_56 (fun r56 σ56 hw => ?_)
          exact vIret (pc := 59) hc dX8_poolOf_59 hw
        · have hw := hw.2 c40
          exact vMono (L2 := [some (.ref (E.2.1 0)), none, none]) (show subL [some (.ref (E.2.1 0)), none, none] [some (.ref (E.2.1 0)), some (.int x1), some (.int x2)] from ⟨rfl, trivial⟩) (t_X8_poolOf_J43 hc   _ hw)
    · have hw := hw.2 c25
      refine vAload_n (pc := 28) hc dX8_poolOf_28 rfl ?_
      refine vIconst (pc := 29) (v := (-1)) hc dX8_poolOf_29 ki_m1 ?_
      refine vCallVi (pc := 30) (st := []) hc ok_X8_refuse tw_339 (c_X8_refuse hc.2.2.2.2.2.2.1 hc.G hw) (hc.G 0 (Nat.le_of_ble_eq_true rfl)) rfl rfl rfl ⟨rfl, rfl⟩ ⟨Nat.le_of_ble_eq_true rfl, Nat.le_of_ble_eq_true rfl⟩ rfl (Nat.le_of_ble_eq_true rfl) dX8_poolOf_30 (fun r30 σ30 hw => ?_)
      exact vIret (pc := 33) hc dX8_poolOf_33 hw
  · have hw := hw.2 c7
    refine vAload_n (pc := 10) hc dX8_poolOf_10 rfl ?_
    refine vBipush (pc := 11) (v := (-3)) hc dX8_poolOf_11 kb_m3 ?_
    refine vCallVi (pc := 13) (st := []) hc ok_X8_refuse tw_339 (c_X8_refuse hc.2.2.2.2.2.2.1 hc.G hw) (hc.G 0 (Nat.le_of_ble_eq_true rfl)) rfl rfl rfl ⟨rfl, rfl⟩ ⟨Nat.le_of_ble_eq_true rfl, Nat.le_of_ble_eq_true rfl⟩ rfl (Nat.le_of_ble_eq_true rfl) dX8_poolOf_13 (fun r13 σ13 hw => ?_)
    exact vIret (pc := 16) hc dX8_poolOf_16 hw
set_option maxRecDepth 100000 in
set_option maxHeartbeats 4000000 in
theorem c_X8_poolOf {l : Launch} {E : WD} (hE : inj E) (hG : ∀ k, fdm k → k ∈ E.2.2.2) {x1 x2 : Int32} {σ : MS} {Q : Int32 → MS → Prop} (hw : w_X8_poolOf x1 x2 σ Q) : Ci l E yX8_poolOf cX8_poolOf 3 (some .int) rm_X8_poolOf [.ref (E.2.1 0), .int x1, .int x2] σ Q :=
  Ct_of (by decide) rfl (by
    intro v hv
    simp only [List.mem_cons, List.not_mem_nil, or_false] at hv
    rcases hv with rfl | rfl | rfl <;> rfl) (Nat.le_of_ble_eq_true rfl) hE hG (fun p e s m below meth c hc => t_X8_poolOf_E hc x1 x2 σ hw)
def w_X8_same_E (Q : Int32 → MS → Prop) (σ : MS) : Prop := w_X4_isMade  σ (fun r4 σ4 => ((¬ r4 = 0 → w_X2_notAway  σ4 (fun r21 σ21 => w_X0_learnAll r21 σ21 (fun σ30 => w_X1_findBest r21 σ30 (fun r38 σ38 => w_X4_leftCount  σ38 (fun r46 σ46 => w_X4_minutesTogether  σ46 (fun r53 σ53 => w_X4_pools  σ53 (fun r60 σ60 => w_X1_worthOf r46 r53 r60 σ60 (fun r63 σ63 => ((¬ r38 = r63 → Q 0 σ63) ∧ (r38 = r63 → Q 1 σ63)))))))))) ∧ (r4 = 0 → w_X8_refuse (-3) σ4 (fun r13 σ13 => Q r13 σ13))))
abbrev w_X8_same (σ : MS) (Q : Int32 → MS → Prop) : Prop := w_X8_same_E Q  σ
abbrev rm_X8_same : Room := { frames := 18, cells := 0, slots := 0, locals := 526 }
theorem ok_X8_same : OkV yX8_same RX8 cX8_same 4 (some .int) 0 := ⟨tw_630, tw_631, tw_45, tw_632, rfl, by decide, by decide, by decide +kernel⟩
set_option maxRecDepth 100000 in
set_option maxHeartbeats 4000000 in
theorem t_X8_same_E {p : Program} {l : Launch} {e : Env} {s : State} {m : MethodId} {args : Array Value} {below : List Frame} {meth : Method} {c : Code} {E : WD} {Q : Int32 → MS → Prop} (hc : Cx p rm_X8_same s m args meth c E (AD E) cX8_same RX8 (some .int) 4 0 0 fdm) (σ : MS) (hw : w_X8_same_E Q  σ) : V p l e rm_X8_same s m args below meth c E (AD E) 4 0 0 (MQ below (va_Qi Q (BW E) (AD E)) args s 0 0 (AD E)) σ 0 [some (.ref (E.2.1 0)), none, none, none] [] := by
  unfold w_X8_same_E at hw
  refine vAload_n (pc := 0) hc dX8_same_0 rfl ?_
  refine vGetR (pc := 1) (k := 0) (j := 5) hc rfl inG8 (hc.G 0 (Nat.le_of_ble_eq_true rfl)) rfl (Nat.le_of_ble_eq_true rfl) tw_312 rfl dX8_same_1 ?_
  refine vCallVi (pc := 4) (st := []) hc ok_X4_isMade tw_604 (c_X4_isMade hc.2.2.2.2.2.2.1 hc.G hw) (hc.G 11 (Nat.le_of_ble_eq_true rfl)) rfl rfl rfl ⟨rfl, rfl⟩ ⟨Nat.le_of_ble_eq_true rfl, Nat.le_of_ble_eq_true rfl⟩ rfl (Nat.le_of_ble_eq_true rfl) dX8_same_4 (fun r4 σ4 hw => ?_)
  refine vIf_ne (pc := 7) (tgt := 17) hc dX8_same_7 (by decide) (fun c7 => ?_) (fun c7 => ?_)
  · have hw := hw.1 c7
    refine vAload_n (pc := 17) hc dX8_same_17 rfl ?_
    refine vGetR (pc := 18) (k := 0) (j := 1) hc rfl inG8 (hc.G 0 (Nat.le_of_ble_eq_true rfl)) rfl (Nat.le_of_ble_eq_true rfl) tw_308 rfl dX8_same_18 ?_
    refine vCallVi (pc := 21) (st := []) hc ok_X2_notAway tw_541 (c_X2_notAway hc.2.2.2.2.2.2.1 hc.G hw) (hc.G 4 (Nat.le_of_ble_eq_true rfl)) rfl rfl rfl ⟨rfl, rfl⟩ ⟨Nat.le_of_ble_eq_true rfl, Nat.le_of_ble_eq_true rfl⟩ rfl (Nat.le_of_ble_eq_true rfl) dX8_same_21 (fun r21 σ21 hw => ?_)
    refine vIstore_n (pc := 24) (L2 := [some (.ref (E.2.1 0)), some (.int r21), none, none]) hc dX8_same_24 rfl (Nat.le_of_ble_eq_true rfl) ?_
    refine vAload_n (pc := 25) hc dX8_same_25 rfl ?_
    refine vGetR (pc := 26) (k := 0) (j := 3) hc rfl inG8 (hc.G 0 (Nat.le_of_ble_eq_true rfl)) rfl (Nat.le_of_ble_eq_true rfl) tw_310 rfl dX8_same_26 ?_
    refine vIload_n (pc := 29) hc dX8_same_29 rfl ?_
    refine vCallVv (pc := 30) (st := []) hc ok_X0_learnAll tw_542 (c_X0_learnAll hc.2.2.2.2.2.2.1 hc.G hw) (hc.G 9 (Nat.le_of_ble_eq_true rfl)) rfl rfl rfl ⟨rfl, rfl⟩ ⟨Nat.le_of_ble_eq_true rfl, Nat.le_of_ble_eq_true rfl⟩ rfl (Nat.le_of_ble_eq_true rfl) dX8_same_30 (fun σ30 hw => ?_)
    refine vAload_n (pc := 33) hc dX8_same_33 rfl ?_
    refine vGetR (pc := 34) (k := 0) (j := 4) hc rfl inG8 (hc.G 0 (Nat.le_of_ble_eq_true rfl)) rfl (Nat.le_of_ble_eq_true rfl) tw_311 rfl dX8_same_34 ?_
    refine vIload_n (pc := 37) hc dX8_same_37 rfl ?_
    refine vCallVi (pc := 38) (st := []) hc ok_X1_findBest tw_548 (c_X1_findBest hc.2.2.2.2.2.2.1 hc.G hw) (hc.G 10 (Nat.le_of_ble_eq_true rfl)) rfl rfl rfl ⟨rfl, rfl⟩ ⟨Nat.le_of_ble_eq_true rfl, Nat.le_of_ble_eq_true rfl⟩ rfl (Nat.le_of_ble_eq_true rfl) dX8_same_38 (fun r38 σ38 hw => ?_)
    refine vIstore_n (pc := 41) (L2 := [some (.ref (E.2.1 0)), some (.int r21), some (.int r38), none]) hc dX8_same_41 rfl (Nat.le_of_ble_eq_true rfl) ?_
    refine vAload_n (pc := 42) hc dX8_same_42 rfl ?_
    refine vGetR (pc := 43) (k := 0) (j := 5) hc rfl inG8 (hc.G 0 (Nat.le_of_ble_eq_true rfl)) rfl (Nat.le_of_ble_eq_true rfl) tw_312 rfl dX8_same_43 ?_
    refine vCallVi (pc := 46) (st := []) hc ok_X4_leftCount tw_608 (c_X4_leftCount hc.2.2.2.2.2.2.1 hc.G hw) (hc.G 11 (Nat.le_of_ble_eq_true rfl)) rfl rfl rfl ⟨rfl, rfl⟩ ⟨Nat.le_of_ble_eq_true rfl, Nat.le_of_ble_eq_true rfl⟩ rfl (Nat.le_of_ble_eq_true rfl) dX8_same_46 (fun r46 σ46 hw => ?_)
    refine vAload_n (pc := 49) hc dX8_same_49 rfl ?_
    refine vGetR (pc := 50) (k := 0) (j := 5) hc rfl inG8 (hc.G 0 (Nat.le_of_ble_eq_true rfl)) rfl (Nat.le_of_ble_eq_true rfl) tw_312 rfl dX8_same_50 ?_
    refine vCallVi (pc := 53) (st := [(.int r46)]) hc ok_X4_minutesTogether tw_613 (c_X4_minutesTogether hc.2.2.2.2.2.2.1 hc.G hw) (hc.G 11 (Nat.le_of_ble_eq_true rfl)) rfl rfl rfl ⟨rfl, rfl⟩ ⟨Nat.le_of_ble_eq_true rfl, Nat.le_of_ble_eq_true rfl⟩ rfl (Nat.le_of_ble_eq_true rfl) dX8_same_53 (fun r53 σ53 hw => ?_)
    refine vAload_n (pc := 56) hc dX8_same_56 rfl ?_
    refine vGetR (pc := 57) (k := 0) (j := 5) hc rfl inG8 (hc.G 0 (Nat.le_of_ble_eq_true rfl)) rfl (Nat.le_of_ble_eq_true rfl) tw_312 rfl dX8_same_57 ?_
    refine vCallVi (pc := 60) (st := [(.int r53), (.int r46)]) hc ok_X4_pools tw_592 (c_X4_pools hc.2.2.2.2.2.2.1 hc.G hw) (hc.G 11 (Nat.le_of_ble_eq_true rfl)) rfl rfl rfl ⟨rfl, rfl⟩ ⟨Nat.le_of_ble_eq_true rfl, Nat.le_of_ble_eq_true rfl⟩ rfl (Nat.le_of_ble_eq_true rfl) dX8_same_60 (fun r60 σ60 hw => ?_)
    refine vCallSi (pc := 63) (st := []) hc ok_X1_worthOf tw_633 (c_X1_worthOf hc.2.2.2.2.2.2.1 hc.G hw) rfl ⟨rfl, rfl⟩ ⟨Nat.le_of_ble_eq_true rfl, Nat.le_of_ble_eq_true rfl⟩ rfl (Nat.le_of_ble_eq_true rfl) dX8_same_63 (fun r63 σ63 hw => ?_)
    refine vIstore_n (pc := 66) (L2 := [some (.ref (E.2.1 0)), some (.int r21), some (.int r38), some (.int r63)]) hc dX8_same_66 rfl (Nat.le_of_ble_eq_true rfl) ?_
    refine vIload_n (pc := 67) hc dX8_same_67 rfl ?_
    refine vIload_n (pc := 68) hc dX8_same_68 rfl ?_
    refine vIcmp_ne (pc := 69) (tgt := 76) hc dX8_same_69 (by decide) (fun c69 => ?_) (fun c69 => ?_)
    · have hw := hw.1 c69
      refine vIconst (pc := 76) (v := 0) hc dX8_same_76 ki_0 ?_
      exact vIret (pc := 77) hc dX8_same_77 hw
    · have hw := hw.2 c69
      refine vIconst (pc := 72) (v := 1) hc dX8_same_72 ki_1 ?_
      refine vGoto (pc := 73) (tgt := 77) hc dX8_same_73 (by decide) ?_
      exact vIret (pc := 77) hc dX8_same_77 hw
  · have hw := hw.2 c7
    refine vAload_n (pc := 10) hc dX8_same_10 rfl ?_
    refine vBipush (pc := 11) (v := (-3)) hc dX8_same_11 kb_m3 ?_
    refine vCallVi (pc := 13) (st := []) hc ok_X8_refuse tw_339 (c_X8_refuse hc.2.2.2.2.2.2.1 hc.G hw) (hc.G 0 (Nat.le_of_ble_eq_true rfl)) rfl rfl rfl ⟨rfl, rfl⟩ ⟨Nat.le_of_ble_eq_true rfl, Nat.le_of_ble_eq_true rfl⟩ rfl (Nat.le_of_ble_eq_true rfl) dX8_same_13 (fun r13 σ13 hw => ?_)
    exact vIret (pc := 16) hc dX8_same_16 hw
set_option maxRecDepth 100000 in
set_option maxHeartbeats 4000000 in
theorem c_X8_same {l : Launch} {E : WD} (hE : inj E) (hG : ∀ k, fdm k → k ∈ E.2.2.2) {σ : MS} {Q : Int32 → MS → Prop} (hw : w_X8_same  σ Q) : Ci l E yX8_same cX8_same 4 (some .int) rm_X8_same [.ref (E.2.1 0)] σ Q :=
  Ct_of (by decide) rfl (by
    intro v hv
    simp only [List.mem_cons, List.not_mem_nil, or_false] at hv
    rcases hv with rfl <;> rfl) (Nat.le_of_ble_eq_true rfl) hE hG (fun p e s m below meth c hc => t_X8_same_E hc  σ hw)
def w_X8_evenOut_E (Q : Int32 → MS → Prop) (x1 x2 : Int32) (σ : MS) : Prop := w_X2_someAway x1 σ (fun r5 σ5 => ((r5 = 0 → w_X8_whoseTurn x1 σ5 (fun r15 σ15 => ((¬ r15 = (-9) → w_X8_putIntoPlan x1 r15 σ15 (fun r30 σ30 => ((r15 = x2 → Q 0 σ30) ∧ (¬ r15 = x2 → Q 1 σ30)))) ∧ (r15 = (-9) → Q 0 σ15)))) ∧ (¬ r5 = 0 → Q 0 σ5)))
abbrev w_X8_evenOut (x1 x2 : Int32) (σ : MS) (Q : Int32 → MS → Prop) : Prop := w_X8_evenOut_E Q x1 x2 σ
abbrev rm_X8_evenOut : Room := { frames := 17, cells := 0, slots := 0, locals := 506 }
theorem ok_X8_evenOut : OkV yX8_evenOut RX8 cX8_evenOut 4 (some .boolean) 2 := ⟨tw_651, tw_18, tw_45, tw_652, rfl, by decide, by decide, by decide +kernel⟩
set_option maxRecDepth 100000 in
set_option maxHeartbeats 4000000 in
theorem t_X8_evenOut_E {p : Program} {l : Launch} {e : Env} {s : State} {m : MethodId} {args : Array Value} {below : List Frame} {meth : Method} {c : Code} {E : WD} {Q : Int32 → MS → Prop} (hc : Cx p rm_X8_evenOut s m args meth c E (AD E) cX8_evenOut RX8 (some .boolean) 4 0 0 fdm) (x1 x2 : Int32) (σ : MS) (hw : w_X8_evenOut_E Q x1 x2 σ) : V p l e rm_X8_evenOut s m args below meth c E (AD E) 4 0 0 (MQ below (va_Qi Q (BW E) (AD E)) args s 0 0 (AD E)) σ 0 [some (.ref (E.2.1 0)), some (.int x1), some (.int x2), none] [] := by
  unfold w_X8_evenOut_E at hw
  refine vAload_n (pc := 0) hc dX8_evenOut_0 rfl ?_
  refine vGetR (pc := 1) (k := 0) (j := 1) hc rfl inG8 (hc.G 0 (Nat.le_of_ble_eq_true rfl)) rfl (Nat.le_of_ble_eq_true rfl) tw_308 rfl dX8_evenOut_1 ?_
  refine vIload_n (pc := 4) hc dX8_evenOut_4 rfl ?_
  refine vCallVi (pc := 5) (st := []) hc ok_X2_someAway tw_424 (c_X2_someAway hc.2.2.2.2.2.2.1 hc.G hw) (hc.G 4 (Nat.le_of_ble_eq_true rfl)) rfl rfl rfl ⟨rfl, rfl⟩ ⟨Nat.le_of_ble_eq_true rfl, Nat.le_of_ble_eq_true rfl⟩ rfl (Nat.le_of_ble_eq_true rfl) dX8_evenOut_5 (fun r5 σ5 hw => ?_)
  refine vIf_eq (pc := 8) (tgt := 13) hc dX8_evenOut_8 (by decide) (fun c8 => ?_) (fun c8 => ?_)
  · have hw := hw.1 c8
    refine vAload_n (pc := 13) hc dX8_evenOut_13 rfl ?_
    refine vIload_n (pc := 14) hc dX8_evenOut_14 rfl ?_
    refine vCallVi (pc := 15) (st := []) hc ok_X8_whoseTurn tw_533 (c_X8_whoseTurn hc.2.2.2.2.2.2.1 hc.G hw) (hc.G 0 (Nat.le_of_ble_eq_true rfl)) rfl rfl rfl ⟨rfl, rfl⟩ ⟨Nat.le_of_ble_eq_true rfl, Nat.le_of_ble_eq_true rfl⟩ rfl (Nat.le_of_ble_eq_true rfl) dX8_evenOut_15 (fun r15 σ15 hw => ?_)
    refine vIstore_n (pc := 18) (L2 := [some (.ref (E.2.1 0)), some (.int x1), some (.int x2), some (.int r15)]) hc dX8_evenOut_18 rfl (Nat.le_of_ble_eq_true rfl) ?_
    refine vIload_n (pc := 19) hc dX8_evenOut_19 rfl ?_
    refine vBipush (pc := 20) (v := (-9)) hc dX8_evenOut_20 kb_m9 ?_
    refine vIcmp_ne (pc := 22) (tgt := 27) hc dX8_evenOut_22 (by decide) (fun c22 => ?_) (fun c22 => ?_)
    · have hw := hw.1 c22
      refine vAload_n (pc := 27) hc dX8_evenOut_27 rfl ?_
      refine vIload_n (pc := 28) hc dX8_evenOut_28 rfl ?_
      refine vIload_n (pc := 29) hc dX8_evenOut_29 rfl ?_
      refine vCallVi (pc := 30) (st := []) hc ok_X8_putIntoPlan tw_584 (c_X8_putIntoPlan hc.2.2.2.2.2.2.1 hc.G hw) (hc.G 0 (Nat.le_of_ble_eq_true rfl)) rfl rfl rfl ⟨rfl, rfl⟩ ⟨Nat.le_of_ble_eq_true rfl, Nat.le_of_ble_eq_true rfl⟩ rfl (Nat.le_of_ble_eq_true rfl) dX8_evenOut_30 (fun r30 σ30 hw => ?_)
      refine vPop (pc := 33) hc dX8_evenOut_33 rfl ?_
      refine vIload_n (pc := 34) hc dX8_evenOut_34 rfl ?_
      refine vIload_n (pc := 35) hc dX8_evenOut_35 rfl ?_
      refine vIcmp_eq (pc := 36) (tgt := 43) hc dX8_evenOut_36 (by decide) (fun c36 => ?_) (fun c36 => ?_)
      · have hw := hw.1 c36
        refine vIconst (pc := 43) (v := 0) hc dX8_evenOut_43 ki_0 ?_
        exact vZret (pc := 44) hc dX8_evenOut_44 (Or.inl rfl) hw
      · have hw := hw.2 c36
        refine vIconst (pc := 39) (v := 1) hc dX8_evenOut_39 ki_1 ?_
        refine vGoto (pc := 40) (tgt := 44) hc dX8_evenOut_40 (by decide) ?_
        exact vZret (pc := 44) hc dX8_evenOut_44 (Or.inr rfl) hw
    · have hw := hw.2 c22
      refine vIconst (pc := 25) (v := 0) hc dX8_evenOut_25 ki_0 ?_
      exact vZret (pc := 26) hc dX8_evenOut_26 (Or.inl rfl) hw
  · have hw := hw.2 c8
    refine vIconst (pc := 11) (v := 0) hc dX8_evenOut_11 ki_0 ?_
    exact vZret (pc := 12) hc dX8_evenOut_12 (Or.inl rfl) hw
set_option maxRecDepth 100000 in
set_option maxHeartbeats 4000000 in
theorem c_X8_evenOut {l : Launch} {E : WD} (hE : inj E) (hG : ∀ k, fdm k → k ∈ E.2.2.2) {x1 x2 : Int32} {σ : MS} {Q : Int32 → MS → Prop} (hw : w_X8_evenOut x1 x2 σ Q) : Ci l E yX8_evenOut cX8_evenOut 4 (some .boolean) rm_X8_evenOut [.ref (E.2.1 0), .int x1, .int x2] σ Q :=
  Ct_of (by decide) rfl (by
    intro v hv
    simp only [List.mem_cons, List.not_mem_nil, or_false] at hv
    rcases hv with rfl | rfl | rfl <;> rfl) (Nat.le_of_ble_eq_true rfl) hE hG (fun p e s m below meth c hc => t_X8_evenOut_E hc x1 x2 σ hw)
def w_X8_even_H21 (Q : Int32 → MS → Prop) : Nat → Int32 → Int32 → MS → Prop
  | 0, _, _, _ => False
  | n + 1, x1, x2, σ => ((9 ≤ x2 → Q x1 σ) ∧ (¬ 9 ≤ x2 → w_X4_leads x2 σ (fun r32 σ32 => ((r32 = 0 → w_X8_even_H21 Q n x1 (x2 + 1) σ32) ∧ (¬ r32 = 0 → w_X4_poolAt x2 σ32 (fun r44 σ44 => w_X4_driverAt x2 σ44 (fun r52 σ52 => w_X8_evenOut r44 r52 σ52 (fun r55 σ55 => ((r55 = 0 → w_X8_even_H21 Q n x1 (x2 + 1) σ55) ∧ (¬ r55 = 0 → w_X8_even_H21 Q n (x1 + 1) (x2 + 1) σ55))))))))))
def w_X8_even_E (Q : Int32 → MS → Prop) (σ : MS) : Prop := w_X4_isMade  σ (fun r4 σ4 => ((¬ r4 = 0 → (∃ n21, w_X8_even_H21 Q n21 0 0 σ4)) ∧ (r4 = 0 → w_X8_refuse (-3) σ4 (fun r13 σ13 => Q r13 σ13))))
abbrev w_X8_even (σ : MS) (Q : Int32 → MS → Prop) : Prop := w_X8_even_E Q  σ
abbrev rm_X8_even : Room := { frames := 18, cells := 0, slots := 0, locals := 529 }
theorem ok_X8_even : OkV yX8_even RX8 cX8_even 3 (some .int) 0 := ⟨tw_637, tw_638, tw_45, tw_639, rfl, by decide, by decide, by decide +kernel⟩
set_option maxRecDepth 100000 in
set_option maxHeartbeats 4000000 in
theorem t_X8_even_H21 {p : Program} {l : Launch} {e : Env} {s : State} {m : MethodId} {args : Array Value} {below : List Frame} {meth : Method} {c : Code} {E : WD} {Q : Int32 → MS → Prop} (hc : Cx p rm_X8_even s m args meth c E (AD E) cX8_even RX8 (some .int) 3 0 0 fdm) : ∀ (n : Nat) (x1 x2 : Int32) (σ : MS), w_X8_even_H21 Q n x1 x2 σ → V p l e rm_X8_even s m args below meth c E (AD E) 3 0 0 (MQ below (va_Qi Q (BW E) (AD E)) args s 0 0 (AD E)) σ 21 [some (.ref (E.2.1 0)), some (.int x1), some (.int x2)] [] := by
  intro n
  induction n with
  | zero =>
    intro x1 x2 σ hw
    exact hw.elim
  | succ n ih =>
    intro x1 x2 σ hw
    unfold w_X8_even_H21 at hw
    refine vIload_n (pc := 21) hc dX8_even_21 rfl ?_
    refine vBipush (pc := 22) (v := 9) hc dX8_even_22 kb_9 ?_
    refine vIcmp_ge (pc := 24) (tgt := 70) hc dX8_even_24 (by decide) (fun c24 => ?_) (fun c24 => ?_)
    · have hw := hw.1 c24
      refine vIload_n (pc := 70) hc dX8_even_70 rfl ?_
      exact vIret (pc := 71) hc dX8_even_71 hw
    · have hw := hw.2 c24
      refine vAload_n (pc := 27) hc dX8_even_27 rfl ?_
      refine vGetR (pc := 28) (k := 0) (j := 5) hc rfl inG8 (hc.G 0 (Nat.le_of_ble_eq_true rfl)) rfl (Nat.le_of_ble_eq_true rfl) tw_312 rfl dX8_even_28 ?_
      refine vIload_n (pc := 31) hc dX8_even_31 rfl ?_
      refine vCallVi (pc := 32) (st := []) hc ok_X4_leads tw_640 (c_X4_leads hc.2.2.2.2.2.2.1 hc.G hw) (hc.G 11 (Nat.le_of_ble_eq_true rfl)) rfl rfl rfl ⟨rfl, rfl⟩ ⟨Nat.le_of_ble_eq_true rfl, Nat.le_of_ble_eq_true rfl⟩ rfl (Nat.le_of_ble_eq_true rfl) dX8_even_32 (fun r32 σ32 hw => ?_)
      refine vIf_eq (pc := 35) (tgt := 64) hc dX8_even_35 (by decide) (fun c35 => ?_) (fun c35 => ?_)
      · have hw := hw.1 c35
        refine vIinc (pc := 64) (v := x2 + 1) (L2 := [some (.ref (E.2.1 0)), some (.int x1), some (.int (x2 + 1))]) hc dX8_even_64 rfl rfl rfl (Nat.le_of_ble_eq_true rfl) ?_
        refine vGoto (pc := 67) (tgt := 21) hc dX8_even_67 (by decide) ?_
        exact vMono (L2 := [some (.ref (E.2.1 0)), some (.int x1), some (.int (x2 + 1))]) (show subL [some (.ref (E.2.1 0)), some (.int x1), some (.int (x2 + 1))] [some (.ref (E.2.1 0)), some (.int x1), some (.int (x2 + 1))] from ⟨rfl, ⟨rfl, ⟨rfl, trivial⟩⟩⟩) (ih x1 (x2 + 1) _ hw)
      · have hw := hw.2 c35
        refine vAload_n (pc := 38) hc dX8_even_38 rfl ?_
        refine vAload_n (pc := 39) hc dX8_even_39 rfl ?_
        refine vGetR (pc := 40) (k := 0) (j := 5) hc rfl inG8 (hc.G 0 (Nat.le_of_ble_eq_true rfl)) rfl (Nat.le_of_ble_eq_true rfl) tw_312 rfl dX8_even_40 ?_
        refine vIload_n (pc := 43) hc dX8_even_43 rfl ?_
        refine vCallVi (pc := 44) (st := [(.ref (E.2.1 0))]) hc ok_X4_poolAt tw_641 (c_X4_poolAt hc.2.2.2.2.2.2.1 hc.G hw) (hc.G 11 (Nat.le_of_ble_eq_true rfl)) rfl rfl rfl ⟨rfl, rfl⟩ ⟨Nat.le_of_ble_eq_true rfl, Nat.le_of_ble_eq_true rfl⟩ rfl (Nat.le_of_ble_eq_true rfl) dX8_even_44 (fun r44 σ44 hw => ?_)
        refine vAload_n (pc := 47) hc dX8_even_47 rfl ?_
        refine vGetR (pc := 48) (k := 0) (j := 5) hc rfl inG8 (hc.G 0 (Nat.le_of_ble_eq_true rfl)) rfl (Nat.le_of_ble_eq_true rfl) tw_312 rfl dX8_even_48 ?_
        refine vIload_n (pc := 51) hc dX8_even_51 rfl ?_
        refine vCallVi (pc := 52) (st := [(.int r44), (.ref (E.2.1 0))]) hc ok_X4_driverAt tw_645 (c_X4_driverAt hc.2.2.2.2.2.2.1 hc.G hw) (hc.G 11 (Nat.le_of_ble_eq_true rfl)) rfl rfl rfl ⟨rfl, rfl⟩ ⟨Nat.le_of_ble_eq_true rfl, Nat.le_of_ble_eq_true rfl⟩ rfl (Nat.le_of_ble_eq_true rfl) dX8_even_52 (fun r52 σ52 hw => ?_)
        refine vCallVi (pc := 55) (st := []) hc ok_X8_evenOut tw_649 (c_X8_evenOut hc.2.2.2.2.2.2.1 hc.G hw) (hc.G 0 (Nat.le_of_ble_eq_true rfl)) rfl rfl rfl ⟨rfl, rfl⟩ ⟨Nat.le_of_ble_eq_true rfl, Nat.le_of_ble_eq_true rfl⟩ rfl (Nat.le_of_ble_eq_true rfl) dX8_even_55 (fun r55 σ55 hw => ?_)
        refine vIf_eq (pc := 58) (tgt := 64) hc dX8_even_58 (by decide) (fun c58 => ?_) (fun c58 => ?_)
        · have hw := hw.1 c58
          refine vIinc (pc := 64) (v := x2 + 1) (L2 := [some (.ref (E.2.1 0)), some (.int x1), some (.int (x2 + 1))]) hc dX8_even_64 rfl rfl rfl (Nat.le_of_ble_eq_true rfl) ?_
          refine vGoto (pc := 67) (tgt := 21) hc dX8_even_67 (by decide) ?_
          exact vMono (L2 := [some (.ref (E.2.1 0)), some (.int x1), some (.int (x2 + 1))]) (show subL [some (.ref (E.2.1 0)), some (.int x1), some (.int (x2 + 1))] [some (.ref (E.2.1 0)), some (.int x1), some (.int (x2 + 1))] from ⟨rfl, ⟨rfl, ⟨rfl, trivial⟩⟩⟩) (ih x1 (x2 + 1) _ hw)
        · have hw := hw.2 c58
          refine vIinc (pc := 61) (v := x1 + 1) (L2 := [some (.ref (E.2.1 0)), some (.int (x1 + 1)), some (.int x2)]) hc dX8_even_61 rfl rfl rfl (Nat.le_of_ble_eq_true rfl) ?_
          refine vIinc (pc := 64) (v := x2 + 1) (L2 := [some (.ref (E.2.1 0)), some (.int (x1 + 1)), some (.int (x2 + 1))]) hc dX8_even_64 rfl rfl rfl (Nat.le_of_ble_eq_true rfl) ?_
          refine vGoto (pc := 67) (tgt := 21) hc dX8_even_67 (by decide) ?_
          exact vMono (L2 := [some (.ref (E.2.1 0)), some (.int (x1 + 1)), some (.int (x2 + 1))]) (show subL [some (.ref (E.2.1 0)), some (.int (x1 + 1)), some (.int (x2 + 1))] [some (.ref (E.2.1 0)), some (.int (x1 + 1)), some (.int (x2 + 1))] from ⟨rfl, ⟨rfl, ⟨rfl, trivial⟩⟩⟩) (ih (x1 + 1) (x2 + 1) _ hw)
set_option maxRecDepth 100000 in
set_option maxHeartbeats 4000000 in
theorem t_X8_even_E {p : Program} {l : Launch} {e : Env} {s : State} {m : MethodId} {args : Array Value} {below : List Frame} {meth : Method} {c : Code} {E : WD} {Q : Int32 → MS → Prop} (hc : Cx p rm_X8_even s m args meth c E (AD E) cX8_even RX8 (some .int) 3 0 0 fdm) (σ : MS) (hw : w_X8_even_E Q  σ) : V p l e rm_X8_even s m args below meth c E (AD E) 3 0 0 (MQ below (va_Qi Q (BW E) (AD E)) args s 0 0 (AD E)) σ 0 [some (.ref (E.2.1 0)), none, none] [] := by
  unfold w_X8_even_E at hw
  refine vAload_n (pc := 0) hc dX8_even_0 rfl ?_
  refine vGetR (pc := 1) (k := 0) (j := 5) hc rfl inG8 (hc.G 0 (Nat.le_of_ble_eq_true rfl)) rfl (Nat.le_of_ble_eq_true rfl) tw_312 rfl dX8_even_1 ?_
  refine vCallVi (pc := 4) (st := []) hc ok_X4_isMade tw_604 (c_X4_isMade hc.2.2.2.2.2.2.1 hc.G hw) (hc.G 11 (Nat.le_of_ble_eq_true rfl)) rfl rfl rfl ⟨rfl, rfl⟩ ⟨Nat.le_of_ble_eq_true rfl, Nat.le_of_ble_eq_true rfl⟩ rfl (Nat.le_of_ble_eq_true rfl) dX8_even_4 (fun r4 σ4 hw => ?_)
  refine vIf_ne (pc := 7) (tgt := 17) hc dX8_even_7 (by decide) (fun c7 => ?_) (fun c7 => ?_)
  · have hw := hw.1 c7
    refine vIconst (pc := 17) (v := 0) hc dX8_even_17 ki_0 ?_
    refine vIstore_n (pc := 18) (L2 := [some (.ref (E.2.1 0)), some (.int 0), none]) hc dX8_even_18 rfl (Nat.le_of_ble_eq_true rfl) ?_
    refine vIconst (pc := 19) (v := 0) hc dX8_even_19 ki_0 ?_
    refine vIstore_n (pc := 20) (L2 := [some (.ref (E.2.1 0)), some (.int 0), some (.int 0)]) hc dX8_even_20 rfl (Nat.le_of_ble_eq_true rfl) ?_
    obtain ⟨n21, hw⟩ := hw
    exact vMono (L2 := [some (.ref (E.2.1 0)), some (.int 0), some (.int 0)]) (show subL [some (.ref (E.2.1 0)), some (.int 0), some (.int 0)] [some (.ref (E.2.1 0)), some (.int 0), some (.int 0)] from ⟨rfl, ⟨rfl, ⟨rfl, trivial⟩⟩⟩) (t_X8_even_H21 hc  n21 0 0 _ hw)
  · have hw := hw.2 c7
    refine vAload_n (pc := 10) hc dX8_even_10 rfl ?_
    refine vBipush (pc := 11) (v := (-3)) hc dX8_even_11 kb_m3 ?_
    refine vCallVi (pc := 13) (st := []) hc ok_X8_refuse tw_339 (c_X8_refuse hc.2.2.2.2.2.2.1 hc.G hw) (hc.G 0 (Nat.le_of_ble_eq_true rfl)) rfl rfl rfl ⟨rfl, rfl⟩ ⟨Nat.le_of_ble_eq_true rfl, Nat.le_of_ble_eq_true rfl⟩ rfl (Nat.le_of_ble_eq_true rfl) dX8_even_13 (fun r13 σ13 hw => ?_)
    exact vIret (pc := 16) hc dX8_even_16 hw
set_option maxRecDepth 100000 in
set_option maxHeartbeats 4000000 in
theorem c_X8_even {l : Launch} {E : WD} (hE : inj E) (hG : ∀ k, fdm k → k ∈ E.2.2.2) {σ : MS} {Q : Int32 → MS → Prop} (hw : w_X8_even  σ Q) : Ci l E yX8_even cX8_even 3 (some .int) rm_X8_even [.ref (E.2.1 0)] σ Q :=
  Ct_of (by decide) rfl (by
    intro v hv
    simp only [List.mem_cons, List.not_mem_nil, or_false] at hv
    rcases hv with rfl <;> rfl) (Nat.le_of_ble_eq_true rfl) hE hG (fun p e s m below meth c hc => t_X8_even_E hc  σ hw)
