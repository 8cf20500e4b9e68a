def w_X9_broken_E (Q : Int32 → MS → Prop) (x1 x2 : Int32) (σ : MS) : Prop := w_X9_isPerson x1 σ (fun r2 σ2 => ((¬ r2 = 0 → ((vp_in x1 9) ∧ ((¬ (σ2 80 x1.toNatClampNeg) = x2 → ((zb x2) ∧ (∀ σ32, σ32 = mst σ2 80 x1.toNatClampNeg x2 → w_X9_changes  σ32 (fun σ34 => Q 1 σ34)))) ∧ ((σ2 80 x1.toNatClampNeg) = x2 → Q 0 σ2)))) ∧ (r2 = 0 → w_X9_refuse (-1) σ2 (fun r10 σ10 => Q r10 σ10))))
abbrev w_X9_broken (x1 x2 : Int32) (σ : MS) (Q : Int32 → MS → Prop) : Prop := w_X9_broken_E Q x1 x2 σ
abbrev rm_X9_broken : Room := { frames := 2, cells := 0, slots := 0, locals := 42 }
theorem ok_X9_broken : OkV yX9_broken RX9 cX9_broken 3 (some .int) 2 := ⟨tw_894, tw_895, tw_57, tw_896, rfl, by decide, by decide, by decide +kernel⟩
set_option maxRecDepth 100000 in
set_option maxHeartbeats 4000000 in
theorem t_X9_broken_E {p : Program} {l : Launch} {e : Env} {s : State} {m : MethodId} {args : Array Value} {below : List Frame} {meth : Method} {c : Code} {E : WD} {Q : Int32 → MS → Prop} (hc : Cx p rm_X9_broken s m args meth c E (AD E) cX9_broken RX9 (some .int) 3 0 0 fdm) (x1 x2 : Int32) (σ : MS) (hw : w_X9_broken_E Q x1 x2 σ) : V p l e rm_X9_broken s m args below meth c E (AD E) 3 0 0 (MQ below (va_Qi Q (BW E) (AD E)) args s 0 0 (AD E)) σ 0 [some (.ref (E.2.1 66)), some (.int x1), some (.int x2)] [] := by
  unfold w_X9_broken_E at hw
  refine vAload_n (pc := 0) hc dX9_broken_0 rfl ?_
  refine vIload_n (pc := 1) hc dX9_broken_1 rfl ?_
  refine vCallVi (pc := 2) (st := []) hc ok_X9_isPerson tw_881 (c_X9_isPerson hc.2.2.2.2.2.2.1 hc.G hw) (hc.G 66 (Nat.le_of_ble_eq_true rfl)) rfl rfl rfl ⟨rfl, rfl⟩ ⟨Nat.le_of_ble_eq_true rfl, Nat.le_of_ble_eq_true rfl⟩ rfl (Nat.le_of_ble_eq_true rfl) dX9_broken_2 (fun r2 σ2 hw => ?_)
  refine vIf_ne (pc := 5) (tgt := 14) hc dX9_broken_5 (by decide) (fun c5 => ?_) (fun c5 => ?_)
  · have hw := hw.1 c5
    refine vAload_n (pc := 14) hc dX9_broken_14 rfl ?_
    refine vGetR (pc := 15) (k := 66) (j := 15) hc rfl inG9 (hc.G 66 (Nat.le_of_ble_eq_true rfl)) rfl (Nat.le_of_ble_eq_true rfl) tw_738 rfl dX9_broken_15 ?_
    refine vIload_n (pc := 18) hc dX9_broken_18 rfl ?_
    obtain ⟨hi1, hw⟩ := hw
    refine vZald (pc := 19) (k := 80) hc (hc.G 80 (Nat.le_of_ble_eq_true rfl)) rfl rfl hi1 dX9_broken_19 ?_
    refine vIload_n (pc := 20) hc dX9_broken_20 rfl ?_
    refine vIcmp_ne (pc := 21) (tgt := 26) hc dX9_broken_21 (by decide) (fun c21 => ?_) (fun c21 => ?_)
    · have hw := hw.1 c21
      refine vAload_n (pc := 26) hc dX9_broken_26 rfl ?_
      refine vGetR (pc := 27) (k := 66) (j := 15) hc rfl inG9 (hc.G 66 (Nat.le_of_ble_eq_true rfl)) rfl (Nat.le_of_ble_eq_true rfl) tw_738 rfl dX9_broken_27 ?_
      refine vIload_n (pc := 30) hc dX9_broken_30 rfl ?_
      refine vIload_n (pc := 31) hc dX9_broken_31 rfl ?_
      obtain ⟨hz2, hw⟩ := hw
      refine vZast (pc := 32) (k := 80) hc (hc.G 80 (Nat.le_of_ble_eq_true rfl)) rfl rfl hi1 hz2 dX9_broken_32 (fun σ32 eσ32 => ?_)
      have hw := hw σ32 eσ32
      refine vAload_n (pc := 33) hc dX9_broken_33 rfl ?_
      refine vCallVv (pc := 34) (st := []) hc ok_X9_changes tw_719 (c_X9_changes hc.2.2.2.2.2.2.1 hc.G hw) (hc.G 66 (Nat.le_of_ble_eq_true rfl)) rfl rfl rfl ⟨rfl, rfl⟩ ⟨Nat.le_of_ble_eq_true rfl, Nat.le_of_ble_eq_true rfl⟩ rfl (Nat.le_of_ble_eq_true rfl) dX9_broken_34 (fun σ34 hw => ?_)
      refine vIconst (pc := 37) (v := 1) hc dX9_broken_37 ki_1 ?_
      exact vIret (pc := 38) hc dX9_broken_38 hw
    · have hw := hw.2 c21
      refine vIconst (pc := 24) (v := 0) hc dX9_broken_24 ki_0 ?_
      exact vIret (pc := 25) hc dX9_broken_25 hw
  · have hw := hw.2 c5
    refine vAload_n (pc := 8) hc dX9_broken_8 rfl ?_
    refine vIconst (pc := 9) (v := (-1)) hc dX9_broken_9 ki_m1 ?_
    refine vCallVi (pc := 10) (st := []) hc ok_X9_refuse tw_861 (c_X9_refuse hc.2.2.2.2.2.2.1 hc.G hw) (hc.G 66 (Nat.le_of_ble_eq_true rfl)) rfl rfl rfl ⟨rfl, rfl⟩ ⟨Nat.le_of_ble_eq_true rfl, Nat.le_of_ble_eq_true rfl⟩ rfl (Nat.le_of_ble_eq_true rfl) dX9_broken_10 (fun r10 σ10 hw => ?_)
    exact vIret (pc := 13) hc dX9_broken_13 hw
set_option maxRecDepth 100000 in
set_option maxHeartbeats 4000000 in
theorem c_X9_broken {l : Launch} {E : WD} (hE : inj E) (hG : ∀ k, fdm k → k ∈ E.2.2.2) {x1 x2 : Int32} {σ : MS} {Q : Int32 → MS → Prop} (hw : w_X9_broken x1 x2 σ Q) : Ci l E yX9_broken cX9_broken 3 (some .int) rm_X9_broken [.ref (E.2.1 66), .int x1, .int x2] σ Q :=
  Ct_of (by decide) rfl (by
    intro v hv
    simp only [List.mem_cons, List.not_mem_nil, or_false] at hv
    rcases hv with rfl | rfl | rfl <;> rfl) (Nat.le_of_ble_eq_true rfl) hE hG (fun p e s m below meth c hc => t_X9_broken_E hc x1 x2 σ hw)
def w_X9_many_H4 (Q : Int32 → MS → Prop) : Nat → Int32 → Int32 → MS → Prop
  | 0, _, _, _ => False
  | n + 1, x1, x2, σ => ((x2 = 0 → Q x1 σ) ∧ (¬ x2 = 0 → (∀ x2_16 : Int32, x2_16 = (x2 &&& (x2 - 1)) → w_X9_many_H4 Q n (x1 + 1) x2_16 σ)))
def w_X9_many_E (Q : Int32 → MS → Prop) (x0 : Int32) (σ : MS) : Prop := (∃ n4, w_X9_many_H4 Q n4 0 x0 σ)
abbrev w_X9_many (x0 : Int32) (σ : MS) (Q : Int32 → MS → Prop) : Prop := w_X9_many_E Q x0 σ
abbrev rm_X9_many : Room := { frames := 0, cells := 0, slots := 0, locals := 0 }
theorem ok_X9_many : OkS yX9_many cX9_many 3 (some .int) 1 := ⟨tw_910, tw_57, tw_911, by decide, by decide, by decide +kernel⟩
set_option maxRecDepth 100000 in
set_option maxHeartbeats 4000000 in
theorem t_X9_many_H4 {p : Program} {l : Launch} {e : Env} {s : State} {m : MethodId} {args : Array Value} {below : List Frame} {meth : Method} {c : Code} {E : WD} {Q : Int32 → MS → Prop} (hc : Cx p rm_X9_many s m args meth c E (AD E) cX9_many RX9 (some .int) 3 0 0 fdm) : ∀ (n : Nat) (x1 x2 : Int32) (σ : MS), w_X9_many_H4 Q n x1 x2 σ → V p l e rm_X9_many s m args below meth c E (AD E) 3 0 0 (MQ below (va_Qi Q (BW E) (AD E)) args s 0 0 (AD E)) σ 4 [none, some (.int x1), some (.int x2)] [] := by
  intro n
  induction n with
  | zero =>
    intro x1 x2 σ hw
    exact hw.elim
  | succ n ih =>
    intro x1 x2 σ hw
    unfold w_X9_many_H4 at hw
    refine vIload_n (pc := 4) hc dX9_many_4 rfl ?_
    refine vIf_eq (pc := 5) (tgt := 20) hc dX9_many_5 (by decide) (fun c5 => ?_) (fun c5 => ?_)
    · have hw := hw.1 c5
      refine vIload_n (pc := 20) hc dX9_many_20 rfl ?_
      exact vIret (pc := 21) hc dX9_many_21 hw
    · have hw := hw.2 c5
      refine vIinc (pc := 8) (v := x1 + 1) (L2 := [none, some (.int (x1 + 1)), some (.int x2)]) hc dX9_many_8 rfl rfl rfl (Nat.le_of_ble_eq_true rfl) ?_
      refine vIload_n (pc := 11) hc dX9_many_11 rfl ?_
      refine vIload_n (pc := 12) hc dX9_many_12 rfl ?_
      refine vIconst (pc := 13) (v := 1) hc dX9_many_13 ki_1 ?_
      refine vIsub (pc := 14) hc dX9_many_14 ?_
      refine vIand (pc := 15) hc dX9_many_15 ?_
      obtain ⟨x2_16, ex2_16⟩ : ∃ z : Int32, z = x2 &&& (x2 - 1) := ⟨_, rfl⟩
      have hw := hw x2_16 ex2_16
      refine vTop ex2_16 ?_
      refine vIstore_n (pc := 16) (L2 := [none, some (.int (x1 + 1)), some (.int x2_16)]) hc dX9_many_16 rfl (Nat.le_of_ble_eq_true rfl) ?_
      refine vGoto (pc := 17) (tgt := 4) hc dX9_many_17 (by decide) ?_
      exact vMono (L2 := [none, some (.int (x1 + 1)), some (.int x2_16)]) (show subL [none, some (.int (x1 + 1)), some (.int x2_16)] [none, some (.int (x1 + 1)), some (.int x2_16)] from ⟨rfl, ⟨rfl, trivial⟩⟩) (ih (x1 + 1) x2_16 _ hw)
set_option maxRecDepth 100000 in
set_option maxHeartbeats 4000000 in
theorem t_X9_many_E {p : Program} {l : Launch} {e : Env} {s : State} {m : MethodId} {args : Array Value} {below : List Frame} {meth : Method} {c : Code} {E : WD} {Q : Int32 → MS → Prop} (hc : Cx p rm_X9_many s m args meth c E (AD E) cX9_many RX9 (some .int) 3 0 0 fdm) (x0 : Int32) (σ : MS) (hw : w_X9_many_E Q x0 σ) : V p l e rm_X9_many s m args below meth c E (AD E) 3 0 0 (MQ below (va_Qi Q (BW E) (AD E)) args s 0 0 (AD E)) σ 0 [some (.int x0), none, none] [] := by
  unfold w_X9_many_E at hw
  refine vIconst (pc := 0) (v := 0) hc dX9_many_0 ki_0 ?_
  refine vIstore_n (pc := 1) (L2 := [some (.int x0), some (.int 0), none]) hc dX9_many_1 rfl (Nat.le_of_ble_eq_true rfl) ?_
  refine vIload_n (pc := 2) hc dX9_many_2 rfl ?_
  refine vIstore_n (pc := 3) (L2 := [some (.int x0), some (.int 0), some (.int x0)]) hc dX9_many_3 rfl (Nat.le_of_ble_eq_true rfl) ?_
  obtain ⟨n4, hw⟩ := hw
  exact vMono (L2 := [none, some (.int 0), some (.int x0)]) (show subL [none, some (.int 0), some (.int x0)] [some (.int x0), some (.int 0), some (.int x0)] from ⟨rfl, ⟨rfl, trivial⟩⟩) (t_X9_many_H4 hc  n4 0 x0 _ hw)
set_option maxRecDepth 100000 in
set_option maxHeartbeats 4000000 in
theorem c_X9_many {l : Launch} {E : WD} (hE : inj E) (hG : ∀ k, fdm k → k ∈ E.2.2.2) {x0 : Int32} {σ : MS} {Q : Int32 → MS → Prop} (hw : w_X9_many x0 σ Q) : Ci l E yX9_many cX9_many 3 (some .int) rm_X9_many [.int x0] σ Q :=
  Ct_of (by decide) rfl (by
    intro v hv
    simp only [List.mem_cons, List.not_mem_nil, or_false] at hv
    rcases hv with rfl <;> rfl) (Nat.le_of_ble_eq_true rfl) hE hG (fun p e s m below meth c hc => t_X9_many_E hc x0 σ hw)
def w_X9_looks_H148 (Q : MS → Prop) : Nat → Int32 → MS → Prop
  | 0, _, _ => False
  | n + 1, x4, σ => (((σ 66 24) ≤ x4 → Q σ) ∧ (¬ (σ 66 24) ≤ x4 → ((vp_in x4 5) ∧ (∀ σ170, σ170 = mst σ 85 x4.toNatClampNeg (σ 81 x4.toNatClampNeg) → (∀ σ184, σ184 = mst σ170 86 x4.toNatClampNeg (σ170 82 x4.toNatClampNeg) → ((vp_in (σ184 81 x4.toNatClampNeg) 9) ∧ (∀ σ208, σ208 = mst σ184 87 (σ184 81 x4.toNatClampNeg).toNatClampNeg (σ184 83 (σ184 81 x4.toNatClampNeg).toNatClampNeg) → ((vp_in (σ208 81 x4.toNatClampNeg) 9) ∧ (∀ σ232, σ232 = mst σ208 88 (σ208 81 x4.toNatClampNeg).toNatClampNeg (σ208 84 (σ208 81 x4.toNatClampNeg).toNatClampNeg) → w_X9_looks_H148 Q n (x4 + 1) σ232)))))))))
def w_X9_looks_J129 (Q : MS → Prop) (x1 x2 x3 : Int32) (σ : MS) : Prop := ((x2 ≤ x3 → (∀ σ137, σ137 = mst σ 66 25 x1 → (∀ σ142, σ142 = mst σ137 66 26 x3 → (∃ n148, w_X9_looks_H148 Q n148 0 σ142)))) ∧ (¬ x2 ≤ x3 → Q σ))
def w_X9_looks_H20 (Q : MS → Prop) : Nat → Int32 → Int32 → Int32 → Int32 → MS → Prop
  | 0, _, _, _, _, _ => False
  | n + 1, x1, x2, x3, x4, σ => (((σ 66 24) ≤ x4 → w_X9_looks_J129 Q x1 x2 x3 σ) ∧ (¬ (σ 66 24) ≤ x4 → ((vp_in x4 5) ∧ (∀ x5_36 : Int32, x5_36 = (σ 81 x4.toNatClampNeg) → ((vp_in x5_36 9) ∧ w_X9_leastOf (σ 71 x5_36.toNatClampNeg) (σ 72 x5_36.toNatClampNeg) σ (fun r68 σ68 => ((((σ 84 x5_36.toNatClampNeg) - (σ 83 x5_36.toNatClampNeg)) ≤ (r68 + (σ68 75 x5_36.toNatClampNeg)) → (∀ x2_102 : Int32, x2_102 = (if x2 < ((σ68 73 x5_36.toNatClampNeg) - (σ68 83 x5_36.toNatClampNeg)) then ((σ68 73 x5_36.toNatClampNeg) - (σ68 83 x5_36.toNatClampNeg)) else x2) → (∀ x3_122 : Int32, x3_122 = (if ((σ68 74 x5_36.toNatClampNeg) - (σ68 84 x5_36.toNatClampNeg)) < x3 then ((σ68 74 x5_36.toNatClampNeg) - (σ68 84 x5_36.toNatClampNeg)) else x3) → w_X9_looks_H20 Q n x1 x2_102 x3_122 (x4 + 1) σ68))) ∧ (¬ ((σ 84 x5_36.toNatClampNeg) - (σ 83 x5_36.toNatClampNeg)) ≤ (r68 + (σ68 75 x5_36.toNatClampNeg)) → Q σ68))))))))
def w_X9_looks_E (Q : MS → Prop) (x1 : Int32) (σ : MS) : Prop := ((x1 < (σ 66 25) → (∀ x3_16 : Int32, x3_16 = ((1440 : Int32) - x1) → (∃ n20, w_X9_looks_H20 Q n20 x1 0 x3_16 0 σ))) ∧ (¬ x1 < (σ 66 25) → Q σ))
abbrev w_X9_looks (x1 : Int32) (σ : MS) (Q : MS → Prop) : Prop := w_X9_looks_E Q x1 σ
abbrev rm_X9_looks : Room := { frames := 1, cells := 0, slots := 0, locals := 60 }
theorem ok_X9_looks : OkV yX9_looks RX9 cX9_looks 6 none 1 := ⟨tw_931, tw_32, tw_57, tw_932, rfl, by decide, by decide, by decide +kernel⟩
set_option maxRecDepth 100000 in
set_option maxHeartbeats 4000000 in
theorem t_X9_looks_H148 {p : Program} {l : Launch} {e : Env} {s : State} {m : MethodId} {args : Array Value} {below : List Frame} {meth : Method} {c : Code} {E : WD} {Q : MS → Prop} (hc : Cx p rm_X9_looks s m args meth c E (AD E) cX9_looks RX9 none 6 0 0 fdm) : ∀ (n : Nat) (x4 : Int32) (σ : MS), w_X9_looks_H148 Q n x4 σ → V p l e rm_X9_looks s m args below meth c E (AD E) 6 0 0 (MQ below (va_Qv Q (BW E) (AD E)) args s 0 0 (AD E)) σ 148 [some (.ref (E.2.1 66)), none, none, none, some (.int x4), none] [] := by
  intro n
  induction n with
  | zero =>
    intro x4 σ hw
    exact hw.elim
  | succ n ih =>
    intro x4 σ hw
    unfold w_X9_looks_H148 at hw
    refine vIload (pc := 148) hc dX9_looks_148 rfl ?_
    refine vAload_n (pc := 150) hc dX9_looks_150 rfl ?_
    refine vGetI (pc := 151) (k := 66) (j := 24) hc rfl inG9 (hc.G 66 (Nat.le_of_ble_eq_true rfl)) rfl (Nat.le_of_ble_eq_true rfl) tw_747 rfl dX9_looks_151 ?_
    refine vIcmp_ge (pc := 154) (tgt := 239) hc dX9_looks_154 (by decide) (fun c154 => ?_) (fun c154 => ?_)
    · have hw := hw.1 c154
      exact vVret (pc := 239) hc dX9_looks_239 hw
    · have hw := hw.2 c154
      refine vAload_n (pc := 157) hc dX9_looks_157 rfl ?_
      refine vGetR (pc := 158) (k := 66) (j := 20) hc rfl inG9 (hc.G 66 (Nat.le_of_ble_eq_true rfl)) rfl (Nat.le_of_ble_eq_true rfl) tw_743 rfl dX9_looks_158 ?_
      refine vIload (pc := 161) hc dX9_looks_161 rfl ?_
      refine vAload_n (pc := 163) hc dX9_looks_163 rfl ?_
      refine vGetR (pc := 164) (k := 66) (j := 16) hc rfl inG9 (hc.G 66 (Nat.le_of_ble_eq_true rfl)) rfl (Nat.le_of_ble_eq_true rfl) tw_739 rfl dX9_looks_164 ?_
      refine vIload (pc := 167) hc dX9_looks_167 rfl ?_
      obtain ⟨hi1, hw⟩ := hw
      refine vIald (pc := 169) (k := 81) hc (hc.G 81 (Nat.le_of_ble_eq_true rfl)) rfl rfl hi1 dX9_looks_169 ?_
      refine vIast (pc := 170) (k := 85) hc (hc.G 85 (Nat.le_of_ble_eq_true rfl)) rfl rfl hi1 dX9_looks_170 (fun σ170 eσ170 => ?_)
      have hw := hw σ170 eσ170
      refine vAload_n (pc := 171) hc dX9_looks_171 rfl ?_
      refine vGetR (pc := 172) (k := 66) (j := 21) hc rfl inG9 (hc.G 66 (Nat.le_of_ble_eq_true rfl)) rfl (Nat.le_of_ble_eq_true rfl) tw_744 rfl dX9_looks_172 ?_
      refine vIload (pc := 175) hc dX9_looks_175 rfl ?_
      refine vAload_n (pc := 177) hc dX9_looks_177 rfl ?_
      refine vGetR (pc := 178) (k := 66) (j := 17) hc rfl inG9 (hc.G 66 (Nat.le_of_ble_eq_true rfl)) rfl (Nat.le_of_ble_eq_true rfl) tw_740 rfl dX9_looks_178 ?_
      refine vIload (pc := 181) hc dX9_looks_181 rfl ?_
      refine vIald (pc := 183) (k := 82) hc (hc.G 82 (Nat.le_of_ble_eq_true rfl)) rfl rfl hi1 dX9_looks_183 ?_
      refine vIast (pc := 184) (k := 86) hc (hc.G 86 (Nat.le_of_ble_eq_true rfl)) rfl rfl hi1 dX9_looks_184 (fun σ184 eσ184 => ?_)
      have hw := hw σ184 eσ184
      refine vAload_n (pc := 185) hc dX9_looks_185 rfl ?_
      refine vGetR (pc := 186) (k := 66) (j := 22) hc rfl inG9 (hc.G 66 (Nat.le_of_ble_eq_true rfl)) rfl (Nat.le_of_ble_eq_true rfl) tw_745 rfl dX9_looks_186 ?_
      refine vAload_n (pc := 189) hc dX9_looks_189 rfl ?_
      refine vGetR (pc := 190) (k := 66) (j := 16) hc rfl inG9 (hc.G 66 (Nat.le_of_ble_eq_true rfl)) rfl (Nat.le_of_ble_eq_true rfl) tw_739 rfl dX9_looks_190 ?_
      refine vIload (pc := 193) hc dX9_looks_193 rfl ?_
      refine vIald (pc := 195) (k := 81) hc (hc.G 81 (Nat.le_of_ble_eq_true rfl)) rfl rfl hi1 dX9_looks_195 ?_
      refine vAload_n (pc := 196) hc dX9_looks_196 rfl ?_
      refine vGetR (pc := 197) (k := 66) (j := 18) hc rfl inG9 (hc.G 66 (Nat.le_of_ble_eq_true rfl)) rfl (Nat.le_of_ble_eq_true rfl) tw_741 rfl dX9_looks_197 ?_
      refine vAload_n (pc := 200) hc dX9_looks_200 rfl ?_
      refine vGetR (pc := 201) (k := 66) (j := 16) hc rfl inG9 (hc.G 66 (Nat.le_of_ble_eq_true rfl)) rfl (Nat.le_of_ble_eq_true rfl) tw_739 rfl dX9_looks_201 ?_
      refine vIload (pc := 204) hc dX9_looks_204 rfl ?_
      refine vIald (pc := 206) (k := 81) hc (hc.G 81 (Nat.le_of_ble_eq_true rfl)) rfl rfl hi1 dX9_looks_206 ?_
      obtain ⟨hi2, hw⟩ := hw
      refine vIald (pc := 207) (k := 83) hc (hc.G 83 (Nat.le_of_ble_eq_true rfl)) rfl rfl hi2 dX9_looks_207 ?_
      refine vIast (pc := 208) (k := 87) hc (hc.G 87 (Nat.le_of_ble_eq_true rfl)) rfl rfl hi2 dX9_looks_208 (fun σ208 eσ208 => ?_)
      have hw := hw σ208 eσ208
      refine vAload_n (pc := 209) hc dX9_looks_209 rfl ?_
      refine vGetR (pc := 210) (k := 66) (j := 23) hc rfl inG9 (hc.G 66 (Nat.le_of_ble_eq_true rfl)) rfl (Nat.le_of_ble_eq_true rfl) tw_746 rfl dX9_looks_210 ?_
      refine vAload_n (pc := 213) hc dX9_looks_213 rfl ?_
      refine vGetR (pc := 214) (k := 66) (j := 16) hc rfl inG9 (hc.G 66 (Nat.le_of_ble_eq_true rfl)) rfl (Nat.le_of_ble_eq_true rfl) tw_739 rfl dX9_looks_214 ?_
      refine vIload (pc := 217) hc dX9_looks_217 rfl ?_
      refine vIald (pc := 219) (k := 81) hc (hc.G 81 (Nat.le_of_ble_eq_true rfl)) rfl rfl hi1 dX9_looks_219 ?_
      refine vAload_n (pc := 220) hc dX9_looks_220 rfl ?_
      refine vGetR (pc := 221) (k := 66) (j := 19) hc rfl inG9 (hc.G 66 (Nat.le_of_ble_eq_true rfl)) rfl (Nat.le_of_ble_eq_true rfl) tw_742 rfl dX9_looks_221 ?_
      refine vAload_n (pc := 224) hc dX9_looks_224 rfl ?_
      refine vGetR (pc := 225) (k := 66) (j := 16) hc rfl inG9 (hc.G 66 (Nat.le_of_ble_eq_true rfl)) rfl (Nat.le_of_ble_eq_true rfl) tw_739 rfl dX9_looks_225 ?_
      refine vIload (pc := 228) hc dX9_looks_228 rfl ?_
      refine vIald (pc := 230) (k := 81) hc (hc.G 81 (Nat.le_of_ble_eq_true rfl)) rfl rfl hi1 dX9_looks_230 ?_
      obtain ⟨hi3, hw⟩ := hw
      refine vIald (pc := 231) (k := 84) hc (hc.G 84 (Nat.le_of_ble_eq_true rfl)) rfl rfl hi3 dX9_looks_231 ?_
      refine vIast (pc := 232) (k := 88) hc (hc.G 88 (Nat.le_of_ble_eq_true rfl)) rfl rfl hi3 dX9_looks_232 (fun σ232 eσ232 => ?_)
      have hw := hw σ232 eσ232
      refine vIinc (pc := 233) (v := x4 + 1) (L2 := [some (.ref (E.2.1 66)), none, none, none, some (.int (x4 + 1)), none]) hc dX9_looks_233 rfl rfl rfl (Nat.le_of_ble_eq_true rfl) ?_
      refine vGoto (pc := 236) (tgt := 148) hc dX9_looks_236 (by decide) ?_
      exact vMono (L2 := [some (.ref (E.2.1 66)), none, none, none, some (.int (x4 + 1)), none]) (show subL [some (.ref (E.2.1 66)), none, none, none, some (.int (x4 + 1)), none] [some (.ref (E.2.1 66)), none, none, none, some (.int (x4 + 1)), none] from ⟨rfl, ⟨rfl, trivial⟩⟩) (ih (x4 + 1) _ hw)
set_option maxRecDepth 100000 in
set_option maxHeartbeats 4000000 in
theorem t_X9_looks_J129 {p : Program} {l : Launch} {e : Env} {s : State} {m : MethodId} {args : Array Value} {below : List Frame} {meth : Method} {c : Code} {E : WD} {Q : MS → Prop} (hc : Cx p rm_X9_looks s m args meth c E (AD E) cX9_looks RX9 none 6 0 0 fdm) (x1 x2 x3 : Int32) (σ : MS) (hw : w_X9_looks_J129 Q x1 x2 x3 σ) : V p l e rm_X9_looks s m args below meth c E (AD E) 6 0 0 (MQ below (va_Qv Q (BW E) (AD E)) args s 0 0 (AD E)) σ 129 [some (.ref (E.2.1 66)), some (.int x1), some (.int x2), some (.int x3), none, none] [] := by
  unfold w_X9_looks_J129 at hw
  refine vIload_n (pc := 129) hc dX9_looks_129 rfl ?_
  refine vIload_n (pc := 130) hc dX9_looks_130 rfl ?_
  refine vIcmp_le (pc := 131) (tgt := 135) hc dX9_looks_131 (by decide) (fun c131 => ?_) (fun c131 => ?_)
  · have hw := hw.1 c131
    refine vAload_n (pc := 135) hc dX9_looks_135 rfl ?_
    refine vIload_n (pc := 136) hc dX9_looks_136 rfl ?_
    refine vPut (pc := 137) (k := 66) (j := 25) hc rfl inG9 (hc.G 66 (Nat.le_of_ble_eq_true rfl)) rfl (Nat.le_of_ble_eq_true rfl) tyX9 tyX9_ok nmX9 tw_748 rfl rfl rfl rfl dX9_looks_137 (fun σ137 eσ137 => ?_)
    have hw := hw σ137 eσ137
    refine vAload_n (pc := 140) hc dX9_looks_140 rfl ?_
    refine vIload_n (pc := 141) hc dX9_looks_141 rfl ?_
    refine vPut (pc := 142) (k := 66) (j := 26) hc rfl inG9 (hc.G 66 (Nat.le_of_ble_eq_true rfl)) rfl (Nat.le_of_ble_eq_true rfl) tyX9 tyX9_ok nmX9 tw_749 rfl rfl rfl rfl dX9_looks_142 (fun σ142 eσ142 => ?_)
    have hw := hw σ142 eσ142
    refine vIconst (pc := 145) (v := 0) hc dX9_looks_145 ki_0 ?_
    refine vIstore (pc := 146) (L2 := [some (.ref (E.2.1 66)), some (.int x1), some (.int x2), some (.int x3), some (.int 0), none]) hc dX9_looks_146 rfl (Nat.le_of_ble_eq_true rfl) ?_
    obtain ⟨n148, hw⟩ := hw
    exact vMono (L2 := [some (.ref (E.2.1 66)), none, none, none, some (.int 0), none]) (show subL [some (.ref (E.2.1 66)), none, none, none, some (.int 0), none] [some (.ref (E.2.1 66)), some (.int x1), some (.int x2), some (.int x3), some (.int 0), none] from ⟨rfl, ⟨rfl, trivial⟩⟩) (t_X9_looks_H148 hc  n148 0 _ hw)
  · have hw := hw.2 c131
    exact vVret (pc := 134) hc dX9_looks_134 hw
set_option maxRecDepth 100000 in
set_option maxHeartbeats 4000000 in
theorem t_X9_looks_H20 {p : Program} {l : Launch} {e : Env} {s : State} {m : MethodId} {args : Array Value} {below : List Frame} {meth : Method} {c : Code} {E : WD} {Q : MS → Prop} (hc : Cx p rm_X9_looks s m args meth c E (AD E) cX9_looks RX9 none 6 0 0 fdm) : ∀ (n : Nat) (x1 x2 x3 x4 : Int32) (σ : MS), w_X9_looks_H20 Q n x1 x2 x3 x4 σ → V p l e rm_X9_looks s m args below meth c E (AD E) 6 0 0 (MQ below (va_Qv Q (BW E) (AD E)) args s 0 0 (AD E)) σ 20 [some (.ref (E.2.1 66)), some (.int x1), some (.int x2), some (.int x3), some (.int x4), none] [] := by
  intro n
  induction n with
  | zero =>
    intro x1 x2 x3 x4 σ hw
    exact hw.elim
  | succ n ih =>
    intro x1 x2 x3 x4 σ hw
    unfold w_X9_looks_H20 at hw
    refine vIload (pc := 20) hc dX9_looks_20 rfl ?_
    refine vAload_n (pc := 22) hc dX9_looks_22 rfl ?_
    refine vGetI (pc := 23) (k := 66) (j := 24) hc rfl inG9 (hc.G 66 (Nat.le_of_ble_eq_true rfl)) rfl (Nat.le_of_ble_eq_true rfl) tw_747 rfl dX9_looks_23 ?_
    refine vIcmp_ge (pc := 26) (tgt := 129) hc dX9_looks_26 (by decide) (fun c26 => ?_) (fun c26 => ?_)
    · have hw := hw.1 c26
      exact vMono (L2 := [some (.ref (E.2.1 66)), some (.int x1), some (.int x2), some (.int x3), none, none]) (show subL [some (.ref (E.2.1 66)), some (.int x1), some (.int x2), some (.int x3), none, none] [some (.ref (E.2.1 66)), some (.int x1), some (.int x2), some (.int x3), some (.int x4), none] from ⟨rfl, ⟨rfl, ⟨rfl, ⟨rfl, trivial⟩⟩⟩⟩) (t_X9_looks_J129 hc  x1 x2 x3 _ hw)
    · have hw := hw.2 c26
      refine vAload_n (pc := 29) hc dX9_looks_29 rfl ?_
      refine vGetR (pc := 30) (k := 66) (j := 16) hc rfl inG9 (hc.G 66 (Nat.le_of_ble_eq_true rfl)) rfl (Nat.le_of_ble_eq_true rfl) tw_739 rfl dX9_looks_30 ?_
      refine vIload (pc := 33) hc dX9_looks_33 rfl ?_
      obtain ⟨hi1, hw⟩ := hw
      refine vIald (pc := 35) (k := 81) hc (hc.G 81 (Nat.le_of_ble_eq_true rfl)) rfl rfl hi1 dX9_looks_35 ?_
      obtain ⟨x5_36, ex5_36⟩ : ∃ z : Int32, z = σ 81 x4.toNatClampNeg := ⟨_, rfl⟩
      have hw := hw x5_36 ex5_36
      refine vTop ex5_36 ?_
      refine vIstore (pc := 36) (L2 := [some (.ref (E.2.1 66)), some (.int x1), some (.int x2), some (.int x3), some (.int x4), some (.int x5_36)]) hc dX9_looks_36 rfl (Nat.le_of_ble_eq_true rfl) ?_
      refine vAload_n (pc := 38) hc dX9_looks_38 rfl ?_
      refine vGetR (pc := 39) (k := 66) (j := 19) hc rfl inG9 (hc.G 66 (Nat.le_of_ble_eq_true rfl)) rfl (Nat.le_of_ble_eq_true rfl) tw_742 rfl dX9_looks_39 ?_
      refine vIload (pc := 42) hc dX9_looks_42 rfl ?_
      obtain ⟨hi2, hw⟩ := hw
      refine vIald (pc := 44) (k := 84) hc (hc.G 84 (Nat.le_of_ble_eq_true rfl)) rfl rfl hi2 dX9_looks_44 ?_
      refine vAload_n (pc := 45) hc dX9_looks_45 rfl ?_
      refine vGetR (pc := 46) (k := 66) (j := 18) hc rfl inG9 (hc.G 66 (Nat.le_of_ble_eq_true rfl)) rfl (Nat.le_of_ble_eq_true rfl) tw_741 rfl dX9_looks_46 ?_
      refine vIload (pc := 49) hc dX9_looks_49 rfl ?_
      refine vIald (pc := 51) (k := 83) hc (hc.G 83 (Nat.le_of_ble_eq_true rfl)) rfl rfl hi2 dX9_looks_51 ?_
      refine vIsub (pc := 52) hc dX9_looks_52 ?_
      refine vAload_n (pc := 53) hc dX9_looks_53 rfl ?_
      refine vAload_n (pc := 54) hc dX9_looks_54 rfl ?_
      refine vGetR (pc := 55) (k := 66) (j := 6) hc rfl inG9 (hc.G 66 (Nat.le_of_ble_eq_true rfl)) rfl (Nat.le_of_ble_eq_true rfl) tw_729 rfl dX9_looks_55 ?_
      refine vIload (pc := 58) hc dX9_looks_58 rfl ?_
      refine vIald (pc := 60) (k := 71) hc (hc.G 71 (Nat.le_of_ble_eq_true rfl)) rfl rfl hi2 dX9_looks_60 ?_
      refine vAload_n (pc := 61) hc dX9_looks_61 rfl ?_
      refine vGetR (pc := 62) (k := 66) (j := 7) hc rfl inG9 (hc.G 66 (Nat.le_of_ble_eq_true rfl)) rfl (Nat.le_of_ble_eq_true rfl) tw_730 rfl dX9_looks_62 ?_
      refine vIload (pc := 65) hc dX9_looks_65 rfl ?_
      refine vIald (pc := 67) (k := 72) hc (hc.G 72 (Nat.le_of_ble_eq_true rfl)) rfl rfl hi2 dX9_looks_67 ?_
      refine vCallVi (pc := 68) (st := [(.int ((σ 84 x5_36.toNatClampNeg) - (σ 83 x5_36.toNatClampNeg)))]) hc ok_X9_leastOf tw_869 (c_X9_leastOf hc.2.2.2.2.2.2.1 hc.G hw) (hc.G 66 (Nat.le_of_ble_eq_true rfl)) rfl rfl rfl ⟨rfl, rfl⟩ ⟨Nat.le_of_ble_eq_true rfl, Nat.le_of_ble_eq_true rfl⟩ rfl (Nat.le_of_ble_eq_true rfl) dX9_looks_68 (fun r68 σ68 hw => ?_)
      refine vAload_n (pc := 71) hc dX9_looks_71 rfl ?_
      refine vGetR (pc := 72) (k := 66) (j := 10) hc rfl inG9 (hc.G 66 (Nat.le_of_ble_eq_true rfl)) rfl (Nat.le_of_ble_eq_true rfl) tw_733 rfl dX9_looks_72 ?_
      refine vIload (pc := 75) hc dX9_looks_75 rfl ?_
      refine vIald (pc := 77) (k := 75) hc (hc.G 75 (Nat.le_of_ble_eq_true rfl)) rfl rfl hi2 dX9_looks_77 ?_
      refine vIadd (pc := 78) hc dX9_looks_78 ?_
      refine vIcmp_le (pc := 79) (tgt := 83) hc dX9_looks_79 (by decide) (fun c79 => ?_) (fun c79 => ?_)
      · have hw := hw.1 c79
        refine vIload_n (pc := 83) hc dX9_looks_83 rfl ?_
        refine vAload_n (pc := 84) hc dX9_looks_84 rfl ?_
        refine vGetR (pc := 85) (k := 66) (j := 8) hc rfl inG9 (hc.G 66 (Nat.le_of_ble_eq_true rfl)) rfl (Nat.le_of_ble_eq_true rfl) tw_731 rfl dX9_looks_85 ?_
        refine vIload (pc := 88) hc dX9_looks_88 rfl ?_
        refine vIald (pc := 90) (k := 73) hc (hc.G 73 (Nat.le_of_ble_eq_true rfl)) rfl rfl hi2 dX9_looks_90 ?_
        refine vAload_n (pc := 91) hc dX9_looks_91 rfl ?_
        refine vGetR (pc := 92) (k := 66) (j := 18) hc rfl inG9 (hc.G 66 (Nat.le_of_ble_eq_true rfl)) rfl (Nat.le_of_ble_eq_true rfl) tw_741 rfl dX9_looks_92 ?_
        refine vIload (pc := 95) hc dX9_looks_95 rfl ?_
        refine vIald (pc := 97) (k := 83) hc (hc.G 83 (Nat.le_of_ble_eq_true rfl)) rfl rfl hi2 dX9_looks_97 ?_
        refine vIsub (pc := 98) hc dX9_looks_98 ?_
        refine vMax (pc := 99) hc tw_933 tw_484 tw_49 tw_485 ⟨Nat.le_of_ble_eq_true rfl, Nat.le_of_ble_eq_true rfl⟩ dX9_looks_99 ?_
        obtain ⟨x2_102, ex2_102⟩ : ∃ z : Int32, z = if x2 < ((σ68 73 x5_36.toNatClampNeg) - (σ68 83 x5_36.toNatClampNeg)) then ((σ68 73 x5_36.toNatClampNeg) - (σ68 83 x5_36.toNatClampNeg)) else x2 := ⟨_, rfl⟩
        have hw := hw x2_102 ex2_102
        refine vTop ex2_102 ?_
        refine vIstore_n (pc := 102) (L2 := [some (.ref (E.2.1 66)), some (.int x1), some (.int x2_102), some (.int x3), some (.int x4), some (.int x5_36)]) hc dX9_looks_102 rfl (Nat.le_of_ble_eq_true rfl) ?_
        refine vIload_n (pc := 103) hc dX9_looks_103 rfl ?_
        refine vAload_n (pc := 104) hc dX9_looks_104 rfl ?_
        refine vGetR (pc := 105) (k := 66) (j := 9) hc rfl inG9 (hc.G 66 (Nat.le_of_ble_eq_true rfl)) rfl (Nat.le_of_ble_eq_true rfl) tw_732 rfl dX9_looks_105 ?_
        refine vIload (pc := 108) hc dX9_looks_108 rfl ?_
        refine vIald (pc := 110) (k := 74) hc (hc.G 74 (Nat.le_of_ble_eq_true rfl)) rfl rfl hi2 dX9_looks_110 ?_
        refine vAload_n (pc := 111) hc dX9_looks_111 rfl ?_
        refine vGetR (pc := 112) (k := 66) (j := 19) hc rfl inG9 (hc.G 66 (Nat.le_of_ble_eq_true rfl)) rfl (Nat.le_of_ble_eq_true rfl) tw_742 rfl dX9_looks_112 ?_
        refine vIload (pc := 115) hc dX9_looks_115 rfl ?_
        refine vIald (pc := 117) (k := 84) hc (hc.G 84 (Nat.le_of_ble_eq_true rfl)) rfl rfl hi2 dX9_looks_117 ?_
        refine vIsub (pc := 118) hc dX9_looks_118 ?_
        refine vMin (pc := 119) hc tw_718 tw_90 tw_49 tw_91 ⟨Nat.le_of_ble_eq_true rfl, Nat.le_of_ble_eq_true rfl⟩ dX9_looks_119 ?_
        obtain ⟨x3_122, ex3_122⟩ : ∃ z : Int32, z = if ((σ68 74 x5_36.toNatClampNeg) - (σ68 84 x5_36.toNatClampNeg)) < x3 then ((σ68 74 x5_36.toNatClampNeg) - (σ68 84 x5_36.toNatClampNeg)) else x3 := ⟨_, rfl⟩
        have hw := hw x3_122 ex3_122
        refine vTop ex3_122 ?_
        refine vIstore_n (pc := 122) (L2 := [some (.ref (E.2.1 66)), some (.int x1), some (.int x2_102), some (.int x3_122), some (.int x4), some (.int x5_36)]) hc dX9_looks_122 rfl (Nat.le_of_ble_eq_true rfl) ?_
        refine vIinc (pc := 123) (v := x4 + 1) (L2 := [some (.ref (E.2.1 66)), some (.int x1), some (.int x2_102), some (.int x3_122), some (.int (x4 + 1)), some (.int x5_36)]) hc dX9_looks_123 rfl rfl rfl (Nat.le_of_ble_eq_true rfl) ?_
        refine vGoto (pc := 126) (tgt := 20) hc dX9_looks_126 (by decide) ?_
        exact vMono (L2 := [some (.ref (E.2.1 66)), some (.int x1), some (.int x2_102), some (.int x3_122), some (.int (x4 + 1)), none]) (show subL [some (.ref (E.2.1 66)), some (.int x1), some (.int x2_102), some (.int x3_122), some (.int (x4 + 1)), none] [some (.ref (E.2.1 66)), some (.int x1), some (.int x2_102), some (.int x3_122), some (.int (x4 + 1)), some (.int x5_36)] from ⟨rfl, ⟨rfl, ⟨rfl, ⟨rfl, ⟨rfl, trivial⟩⟩⟩⟩⟩) (ih x1 x2_102 x3_122 (x4 + 1) _ hw)
      · have hw := hw.2 c79
        exact vVret (pc := 82) hc dX9_looks_82 hw
set_option maxRecDepth 100000 in
set_option maxHeartbeats 4000000 in
theorem t_X9_looks_E {p : Program} {l : Launch} {e : Env} {s : State} {m : MethodId} {args : Array Value} {below : List Frame} {meth : Method} {c : Code} {E : WD} {Q : MS → Prop} (hc : Cx p rm_X9_looks s m args meth c E (AD E) cX9_looks RX9 none 6 0 0 fdm) (x1 : Int32) (σ : MS) (hw : w_X9_looks_E Q x1 σ) : V p l e rm_X9_looks s m args below meth c E (AD E) 6 0 0 (MQ below (va_Qv Q (BW E) (AD E)) args s 0 0 (AD E)) σ 0 [some (.ref (E.2.1 66)), some (.int x1), none, none, none, none] [] := by
  unfold w_X9_looks_E at hw
  refine vIload_n (pc := 0) hc dX9_looks_0 rfl ?_
  refine vAload_n (pc := 1) hc dX9_looks_1 rfl ?_
  refine vGetI (pc := 2) (k := 66) (j := 25) hc rfl inG9 (hc.G 66 (Nat.le_of_ble_eq_true rfl)) rfl (Nat.le_of_ble_eq_true rfl) tw_748 rfl dX9_looks_2 ?_
  refine vIcmp_lt (pc := 5) (tgt := 9) hc dX9_looks_5 (by decide) (fun c5 => ?_) (fun c5 => ?_)
  · have hw := hw.1 c5
    refine vIconst (pc := 9) (v := 0) hc dX9_looks_9 ki_0 ?_
    refine vIstore_n (pc := 10) (L2 := [some (.ref (E.2.1 66)), some (.int x1), some (.int 0), none, none, none]) hc dX9_looks_10 rfl (Nat.le_of_ble_eq_true rfl) ?_
    refine vSipush (pc := 11) (v := 1440) hc dX9_looks_11 ks_1440 ?_
    refine vIload_n (pc := 14) hc dX9_looks_14 rfl ?_
    refine vIsub (pc := 15) hc dX9_looks_15 ?_
    obtain ⟨x3_16, ex3_16⟩ : ∃ z : Int32, z = (1440 : Int32) - x1 := ⟨_, rfl⟩
    have hw := hw x3_16 ex3_16
    refine vTop ex3_16 ?_
    refine vIstore_n (pc := 16) (L2 := [some (.ref (E.2.1 66)), some (.int x1), some (.int 0), some (.int x3_16), none, none]) hc dX9_looks_16 rfl (Nat.le_of_ble_eq_true rfl) ?_
    refine vIconst (pc := 17) (v := 0) hc dX9_looks_17 ki_0 ?_
    refine vIstore (pc := 18) (L2 := [some (.ref (E.2.1 66)), some (.int x1), some (.int 0), some (.int x3_16), some (.int 0), none]) hc dX9_looks_18 rfl (Nat.le_of_ble_eq_true rfl) ?_
    obtain ⟨n20, hw⟩ := hw
    exact vMono (L2 := [some (.ref (E.2.1 66)), some (.int x1), some (.int 0), some (.int x3_16), some (.int 0), none]) (show subL [some (.ref (E.2.1 66)), some (.int x1), some (.int 0), some (.int x3_16), some (.int 0), none] [some (.ref (E.2.1 66)), some (.int x1), some (.int 0), some (.int x3_16), some (.int 0), none] from ⟨rfl, ⟨rfl, ⟨rfl, ⟨rfl, ⟨rfl, trivial⟩⟩⟩⟩⟩) (t_X9_looks_H20 hc  n20 x1 0 x3_16 0 _ hw)
  · have hw := hw.2 c5
    exact vVret (pc := 8) hc dX9_looks_8 hw
set_option maxRecDepth 100000 in
set_option maxHeartbeats 4000000 in
theorem c_X9_looks {l : Launch} {E : WD} (hE : inj E) (hG : ∀ k, fdm k → k ∈ E.2.2.2) {x1 : Int32} {σ : MS} {Q : MS → Prop} (hw : w_X9_looks x1 σ Q) : Cv l E yX9_looks cX9_looks 6 none rm_X9_looks [.ref (E.2.1 66), .int x1] σ Q :=
  Ct_of (by decide) rfl (by
    intro v hv
    simp only [List.mem_cons, List.not_mem_nil, or_false] at hv
    rcases hv with rfl | rfl <;> rfl) (Nat.le_of_ble_eq_true rfl) hE hG (fun p e s m below meth c hc => t_X9_looks_E hc x1 σ hw)
def w_X9_drops_H13 (Rc : Int32 → Int32 → Int32 → Int32 → MS → (MS → Prop) → Prop) (Q : MS → Prop) : Nat → Int32 → Int32 → Int32 → Int32 → Int32 → MS → Prop
  | 0, _, _, _, _, _, _ => False
  | n + 1, x1, x2, x3, x4, x5, σ => (((σ 66 3) ≤ x5 → Q σ) ∧ (¬ (σ 66 3) ≤ x5 → ((¬ ((x1 >>> (x5 &&& 31)) &&& 1) = 0 → ((vp_in x2 5) ∧ (∀ σ41, σ41 = mst σ 82 x2.toNatClampNeg x5 → ((vp_in x5 9) ∧ w_X9_leastOf x4 (σ41 72 x5.toNatClampNeg) σ41 (fun r59 σ59 => (∀ σ63, σ63 = mst σ59 84 x5.toNatClampNeg (x3 + r59) → Rc (x1 &&& (((1 : Int32) <<< (x5 &&& 31)) ^^^ (-1))) (x2 + 1) (σ63 84 x5.toNatClampNeg) (σ63 72 x5.toNatClampNeg) σ63 (fun σ90 => w_X9_drops_H13 Rc Q n x1 x2 x3 x4 (x5 + 1) σ90))))))) ∧ (((x1 >>> (x5 &&& 31)) &&& 1) = 0 → w_X9_drops_H13 Rc Q n x1 x2 x3 x4 (x5 + 1) σ))))
def w_X9_drops_E (Rc : Int32 → Int32 → Int32 → Int32 → MS → (MS → Prop) → Prop) (Q : MS → Prop) (x1 x2 x3 x4 : Int32) (σ : MS) : Prop := ((¬ x1 = 0 → (∃ n13, w_X9_drops_H13 Rc Q n13 x1 x2 x3 x4 0 σ)) ∧ (x1 = 0 → w_X9_looks x3 σ (fun σ6 => Q σ6)))
def w_X9_drops : Nat → Int32 → Int32 → Int32 → Int32 → MS → (MS → Prop) → Prop
  | 0, _, _, _, _, _, _ => False
  | d + 1, x1, x2, x3, x4, σ, Q => w_X9_drops_E (w_X9_drops d) Q x1 x2 x3 x4 σ
def rm_X9_drops (d : Nat) : Room := { frames := 2 + d, cells := 0, slots := 0, locals := 85 + 25 * d }
theorem ok_X9_drops : OkV yX9_drops RX9 cX9_drops 6 none 4 := ⟨tw_927, tw_31, tw_57, tw_928, rfl, by decide, by decide, by decide +kernel⟩
set_option maxRecDepth 100000 in
set_option maxHeartbeats 4000000 in
theorem t_X9_drops_H13 {p : Program} {l : Launch} {e : Env} {s : State} {m : MethodId} {args : Array Value} {below : List Frame} {meth : Method} {c : Code} {E : WD} {Q : MS → Prop} {d : Nat} {Rc : Int32 → Int32 → Int32 → Int32 → MS → (MS → Prop) → Prop} (hc : Cx p (rm_X9_drops (d + 1)) s m args meth c E (AD E) cX9_drops RX9 none 6 0 0 fdm) (hRc : ∀ (x1 x2 x3 x4 : Int32) (σ : MS) (Q : MS → Prop), Rc x1 x2 x3 x4 σ Q → Cv l E yX9_drops cX9_drops 6 none (rm_X9_drops d) [.ref (E.2.1 66), .int x1, .int x2, .int x3, .int x4] σ Q) : ∀ (n : Nat) (x1 x2 x3 x4 x5 : Int32) (σ : MS), w_X9_drops_H13 Rc Q n x1 x2 x3 x4 x5 σ → V p l e (rm_X9_drops (d + 1)) s m args below meth c E (AD E) 6 0 0 (MQ below (va_Qv Q (BW E) (AD E)) args s 0 0 (AD E)) σ 13 [some (.ref (E.2.1 66)), some (.int x1), some (.int x2), some (.int x3), some (.int x4), some (.int x5)] [] := by
  intro n
  induction n with
  | zero =>
    intro x1 x2 x3 x4 x5 σ hw
    exact hw.elim
  | succ n ih =>
    intro x1 x2 x3 x4 x5 σ hw
    unfold w_X9_drops_H13 at hw
    refine vIload (pc := 13) hc dX9_drops_13 rfl ?_
    refine vAload_n (pc := 15) hc dX9_drops_15 rfl ?_
    refine vGetI (pc := 16) (k := 66) (j := 3) hc rfl inG9 (hc.G 66 (Nat.le_of_ble_eq_true rfl)) rfl (Nat.le_of_ble_eq_true rfl) tw_726 rfl dX9_drops_16 ?_
    refine vIcmp_ge (pc := 19) (tgt := 99) hc dX9_drops_19 (by decide) (fun c19 => ?_) (fun c19 => ?_)
    · have hw := hw.1 c19
      exact vVret (pc := 99) hc dX9_drops_99 hw
    · have hw := hw.2 c19
      refine vIload_n (pc := 22) hc dX9_drops_22 rfl ?_
      refine vIload (pc := 23) hc dX9_drops_23 rfl ?_
      refine vIshr (pc := 25) hc dX9_drops_25 ?_
      refine vIconst (pc := 26) (v := 1) hc dX9_drops_26 ki_1 ?_
      refine vIand (pc := 27) hc dX9_drops_27 ?_
      refine vIf_ne (pc := 28) (tgt := 34) hc dX9_drops_28 (by decide) (fun c28 => ?_) (fun c28 => ?_)
      · have hw := hw.1 c28
        refine vAload_n (pc := 34) hc dX9_drops_34 rfl ?_
        refine vGetR (pc := 35) (k := 66) (j := 17) hc rfl inG9 (hc.G 66 (Nat.le_of_ble_eq_true rfl)) rfl (Nat.le_of_ble_eq_true rfl) tw_740 rfl dX9_drops_35 ?_
        refine vIload_n (pc := 38) hc dX9_drops_38 rfl ?_
        refine vIload (pc := 39) hc dX9_drops_39 rfl ?_
        obtain ⟨hi1, hw⟩ := hw
        refine vIast (pc := 41) (k := 82) hc (hc.G 82 (Nat.le_of_ble_eq_true rfl)) rfl rfl hi1 dX9_drops_41 (fun σ41 eσ41 => ?_)
        have hw := hw σ41 eσ41
        refine vAload_n (pc := 42) hc dX9_drops_42 rfl ?_
        refine vGetR (pc := 43) (k := 66) (j := 19) hc rfl inG9 (hc.G 66 (Nat.le_of_ble_eq_true rfl)) rfl (Nat.le_of_ble_eq_true rfl) tw_742 rfl dX9_drops_43 ?_
        refine vIload (pc := 46) hc dX9_drops_46 rfl ?_
        refine vIload_n (pc := 48) hc dX9_drops_48 rfl ?_
        refine vAload_n (pc := 49) hc dX9_drops_49 rfl ?_
        refine vIload (pc := 50) hc dX9_drops_50 rfl ?_
        refine vAload_n (pc := 52) hc dX9_drops_52 rfl ?_
        refine vGetR (pc := 53) (k := 66) (j := 7) hc rfl inG9 (hc.G 66 (Nat.le_of_ble_eq_true rfl)) rfl (Nat.le_of_ble_eq_true rfl) tw_730 rfl dX9_drops_53 ?_
        refine vIload (pc := 56) hc dX9_drops_56 rfl ?_
        obtain ⟨hi2, hw⟩ := hw
        refine vIald (pc := 58) (k := 72) hc (hc.G 72 (Nat.le_of_ble_eq_true rfl)) rfl rfl hi2 dX9_drops_58 ?_
        refine vCallVi (pc := 59) (st := [(.int x3), (.int x5), (.ref (E.2.1 84))]) hc ok_X9_leastOf tw_869 (c_X9_leastOf hc.2.2.2.2.2.2.1 hc.G hw) (hc.G 66 (Nat.le_of_ble_eq_true rfl)) rfl rfl rfl ⟨rfl, rfl⟩ (by constructor <;> simp [rm_X9_drops, rm_X9_leastOf] <;> omega) rfl (Nat.le_of_ble_eq_true rfl) dX9_drops_59 (fun r59 σ59 hw => ?_)
        refine vIadd (pc := 62) hc dX9_drops_62 ?_
        refine vIast (pc := 63) (k := 84) hc (hc.G 84 (Nat.le_of_ble_eq_true rfl)) rfl rfl hi2 dX9_drops_63 (fun σ63 eσ63 => ?_)
        have hw := hw σ63 eσ63
        refine vAload_n (pc := 64) hc dX9_drops_64 rfl ?_
        refine vIload_n (pc := 65) hc dX9_drops_65 rfl ?_
        refine vIconst (pc := 66) (v := 1) hc dX9_drops_66 ki_1 ?_
        refine vIload (pc := 67) hc dX9_drops_67 rfl ?_
        refine vIshl (pc := 69) hc dX9_drops_69 ?_
        refine vIconst (pc := 70) (v := (-1)) hc dX9_drops_70 ki_m1 ?_
        refine vIxor (pc := 71) hc dX9_drops_71 ?_
        refine vIand (pc := 72) hc dX9_drops_72 ?_
        refine vIload_n (pc := 73) hc dX9_drops_73 rfl ?_
        refine vIconst (pc := 74) (v := 1) hc dX9_drops_74 ki_1 ?_
        refine vIadd (pc := 75) hc dX9_drops_75 ?_
        refine vAload_n (pc := 76) hc dX9_drops_76 rfl ?_
        refine vGetR (pc := 77) (k := 66) (j := 19) hc rfl inG9 (hc.G 66 (Nat.le_of_ble_eq_true rfl)) rfl (Nat.le_of_ble_eq_true rfl) tw_742 rfl dX9_drops_77 ?_
        refine vIload (pc := 80) hc dX9_drops_80 rfl ?_
        refine vIald (pc := 82) (k := 84) hc (hc.G 84 (Nat.le_of_ble_eq_true rfl)) rfl rfl hi2 dX9_drops_82 ?_
        refine vAload_n (pc := 83) hc dX9_drops_83 rfl ?_
        refine vGetR (pc := 84) (k := 66) (j := 7) hc rfl inG9 (hc.G 66 (Nat.le_of_ble_eq_true rfl)) rfl (Nat.le_of_ble_eq_true rfl) tw_730 rfl dX9_drops_84 ?_
        refine vIload (pc := 87) hc dX9_drops_87 rfl ?_
        refine vIald (pc := 89) (k := 72) hc (hc.G 72 (Nat.le_of_ble_eq_true rfl)) rfl rfl hi2 dX9_drops_89 ?_
        refine vCallVv (pc := 90) (st := []) hc ok_X9_drops tw_925 (hRc (x1 &&& (((1 : Int32) <<< (x5 &&& 31)) ^^^ (-1))) (x2 + 1) (σ63 84 x5.toNatClampNeg) (σ63 72 x5.toNatClampNeg) _ _ hw) (hc.G 66 (Nat.le_of_ble_eq_true rfl)) rfl rfl rfl ⟨rfl, rfl⟩ (by constructor <;> simp [rm_X9_drops] <;> omega) rfl (Nat.le_of_ble_eq_true rfl) dX9_drops_90 (fun σ90 hw => ?_)
        refine vIinc (pc := 93) (v := x5 + 1) (L2 := [some (.ref (E.2.1 66)), some (.int x1), some (.int x2), some (.int x3), some (.int x4), some (.int (x5 + 1))]) hc dX9_drops_93 rfl rfl rfl (Nat.le_of_ble_eq_true rfl) ?_
        refine vGoto (pc := 96) (tgt := 13) hc dX9_drops_96 (by decide) ?_
        exact vMono (L2 := [some (.ref (E.2.1 66)), some (.int x1), some (.int x2), some (.int x3), some (.int x4), some (.int (x5 + 1))]) (show subL [some (.ref (E.2.1 66)), some (.int x1), some (.int x2), some (.int x3), some (.int x4), some (.int (x5 + 1))] [some (.ref (E.2.1 66)), some (.int x1), some (.int x2), some (.int x3), some (.int x4), some (.int (x5 + 1))] from ⟨rfl, ⟨rfl, ⟨rfl, ⟨rfl, ⟨rfl, ⟨rfl, trivial⟩⟩⟩⟩⟩⟩) (ih x1 x2 x3 x4 (x5 + 1) _ hw)
      · have hw := hw.2 c28
        refine vGoto (pc := 31) (tgt := 93) hc dX9_drops_31 (by decide) ?_
        refine vIinc (pc := 93) (v := x5 + 1) (L2 := [some (.ref (E.2.1 66)), some (.int x1), some (.int x2), some (.int x3), some (.int x4), some (.int (x5 + 1))]) hc dX9_drops_93 rfl rfl rfl (Nat.le_of_ble_eq_true rfl) ?_
        refine vGoto (pc := 96) (tgt := 13) hc dX9_drops_96 (by decide) ?_
        exact vMono (L2 := [some (.ref (E.2.1 66)), some (.int x1), some (.int x2), some (.int x3), some (.int x4), some (.int (x5 + 1))]) (show subL [some (.ref (E.2.1 66)), some (.int x1), some (.int x2), some (.int x3), some (.int x4), some (.int (x5 + 1))] [some (.ref (E.2.1 66)), some (.int x1), some (.int x2), some (.int x3), some (.int x4), some (.int (x5 + 1))] from ⟨rfl, ⟨rfl, ⟨rfl, ⟨rfl, ⟨rfl, ⟨rfl, trivial⟩⟩⟩⟩⟩⟩) (ih x1 x2 x3 x4 (x5 + 1) _ hw)
set_option maxRecDepth 100000 in
set_option maxHeartbeats 4000000 in
theorem t_X9_drops_E {p : Program} {l : Launch} {e : Env} {s : State} {m : MethodId} {args : Array Value} {below : List Frame} {meth : Method} {c : Code} {E : WD} {Q : MS → Prop} {d : Nat} {Rc : Int32 → Int32 → Int32 → Int32 → MS → (MS → Prop) → Prop} (hc : Cx p (rm_X9_drops (d + 1)) s m args meth c E (AD E) cX9_drops RX9 none 6 0 0 fdm) (hRc : ∀ (x1 x2 x3 x4 : Int32) (σ : MS) (Q : MS → Prop), Rc x1 x2 x3 x4 σ Q → Cv l E yX9_drops cX9_drops 6 none (rm_X9_drops d) [.ref (E.2.1 66), .int x1, .int x2, .int x3, .int x4] σ Q) (x1 x2 x3 x4 : Int32) (σ : MS) (hw : w_X9_drops_E Rc Q x1 x2 x3 x4 σ) : V p l e (rm_X9_drops (d + 1)) s m args below meth c E (AD E) 6 0 0 (MQ below (va_Qv Q (BW E) (AD E)) args s 0 0 (AD E)) σ 0 [some (.ref (E.2.1 66)), some (.int x1), some (.int x2), some (.int x3), some (.int x4), none] [] := by
  unfold w_X9_drops_E at hw
  refine vIload_n (pc := 0) hc dX9_drops_0 rfl ?_
  refine vIf_ne (pc := 1) (tgt := 10) hc dX9_drops_1 (by decide) (fun c1 => ?_) (fun c1 => ?_)
  · have hw := hw.1 c1
    refine vIconst (pc := 10) (v := 0) hc dX9_drops_10 ki_0 ?_
    refine vIstore (pc := 11) (L2 := [some (.ref (E.2.1 66)), some (.int x1), some (.int x2), some (.int x3), some (.int x4), some (.int 0)]) hc dX9_drops_11 rfl (Nat.le_of_ble_eq_true rfl) ?_
    obtain ⟨n13, hw⟩ := hw
    exact vMono (L2 := [some (.ref (E.2.1 66)), some (.int x1), some (.int x2), some (.int x3), some (.int x4), some (.int 0)]) (show subL [some (.ref (E.2.1 66)), some (.int x1), some (.int x2), some (.int x3), some (.int x4), some (.int 0)] [some (.ref (E.2.1 66)), some (.int x1), some (.int x2), some (.int x3), some (.int x4), some (.int 0)] from ⟨rfl, ⟨rfl, ⟨rfl, ⟨rfl, ⟨rfl, ⟨rfl, trivial⟩⟩⟩⟩⟩⟩) (t_X9_drops_H13 hc hRc n13 x1 x2 x3 x4 0 _ hw)
  · have hw := hw.2 c1
    refine vAload_n (pc := 4) hc dX9_drops_4 rfl ?_
    refine vIload_n (pc := 5) hc dX9_drops_5 rfl ?_
    refine vCallVv (pc := 6) (st := []) hc ok_X9_looks tw_929 (c_X9_looks hc.2.2.2.2.2.2.1 hc.G hw) (hc.G 66 (Nat.le_of_ble_eq_true rfl)) rfl rfl rfl ⟨rfl, rfl⟩ (by constructor <;> simp [rm_X9_drops, rm_X9_looks] <;> omega) rfl (Nat.le_of_ble_eq_true rfl) dX9_drops_6 (fun σ6 hw => ?_)
    exact vVret (pc := 9) hc dX9_drops_9 hw
set_option maxRecDepth 100000 in
set_option maxHeartbeats 4000000 in
theorem c_X9_drops {l : Launch} {E : WD} (hE : inj E) (hG : ∀ k, fdm k → k ∈ E.2.2.2) : ∀ (d : Nat) (x1 x2 x3 x4 : Int32) (σ : MS) (Q : MS → Prop), w_X9_drops d x1 x2 x3 x4 σ Q → Cv l E yX9_drops cX9_drops 6 none (rm_X9_drops d) [.ref (E.2.1 66), .int x1, .int x2, .int x3, .int x4] σ Q := by
  intro d
  induction d with
  | zero =>
    intro x1 x2 x3 x4 σ Q hw
    exact hw.elim
  | succ d ih =>
    intro x1 x2 x3 x4 σ Q hw
    exact Ct_of (by decide) rfl (by
        intro v hv
        simp only [List.mem_cons, List.not_mem_nil, or_false] at hv
        rcases hv with rfl | rfl | rfl | rfl | rfl <;> rfl) (Nat.le_of_ble_eq_true rfl) hE hG (fun p e s m below meth c hc => t_X9_drops_E hc ih x1 x2 x3 x4 σ hw)
def w_X9_picks_H29 (Rc : Int32 → Int32 → Int32 → Int32 → MS → (MS → Prop) → Prop) (Q : MS → Prop) : Nat → Int32 → Int32 → Int32 → Int32 → Int32 → MS → Prop
  | 0, _, _, _, _, _, _ => False
  | n + 1, x1, x2, x3, x4, x5, σ => (((σ 66 3) ≤ x5 → Q σ) ∧ (¬ (σ 66 3) ≤ x5 → ((¬ ((x2 >>> (x5 &&& 31)) &&& 1) = 0 → ((vp_in x3 5) ∧ (∀ σ57, σ57 = mst σ 81 x3.toNatClampNeg x5 → ((vp_in (x3 - 1) 5) ∧ ((vp_in (σ57 81 (x3 - 1).toNatClampNeg) 9) ∧ ((vp_in x5 9) ∧ w_X9_leastOf (σ57 71 (σ57 81 (x3 - 1).toNatClampNeg).toNatClampNeg) (σ57 71 x5.toNatClampNeg) σ57 (fun r87 σ87 => (∀ σ91, σ91 = mst σ87 83 x5.toNatClampNeg (x4 + r87) → Rc x1 (x2 &&& (((1 : Int32) <<< (x5 &&& 31)) ^^^ (-1))) (x3 + 1) (σ91 83 x5.toNatClampNeg) σ91 (fun σ112 => w_X9_picks_H29 Rc Q n x1 x2 x3 x4 (x5 + 1) σ112))))))))) ∧ (((x2 >>> (x5 &&& 31)) &&& 1) = 0 → w_X9_picks_H29 Rc Q n x1 x2 x3 x4 (x5 + 1) σ))))
def w_X9_picks_E (Rc : Int32 → Int32 → Int32 → Int32 → MS → (MS → Prop) → Prop) (Q : MS → Prop) (x1 x2 x3 x4 : Int32) (σ : MS) : Prop := ((¬ x2 = 0 → (∃ n29, w_X9_picks_H29 Rc Q n29 x1 x2 x3 x4 0 σ)) ∧ (x2 = 0 → ((vp_in (x3 - 1) 5) ∧ ((vp_in (σ 81 (x3 - 1).toNatClampNeg) 9) ∧ w_X9_drops 6 x1 0 x4 (σ 71 (σ 81 (x3 - 1).toNatClampNeg).toNatClampNeg) σ (fun σ22 => Q σ22)))))
def w_X9_picks : Nat → Int32 → Int32 → Int32 → Int32 → MS → (MS → Prop) → Prop
  | 0, _, _, _, _, _, _ => False
  | d + 1, x1, x2, x3, x4, σ, Q => w_X9_picks_E (w_X9_picks d) Q x1 x2 x3 x4 σ
def rm_X9_picks (d : Nat) : Room := { frames := 9 + d, cells := 0, slots := 0, locals := 260 + 25 * d }
theorem ok_X9_picks : OkV yX9_picks RX9 cX9_picks 6 none 4 := ⟨tw_923, tw_30, tw_57, tw_924, rfl, by decide, by decide, by decide +kernel⟩
set_option maxRecDepth 100000 in
set_option maxHeartbeats 4000000 in
theorem t_X9_picks_H29 {p : Program} {l : Launch} {e : Env} {s : State} {m : MethodId} {args : Array Value} {below : List Frame} {meth : Method} {c : Code} {E : WD} {Q : MS → Prop} {d : Nat} {Rc : Int32 → Int32 → Int32 → Int32 → MS → (MS → Prop) → Prop} (hc : Cx p (rm_X9_picks (d + 1)) s m args meth c E (AD E) cX9_picks RX9 none 6 0 0 fdm) (hRc : ∀ (x1 x2 x3 x4 : Int32) (σ : MS) (Q : MS → Prop), Rc x1 x2 x3 x4 σ Q → Cv l E yX9_picks cX9_picks 6 none (rm_X9_picks d) [.ref (E.2.1 66), .int x1, .int x2, .int x3, .int x4] σ Q) : ∀ (n : Nat) (x1 x2 x3 x4 x5 : Int32) (σ : MS), w_X9_picks_H29 Rc Q n x1 x2 x3 x4 x5 σ → V p l e (rm_X9_picks (d + 1)) s m args below meth c E (AD E) 6 0 0 (MQ below (va_Qv Q (BW E) (AD E)) args s 0 0 (AD E)) σ 29 [some (.ref (E.2.1 66)), some (.int x1), some (.int x2), some (.int x3), some (.int x4), some (.int x5)] [] := by
  intro n
  induction n with
  | zero =>
    intro x1 x2 x3 x4 x5 σ hw
    exact hw.elim
  | succ n ih =>
    intro x1 x2 x3 x4 x5 σ hw
    unfold w_X9_picks_H29 at hw
    refine vIload (pc := 29) hc dX9_picks_29 rfl ?_
    refine vAload_n (pc := 31) hc dX9_picks_31 rfl ?_
    refine vGetI (pc := 32) (k := 66) (j := 3) hc rfl inG9 (hc.G 66 (Nat.le_of_ble_eq_true rfl)) rfl (Nat.le_of_ble_eq_true rfl) tw_726 rfl dX9_picks_32 ?_
    refine vIcmp_ge (pc := 35) (tgt := 121) hc dX9_picks_35 (by decide) (fun c35 => ?_) (fun c35 => ?_)
    · have hw := hw.1 c35
      exact vVret (pc := 121) hc dX9_picks_121 hw
    · have hw := hw.2 c35
      refine vIload_n (pc := 38) hc dX9_picks_38 rfl ?_
      refine vIload (pc := 39) hc dX9_picks_39 rfl ?_
      refine vIshr (pc := 41) hc dX9_picks_41 ?_
      refine vIconst (pc := 42) (v := 1) hc dX9_picks_42 ki_1 ?_
      refine vIand (pc := 43) hc dX9_picks_43 ?_
      refine vIf_ne (pc := 44) (tgt := 50) hc dX9_picks_44 (by decide) (fun c44 => ?_) (fun c44 => ?_)
      · have hw := hw.1 c44
        refine vAload_n (pc := 50) hc dX9_picks_50 rfl ?_
        refine vGetR (pc := 51) (k := 66) (j := 16) hc rfl inG9 (hc.G 66 (Nat.le_of_ble_eq_true rfl)) rfl (Nat.le_of_ble_eq_true rfl) tw_739 rfl dX9_picks_51 ?_
        refine vIload_n (pc := 54) hc dX9_picks_54 rfl ?_
        refine vIload (pc := 55) hc dX9_picks_55 rfl ?_
        obtain ⟨hi1, hw⟩ := hw
        refine vIast (pc := 57) (k := 81) hc (hc.G 81 (Nat.le_of_ble_eq_true rfl)) rfl rfl hi1 dX9_picks_57 (fun σ57 eσ57 => ?_)
        have hw := hw σ57 eσ57
        refine vAload_n (pc := 58) hc dX9_picks_58 rfl ?_
        refine vGetR (pc := 59) (k := 66) (j := 18) hc rfl inG9 (hc.G 66 (Nat.le_of_ble_eq_true rfl)) rfl (Nat.le_of_ble_eq_true rfl) tw_741 rfl dX9_picks_59 ?_
        refine vIload (pc := 62) hc dX9_picks_62 rfl ?_
        refine vIload (pc := 64) hc dX9_picks_64 rfl ?_
        refine vAload_n (pc := 66) hc dX9_picks_66 rfl ?_
        refine vAload_n (pc := 67) hc dX9_picks_67 rfl ?_
        refine vGetR (pc := 68) (k := 66) (j := 6) hc rfl inG9 (hc.G 66 (Nat.le_of_ble_eq_true rfl)) rfl (Nat.le_of_ble_eq_true rfl) tw_729 rfl dX9_picks_68 ?_
        refine vAload_n (pc := 71) hc dX9_picks_71 rfl ?_
        refine vGetR (pc := 72) (k := 66) (j := 16) hc rfl inG9 (hc.G 66 (Nat.le_of_ble_eq_true rfl)) rfl (Nat.le_of_ble_eq_true rfl) tw_739 rfl dX9_picks_72 ?_
        refine vIload_n (pc := 75) hc dX9_picks_75 rfl ?_
        refine vIconst (pc := 76) (v := 1) hc dX9_picks_76 ki_1 ?_
        refine vIsub (pc := 77) hc dX9_picks_77 ?_
        obtain ⟨hi2, hw⟩ := hw
        refine vIald (pc := 78) (k := 81) hc (hc.G 81 (Nat.le_of_ble_eq_true rfl)) rfl rfl hi2 dX9_picks_78 ?_
        obtain ⟨hi3, hw⟩ := hw
        refine vIald (pc := 79) (k := 71) hc (hc.G 71 (Nat.le_of_ble_eq_true rfl)) rfl rfl hi3 dX9_picks_79 ?_
        refine vAload_n (pc := 80) hc dX9_picks_80 rfl ?_
        refine vGetR (pc := 81) (k := 66) (j := 6) hc rfl inG9 (hc.G 66 (Nat.le_of_ble_eq_true rfl)) rfl (Nat.le_of_ble_eq_true rfl) tw_729 rfl dX9_picks_81 ?_
        refine vIload (pc := 84) hc dX9_picks_84 rfl ?_
        obtain ⟨hi4, hw⟩ := hw
        refine vIald (pc := 86) (k := 71) hc (hc.G 71 (Nat.le_of_ble_eq_true rfl)) rfl rfl hi4 dX9_picks_86 ?_
        refine vCallVi (pc := 87) (st := [(.int x4), (.int x5), (.ref (E.2.1 83))]) hc ok_X9_leastOf tw_869 (c_X9_leastOf hc.2.2.2.2.2.2.1 hc.G hw) (hc.G 66 (Nat.le_of_ble_eq_true rfl)) rfl rfl rfl ⟨rfl, rfl⟩ (by constructor <;> simp [rm_X9_picks, rm_X9_leastOf] <;> omega) rfl (Nat.le_of_ble_eq_true rfl) dX9_picks_87 (fun r87 σ87 hw => ?_)
        refine vIadd (pc := 90) hc dX9_picks_90 ?_
        refine vIast (pc := 91) (k := 83) hc (hc.G 83 (Nat.le_of_ble_eq_true rfl)) rfl rfl hi4 dX9_picks_91 (fun σ91 eσ91 => ?_)
        have hw := hw σ91 eσ91
        refine vAload_n (pc := 92) hc dX9_picks_92 rfl ?_
        refine vIload_n (pc := 93) hc dX9_picks_93 rfl ?_
        refine vIload_n (pc := 94) hc dX9_picks_94 rfl ?_
        refine vIconst (pc := 95) (v := 1) hc dX9_picks_95 ki_1 ?_
        refine vIload (pc := 96) hc dX9_picks_96 rfl ?_
        refine vIshl (pc := 98) hc dX9_picks_98 ?_
        refine vIconst (pc := 99) (v := (-1)) hc dX9_picks_99 ki_m1 ?_
        refine vIxor (pc := 100) hc dX9_picks_100 ?_
        refine vIand (pc := 101) hc dX9_picks_101 ?_
        refine vIload_n (pc := 102) hc dX9_picks_102 rfl ?_
        refine vIconst (pc := 103) (v := 1) hc dX9_picks_103 ki_1 ?_
        refine vIadd (pc := 104) hc dX9_picks_104 ?_
        refine vAload_n (pc := 105) hc dX9_picks_105 rfl ?_
        refine vGetR (pc := 106) (k := 66) (j := 18) hc rfl inG9 (hc.G 66 (Nat.le_of_ble_eq_true rfl)) rfl (Nat.le_of_ble_eq_true rfl) tw_741 rfl dX9_picks_106 ?_
        refine vIload (pc := 109) hc dX9_picks_109 rfl ?_
        refine vIald (pc := 111) (k := 83) hc (hc.G 83 (Nat.le_of_ble_eq_true rfl)) rfl rfl hi4 dX9_picks_111 ?_
        refine vCallVv (pc := 112) (st := []) hc ok_X9_picks tw_921 (hRc x1 (x2 &&& (((1 : Int32) <<< (x5 &&& 31)) ^^^ (-1))) (x3 + 1) (σ91 83 x5.toNatClampNeg) _ _ hw) (hc.G 66 (Nat.le_of_ble_eq_true rfl)) rfl rfl rfl ⟨rfl, rfl⟩ (by constructor <;> simp [rm_X9_picks] <;> omega) rfl (Nat.le_of_ble_eq_true rfl) dX9_picks_112 (fun σ112 hw => ?_)
        refine vIinc (pc := 115) (v := x5 + 1) (L2 := [some (.ref (E.2.1 66)), some (.int x1), some (.int x2), some (.int x3), some (.int x4), some (.int (x5 + 1))]) hc dX9_picks_115 rfl rfl rfl (Nat.le_of_ble_eq_true rfl) ?_
        refine vGoto (pc := 118) (tgt := 29) hc dX9_picks_118 (by decide) ?_
        exact vMono (L2 := [some (.ref (E.2.1 66)), some (.int x1), some (.int x2), some (.int x3), some (.int x4), some (.int (x5 + 1))]) (show subL [some (.ref (E.2.1 66)), some (.int x1), some (.int x2), some (.int x3), some (.int x4), some (.int (x5 + 1))] [some (.ref (E.2.1 66)), some (.int x1), some (.int x2), some (.int x3), some (.int x4), some (.int (x5 + 1))] from ⟨rfl, ⟨rfl, ⟨rfl, ⟨rfl, ⟨rfl, ⟨rfl, trivial⟩⟩⟩⟩⟩⟩) (ih x1 x2 x3 x4 (x5 + 1) _ hw)
      · have hw := hw.2 c44
        refine vGoto (pc := 47) (tgt := 115) hc dX9_picks_47 (by decide) ?_
        refine vIinc (pc := 115) (v := x5 + 1) (L2 := [some (.ref (E.2.1 66)), some (.int x1), some (.int x2), some (.int x3), some (.int x4), some (.int (x5 + 1))]) hc dX9_picks_115 rfl rfl rfl (Nat.le_of_ble_eq_true rfl) ?_
        refine vGoto (pc := 118) (tgt := 29) hc dX9_picks_118 (by decide) ?_
        exact vMono (L2 := [some (.ref (E.2.1 66)), some (.int x1), some (.int x2), some (.int x3), some (.int x4), some (.int (x5 + 1))]) (show subL [some (.ref (E.2.1 66)), some (.int x1), some (.int x2), some (.int x3), some (.int x4), some (.int (x5 + 1))] [some (.ref (E.2.1 66)), some (.int x1), some (.int x2), some (.int x3), some (.int x4), some (.int (x5 + 1))] from ⟨rfl, ⟨rfl, ⟨rfl, ⟨rfl, ⟨rfl, ⟨rfl, trivial⟩⟩⟩⟩⟩⟩) (ih x1 x2 x3 x4 (x5 + 1) _ hw)
set_option maxRecDepth 100000 in
set_option maxHeartbeats 4000000 in
theorem t_X9_picks_E {p : Program} {l : Launch} {e : Env} {s : State} {m : MethodId} {args : Array Value} {below : List Frame} {meth : Method} {c : Code} {E : WD} {Q : MS → Prop} {d : Nat} {Rc : Int32 → Int32 → Int32 → Int32 → MS → (MS → Prop) → Prop} (hc : Cx p (rm_X9_picks (d + 1)) s m args meth c E (AD E) cX9_picks RX9 none 6 0 0 fdm) (hRc : ∀ (x1 x2 x3 x4 : Int32) (σ : MS) (Q : MS → Prop), Rc x1 x2 x3 x4 σ Q → Cv l E yX9_picks cX9_picks 6 none (rm_X9_picks d) [.ref (E.2.1 66), .int x1, .int x2, .int x3, .int x4] σ Q) (x1 x2 x3 x4 : Int32) (σ : MS) (hw : w_X9_picks_E Rc Q x1 x2 x3 x4 σ) : V p l e (rm_X9_picks (d + 1)) s m args below meth c E (AD E) 6 0 0 (MQ below (va_Qv Q (BW E) (AD E)) args s 0 0 (AD E)) σ 0 [some (.ref (E.2.1 66)), some (.int x1), some (.int x2), some (.int x3), some (.int x4), none] [] := by
  unfold w_X9_picks_E at hw
  refine vIload_n (pc := 0) hc dX9_picks_0 rfl ?_
  refine vIf_ne (pc := 1) (tgt := 26) hc dX9_picks_1 (by decide) (fun c1 => ?_) (fun c1 => ?_)
  · have hw := hw.1 c1
    refine vIconst (pc := 26) (v := 0) hc dX9_picks_26 ki_0 ?_
    refine vIstore (pc := 27) (L2 := [some (.ref (E.2.1 66)), some (.int x1), some (.int x2), some (.int x3), some (.int x4), some (.int 0)]) hc dX9_picks_27 rfl (Nat.le_of_ble_eq_true rfl) ?_
    obtain ⟨n29, hw⟩ := hw
    exact vMono (L2 := [some (.ref (E.2.1 66)), some (.int x1), some (.int x2), some (.int x3), some (.int x4), some (.int 0)]) (show subL [some (.ref (E.2.1 66)), some (.int x1), some (.int x2), some (.int x3), some (.int x4), some (.int 0)] [some (.ref (E.2.1 66)), some (.int x1), some (.int x2), some (.int x3), some (.int x4), some (.int 0)] from ⟨rfl, ⟨rfl, ⟨rfl, ⟨rfl, ⟨rfl, ⟨rfl, trivial⟩⟩⟩⟩⟩⟩) (t_X9_picks_H29 hc hRc n29 x1 x2 x3 x4 0 _ hw)
  · have hw := hw.2 c1
    refine vAload_n (pc := 4) hc dX9_picks_4 rfl ?_
    refine vIload_n (pc := 5) hc dX9_picks_5 rfl ?_
    refine vIconst (pc := 6) (v := 0) hc dX9_picks_6 ki_0 ?_
    refine vIload (pc := 7) hc dX9_picks_7 rfl ?_
    refine vAload_n (pc := 9) hc dX9_picks_9 rfl ?_
    refine vGetR (pc := 10) (k := 66) (j := 6) hc rfl inG9 (hc.G 66 (Nat.le_of_ble_eq_true rfl)) rfl (Nat.le_of_ble_eq_true rfl) tw_729 rfl dX9_picks_10 ?_
    refine vAload_n (pc := 13) hc dX9_picks_13 rfl ?_
    refine vGetR (pc := 14) (k := 66) (j := 16) hc rfl inG9 (hc.G 66 (Nat.le_of_ble_eq_true rfl)) rfl (Nat.le_of_ble_eq_true rfl) tw_739 rfl dX9_picks_14 ?_
    refine vIload_n (pc := 17) hc dX9_picks_17 rfl ?_
    refine vIconst (pc := 18) (v := 1) hc dX9_picks_18 ki_1 ?_
    refine vIsub (pc := 19) hc dX9_picks_19 ?_
    obtain ⟨hi1, hw⟩ := hw
    refine vIald (pc := 20) (k := 81) hc (hc.G 81 (Nat.le_of_ble_eq_true rfl)) rfl rfl hi1 dX9_picks_20 ?_
    obtain ⟨hi2, hw⟩ := hw
    refine vIald (pc := 21) (k := 71) hc (hc.G 71 (Nat.le_of_ble_eq_true rfl)) rfl rfl hi2 dX9_picks_21 ?_
    refine vCallVv (pc := 22) (st := []) hc ok_X9_drops tw_925 (c_X9_drops hc.2.2.2.2.2.2.1 hc.G 6 x1 0 x4 (σ 71 (σ 81 (x3 - 1).toNatClampNeg).toNatClampNeg) _ _ hw) (hc.G 66 (Nat.le_of_ble_eq_true rfl)) rfl rfl rfl ⟨rfl, rfl⟩ (by constructor <;> simp [rm_X9_picks, rm_X9_drops] <;> omega) rfl (Nat.le_of_ble_eq_true rfl) dX9_picks_22 (fun σ22 hw => ?_)
    exact vVret (pc := 25) hc dX9_picks_25 hw
set_option maxRecDepth 100000 in
set_option maxHeartbeats 4000000 in
theorem c_X9_picks {l : Launch} {E : WD} (hE : inj E) (hG : ∀ k, fdm k → k ∈ E.2.2.2) : ∀ (d : Nat) (x1 x2 x3 x4 : Int32) (σ : MS) (Q : MS → Prop), w_X9_picks d x1 x2 x3 x4 σ Q → Cv l E yX9_picks cX9_picks 6 none (rm_X9_picks d) [.ref (E.2.1 66), .int x1, .int x2, .int x3, .int x4] σ Q := by
  intro d
  induction d with
  | zero =>
    intro x1 x2 x3 x4 σ Q hw
    exact hw.elim
  | succ d ih =>
    intro x1 x2 x3 x4 σ Q hw
    exact Ct_of (by decide) rfl (by
        intro v hv
        simp only [List.mem_cons, List.not_mem_nil, or_false] at hv
        rcases hv with rfl | rfl | rfl | rfl | rfl <;> rfl) (Nat.le_of_ble_eq_true rfl) hE hG (fun p e s m below meth c hc => t_X9_picks_E hc ih x1 x2 x3 x4 σ hw)
def w_X9_whyNot_J85 (Q : Int32 → MS → Prop) (x1 x2 x3 x4 : Int32) (σ : MS) : Prop := ((vp_in x2 9) ∧ ((x3 ≤ (σ 76 x2.toNatClampNeg) → (((x4 &&& x1) = 0 → w_X9_many x1 σ (fun r108 σ108 => (∀ σ111, σ111 = mst σ108 66 24 r108 → (∀ σ120, σ120 = mst σ111 81 (0 : Int32).toNatClampNeg x2 → (∀ σ127, σ127 = mst σ120 83 x2.toNatClampNeg 0 → w_X9_picks 6 x1 (x1 &&& (((1 : Int32) <<< (x2 &&& 31)) ^^^ (-1))) 1 0 σ127 (fun σ139 => ((¬ (σ139 66 25) = 1000000 → Q 0 σ139) ∧ ((σ139 66 25) = 1000000 → Q 4 σ139)))))))) ∧ (¬ (x4 &&& x1) = 0 → Q 3 σ))) ∧ (¬ x3 ≤ (σ 76 x2.toNatClampNeg) → Q 2 σ)))
def w_X9_whyNot_H34 (Q : Int32 → MS → Prop) : Nat → Int32 → Int32 → Int32 → Int32 → Int32 → MS → Prop
  | 0, _, _, _, _, _, _ => False
  | n + 1, x1, x2, x3, x4, x5, σ => (((σ 66 3) ≤ x5 → w_X9_whyNot_J85 Q x1 x2 x3 x4 σ) ∧ (¬ (σ 66 3) ≤ x5 → ((¬ ((x1 >>> (x5 &&& 31)) &&& 1) = 0 → ((vp_in x5 9) ∧ (∀ x3_66 : Int32, x3_66 = (x3 + ((1 : Int32) + (σ 70 x5.toNatClampNeg))) → (∀ x4_77 : Int32, x4_77 = (x4 ||| (σ 77 x5.toNatClampNeg)) → w_X9_whyNot_H34 Q n x1 x2 x3_66 x4_77 (x5 + 1) σ)))) ∧ (((x1 >>> (x5 &&& 31)) &&& 1) = 0 → w_X9_whyNot_H34 Q n x1 x2 x3 x4 (x5 + 1) σ))))
def w_X9_whyNot_E (Q : Int32 → MS → Prop) (x1 x2 : Int32) (σ : MS) : Prop := (∀ σ3, σ3 = mst σ 66 25 1000000 → ((vp_in x2 9) ∧ (((σ3 76 x2.toNatClampNeg) = 0 → Q 1 σ3) ∧ (¬ (σ3 76 x2.toNatClampNeg) = 0 → (((σ3 80 x2.toNatClampNeg) = 0 → (∃ n34, w_X9_whyNot_H34 Q n34 x1 x2 0 0 0 σ3)) ∧ (¬ (σ3 80 x2.toNatClampNeg) = 0 → Q 1 σ3))))))
abbrev w_X9_whyNot (x1 x2 : Int32) (σ : MS) (Q : Int32 → MS → Prop) : Prop := w_X9_whyNot_E Q x1 x2 σ
abbrev rm_X9_whyNot : Room := { frames := 16, cells := 0, slots := 0, locals := 435 }
theorem ok_X9_whyNot : OkV yX9_whyNot RX9 cX9_whyNot 6 (some .int) 2 := ⟨tw_918, tw_29, tw_57, tw_919, rfl, by decide, by decide, by decide +kernel⟩
set_option maxRecDepth 100000 in
set_option maxHeartbeats 4000000 in
theorem t_X9_whyNot_J85 {p : Program} {l : Launch} {e : Env} {s : State} {m : MethodId} {args : Array Value} {below : List Frame} {meth : Method} {c : Code} {E : WD} {Q : Int32 → MS → Prop} (hc : Cx p rm_X9_whyNot s m args meth c E (AD E) cX9_whyNot RX9 (some .int) 6 0 0 fdm) (x1 x2 x3 x4 : Int32) (σ : MS) (hw : w_X9_whyNot_J85 Q x1 x2 x3 x4 σ) : V p l e rm_X9_whyNot s m args below meth c E (AD E) 6 0 0 (MQ below (va_Qi Q (BW E) (AD E)) args s 0 0 (AD E)) σ 85 [some (.ref (E.2.1 66)), some (.int x1), some (.int x2), some (.int x3), some (.int x4), none] [] := by
  unfold w_X9_whyNot_J85 at hw
  refine vIload_n (pc := 85) hc dX9_whyNot_85 rfl ?_
  refine vAload_n (pc := 86) hc dX9_whyNot_86 rfl ?_
  refine vGetR (pc := 87) (k := 66) (j := 11) hc rfl inG9 (hc.G 66 (Nat.le_of_ble_eq_true rfl)) rfl (Nat.le_of_ble_eq_true rfl) tw_734 rfl dX9_whyNot_87 ?_
  refine vIload_n (pc := 90) hc dX9_whyNot_90 rfl ?_
  obtain ⟨hi1, hw⟩ := hw
  refine vIald (pc := 91) (k := 76) hc (hc.G 76 (Nat.le_of_ble_eq_true rfl)) rfl rfl hi1 dX9_whyNot_91 ?_
  refine vIcmp_le (pc := 92) (tgt := 97) hc dX9_whyNot_92 (by decide) (fun c92 => ?_) (fun c92 => ?_)
  · have hw := hw.1 c92
    refine vIload (pc := 97) hc dX9_whyNot_97 rfl ?_
    refine vIload_n (pc := 99) hc dX9_whyNot_99 rfl ?_
    refine vIand (pc := 100) hc dX9_whyNot_100 ?_
    refine vIf_eq (pc := 101) (tgt := 106) hc dX9_whyNot_101 (by decide) (fun c101 => ?_) (fun c101 => ?_)
    · have hw := hw.1 c101
      refine vAload_n (pc := 106) hc dX9_whyNot_106 rfl ?_
      refine vIload_n (pc := 107) hc dX9_whyNot_107 rfl ?_
      refine vCallSi (pc := 108) (st := [(.ref (E.2.1 66))]) hc ok_X9_many tw_909 (c_X9_many hc.2.2.2.2.2.2.1 hc.G hw) rfl ⟨rfl, rfl⟩ ⟨Nat.le_of_ble_eq_true rfl, Nat.le_of_ble_eq_true rfl⟩ rfl (Nat.le_of_ble_eq_true rfl) dX9_whyNot_108 (fun r108 σ108 hw => ?_)
      refine vPut (pc := 111) (k := 66) (j := 24) hc rfl inG9 (hc.G 66 (Nat.le_of_ble_eq_true rfl)) rfl (Nat.le_of_ble_eq_true rfl) tyX9 tyX9_ok nmX9 tw_747 rfl rfl rfl rfl dX9_whyNot_111 (fun σ111 eσ111 => ?_)
      have hw := hw σ111 eσ111
      refine vAload_n (pc := 114) hc dX9_whyNot_114 rfl ?_
      refine vGetR (pc := 115) (k := 66) (j := 16) hc rfl inG9 (hc.G 66 (Nat.le_of_ble_eq_true rfl)) rfl (Nat.le_of_ble_eq_true rfl) tw_739 rfl dX9_whyNot_115 ?_
      refine vIconst (pc := 118) (v := 0) hc dX9_whyNot_118 ki_0 ?_
      refine vIload_n (pc := 119) hc dX9_whyNot_119 rfl ?_
      refine vIast (pc := 120) (k := 81) hc (hc.G 81 (Nat.le_of_ble_eq_true rfl)) rfl rfl (vp_lit (by decide)) dX9_whyNot_120 (fun σ120 eσ120 => ?_)
      have hw := hw σ120 eσ120
      refine vAload_n (pc := 121) hc dX9_whyNot_121 rfl ?_
      refine vGetR (pc := 122) (k := 66) (j := 18) hc rfl inG9 (hc.G 66 (Nat.le_of_ble_eq_true rfl)) rfl (Nat.le_of_ble_eq_true rfl) tw_741 rfl dX9_whyNot_122 ?_
      refine vIload_n (pc := 125) hc dX9_whyNot_125 rfl ?_
      refine vIconst (pc := 126) (v := 0) hc dX9_whyNot_126 ki_0 ?_
      refine vIast (pc := 127) (k := 83) hc (hc.G 83 (Nat.le_of_ble_eq_true rfl)) rfl rfl hi1 dX9_whyNot_127 (fun σ127 eσ127 => ?_)
      have hw := hw σ127 eσ127
      refine vAload_n (pc := 128) hc dX9_whyNot_128 rfl ?_
      refine vIload_n (pc := 129) hc dX9_whyNot_129 rfl ?_
      refine vIload_n (pc := 130) hc dX9_whyNot_130 rfl ?_
      refine vIconst (pc := 131) (v := 1) hc dX9_whyNot_131 ki_1 ?_
      refine vIload_n (pc := 132) hc dX9_whyNot_132 rfl ?_
      refine vIshl (pc := 133) hc dX9_whyNot_133 ?_
      refine vIconst (pc := 134) (v := (-1)) hc dX9_whyNot_134 ki_m1 ?_
      refine vIxor (pc := 135) hc dX9_whyNot_135 ?_
      refine vIand (pc := 136) hc dX9_whyNot_136 ?_
      refine vIconst (pc := 137) (v := 1) hc dX9_whyNot_137 ki_1 ?_
      refine vIconst (pc := 138) (v := 0) hc dX9_whyNot_138 ki_0 ?_
      refine vCallVv (pc := 139) (st := []) hc ok_X9_picks tw_921 (c_X9_picks hc.2.2.2.2.2.2.1 hc.G 6 x1 (x1 &&& (((1 : Int32) <<< (x2 &&& 31)) ^^^ (-1))) 1 0 _ _ hw) (hc.G 66 (Nat.le_of_ble_eq_true rfl)) rfl rfl rfl ⟨rfl, rfl⟩ ⟨Nat.le_of_ble_eq_true rfl, Nat.le_of_ble_eq_true rfl⟩ rfl (Nat.le_of_ble_eq_true rfl) dX9_whyNot_139 (fun σ139 hw => ?_)
      refine vAload_n (pc := 142) hc dX9_whyNot_142 rfl ?_
      refine vGetI (pc := 143) (k := 66) (j := 25) hc rfl inG9 (hc.G 66 (Nat.le_of_ble_eq_true rfl)) rfl (Nat.le_of_ble_eq_true rfl) tw_748 rfl dX9_whyNot_143 ?_
      refine vLdc (pc := 146) hc tw_920 dX9_whyNot_146 ?_
      refine vIcmp_ne (pc := 148) (tgt := 155) hc dX9_whyNot_148 (by decide) (fun c148 => ?_) (fun c148 => ?_)
      · have hw := hw.1 c148
        refine vIconst (pc := 155) (v := 0) hc dX9_whyNot_155 ki_0 ?_
        exact vIret (pc := 156) hc dX9_whyNot_156 hw
      · have hw := hw.2 c148
        refine vIconst (pc := 151) (v := 4) hc dX9_whyNot_151 ki_4 ?_
        refine vGoto (pc := 152) (tgt := 156) hc dX9_whyNot_152 (by decide) ?_
        exact vIret (pc := 156) hc dX9_whyNot_156 hw
    · have hw := hw.2 c101
      refine vIconst (pc := 104) (v := 3) hc dX9_whyNot_104 ki_3 ?_
      exact vIret (pc := 105) hc dX9_whyNot_105 hw
  · have hw := hw.2 c92
    refine vIconst (pc := 95) (v := 2) hc dX9_whyNot_95 ki_2 ?_
    exact vIret (pc := 96) hc dX9_whyNot_96 hw
set_option maxRecDepth 100000 in
set_option maxHeartbeats 4000000 in
theorem t_X9_whyNot_H34 {p : Program} {l : Launch} {e : Env} {s : State} {m : MethodId} {args : Array Value} {below : List Frame} {meth : Method} {c : Code} {E : WD} {Q : Int32 → MS → Prop} (hc : Cx p rm_X9_whyNot s m args meth c E (AD E) cX9_whyNot RX9 (some .int) 6 0 0 fdm) : ∀ (n : Nat) (x1 x2 x3 x4 x5 : Int32) (σ : MS), w_X9_whyNot_H34 Q n x1 x2 x3 x4 x5 σ → V p l e rm_X9_whyNot s m args below meth c E (AD E) 6 0 0 (MQ below (va_Qi Q (BW E) (AD E)) args s 0 0 (AD E)) σ 34 [some (.ref (E.2.1 66)), some (.int x1), some (.int x2), some (.int x3), some (.int x4), some (.int x5)] [] := by
  intro n
  induction n with
  | zero =>
    intro x1 x2 x3 x4 x5 σ hw
    exact hw.elim
  | succ n ih =>
    intro x1 x2 x3 x4 x5 σ hw
    unfold w_X9_whyNot_H34 at hw
    refine vIload (pc := 34) hc dX9_whyNot_34 rfl ?_
    refine vAload_n (pc := 36) hc dX9_whyNot_36 rfl ?_
    refine vGetI (pc := 37) (k := 66) (j := 3) hc rfl inG9 (hc.G 66 (Nat.le_of_ble_eq_true rfl)) rfl (Nat.le_of_ble_eq_true rfl) tw_726 rfl dX9_whyNot_37 ?_
    refine vIcmp_ge (pc := 40) (tgt := 85) hc dX9_whyNot_40 (by decide) (fun c40 => ?_) (fun c40 => ?_)
    · have hw := hw.1 c40
      exact vMono (L2 := [some (.ref (E.2.1 66)), some (.int x1), some (.int x2), some (.int x3), some (.int x4), none]) (show subL [some (.ref (E.2.1 66)), some (.int x1), some (.int x2), some (.int x3), some (.int x4), none] [some (.ref (E.2.1 66)), some (.int x1), some (.int x2), some (.int x3), some (.int x4), some (.int x5)] from ⟨rfl, ⟨rfl, ⟨rfl, ⟨rfl, ⟨rfl, trivial⟩⟩⟩⟩⟩) (t_X9_whyNot_J85 hc  x1 x2 x3 x4 _ hw)
    · have hw := hw.2 c40
      refine vIload_n (pc := 43) hc dX9_whyNot_43 rfl ?_
      refine vIload (pc := 44) hc dX9_whyNot_44 rfl ?_
      refine vIshr (pc := 46) hc dX9_whyNot_46 ?_
      refine vIconst (pc := 47) (v := 1) hc dX9_whyNot_47 ki_1 ?_
      refine vIand (pc := 48) hc dX9_whyNot_48 ?_
      refine vIf_ne (pc := 49) (tgt := 55) hc dX9_whyNot_49 (by decide) (fun c49 => ?_) (fun c49 => ?_)
      · have hw := hw.1 c49
        refine vIload_n (pc := 55) hc dX9_whyNot_55 rfl ?_
        refine vIconst (pc := 56) (v := 1) hc dX9_whyNot_56 ki_1 ?_
        refine vAload_n (pc := 57) hc dX9_whyNot_57 rfl ?_
        refine vGetR (pc := 58) (k := 66) (j := 5) hc rfl inG9 (hc.G 66 (Nat.le_of_ble_eq_true rfl)) rfl (Nat.le_of_ble_eq_true rfl) tw_728 rfl dX9_whyNot_58 ?_
        refine vIload (pc := 61) hc dX9_whyNot_61 rfl ?_
        obtain ⟨hi1, hw⟩ := hw
        refine vIald (pc := 63) (k := 70) hc (hc.G 70 (Nat.le_of_ble_eq_true rfl)) rfl rfl hi1 dX9_whyNot_63 ?_
        refine vIadd (pc := 64) hc dX9_whyNot_64 ?_
        refine vIadd (pc := 65) hc dX9_whyNot_65 ?_
        obtain ⟨x3_66, ex3_66⟩ : ∃ z : Int32, z = x3 + ((1 : Int32) + (σ 70 x5.toNatClampNeg)) := ⟨_, rfl⟩
        have hw := hw x3_66 ex3_66
        refine vTop ex3_66 ?_
        refine vIstore_n (pc := 66) (L2 := [some (.ref (E.2.1 66)), some (.int x1), some (.int x2), some (.int x3_66), some (.int x4), some (.int x5)]) hc dX9_whyNot_66 rfl (Nat.le_of_ble_eq_true rfl) ?_
        refine vIload (pc := 67) hc dX9_whyNot_67 rfl ?_
        refine vAload_n (pc := 69) hc dX9_whyNot_69 rfl ?_
        refine vGetR (pc := 70) (k := 66) (j := 12) hc rfl inG9 (hc.G 66 (Nat.le_of_ble_eq_true rfl)) rfl (Nat.le_of_ble_eq_true rfl) tw_735 rfl dX9_whyNot_70 ?_
        refine vIload (pc := 73) hc dX9_whyNot_73 rfl ?_
        refine vIald (pc := 75) (k := 77) hc (hc.G 77 (Nat.le_of_ble_eq_true rfl)) rfl rfl hi1 dX9_whyNot_75 ?_
        refine vIor (pc := 76) hc dX9_whyNot_76 ?_
        obtain ⟨x4_77, ex4_77⟩ : ∃ z : Int32, z = x4 ||| (σ 77 x5.toNatClampNeg) := ⟨_, rfl⟩
        have hw := hw x4_77 ex4_77
        refine vTop ex4_77 ?_
        refine vIstore (pc := 77) (L2 := [some (.ref (E.2.1 66)), some (.int x1), some (.int x2), some (.int x3_66), some (.int x4_77), some (.int x5)]) hc dX9_whyNot_77 rfl (Nat.le_of_ble_eq_true rfl) ?_
        refine vIinc (pc := 79) (v := x5 + 1) (L2 := [some (.ref (E.2.1 66)), some (.int x1), some (.int x2), some (.int x3_66), some (.int x4_77), some (.int (x5 + 1))]) hc dX9_whyNot_79 rfl rfl rfl (Nat.le_of_ble_eq_true rfl) ?_
        refine vGoto (pc := 82) (tgt := 34) hc dX9_whyNot_82 (by decide) ?_
        exact vMono (L2 := [some (.ref (E.2.1 66)), some (.int x1), some (.int x2), some (.int x3_66), some (.int x4_77), some (.int (x5 + 1))]) (show subL [some (.ref (E.2.1 66)), some (.int x1), some (.int x2), some (.int x3_66), some (.int x4_77), some (.int (x5 + 1))] [some (.ref (E.2.1 66)), some (.int x1), some (.int x2), some (.int x3_66), some (.int x4_77), some (.int (x5 + 1))] from ⟨rfl, ⟨rfl, ⟨rfl, ⟨rfl, ⟨rfl, ⟨rfl, trivial⟩⟩⟩⟩⟩⟩) (ih x1 x2 x3_66 x4_77 (x5 + 1) _ hw)
      · have hw := hw.2 c49
        refine vGoto (pc := 52) (tgt := 79) hc dX9_whyNot_52 (by decide) ?_
        refine vIinc (pc := 79) (v := x5 + 1) (L2 := [some (.ref (E.2.1 66)), some (.int x1), some (.int x2), some (.int x3), some (.int x4), some (.int (x5 + 1))]) hc dX9_whyNot_79 rfl rfl rfl (Nat.le_of_ble_eq_true rfl) ?_
        refine vGoto (pc := 82) (tgt := 34) hc dX9_whyNot_82 (by decide) ?_
        exact vMono (L2 := [some (.ref (E.2.1 66)), some (.int x1), some (.int x2), some (.int x3), some (.int x4), some (.int (x5 + 1))]) (show subL [some (.ref (E.2.1 66)), some (.int x1), some (.int x2), some (.int x3), some (.int x4), some (.int (x5 + 1))] [some (.ref (E.2.1 66)), some (.int x1), some (.int x2), some (.int x3), some (.int x4), some (.int (x5 + 1))] from ⟨rfl, ⟨rfl, ⟨rfl, ⟨rfl, ⟨rfl, ⟨rfl, trivial⟩⟩⟩⟩⟩⟩) (ih x1 x2 x3 x4 (x5 + 1) _ hw)
set_option maxRecDepth 100000 in
set_option maxHeartbeats 4000000 in
theorem t_X9_whyNot_E {p : Program} {l : Launch} {e : Env} {s : State} {m : MethodId} {args : Array Value} {below : List Frame} {meth : Method} {c : Code} {E : WD} {Q : Int32 → MS → Prop} (hc : Cx p rm_X9_whyNot s m args meth c E (AD E) cX9_whyNot RX9 (some .int) 6 0 0 fdm) (x1 x2 : Int32) (σ : MS) (hw : w_X9_whyNot_E Q x1 x2 σ) : V p l e rm_X9_whyNot s m args below meth c E (AD E) 6 0 0 (MQ below (va_Qi Q (BW E) (AD E)) args s 0 0 (AD E)) σ 0 [some (.ref (E.2.1 66)), some (.int x1), some (.int x2), none, none, none] [] := by
  unfold w_X9_whyNot_E at hw
  refine vAload_n (pc := 0) hc dX9_whyNot_0 rfl ?_
  refine vLdc (pc := 1) hc tw_920 dX9_whyNot_1 ?_
  refine vPut (pc := 3) (k := 66) (j := 25) hc rfl inG9 (hc.G 66 (Nat.le_of_ble_eq_true rfl)) rfl (Nat.le_of_ble_eq_true rfl) tyX9 tyX9_ok nmX9 tw_748 rfl rfl rfl rfl dX9_whyNot_3 (fun σ3 eσ3 => ?_)
  have hw := hw σ3 eσ3
  refine vAload_n (pc := 6) hc dX9_whyNot_6 rfl ?_
  refine vGetR (pc := 7) (k := 66) (j := 11) hc rfl inG9 (hc.G 66 (Nat.le_of_ble_eq_true rfl)) rfl (Nat.le_of_ble_eq_true rfl) tw_734 rfl dX9_whyNot_7 ?_
  refine vIload_n (pc := 10) hc dX9_whyNot_10 rfl ?_
  obtain ⟨hi1, hw⟩ := hw
  refine vIald (pc := 11) (k := 76) hc (hc.G 76 (Nat.le_of_ble_eq_true rfl)) rfl rfl hi1 dX9_whyNot_11 ?_
  refine vIf_eq (pc := 12) (tgt := 24) hc dX9_whyNot_12 (by decide) (fun c12 => ?_) (fun c12 => ?_)
  · have hw := hw.1 c12
    refine vIconst (pc := 24) (v := 1) hc dX9_whyNot_24 ki_1 ?_
    exact vIret (pc := 25) hc dX9_whyNot_25 hw
  · have hw := hw.2 c12
    refine vAload_n (pc := 15) hc dX9_whyNot_15 rfl ?_
    refine vGetR (pc := 16) (k := 66) (j := 15) hc rfl inG9 (hc.G 66 (Nat.le_of_ble_eq_true rfl)) rfl (Nat.le_of_ble_eq_true rfl) tw_738 rfl dX9_whyNot_16 ?_
    refine vIload_n (pc := 19) hc dX9_whyNot_19 rfl ?_
    refine vZald (pc := 20) (k := 80) hc (hc.G 80 (Nat.le_of_ble_eq_true rfl)) rfl rfl hi1 dX9_whyNot_20 ?_
    refine vIf_eq (pc := 21) (tgt := 26) hc dX9_whyNot_21 (by decide) (fun c21 => ?_) (fun c21 => ?_)
    · have hw := hw.1 c21
      refine vIconst (pc := 26) (v := 0) hc dX9_whyNot_26 ki_0 ?_
      refine vIstore_n (pc := 27) (L2 := [some (.ref (E.2.1 66)), some (.int x1), some (.int x2), some (.int 0), none, none]) hc dX9_whyNot_27 rfl (Nat.le_of_ble_eq_true rfl) ?_
      refine vIconst (pc := 28) (v := 0) hc dX9_whyNot_28 ki_0 ?_
      refine vIstore (pc := 29) (L2 := [some (.ref (E.2.1 66)), some (.int x1), some (.int x2), some (.int 0), some (.int 0), none]) hc dX9_whyNot_29 rfl (Nat.le_of_ble_eq_true rfl) ?_
      refine vIconst (pc := 31) (v := 0) hc dX9_whyNot_31 ki_0 ?_
      refine vIstore (pc := 32) (L2 := [some (.ref (E.2.1 66)), some (.int x1), some (.int x2), some (.int 0), some (.int 0), some (.int 0)]) hc dX9_whyNot_32 rfl (Nat.le_of_ble_eq_true rfl) ?_
      obtain ⟨n34, hw⟩ := hw
      exact vMono (L2 := [some (.ref (E.2.1 66)), some (.int x1), some (.int x2), some (.int 0), some (.int 0), some (.int 0)]) (show subL [some (.ref (E.2.1 66)), some (.int x1), some (.int x2), some (.int 0), some (.int 0), some (.int 0)] [some (.ref (E.2.1 66)), some (.int x1), some (.int x2), some (.int 0), some (.int 0), some (.int 0)] from ⟨rfl, ⟨rfl, ⟨rfl, ⟨rfl, ⟨rfl, ⟨rfl, trivial⟩⟩⟩⟩⟩⟩) (t_X9_whyNot_H34 hc  n34 x1 x2 0 0 0 _ hw)
    · have hw := hw.2 c21
      refine vIconst (pc := 24) (v := 1) hc dX9_whyNot_24 ki_1 ?_
      exact vIret (pc := 25) hc dX9_whyNot_25 hw
set_option maxRecDepth 100000 in
set_option maxHeartbeats 4000000 in
theorem c_X9_whyNot {l : Launch} {E : WD} (hE : inj E) (hG : ∀ k, fdm k → k ∈ E.2.2.2) {x1 x2 : Int32} {σ : MS} {Q : Int32 → MS → Prop} (hw : w_X9_whyNot x1 x2 σ Q) : Ci l E yX9_whyNot cX9_whyNot 6 (some .int) rm_X9_whyNot [.ref (E.2.1 66), .int x1, .int x2] σ Q :=
  Ct_of (by decide) rfl (by
    intro v hv
    simp only [List.mem_cons, List.not_mem_nil, or_false] at hv
    rcases hv with rfl | rfl | rfl <;> rfl) (Nat.le_of_ble_eq_true rfl) hE hG (fun p e s m below meth c hc => t_X9_whyNot_E hc x1 x2 σ hw)
def w_X9_isSet_E (Q : Int32 → MS → Prop) (x1 : Int32) (σ : MS) : Prop := ((x1 ≤ 0 → Q 0 σ) ∧ (¬ x1 ≤ 0 → ((((1 : Int32) <<< ((σ 66 3) &&& 31)) ≤ x1 → Q 0 σ) ∧ (¬ ((1 : Int32) <<< ((σ 66 3) &&& 31)) ≤ x1 → w_X9_many x1 σ (fun r15 σ15 => ((4 < r15 → Q 0 σ15) ∧ (¬ 4 < r15 → Q 1 σ15)))))))
abbrev w_X9_isSet (x1 : Int32) (σ : MS) (Q : Int32 → MS → Prop) : Prop := w_X9_isSet_E Q x1 σ
abbrev rm_X9_isSet : Room := { frames := 1, cells := 0, slots := 0, locals := 22 }
theorem ok_X9_isSet : OkV yX9_isSet RX9 cX9_isSet 2 (some .boolean) 1 := ⟨tw_907, tw_27, tw_57, tw_908, rfl, by decide, by decide, by decide +kernel⟩
set_option maxRecDepth 100000 in
set_option maxHeartbeats 4000000 in
theorem t_X9_isSet_E {p : Program} {l : Launch} {e : Env} {s : State} {m : MethodId} {args : Array Value} {below : List Frame} {meth : Method} {c : Code} {E : WD} {Q : Int32 → MS → Prop} (hc : Cx p rm_X9_isSet s m args meth c E (AD E) cX9_isSet RX9 (some .boolean) 2 0 0 fdm) (x1 : Int32) (σ : MS) (hw : w_X9_isSet_E Q x1 σ) : V p l e rm_X9_isSet s m args below meth c E (AD E) 2 0 0 (MQ below (va_Qi Q (BW E) (AD E)) args s 0 0 (AD E)) σ 0 [some (.ref (E.2.1 66)), some (.int x1)] [] := by
  unfold w_X9_isSet_E at hw
  refine vIload_n (pc := 0) hc dX9_isSet_0 rfl ?_
  refine vIf_le (pc := 1) (tgt := 26) hc dX9_isSet_1 (by decide) (fun c1 => ?_) (fun c1 => ?_)
  · have hw := hw.1 c1
    refine vIconst (pc := 26) (v := 0) hc dX9_isSet_26 ki_0 ?_
    exact vZret (pc := 27) hc dX9_isSet_27 (Or.inl rfl) hw
  · have hw := hw.2 c1
    refine vIload_n (pc := 4) hc dX9_isSet_4 rfl ?_
    refine vIconst (pc := 5) (v := 1) hc dX9_isSet_5 ki_1 ?_
    refine vAload_n (pc := 6) hc dX9_isSet_6 rfl ?_
    refine vGetI (pc := 7) (k := 66) (j := 3) hc rfl inG9 (hc.G 66 (Nat.le_of_ble_eq_true rfl)) rfl (Nat.le_of_ble_eq_true rfl) tw_726 rfl dX9_isSet_7 ?_
    refine vIshl (pc := 10) hc dX9_isSet_10 ?_
    refine vIcmp_ge (pc := 11) (tgt := 26) hc dX9_isSet_11 (by decide) (fun c11 => ?_) (fun c11 => ?_)
    · have hw := hw.1 c11
      refine vIconst (pc := 26) (v := 0) hc dX9_isSet_26 ki_0 ?_
      exact vZret (pc := 27) hc dX9_isSet_27 (Or.inl rfl) hw
    · have hw := hw.2 c11
      refine vIload_n (pc := 14) hc dX9_isSet_14 rfl ?_
      refine vCallSi (pc := 15) (st := []) hc ok_X9_many tw_909 (c_X9_many hc.2.2.2.2.2.2.1 hc.G hw) rfl ⟨rfl, rfl⟩ ⟨Nat.le_of_ble_eq_true rfl, Nat.le_of_ble_eq_true rfl⟩ rfl (Nat.le_of_ble_eq_true rfl) dX9_isSet_15 (fun r15 σ15 hw => ?_)
      refine vIconst (pc := 18) (v := 4) hc dX9_isSet_18 ki_4 ?_
      refine vIcmp_gt (pc := 19) (tgt := 26) hc dX9_isSet_19 (by decide) (fun c19 => ?_) (fun c19 => ?_)
      · have hw := hw.1 c19
        refine vIconst (pc := 26) (v := 0) hc dX9_isSet_26 ki_0 ?_
        exact vZret (pc := 27) hc dX9_isSet_27 (Or.inl rfl) hw
      · have hw := hw.2 c19
        refine vIconst (pc := 22) (v := 1) hc dX9_isSet_22 ki_1 ?_
        refine vGoto (pc := 23) (tgt := 27) hc dX9_isSet_23 (by decide) ?_
        exact vZret (pc := 27) hc dX9_isSet_27 (Or.inr rfl) hw
set_option maxRecDepth 100000 in
set_option maxHeartbeats 4000000 in
theorem c_X9_isSet {l : Launch} {E : WD} (hE : inj E) (hG : ∀ k, fdm k → k ∈ E.2.2.2) {x1 : Int32} {σ : MS} {Q : Int32 → MS → Prop} (hw : w_X9_isSet x1 σ Q) : Ci l E yX9_isSet cX9_isSet 2 (some .boolean) rm_X9_isSet [.ref (E.2.1 66), .int x1] σ Q :=
  Ct_of (by decide) rfl (by
    intro v hv
    simp only [List.mem_cons, List.not_mem_nil, or_false] at hv
    rcases hv with rfl | rfl <;> rfl) (Nat.le_of_ble_eq_true rfl) hE hG (fun p e s m below meth c hc => t_X9_isSet_E hc x1 σ hw)
def w_X9_hasAway_H4 (Q : Int32 → MS → Prop) : Nat → Int32 → Int32 → Int32 → MS → Prop
  | 0, _, _, _, _ => False
  | n + 1, x1, x2, x3, σ => (((σ 66 3) ≤ x3 → (zb x2 ∧ Q x2 σ)) ∧ (¬ (σ 66 3) ≤ x3 → ((¬ x2 = 0 → (zb x2 ∧ Q x2 σ)) ∧ (x2 = 0 → ((¬ ((x1 >>> (x3 &&& 31)) &&& 1) = 1 → w_X9_hasAway_H4 Q n x1 0 (x3 + 1) σ) ∧ (((x1 >>> (x3 &&& 31)) &&& 1) = 1 → ((vp_in x3 9) ∧ (((σ 79 x3.toNatClampNeg) = 0 → w_X9_hasAway_H4 Q n x1 0 (x3 + 1) σ) ∧ (¬ (σ 79 x3.toNatClampNeg) = 0 → w_X9_hasAway_H4 Q n x1 1 (x3 + 1) σ)))))))))
def w_X9_hasAway_E (Q : Int32 → MS → Prop) (x1 : Int32) (σ : MS) : Prop := (∃ n4, w_X9_hasAway_H4 Q n4 x1 0 0 σ)
abbrev w_X9_hasAway (x1 : Int32) (σ : MS) (Q : Int32 → MS → Prop) : Prop := w_X9_hasAway_E Q x1 σ
abbrev rm_X9_hasAway : Room := { frames := 0, cells := 0, slots := 0, locals := 0 }
theorem ok_X9_hasAway : OkV yX9_hasAway RX9 cX9_hasAway 4 (some .boolean) 1 := ⟨tw_914, tw_28, tw_57, tw_915, rfl, by decide, by decide, by decide +kernel⟩
set_option maxRecDepth 100000 in
set_option maxHeartbeats 4000000 in
theorem t_X9_hasAway_H4 {p : Program} {l : Launch} {e : Env} {s : State} {m : MethodId} {args : Array Value} {below : List Frame} {meth : Method} {c : Code} {E : WD} {Q : Int32 → MS → Prop} (hc : Cx p rm_X9_hasAway s m args meth c E (AD E) cX9_hasAway RX9 (some .boolean) 4 0 0 fdm) : ∀ (n : Nat) (x1 x2 x3 : Int32) (σ : MS), w_X9_hasAway_H4 Q n x1 x2 x3 σ → V p l e rm_X9_hasAway s m args below meth c E (AD E) 4 0 0 (MQ below (va_Qi Q (BW E) (AD E)) args s 0 0 (AD E)) σ 4 [some (.ref (E.2.1 66)), some (.int x1), some (.int x2), some (.int x3)] [] := by
  intro n
  induction n with
  | zero =>
    intro x1 x2 x3 σ hw
    exact hw.elim
  | succ n ih =>
    intro x1 x2 x3 σ hw
    unfold w_X9_hasAway_H4 at hw
    refine vIload_n (pc := 4) hc dX9_hasAway_4 rfl ?_
    refine vAload_n (pc := 5) hc dX9_hasAway_5 rfl ?_
    refine vGetI (pc := 6) (k := 66) (j := 3) hc rfl inG9 (hc.G 66 (Nat.le_of_ble_eq_true rfl)) rfl (Nat.le_of_ble_eq_true rfl) tw_726 rfl dX9_hasAway_6 ?_
    refine vIcmp_ge (pc := 9) (tgt := 46) hc dX9_hasAway_9 (by decide) (fun c9 => ?_) (fun c9 => ?_)
    · have hw := hw.1 c9
      refine vIload_n (pc := 46) hc dX9_hasAway_46 rfl ?_
      exact vZret (pc := 47) hc dX9_hasAway_47 hw.1 hw.2
    · have hw := hw.2 c9
      refine vIload_n (pc := 12) hc dX9_hasAway_12 rfl ?_
      refine vIf_ne (pc := 13) (tgt := 46) hc dX9_hasAway_13 (by decide) (fun c13 => ?_) (fun c13 => ?_)
      · have hw := hw.1 c13
        refine vIload_n (pc := 46) hc dX9_hasAway_46 rfl ?_
        exact vZret (pc := 47) hc dX9_hasAway_47 hw.1 hw.2
      · have hw := hw.2 c13
        refine vIload_n (pc := 16) hc dX9_hasAway_16 rfl ?_
        refine vIload_n (pc := 17) hc dX9_hasAway_17 rfl ?_
        refine vIshr (pc := 18) hc dX9_hasAway_18 ?_
        refine vIconst (pc := 19) (v := 1) hc dX9_hasAway_19 ki_1 ?_
        refine vIand (pc := 20) hc dX9_hasAway_20 ?_
        refine vIconst (pc := 21) (v := 1) hc dX9_hasAway_21 ki_1 ?_
        refine vIcmp_ne (pc := 22) (tgt := 38) hc dX9_hasAway_22 (by decide) (fun c22 => ?_) (fun c22 => ?_)
        · have hw := hw.1 c22
          refine vIconst (pc := 38) (v := 0) hc dX9_hasAway_38 ki_0 ?_
          refine vIstore_n (pc := 39) (L2 := [some (.ref (E.2.1 66)), some (.int x1), some (.int 0), some (.int x3)]) hc dX9_hasAway_39 rfl (Nat.le_of_ble_eq_true rfl) ?_
          refine vIinc (pc := 40) (v := x3 + 1) (L2 := [some (.ref (E.2.1 66)), some (.int x1), some (.int 0), some (.int (x3 + 1))]) hc dX9_hasAway_40 rfl rfl rfl (Nat.le_of_ble_eq_true rfl) ?_
          refine vGoto (pc := 43) (tgt := 4) hc dX9_hasAway_43 (by decide) ?_
          exact vMono (L2 := [some (.ref (E.2.1 66)), some (.int x1), some (.int 0), some (.int (x3 + 1))]) (show subL [some (.ref (E.2.1 66)), some (.int x1), some (.int 0), some (.int (x3 + 1))] [some (.ref (E.2.1 66)), some (.int x1), some (.int 0), some (.int (x3 + 1))] from ⟨rfl, ⟨rfl, ⟨rfl, ⟨rfl, trivial⟩⟩⟩⟩) (ih x1 0 (x3 + 1) _ hw)
        · have hw := hw.2 c22
          refine vAload_n (pc := 25) hc dX9_hasAway_25 rfl ?_
          refine vGetR (pc := 26) (k := 66) (j := 14) hc rfl inG9 (hc.G 66 (Nat.le_of_ble_eq_true rfl)) rfl (Nat.le_of_ble_eq_true rfl) tw_737 rfl dX9_hasAway_26 ?_
          refine vIload_n (pc := 29) hc dX9_hasAway_29 rfl ?_
          obtain ⟨hi1, hw⟩ := hw
          refine vZald (pc := 30) (k := 79) hc (hc.G 79 (Nat.le_of_ble_eq_true rfl)) rfl rfl hi1 dX9_hasAway_30 ?_
          refine vIf_eq (pc := 31) (tgt := 38) hc dX9_hasAway_31 (by decide) (fun c31 => ?_) (fun c31 => ?_)
          · have hw := hw.1 c31
            refine vIconst (pc := 38) (v := 0) hc dX9_hasAway_38 ki_0 ?_
            refine vIstore_n (pc := 39) (L2 := [some (.ref (E.2.1 66)), some (.int x1), some (.int 0), some (.int x3)]) hc dX9_hasAway_39 rfl (Nat.le_of_ble_eq_true rfl) ?_
            refine vIinc (pc := 40) (v := x3 + 1) (L2 := [some (.ref (E.2.1 66)), some (.int x1), some (.int 0), some (.int (x3 + 1))]) hc dX9_hasAway_40 rfl rfl rfl (Nat.le_of_ble_eq_true rfl) ?_
            refine vGoto (pc := 43) (tgt := 4) hc dX9_hasAway_43 (by decide) ?_
            exact vMono (L2 := [some (.ref (E.2.1 66)), some (.int x1), some (.int 0), some (.int (x3 + 1))]) (show subL [some (.ref (E.2.1 66)), some (.int x1), some (.int 0), some (.int (x3 + 1))] [some (.ref (E.2.1 66)), some (.int x1), some (.int 0), some (.int (x3 + 1))] from ⟨rfl, ⟨rfl, ⟨rfl, ⟨rfl, trivial⟩⟩⟩⟩) (ih x1 0 (x3 + 1) _ hw)
          · have hw := hw.2 c31
            refine vIconst (pc := 34) (v := 1) hc dX9_hasAway_34 ki_1 ?_
            refine vGoto (pc := 35) (tgt := 39) hc dX9_hasAway_35 (by decide) ?_
            refine vIstore_n (pc := 39) (L2 := [some (.ref (E.2.1 66)), some (.int x1), some (.int 1), some (.int x3)]) hc dX9_hasAway_39 rfl (Nat.le_of_ble_eq_true rfl) ?_
            refine vIinc (pc := 40) (v := x3 + 1) (L2 := [some (.ref (E.2.1 66)), some (.int x1), some (.int 1), some (.int (x3 + 1))]) hc dX9_hasAway_40 rfl rfl rfl (Nat.le_of_ble_eq_true rfl) ?_
            refine vGoto (pc := 43) (tgt := 4) hc dX9_hasAway_43 (by decide) ?_
            exact vMono (L2 := [some (.ref (E.2.1 66)), some (.int x1), some (.int 1), some (.int (x3 + 1))]) (show subL [some (.ref (E.2.1 66)), some (.int x1), some (.int 1), some (.int (x3 + 1))] [some (.ref (E.2.1 66)), some (.int x1), some (.int 1), some (.int (x3 + 1))] from ⟨rfl, ⟨rfl, ⟨rfl, ⟨rfl, trivial⟩⟩⟩⟩) (ih x1 1 (x3 + 1) _ hw)
set_option maxRecDepth 100000 in
set_option maxHeartbeats 4000000 in
theorem t_X9_hasAway_E {p : Program} {l : Launch} {e : Env} {s : State} {m : MethodId} {args : Array Value} {below : List Frame} {meth : Method} {c : Code} {E : WD} {Q : Int32 → MS → Prop} (hc : Cx p rm_X9_hasAway s m args meth c E (AD E) cX9_hasAway RX9 (some .boolean) 4 0 0 fdm) (x1 : Int32) (σ : MS) (hw : w_X9_hasAway_E Q x1 σ) : V p l e rm_X9_hasAway s m args below meth c E (AD E) 4 0 0 (MQ below (va_Qi Q (BW E) (AD E)) args s 0 0 (AD E)) σ 0 [some (.ref (E.2.1 66)), some (.int x1), none, none] [] := by
  unfold w_X9_hasAway_E at hw
  refine vIconst (pc := 0) (v := 0) hc dX9_hasAway_0 ki_0 ?_
  refine vIstore_n (pc := 1) (L2 := [some (.ref (E.2.1 66)), some (.int x1), some (.int 0), none]) hc dX9_hasAway_1 rfl (Nat.le_of_ble_eq_true rfl) ?_
  refine vIconst (pc := 2) (v := 0) hc dX9_hasAway_2 ki_0 ?_
  refine vIstore_n (pc := 3) (L2 := [some (.ref (E.2.1 66)), some (.int x1), some (.int 0), some (.int 0)]) hc dX9_hasAway_3 rfl (Nat.le_of_ble_eq_true rfl) ?_
  obtain ⟨n4, hw⟩ := hw
  exact vMono (L2 := [some (.ref (E.2.1 66)), some (.int x1), some (.int 0), some (.int 0)]) (show subL [some (.ref (E.2.1 66)), some (.int x1), some (.int 0), some (.int 0)] [some (.ref (E.2.1 66)), some (.int x1), some (.int 0), some (.int 0)] from ⟨rfl, ⟨rfl, ⟨rfl, ⟨rfl, trivial⟩⟩⟩⟩) (t_X9_hasAway_H4 hc  n4 x1 0 0 _ hw)
set_option maxRecDepth 100000 in
set_option maxHeartbeats 4000000 in
theorem c_X9_hasAway {l : Launch} {E : WD} (hE : inj E) (hG : ∀ k, fdm k → k ∈ E.2.2.2) {x1 : Int32} {σ : MS} {Q : Int32 → MS → Prop} (hw : w_X9_hasAway x1 σ Q) : Ci l E yX9_hasAway cX9_hasAway 4 (some .boolean) rm_X9_hasAway [.ref (E.2.1 66), .int x1] σ Q :=
  Ct_of (by decide) rfl (by
    intro v hv
    simp only [List.mem_cons, List.not_mem_nil, or_false] at hv
    rcases hv with rfl | rfl <;> rfl) (Nat.le_of_ble_eq_true rfl) hE hG (fun p e s m below meth c hc => t_X9_hasAway_E hc x1 σ hw)
def w_X9_wrong_E (Q : Int32 → MS → Prop) (x1 x2 : Int32) (σ : MS) : Prop := w_X9_isSet x1 σ (fun r2 σ2 => ((r2 = 0 → Q (-1) σ2) ∧ (¬ r2 = 0 → w_X9_isPerson x2 σ2 (fun r10 σ10 => ((r10 = 0 → Q (-1) σ10) ∧ (¬ r10 = 0 → ((¬ ((x1 >>> (x2 &&& 31)) &&& 1) = 0 → w_X9_hasAway x1 σ10 (fun r28 σ28 => ((r28 = 0 → Q 0 σ28) ∧ (¬ r28 = 0 → Q (-3) σ28)))) ∧ (((x1 >>> (x2 &&& 31)) &&& 1) = 0 → Q (-1) σ10))))))))
abbrev w_X9_wrong (x1 x2 : Int32) (σ : MS) (Q : Int32 → MS → Prop) : Prop := w_X9_wrong_E Q x1 x2 σ
abbrev rm_X9_wrong : Room := { frames := 2, cells := 0, slots := 0, locals := 43 }
theorem ok_X9_wrong : OkV yX9_wrong RX9 cX9_wrong 3 (some .int) 2 := ⟨tw_903, tw_26, tw_57, tw_904, rfl, by decide, by decide, by decide +kernel⟩
set_option maxRecDepth 100000 in
set_option maxHeartbeats 4000000 in
theorem t_X9_wrong_E {p : Program} {l : Launch} {e : Env} {s : State} {m : MethodId} {args : Array Value} {below : List Frame} {meth : Method} {c : Code} {E : WD} {Q : Int32 → MS → Prop} (hc : Cx p rm_X9_wrong s m args meth c E (AD E) cX9_wrong RX9 (some .int) 3 0 0 fdm) (x1 x2 : Int32) (σ : MS) (hw : w_X9_wrong_E Q x1 x2 σ) : V p l e rm_X9_wrong s m args below meth c E (AD E) 3 0 0 (MQ below (va_Qi Q (BW E) (AD E)) args s 0 0 (AD E)) σ 0 [some (.ref (E.2.1 66)), some (.int x1), some (.int x2)] [] := by
  unfold w_X9_wrong_E at hw
  refine vAload_n (pc := 0) hc dX9_wrong_0 rfl ?_
  refine vIload_n (pc := 1) hc dX9_wrong_1 rfl ?_
  refine vCallVi (pc := 2) (st := []) hc ok_X9_isSet tw_905 (c_X9_isSet hc.2.2.2.2.2.2.1 hc.G hw) (hc.G 66 (Nat.le_of_ble_eq_true rfl)) rfl rfl rfl ⟨rfl, rfl⟩ ⟨Nat.le_of_ble_eq_true rfl, Nat.le_of_ble_eq_true rfl⟩ rfl (Nat.le_of_ble_eq_true rfl) dX9_wrong_2 (fun r2 σ2 hw => ?_)
  refine vIf_eq (pc := 5) (tgt := 24) hc dX9_wrong_5 (by decide) (fun c5 => ?_) (fun c5 => ?_)
  · have hw := hw.1 c5
    refine vIconst (pc := 24) (v := (-1)) hc dX9_wrong_24 ki_m1 ?_
    exact vIret (pc := 25) hc dX9_wrong_25 hw
  · have hw := hw.2 c5
    refine vAload_n (pc := 8) hc dX9_wrong_8 rfl ?_
    refine vIload_n (pc := 9) hc dX9_wrong_9 rfl ?_
    refine vCallVi (pc := 10) (st := []) hc ok_X9_isPerson tw_881 (c_X9_isPerson hc.2.2.2.2.2.2.1 hc.G hw) (hc.G 66 (Nat.le_of_ble_eq_true rfl)) rfl rfl rfl ⟨rfl, rfl⟩ ⟨Nat.le_of_ble_eq_true rfl, Nat.le_of_ble_eq_true rfl⟩ rfl (Nat.le_of_ble_eq_true rfl) dX9_wrong_10 (fun r10 σ10 hw => ?_)
    refine vIf_eq (pc := 13) (tgt := 24) hc dX9_wrong_13 (by decide) (fun c13 => ?_) (fun c13 => ?_)
    · have hw := hw.1 c13
      refine vIconst (pc := 24) (v := (-1)) hc dX9_wrong_24 ki_m1 ?_
      exact vIret (pc := 25) hc dX9_wrong_25 hw
    · have hw := hw.2 c13
      refine vIload_n (pc := 16) hc dX9_wrong_16 rfl ?_
      refine vIload_n (pc := 17) hc dX9_wrong_17 rfl ?_
      refine vIshr (pc := 18) hc dX9_wrong_18 ?_
      refine vIconst (pc := 19) (v := 1) hc dX9_wrong_19 ki_1 ?_
      refine vIand (pc := 20) hc dX9_wrong_20 ?_
      refine vIf_ne (pc := 21) (tgt := 26) hc dX9_wrong_21 (by decide) (fun c21 => ?_) (fun c21 => ?_)
      · have hw := hw.1 c21
        refine vAload_n (pc := 26) hc dX9_wrong_26 rfl ?_
        refine vIload_n (pc := 27) hc dX9_wrong_27 rfl ?_
        refine vCallVi (pc := 28) (st := []) hc ok_X9_hasAway tw_912 (c_X9_hasAway hc.2.2.2.2.2.2.1 hc.G hw) (hc.G 66 (Nat.le_of_ble_eq_true rfl)) rfl rfl rfl ⟨rfl, rfl⟩ ⟨Nat.le_of_ble_eq_true rfl, Nat.le_of_ble_eq_true rfl⟩ rfl (Nat.le_of_ble_eq_true rfl) dX9_wrong_28 (fun r28 σ28 hw => ?_)
        refine vIf_eq (pc := 31) (tgt := 39) hc dX9_wrong_31 (by decide) (fun c31 => ?_) (fun c31 => ?_)
        · have hw := hw.1 c31
          refine vIconst (pc := 39) (v := 0) hc dX9_wrong_39 ki_0 ?_
          exact vIret (pc := 40) hc dX9_wrong_40 hw
        · have hw := hw.2 c31
          refine vBipush (pc := 34) (v := (-3)) hc dX9_wrong_34 kb_m3 ?_
          refine vGoto (pc := 36) (tgt := 40) hc dX9_wrong_36 (by decide) ?_
          exact vIret (pc := 40) hc dX9_wrong_40 hw
      · have hw := hw.2 c21
        refine vIconst (pc := 24) (v := (-1)) hc dX9_wrong_24 ki_m1 ?_
        exact vIret (pc := 25) hc dX9_wrong_25 hw
set_option maxRecDepth 100000 in
set_option maxHeartbeats 4000000 in
theorem c_X9_wrong {l : Launch} {E : WD} (hE : inj E) (hG : ∀ k, fdm k → k ∈ E.2.2.2) {x1 x2 : Int32} {σ : MS} {Q : Int32 → MS → Prop} (hw : w_X9_wrong x1 x2 σ Q) : Ci l E yX9_wrong cX9_wrong 3 (some .int) rm_X9_wrong [.ref (E.2.1 66), .int x1, .int x2] σ Q :=
  Ct_of (by decide) rfl (by
    intro v hv
    simp only [List.mem_cons, List.not_mem_nil, or_false] at hv
    rcases hv with rfl | rfl | rfl <;> rfl) (Nat.le_of_ble_eq_true rfl) hE hG (fun p e s m below meth c hc => t_X9_wrong_E hc x1 x2 σ hw)
def w_X9_fits_E (Q : Int32 → MS → Prop) (x1 x2 : Int32) (σ : MS) : Prop := w_X9_wrong x1 x2 σ (fun r3 σ3 => ((r3 = 0 → w_X9_whyNot x1 x2 σ3 (fun r20 σ20 => ((¬ r20 = 0 → Q (-9) σ20) ∧ (r20 = 0 → Q (σ20 66 25) σ20)))) ∧ (¬ r3 = 0 → w_X9_refuse r3 σ3 (fun r13 σ13 => Q r13 σ13))))
abbrev w_X9_fits (x1 x2 : Int32) (σ : MS) (Q : Int32 → MS → Prop) : Prop := w_X9_fits_E Q x1 x2 σ
abbrev rm_X9_fits : Room := { frames := 17, cells := 0, slots := 0, locals := 460 }
theorem ok_X9_fits : OkV yX9_fits RX9 cX9_fits 4 (some .int) 2 := ⟨tw_898, tw_899, tw_57, tw_900, rfl, by decide, by decide, by decide +kernel⟩
set_option maxRecDepth 100000 in
set_option maxHeartbeats 4000000 in
theorem t_X9_fits_E {p : Program} {l : Launch} {e : Env} {s : State} {m : MethodId} {args : Array Value} {below : List Frame} {meth : Method} {c : Code} {E : WD} {Q : Int32 → MS → Prop} (hc : Cx p rm_X9_fits s m args meth c E (AD E) cX9_fits RX9 (some .int) 4 0 0 fdm) (x1 x2 : Int32) (σ : MS) (hw : w_X9_fits_E Q x1 x2 σ) : V p l e rm_X9_fits s m args below meth c E (AD E) 4 0 0 (MQ below (va_Qi Q (BW E) (AD E)) args s 0 0 (AD E)) σ 0 [some (.ref (E.2.1 66)), some (.int x1), some (.int x2), none] [] := by
  unfold w_X9_fits_E at hw
  refine vAload_n (pc := 0) hc dX9_fits_0 rfl ?_
  refine vIload_n (pc := 1) hc dX9_fits_1 rfl ?_
  refine vIload_n (pc := 2) hc dX9_fits_2 rfl ?_
  refine vCallVi (pc := 3) (st := []) hc ok_X9_wrong tw_901 (c_X9_wrong hc.2.2.2.2.2.2.1 hc.G hw) (hc.G 66 (Nat.le_of_ble_eq_true rfl)) rfl rfl rfl ⟨rfl, rfl⟩ ⟨Nat.le_of_ble_eq_true rfl, Nat.le_of_ble_eq_true rfl⟩ rfl (Nat.le_of_ble_eq_true rfl) dX9_fits_3 (fun r3 σ3 hw => ?_)
  refine vIstore_n (pc := 6) (L2 := [some (.ref (E.2.1 66)), some (.int x1), some (.int x2), some (.int r3)]) hc dX9_fits_6 rfl (Nat.le_of_ble_eq_true rfl) ?_
  refine vIload_n (pc := 7) hc dX9_fits_7 rfl ?_
  refine vIf_eq (pc := 8) (tgt := 17) hc dX9_fits_8 (by decide) (fun c8 => ?_) (fun c8 => ?_)
  · have hw := hw.1 c8
    refine vAload_n (pc := 17) hc dX9_fits_17 rfl ?_
    refine vIload_n (pc := 18) hc dX9_fits_18 rfl ?_
    refine vIload_n (pc := 19) hc dX9_fits_19 rfl ?_
    refine vCallVi (pc := 20) (st := []) hc ok_X9_whyNot tw_916 (c_X9_whyNot hc.2.2.2.2.2.2.1 hc.G hw) (hc.G 66 (Nat.le_of_ble_eq_true rfl)) rfl rfl rfl ⟨rfl, rfl⟩ ⟨Nat.le_of_ble_eq_true rfl, Nat.le_of_ble_eq_true rfl⟩ rfl (Nat.le_of_ble_eq_true rfl) dX9_fits_20 (fun r20 σ20 hw => ?_)
    refine vIf_ne (pc := 23) (tgt := 33) hc dX9_fits_23 (by decide) (fun c23 => ?_) (fun c23 => ?_)
    · have hw := hw.1 c23
      refine vBipush (pc := 33) (v := (-9)) hc dX9_fits_33 kb_m9 ?_
      exact vIret (pc := 35) hc dX9_fits_35 hw
    · have hw := hw.2 c23
      refine vAload_n (pc := 26) hc dX9_fits_26 rfl ?_
      refine vGetI (pc := 27) (k := 66) (j := 25) hc rfl inG9 (hc.G 66 (Nat.le_of_ble_eq_true rfl)) rfl (Nat.le_of_ble_eq_true rfl) tw_748 rfl dX9_fits_27 ?_
      refine vGoto (pc := 30) (tgt := 35) hc dX9_fits_30 (by decide) ?_
      exact vIret (pc := 35) hc dX9_fits_35 hw
  · have hw := hw.2 c8
    refine vAload_n (pc := 11) hc dX9_fits_11 rfl ?_
    refine vIload_n (pc := 12) hc dX9_fits_12 rfl ?_
    refine vCallVi (pc := 13) (st := []) hc ok_X9_refuse tw_861 (c_X9_refuse hc.2.2.2.2.2.2.1 hc.G hw) (hc.G 66 (Nat.le_of_ble_eq_true rfl)) rfl rfl rfl ⟨rfl, rfl⟩ ⟨Nat.le_of_ble_eq_true rfl, Nat.le_of_ble_eq_true rfl⟩ rfl (Nat.le_of_ble_eq_true rfl) dX9_fits_13 (fun r13 σ13 hw => ?_)
    exact vIret (pc := 16) hc dX9_fits_16 hw
set_option maxRecDepth 100000 in
set_option maxHeartbeats 4000000 in
theorem c_X9_fits {l : Launch} {E : WD} (hE : inj E) (hG : ∀ k, fdm k → k ∈ E.2.2.2) {x1 x2 : Int32} {σ : MS} {Q : Int32 → MS → Prop} (hw : w_X9_fits x1 x2 σ Q) : Ci l E yX9_fits cX9_fits 4 (some .int) rm_X9_fits [.ref (E.2.1 66), .int x1, .int x2] σ Q :=
  Ct_of (by decide) rfl (by
    intro v hv
    simp only [List.mem_cons, List.not_mem_nil, or_false] at hv
    rcases hv with rfl | rfl | rfl <;> rfl) (Nat.le_of_ble_eq_true rfl) hE hG (fun p e s m below meth c hc => t_X9_fits_E hc x1 x2 σ hw)
def w_X9_why_E (Q : Int32 → MS → Prop) (x1 x2 : Int32) (σ : MS) : Prop := w_X9_wrong x1 x2 σ (fun r3 σ3 => ((r3 = 0 → w_X9_whyNot x1 x2 σ3 (fun r22 σ22 => Q r22 σ22)) ∧ (¬ r3 = 0 → w_X9_refuse r3 σ3 (fun r13 σ13 => Q r13 σ13))))
abbrev w_X9_why (x1 x2 : Int32) (σ : MS) (Q : Int32 → MS → Prop) : Prop := w_X9_why_E Q x1 x2 σ
abbrev rm_X9_why : Room := { frames := 17, cells := 0, slots := 0, locals := 460 }
theorem ok_X9_why : OkV yX9_why RX9 cX9_why 4 (some .int) 2 := ⟨tw_935, tw_936, tw_57, tw_937, rfl, by decide, by decide, by decide +kernel⟩
set_option maxRecDepth 100000 in
set_option maxHeartbeats 4000000 in
theorem t_X9_why_E {p : Program} {l : Launch} {e : Env} {s : State} {m : MethodId} {args : Array Value} {below : List Frame} {meth : Method} {c : Code} {E : WD} {Q : Int32 → MS → Prop} (hc : Cx p rm_X9_why s m args meth c E (AD E) cX9_why RX9 (some .int) 4 0 0 fdm) (x1 x2 : Int32) (σ : MS) (hw : w_X9_why_E Q x1 x2 σ) : V p l e rm_X9_why s m args below meth c E (AD E) 4 0 0 (MQ below (va_Qi Q (BW E) (AD E)) args s 0 0 (AD E)) σ 0 [some (.ref (E.2.1 66)), some (.int x1), some (.int x2), none] [] := by
  unfold w_X9_why_E at hw
  refine vAload_n (pc := 0) hc dX9_why_0 rfl ?_
  refine vIload_n (pc := 1) hc dX9_why_1 rfl ?_
  refine vIload_n (pc := 2) hc dX9_why_2 rfl ?_
  refine vCallVi (pc := 3) (st := []) hc ok_X9_wrong tw_901 (c_X9_wrong hc.2.2.2.2.2.2.1 hc.G hw) (hc.G 66 (Nat.le_of_ble_eq_true rfl)) rfl rfl rfl ⟨rfl, rfl⟩ ⟨Nat.le_of_ble_eq_true rfl, Nat.le_of_ble_eq_true rfl⟩ rfl (Nat.le_of_ble_eq_true rfl) dX9_why_3 (fun r3 σ3 hw => ?_)
  refine vIstore_n (pc := 6) (L2 := [some (.ref (E.2.1 66)), some (.int x1), some (.int x2), some (.int r3)]) hc dX9_why_6 rfl (Nat.le_of_ble_eq_true rfl) ?_
  refine vIload_n (pc := 7) hc dX9_why_7 rfl ?_
  refine vIf_eq (pc := 8) (tgt := 19) hc dX9_why_8 (by decide) (fun c8 => ?_) (fun c8 => ?_)
  · have hw := hw.1 c8
    refine vAload_n (pc := 19) hc dX9_why_19 rfl ?_
    refine vIload_n (pc := 20) hc dX9_why_20 rfl ?_
    refine vIload_n (pc := 21) hc dX9_why_21 rfl ?_
    refine vCallVi (pc := 22) (st := []) hc ok_X9_whyNot tw_916 (c_X9_whyNot hc.2.2.2.2.2.2.1 hc.G hw) (hc.G 66 (Nat.le_of_ble_eq_true rfl)) rfl rfl rfl ⟨rfl, rfl⟩ ⟨Nat.le_of_ble_eq_true rfl, Nat.le_of_ble_eq_true rfl⟩ rfl (Nat.le_of_ble_eq_true rfl) dX9_why_22 (fun r22 σ22 hw => ?_)
    exact vIret (pc := 25) hc dX9_why_25 hw
  · have hw := hw.2 c8
    refine vAload_n (pc := 11) hc dX9_why_11 rfl ?_
    refine vIload_n (pc := 12) hc dX9_why_12 rfl ?_
    refine vCallVi (pc := 13) (st := []) hc ok_X9_refuse tw_861 (c_X9_refuse hc.2.2.2.2.2.2.1 hc.G hw) (hc.G 66 (Nat.le_of_ble_eq_true rfl)) rfl rfl rfl ⟨rfl, rfl⟩ ⟨Nat.le_of_ble_eq_true rfl, Nat.le_of_ble_eq_true rfl⟩ rfl (Nat.le_of_ble_eq_true rfl) dX9_why_13 (fun r13 σ13 hw => ?_)
    refine vGoto (pc := 16) (tgt := 25) hc dX9_why_16 (by decide) ?_
    exact vIret (pc := 25) hc dX9_why_25 hw
set_option maxRecDepth 100000 in
set_option maxHeartbeats 4000000 in
theorem c_X9_why {l : Launch} {E : WD} (hE : inj E) (hG : ∀ k, fdm k → k ∈ E.2.2.2) {x1 x2 : Int32} {σ : MS} {Q : Int32 → MS → Prop} (hw : w_X9_why x1 x2 σ Q) : Ci l E yX9_why cX9_why 4 (some .int) rm_X9_why [.ref (E.2.1 66), .int x1, .int x2] σ Q :=
  Ct_of (by decide) rfl (by
    intro v hv
    simp only [List.mem_cons, List.not_mem_nil, or_false] at hv
    rcases hv with rfl | rfl | rfl <;> rfl) (Nat.le_of_ble_eq_true rfl) hE hG (fun p e s m below meth c hc => t_X9_why_E hc x1 x2 σ hw)
def w_X9_way_E (Q : Int32 → MS → Prop) (x1 x2 x3 : Int32) (σ : MS) : Prop := w_X9_wrong x1 x2 σ (fun r3 σ3 => ((r3 = 0 → w_X9_whyNot x1 x2 σ3 (fun r23 σ23 => ((r23 = 0 → ((¬ x3 = 0 → ((¬ x3 = 1 → w_X9_isIn (x3 - 2) (σ23 66 24) σ23 (fun r63 σ63 => ((r63 = 0 → ((x3 ≤ 11 → Q (-9) σ63) ∧ (¬ x3 ≤ 11 → w_X9_isIn (x3 - 12) (σ63 66 24) σ63 (fun r92 σ92 => ((r92 = 0 → Q (-9) σ92) ∧ (¬ r92 = 0 → ((vp_in (x3 - 12) 5) ∧ Q (σ92 86 (x3 - 12).toNatClampNeg) σ92))))))) ∧ (¬ r63 = 0 → ((vp_in (x3 - 2) 5) ∧ Q (σ63 85 (x3 - 2).toNatClampNeg) σ63))))) ∧ (x3 = 1 → Q ((σ23 66 26) + (σ23 66 25)) σ23))) ∧ (x3 = 0 → Q (σ23 66 26) σ23))) ∧ (¬ r23 = 0 → Q (-9) σ23)))) ∧ (¬ r3 = 0 → w_X9_refuse r3 σ3 (fun r16 σ16 => Q r16 σ16))))
abbrev w_X9_way (x1 x2 x3 : Int32) (σ : MS) (Q : Int32 → MS → Prop) : Prop := w_X9_way_E Q x1 x2 x3 σ
abbrev rm_X9_way : Room := { frames := 17, cells := 0, slots := 0, locals := 460 }
theorem ok_X9_way : OkV yX9_way RX9 cX9_way 5 (some .int) 3 := ⟨tw_939, tw_940, tw_57, tw_941, rfl, by decide, by decide, by decide +kernel⟩
set_option maxRecDepth 100000 in
set_option maxHeartbeats 4000000 in
theorem t_X9_way_E {p : Program} {l : Launch} {e : Env} {s : State} {m : MethodId} {args : Array Value} {below : List Frame} {meth : Method} {c : Code} {E : WD} {Q : Int32 → MS → Prop} (hc : Cx p rm_X9_way s m args meth c E (AD E) cX9_way RX9 (some .int) 5 0 0 fdm) (x1 x2 x3 : Int32) (σ : MS) (hw : w_X9_way_E Q x1 x2 x3 σ) : V p l e rm_X9_way s m args below meth c E (AD E) 5 0 0 (MQ below (va_Qi Q (BW E) (AD E)) args s 0 0 (AD E)) σ 0 [some (.ref (E.2.1 66)), some (.int x1), some (.int x2), some (.int x3), none] [] := by
  unfold w_X9_way_E at hw
  refine vAload_n (pc := 0) hc dX9_way_0 rfl ?_
  refine vIload_n (pc := 1) hc dX9_way_1 rfl ?_
  refine vIload_n (pc := 2) hc dX9_way_2 rfl ?_
  refine vCallVi (pc := 3) (st := []) hc ok_X9_wrong tw_901 (c_X9_wrong hc.2.2.2.2.2.2.1 hc.G hw) (hc.G 66 (Nat.le_of_ble_eq_true rfl)) rfl rfl rfl ⟨rfl, rfl⟩ ⟨Nat.le_of_ble_eq_true rfl, Nat.le_of_ble_eq_true rfl⟩ rfl (Nat.le_of_ble_eq_true rfl) dX9_way_3 (fun r3 σ3 hw => ?_)
  refine vIstore (pc := 6) (L2 := [some (.ref (E.2.1 66)), some (.int x1), some (.int x2), some (.int x3), some (.int r3)]) hc dX9_way_6 rfl (Nat.le_of_ble_eq_true rfl) ?_
  refine vIload (pc := 8) hc dX9_way_8 rfl ?_
  refine vIf_eq (pc := 10) (tgt := 20) hc dX9_way_10 (by decide) (fun c10 => ?_) (fun c10 => ?_)
  · have hw := hw.1 c10
    refine vAload_n (pc := 20) hc dX9_way_20 rfl ?_
    refine vIload_n (pc := 21) hc dX9_way_21 rfl ?_
    refine vIload_n (pc := 22) hc dX9_way_22 rfl ?_
    refine vCallVi (pc := 23) (st := []) hc ok_X9_whyNot tw_916 (c_X9_whyNot hc.2.2.2.2.2.2.1 hc.G hw) (hc.G 66 (Nat.le_of_ble_eq_true rfl)) rfl rfl rfl ⟨rfl, rfl⟩ ⟨Nat.le_of_ble_eq_true rfl, Nat.le_of_ble_eq_true rfl⟩ rfl (Nat.le_of_ble_eq_true rfl) dX9_way_23 (fun r23 σ23 hw => ?_)
    refine vIf_eq (pc := 26) (tgt := 32) hc dX9_way_26 (by decide) (fun c26 => ?_) (fun c26 => ?_)
    · have hw := hw.1 c26
      refine vIload_n (pc := 32) hc dX9_way_32 rfl ?_
      refine vIf_ne (pc := 33) (tgt := 41) hc dX9_way_33 (by decide) (fun c33 => ?_) (fun c33 => ?_)
      · have hw := hw.1 c33
        refine vIload_n (pc := 41) hc dX9_way_41 rfl ?_
        refine vIconst (pc := 42) (v := 1) hc dX9_way_42 ki_1 ?_
        refine vIcmp_ne (pc := 43) (tgt := 56) hc dX9_way_43 (by decide) (fun c43 => ?_) (fun c43 => ?_)
        · have hw := hw.1 c43
          refine vIload_n (pc := 56) hc dX9_way_56 rfl ?_
          refine vIconst (pc := 57) (v := 2) hc dX9_way_57 ki_2 ?_
          refine vIsub (pc := 58) hc dX9_way_58 ?_
          refine vAload_n (pc := 59) hc dX9_way_59 rfl ?_
          refine vGetI (pc := 60) (k := 66) (j := 24) hc rfl inG9 (hc.G 66 (Nat.le_of_ble_eq_true rfl)) rfl (Nat.le_of_ble_eq_true rfl) tw_747 rfl dX9_way_60 ?_
          refine vCallSi (pc := 63) (st := []) hc ok_X9_isIn tw_858 (c_X9_isIn hc.2.2.2.2.2.2.1 hc.G hw) rfl ⟨rfl, rfl⟩ ⟨Nat.le_of_ble_eq_true rfl, Nat.le_of_ble_eq_true rfl⟩ rfl (Nat.le_of_ble_eq_true rfl) dX9_way_63 (fun r63 σ63 hw => ?_)
          refine vIf_eq (pc := 66) (tgt := 78) hc dX9_way_66 (by decide) (fun c66 => ?_) (fun c66 => ?_)
          · have hw := hw.1 c66
            refine vIload_n (pc := 78) hc dX9_way_78 rfl ?_
            refine vBipush (pc := 79) (v := 11) hc dX9_way_79 kb_11 ?_
            refine vIcmp_le (pc := 81) (tgt := 110) hc dX9_way_81 (by decide) (fun c81 => ?_) (fun c81 => ?_)
            · have hw := hw.1 c81
              refine vBipush (pc := 110) (v := (-9)) hc dX9_way_110 kb_m9 ?_
              exact vIret (pc := 112) hc dX9_way_112 hw
            · have hw := hw.2 c81
              refine vIload_n (pc := 84) hc dX9_way_84 rfl ?_
              refine vBipush (pc := 85) (v := 12) hc dX9_way_85 kb_12 ?_
              refine vIsub (pc := 87) hc dX9_way_87 ?_
              refine vAload_n (pc := 88) hc dX9_way_88 rfl ?_
              refine vGetI (pc := 89) (k := 66) (j := 24) hc rfl inG9 (hc.G 66 (Nat.le_of_ble_eq_true rfl)) rfl (Nat.le_of_ble_eq_true rfl) tw_747 rfl dX9_way_89 ?_
              refine vCallSi (pc := 92) (st := []) hc ok_X9_isIn tw_858 (c_X9_isIn hc.2.2.2.2.2.2.1 hc.G hw) rfl ⟨rfl, rfl⟩ ⟨Nat.le_of_ble_eq_true rfl, Nat.le_of_ble_eq_true rfl⟩ rfl (Nat.le_of_ble_eq_true rfl) dX9_way_92 (fun r92 σ92 hw => ?_)
              refine vIf_eq (pc := 95) (tgt := 110) hc dX9_way_95 (by decide) (fun c95 => ?_) (fun c95 => ?_)
              · have hw := hw.1 c95
                refine vBipush (pc := 110) (v := (-9)) hc dX9_way_110 kb_m9 ?_
                exact vIret (pc := 112) hc dX9_way_112 hw
              · have hw := hw.2 c95
                refine vAload_n (pc := 98) hc dX9_way_98 rfl ?_
                refine vGetR (pc := 99) (k := 66) (j := 21) hc rfl inG9 (hc.G 66 (Nat.le_of_ble_eq_true rfl)) rfl (Nat.le_of_ble_eq_true rfl) tw_744 rfl dX9_way_99 ?_
                refine vIload_n (pc := 102) hc dX9_way_102 rfl ?_
                refine vBipush (pc := 103) (v := 12) hc dX9_way_103 kb_12 ?_
                refine vIsub (pc := 105) hc dX9_way_105 ?_
                obtain ⟨hi1, hw⟩ := hw
                refine vIald (pc := 106) (k := 86) hc (hc.G 86 (Nat.le_of_ble_eq_true rfl)) rfl rfl hi1 dX9_way_106 ?_
                refine vGoto (pc := 107) (tgt := 112) hc dX9_way_107 (by decide) ?_
                exact vIret (pc := 112) hc dX9_way_112 hw
          · have hw := hw.2 c66
            refine vAload_n (pc := 69) hc dX9_way_69 rfl ?_
            refine vGetR (pc := 70) (k := 66) (j := 20) hc rfl inG9 (hc.G 66 (Nat.le_of_ble_eq_true rfl)) rfl (Nat.le_of_ble_eq_true rfl) tw_743 rfl dX9_way_70 ?_
            refine vIload_n (pc := 73) hc dX9_way_73 rfl ?_
            refine vIconst (pc := 74) (v := 2) hc dX9_way_74 ki_2 ?_
            refine vIsub (pc := 75) hc dX9_way_75 ?_
            obtain ⟨hi2, hw⟩ := hw
            refine vIald (pc := 76) (k := 85) hc (hc.G 85 (Nat.le_of_ble_eq_true rfl)) rfl rfl hi2 dX9_way_76 ?_
            exact vIret (pc := 77) hc dX9_way_77 hw
        · have hw := hw.2 c43
          refine vAload_n (pc := 46) hc dX9_way_46 rfl ?_
          refine vGetI (pc := 47) (k := 66) (j := 26) hc rfl inG9 (hc.G 66 (Nat.le_of_ble_eq_true rfl)) rfl (Nat.le_of_ble_eq_true rfl) tw_749 rfl dX9_way_47 ?_
          refine vAload_n (pc := 50) hc dX9_way_50 rfl ?_
          refine vGetI (pc := 51) (k := 66) (j := 25) hc rfl inG9 (hc.G 66 (Nat.le_of_ble_eq_true rfl)) rfl (Nat.le_of_ble_eq_true rfl) tw_748 rfl dX9_way_51 ?_
          refine vIadd (pc := 54) hc dX9_way_54 ?_
          exact vIret (pc := 55) hc dX9_way_55 hw
      · have hw := hw.2 c33
        refine vAload_n (pc := 36) hc dX9_way_36 rfl ?_
        refine vGetI (pc := 37) (k := 66) (j := 26) hc rfl inG9 (hc.G 66 (Nat.le_of_ble_eq_true rfl)) rfl (Nat.le_of_ble_eq_true rfl) tw_749 rfl dX9_way_37 ?_
        exact vIret (pc := 40) hc dX9_way_40 hw
    · have hw := hw.2 c26
      refine vBipush (pc := 29) (v := (-9)) hc dX9_way_29 kb_m9 ?_
      exact vIret (pc := 31) hc dX9_way_31 hw
  · have hw := hw.2 c10
    refine vAload_n (pc := 13) hc dX9_way_13 rfl ?_
    refine vIload (pc := 14) hc dX9_way_14 rfl ?_
    refine vCallVi (pc := 16) (st := []) hc ok_X9_refuse tw_861 (c_X9_refuse hc.2.2.2.2.2.2.1 hc.G hw) (hc.G 66 (Nat.le_of_ble_eq_true rfl)) rfl rfl rfl ⟨rfl, rfl⟩ ⟨Nat.le_of_ble_eq_true rfl, Nat.le_of_ble_eq_true rfl⟩ rfl (Nat.le_of_ble_eq_true rfl) dX9_way_16 (fun r16 σ16 hw => ?_)
    exact vIret (pc := 19) hc dX9_way_19 hw
set_option maxRecDepth 100000 in
set_option maxHeartbeats 4000000 in
theorem c_X9_way {l : Launch} {E : WD} (hE : inj E) (hG : ∀ k, fdm k → k ∈ E.2.2.2) {x1 x2 x3 : Int32} {σ : MS} {Q : Int32 → MS → Prop} (hw : w_X9_way x1 x2 x3 σ Q) : Ci l E yX9_way cX9_way 5 (some .int) rm_X9_way [.ref (E.2.1 66), .int x1, .int x2, .int x3] σ Q :=
  Ct_of (by decide) rfl (by
    intro v hv
    simp only [List.mem_cons, List.not_mem_nil, or_false] at hv
    rcases hv with rfl | rfl | rfl | rfl <;> rfl) (Nat.le_of_ble_eq_true rfl) hE hG (fun p e s m below meth c hc => t_X9_way_E hc x1 x2 x3 σ hw)
def w_X9_know_H69 (K15 : Int32 → MS → Prop) (Q : MS → Prop) : Nat → Int32 → Int32 → MS → Prop
  | 0, _, _, _ => False
  | n + 1, x1, x2, σ => (((σ 66 3) ≤ x2 → K15 (x1 + 1) σ) ∧ (¬ (σ 66 3) ≤ x2 → ((((x1 >>> (x2 &&& 31)) &&& 1) = 0 → w_X9_know_H69 K15 Q n x1 (x2 + 1) σ) ∧ (¬ ((x1 >>> (x2 &&& 31)) &&& 1) = 0 → w_X9_whyNot x1 x2 σ (fun r88 σ88 => ((r88 = 0 → ((vp_in x1 512) ∧ (∀ σ108, σ108 = mst σ88 91 x1.toNatClampNeg ((σ88 91 x1.toNatClampNeg) ||| ((1 : Int32) <<< (x2 &&& 31))) → (((σ108 66 25) < (σ108 89 x1.toNatClampNeg) → (∀ σ134, σ134 = mst σ108 89 x1.toNatClampNeg (σ108 66 25) → (∀ σ141, σ141 = mst σ134 90 x1.toNatClampNeg x2 → w_X9_know_H69 K15 Q n x1 (x2 + 1) σ141))) ∧ (¬ (σ108 66 25) < (σ108 89 x1.toNatClampNeg) → w_X9_know_H69 K15 Q n x1 (x2 + 1) σ108))))) ∧ (¬ r88 = 0 → w_X9_know_H69 K15 Q n x1 (x2 + 1) σ88)))))))
def w_X9_know_H15 (Q : MS → Prop) : Nat → Int32 → MS → Prop
  | 0, _, _ => False
  | n + 1, x1, σ => ((((1 : Int32) <<< ((σ 66 3) &&& 31)) ≤ x1 → Q σ) ∧ (¬ ((1 : Int32) <<< ((σ 66 3) &&& 31)) ≤ x1 → ((vp_in x1 512) ∧ (∀ σ32, σ32 = mst σ 89 x1.toNatClampNeg 1000000 → (∀ σ40, σ40 = mst σ32 90 x1.toNatClampNeg (-9) → (∀ σ47, σ47 = mst σ40 91 x1.toNatClampNeg 0 → w_X9_isSet x1 σ47 (fun r50 σ50 => ((r50 = 0 → w_X9_know_H15 Q n (x1 + 1) σ50) ∧ (¬ r50 = 0 → w_X9_hasAway x1 σ50 (fun r58 σ58 => ((r58 = 0 → (∃ n69, w_X9_know_H69 (fun x1 σ => w_X9_know_H15 Q n x1 σ) Q n69 x1 0 σ58)) ∧ (¬ r58 = 0 → w_X9_know_H15 Q n (x1 + 1) σ58))))))))))))
def w_X9_know_E (Q : MS → Prop) (σ : MS) : Prop := (((σ 66 27) = 0 → (∀ σ10, σ10 = mst σ 66 27 1 → (∃ n15, w_X9_know_H15 Q n15 1 σ10))) ∧ (¬ (σ 66 27) = 0 → Q σ))
abbrev w_X9_know (σ : MS) (Q : MS → Prop) : Prop := w_X9_know_E Q  σ
abbrev rm_X9_know : Room := { frames := 17, cells := 0, slots := 0, locals := 460 }
theorem ok_X9_know : OkV yX9_know RX9 cX9_know 3 none 0 := ⟨tw_952, tw_34, tw_57, tw_953, rfl, by decide, by decide, by decide +kernel⟩
set_option maxRecDepth 100000 in
set_option maxHeartbeats 4000000 in
theorem t_X9_know_H69 {p : Program} {l : Launch} {e : Env} {s : State} {m : MethodId} {args : Array Value} {below : List Frame} {meth : Method} {c : Code} {E : WD} {Q : MS → Prop} (hc : Cx p rm_X9_know s m args meth c E (AD E) cX9_know RX9 none 3 0 0 fdm) {K15 : Int32 → MS → Prop} (hK15 : ∀ (x1 : Int32) (σ : MS), K15 x1 σ → V p l e rm_X9_know s m args below meth c E (AD E) 3 0 0 (MQ below (va_Qv Q (BW E) (AD E)) args s 0 0 (AD E)) σ 15 [some (.ref (E.2.1 66)), some (.int x1), none] []) : ∀ (n : Nat) (x1 x2 : Int32) (σ : MS), w_X9_know_H69 K15 Q n x1 x2 σ → V p l e rm_X9_know s m args below meth c E (AD E) 3 0 0 (MQ below (va_Qv Q (BW E) (AD E)) args s 0 0 (AD E)) σ 69 [some (.ref (E.2.1 66)), some (.int x1), some (.int x2)] [] := by
  intro n
  induction n with
  | zero =>
    intro x1 x2 σ hw
    exact hw.elim
  | succ n ih =>
    intro x1 x2 σ hw
    unfold w_X9_know_H69 at hw
    refine vIload_n (pc := 69) hc dX9_know_69 rfl ?_
    refine vAload_n (pc := 70) hc dX9_know_70 rfl ?_
    refine vGetI (pc := 71) (k := 66) (j := 3) hc rfl inG9 (hc.G 66 (Nat.le_of_ble_eq_true rfl)) rfl (Nat.le_of_ble_eq_true rfl) tw_726 rfl dX9_know_71 ?_
    refine vIcmp_ge (pc := 74) (tgt := 148) hc dX9_know_74 (by decide) (fun c74 => ?_) (fun c74 => ?_)
    · have hw := hw.1 c74
      refine vIinc (pc := 148) (v := x1 + 1) (L2 := [some (.ref (E.2.1 66)), some (.int (x1 + 1)), some (.int x2)]) hc dX9_know_148 rfl rfl rfl (Nat.le_of_ble_eq_true rfl) ?_
      refine vGoto (pc := 151) (tgt := 15) hc dX9_know_151 (by decide) ?_
      exact vMono (L2 := [some (.ref (E.2.1 66)), some (.int (x1 + 1)), none]) (show subL [some (.ref (E.2.1 66)), some (.int (x1 + 1)), none] [some (.ref (E.2.1 66)), some (.int (x1 + 1)), some (.int x2)] from ⟨rfl, ⟨rfl, trivial⟩⟩) (hK15 (x1 + 1) _ hw)
    · have hw := hw.2 c74
      refine vIload_n (pc := 77) hc dX9_know_77 rfl ?_
      refine vIload_n (pc := 78) hc dX9_know_78 rfl ?_
      refine vIshr (pc := 79) hc dX9_know_79 ?_
      refine vIconst (pc := 80) (v := 1) hc dX9_know_80 ki_1 ?_
      refine vIand (pc := 81) hc dX9_know_81 ?_
      refine vIf_eq (pc := 82) (tgt := 142) hc dX9_know_82 (by decide) (fun c82 => ?_) (fun c82 => ?_)
      · have hw := hw.1 c82
        refine vIinc (pc := 142) (v := x2 + 1) (L2 := [some (.ref (E.2.1 66)), some (.int x1), some (.int (x2 + 1))]) hc dX9_know_142 rfl rfl rfl (Nat.le_of_ble_eq_true rfl) ?_
        refine vGoto (pc := 145) (tgt := 69) hc dX9_know_145 (by decide) ?_
        exact vMono (L2 := [some (.ref (E.2.1 66)), some (.int x1), some (.int (x2 + 1))]) (show subL [some (.ref (E.2.1 66)), some (.int x1), some (.int (x2 + 1))] [some (.ref (E.2.1 66)), some (.int x1), some (.int (x2 + 1))] from ⟨rfl, ⟨rfl, ⟨rfl, trivial⟩⟩⟩) (ih x1 (x2 + 1) _ hw)
      · have hw := hw.2 c82
        refine vAload_n (pc := 85) hc dX9_know_85 rfl ?_
        refine vIload_n (pc := 86) hc dX9_know_86 rfl ?_
        refine vIload_n (pc := 87) hc dX9_know_87 rfl ?_
        refine vCallVi (pc := 88) (st := []) hc ok_X9_whyNot tw_916 (c_X9_whyNot hc.2.2.2.2.2.2.1 hc.G hw) (hc.G 66 (Nat.le_of_ble_eq_true rfl)) rfl rfl rfl ⟨rfl, rfl⟩ ⟨Nat.le_of_ble_eq_true rfl, Nat.le_of_ble_eq_true rfl⟩ rfl (Nat.le_of_ble_eq_true rfl) dX9_know_88 (fun r88 σ88 hw => ?_)
        refine vIf_eq (pc := 91) (tgt := 97) hc dX9_know_91 (by decide) (fun c91 => ?_) (fun c91 => ?_)
        · have hw := hw.1 c91
          refine vAload_n (pc := 97) hc dX9_know_97 rfl ?_
          refine vGetR (pc := 98) (k := 66) (j := 30) hc rfl inG9 (hc.G 66 (Nat.le_of_ble_eq_true rfl)) rfl (Nat.le_of_ble_eq_true rfl) tw_753 rfl dX9_know_98 ?_
          refine vIload_n (pc := 101) hc dX9_know_101 rfl ?_
          refine vDup2 (pc := 102) hc dX9_know_102 rfl rfl ?_
          obtain ⟨hi1, hw⟩ := hw
          refine vIald (pc := 103) (k := 91) hc (hc.G 91 (Nat.le_of_ble_eq_true rfl)) rfl rfl hi1 dX9_know_103 ?_
          refine vIconst (pc := 104) (v := 1) hc dX9_know_104 ki_1 ?_
          refine vIload_n (pc := 105) hc dX9_know_105 rfl ?_
          refine vIshl (pc := 106) hc dX9_know_106 ?_
          refine vIor (pc := 107) hc dX9_know_107 ?_
          refine vIast (pc := 108) (k := 91) hc (hc.G 91 (Nat.le_of_ble_eq_true rfl)) rfl rfl hi1 dX9_know_108 (fun σ108 eσ108 => ?_)
          have hw := hw σ108 eσ108
          refine vAload_n (pc := 109) hc dX9_know_109 rfl ?_
          refine vGetI (pc := 110) (k := 66) (j := 25) hc rfl inG9 (hc.G 66 (Nat.le_of_ble_eq_true rfl)) rfl (Nat.le_of_ble_eq_true rfl) tw_748 rfl dX9_know_110 ?_
          refine vAload_n (pc := 113) hc dX9_know_113 rfl ?_
          refine vGetR (pc := 114) (k := 66) (j := 28) hc rfl inG9 (hc.G 66 (Nat.le_of_ble_eq_true rfl)) rfl (Nat.le_of_ble_eq_true rfl) tw_751 rfl dX9_know_114 ?_
          refine vIload_n (pc := 117) hc dX9_know_117 rfl ?_
          refine vIald (pc := 118) (k := 89) hc (hc.G 89 (Nat.le_of_ble_eq_true rfl)) rfl rfl hi1 dX9_know_118 ?_
          refine vIcmp_lt (pc := 119) (tgt := 125) hc dX9_know_119 (by decide) (fun c119 => ?_) (fun c119 => ?_)
          · have hw := hw.1 c119
            refine vAload_n (pc := 125) hc dX9_know_125 rfl ?_
            refine vGetR (pc := 126) (k := 66) (j := 28) hc rfl inG9 (hc.G 66 (Nat.le_of_ble_eq_true rfl)) rfl (Nat.le_of_ble_eq_true rfl) tw_751 rfl dX9_know_126 ?_
            refine vIload_n (pc := 129) hc dX9_know_129 rfl ?_
            refine vAload_n (pc := 130) hc dX9_know_130 rfl ?_
            refine vGetI (pc := 131) (k := 66) (j := 25) hc rfl inG9 (hc.G 66 (Nat.le_of_ble_eq_true rfl)) rfl (Nat.le_of_ble_eq_true rfl) tw_748 rfl dX9_know_131 ?_
            refine vIast (pc := 134) (k := 89) hc (hc.G 89 (Nat.le_of_ble_eq_true rfl)) rfl rfl hi1 dX9_know_134 (fun σ134 eσ134 => ?_)
            have hw := hw σ134 eσ134
            refine vAload_n (pc := 135) hc dX9_know_135 rfl ?_
            refine vGetR (pc := 136) (k := 66) (j := 29) hc rfl inG9 (hc.G 66 (Nat.le_of_ble_eq_true rfl)) rfl (Nat.le_of_ble_eq_true rfl) tw_752 rfl dX9_know_136 ?_
            refine vIload_n (pc := 139) hc dX9_know_139 rfl ?_
            refine vIload_n (pc := 140) hc dX9_know_140 rfl ?_
            refine vIast (pc := 141) (k := 90) hc (hc.G 90 (Nat.le_of_ble_eq_true rfl)) rfl rfl hi1 dX9_know_141 (fun σ141 eσ141 => ?_)
            have hw := hw σ141 eσ141
            refine vIinc (pc := 142) (v := x2 + 1) (L2 := [some (.ref (E.2.1 66)), some (.int x1), some (.int (x2 + 1))]) hc dX9_know_142 rfl rfl rfl (Nat.le_of_ble_eq_true rfl) ?_
            refine vGoto (pc := 145) (tgt := 69) hc dX9_know_145 (by decide) ?_
            exact vMono (L2 := [some (.ref (E.2.1 66)), some (.int x1), some (.int (x2 + 1))]) (show subL [some (.ref (E.2.1 66)), some (.int x1), some (.int (x2 + 1))] [some (.ref (E.2.1 66)), some (.int x1), some (.int (x2 + 1))] from ⟨rfl, ⟨rfl, ⟨rfl, trivial⟩⟩⟩) (ih x1 (x2 + 1) _ hw)
          · have hw := hw.2 c119
            refine vGoto (pc := 122) (tgt := 142) hc dX9_know_122 (by decide) ?_
            refine vIinc (pc := 142) (v := x2 + 1) (L2 := [some (.ref (E.2.1 66)), some (.int x1), some (.int (x2 + 1))]) hc dX9_know_142 rfl rfl rfl (Nat.le_of_ble_eq_true rfl) ?_
            refine vGoto (pc := 145) (tgt := 69) hc dX9_know_145 (by decide) ?_
            exact vMono (L2 := [some (.ref (E.2.1 66)), some (.int x1), some (.int (x2 + 1))]) (show subL [some (.ref (E.2.1 66)), some (.int x1), some (.int (x2 + 1))] [some (.ref (E.2.1 66)), some (.int x1), some (.int (x2 + 1))] from ⟨rfl, ⟨rfl, ⟨rfl, trivial⟩⟩⟩) (ih x1 (x2 + 1) _ hw)
        · have hw := hw.2 c91
          refine vGoto (pc := 94) (tgt := 142) hc dX9_know_94 (by decide) ?_
          refine vIinc (pc := 142) (v := x2 + 1) (L2 := [some (.ref (E.2.1 66)), some (.int x1), some (.int (x2 + 1))]) hc dX9_know_142 rfl rfl rfl (Nat.le_of_ble_eq_true rfl) ?_
          refine vGoto (pc := 145) (tgt := 69) hc dX9_know_145 (by decide) ?_
          exact vMono (L2 := [some (.ref (E.2.1 66)), some (.int x1), some (.int (x2 + 1))]) (show subL [some (.ref (E.2.1 66)), some (.int x1), some (.int (x2 + 1))] [some (.ref (E.2.1 66)), some (.int x1), some (.int (x2 + 1))] from ⟨rfl, ⟨rfl, ⟨rfl, trivial⟩⟩⟩) (ih x1 (x2 + 1) _ hw)
set_option maxRecDepth 100000 in
set_option maxHeartbeats 4000000 in
theorem t_X9_know_H15 {p : Program} {l : Launch} {e : Env} {s : State} {m : MethodId} {args : Array Value} {below : List Frame} {meth : Method} {c : Code} {E : WD} {Q : MS → Prop} (hc : Cx p rm_X9_know s m args meth c E (AD E) cX9_know RX9 none 3 0 0 fdm) : ∀ (n : Nat) (x1 : Int32) (σ : MS), w_X9_know_H15 Q n x1 σ → V p l e rm_X9_know s m args below meth c E (AD E) 3 0 0 (MQ below (va_Qv Q (BW E) (AD E)) args s 0 0 (AD E)) σ 15 [some (.ref (E.2.1 66)), some (.int x1), none] [] := by
  intro n
  induction n with
  | zero =>
    intro x1 σ hw
    exact hw.elim
  | succ n ih =>
    intro x1 σ hw
    unfold w_X9_know_H15 at hw
    refine vIload_n (pc := 15) hc dX9_know_15 rfl ?_
    refine vIconst (pc := 16) (v := 1) hc dX9_know_16 ki_1 ?_
    refine vAload_n (pc := 17) hc dX9_know_17 rfl ?_
    refine vGetI (pc := 18) (k := 66) (j := 3) hc rfl inG9 (hc.G 66 (Nat.le_of_ble_eq_true rfl)) rfl (Nat.le_of_ble_eq_true rfl) tw_726 rfl dX9_know_18 ?_
    refine vIshl (pc := 21) hc dX9_know_21 ?_
    refine vIcmp_ge (pc := 22) (tgt := 154) hc dX9_know_22 (by decide) (fun c22 => ?_) (fun c22 => ?_)
    · have hw := hw.1 c22
      exact vVret (pc := 154) hc dX9_know_154 hw
    · have hw := hw.2 c22
      refine vAload_n (pc := 25) hc dX9_know_25 rfl ?_
      refine vGetR (pc := 26) (k := 66) (j := 28) hc rfl inG9 (hc.G 66 (Nat.le_of_ble_eq_true rfl)) rfl (Nat.le_of_ble_eq_true rfl) tw_751 rfl dX9_know_26 ?_
      refine vIload_n (pc := 29) hc dX9_know_29 rfl ?_
      refine vLdc (pc := 30) hc tw_920 dX9_know_30 ?_
      obtain ⟨hi1, hw⟩ := hw
      refine vIast (pc := 32) (k := 89) hc (hc.G 89 (Nat.le_of_ble_eq_true rfl)) rfl rfl hi1 dX9_know_32 (fun σ32 eσ32 => ?_)
      have hw := hw σ32 eσ32
      refine vAload_n (pc := 33) hc dX9_know_33 rfl ?_
      refine vGetR (pc := 34) (k := 66) (j := 29) hc rfl inG9 (hc.G 66 (Nat.le_of_ble_eq_true rfl)) rfl (Nat.le_of_ble_eq_true rfl) tw_752 rfl dX9_know_34 ?_
      refine vIload_n (pc := 37) hc dX9_know_37 rfl ?_
      refine vBipush (pc := 38) (v := (-9)) hc dX9_know_38 kb_m9 ?_
      refine vIast (pc := 40) (k := 90) hc (hc.G 90 (Nat.le_of_ble_eq_true rfl)) rfl rfl hi1 dX9_know_40 (fun σ40 eσ40 => ?_)
      have hw := hw σ40 eσ40
      refine vAload_n (pc := 41) hc dX9_know_41 rfl ?_
      refine vGetR (pc := 42) (k := 66) (j := 30) hc rfl inG9 (hc.G 66 (Nat.le_of_ble_eq_true rfl)) rfl (Nat.le_of_ble_eq_true rfl) tw_753 rfl dX9_know_42 ?_
      refine vIload_n (pc := 45) hc dX9_know_45 rfl ?_
      refine vIconst (pc := 46) (v := 0) hc dX9_know_46 ki_0 ?_
      refine vIast (pc := 47) (k := 91) hc (hc.G 91 (Nat.le_of_ble_eq_true rfl)) rfl rfl hi1 dX9_know_47 (fun σ47 eσ47 => ?_)
      have hw := hw σ47 eσ47
      refine vAload_n (pc := 48) hc dX9_know_48 rfl ?_
      refine vIload_n (pc := 49) hc dX9_know_49 rfl ?_
      refine vCallVi (pc := 50) (st := []) hc ok_X9_isSet tw_905 (c_X9_isSet hc.2.2.2.2.2.2.1 hc.G hw) (hc.G 66 (Nat.le_of_ble_eq_true rfl)) rfl rfl rfl ⟨rfl, rfl⟩ ⟨Nat.le_of_ble_eq_true rfl, Nat.le_of_ble_eq_true rfl⟩ rfl (Nat.le_of_ble_eq_true rfl) dX9_know_50 (fun r50 σ50 hw => ?_)
      refine vIf_eq (pc := 53) (tgt := 148) hc dX9_know_53 (by decide) (fun c53 => ?_) (fun c53 => ?_)
      · have hw := hw.1 c53
        refine vIinc (pc := 148) (v := x1 + 1) (L2 := [some (.ref (E.2.1 66)), some (.int (x1 + 1)), none]) hc dX9_know_148 rfl rfl rfl (Nat.le_of_ble_eq_true rfl) ?_
        refine vGoto (pc := 151) (tgt := 15) hc dX9_know_151 (by decide) ?_
        exact vMono (L2 := [some (.ref (E.2.1 66)), some (.int (x1 + 1)), none]) (show subL [some (.ref (E.2.1 66)), some (.int (x1 + 1)), none] [some (.ref (E.2.1 66)), some (.int (x1 + 1)), none] from ⟨rfl, ⟨rfl, trivial⟩⟩) (ih (x1 + 1) _ hw)
      · have hw := hw.2 c53
        refine vAload_n (pc := 56) hc dX9_know_56 rfl ?_
        refine vIload_n (pc := 57) hc dX9_know_57 rfl ?_
        refine vCallVi (pc := 58) (st := []) hc ok_X9_hasAway tw_912 (c_X9_hasAway hc.2.2.2.2.2.2.1 hc.G hw) (hc.G 66 (Nat.le_of_ble_eq_true rfl)) rfl rfl rfl ⟨rfl, rfl⟩ ⟨Nat.le_of_ble_eq_true rfl, Nat.le_of_ble_eq_true rfl⟩ rfl (Nat.le_of_ble_eq_true rfl) dX9_know_58 (fun r58 σ58 hw => ?_)
        refine vIf_eq (pc := 61) (tgt := 67) hc dX9_know_61 (by decide) (fun c61 => ?_) (fun c61 => ?_)
        · have hw := hw.1 c61
          refine vIconst (pc := 67) (v := 0) hc dX9_know_67 ki_0 ?_
          refine vIstore_n (pc := 68) (L2 := [some (.ref (E.2.1 66)), some (.int x1), some (.int 0)]) hc dX9_know_68 rfl (Nat.le_of_ble_eq_true rfl) ?_
          obtain ⟨n69, hw⟩ := hw
          exact vMono (L2 := [some (.ref (E.2.1 66)), some (.int x1), some (.int 0)]) (show subL [some (.ref (E.2.1 66)), some (.int x1), some (.int 0)] [some (.ref (E.2.1 66)), some (.int x1), some (.int 0)] from ⟨rfl, ⟨rfl, ⟨rfl, trivial⟩⟩⟩) (t_X9_know_H69 hc (fun x1 σ hw => ih x1 σ hw) n69 x1 0 _ hw)
        · have hw := hw.2 c61
          refine vGoto (pc := 64) (tgt := 148) hc dX9_know_64 (by decide) ?_
          refine vIinc (pc := 148) (v := x1 + 1) (L2 := [some (.ref (E.2.1 66)), some (.int (x1 + 1)), none]) hc dX9_know_148 rfl rfl rfl (Nat.le_of_ble_eq_true rfl) ?_
          refine vGoto (pc := 151) (tgt := 15) hc dX9_know_151 (by decide) ?_
          exact vMono (L2 := [some (.ref (E.2.1 66)), some (.int (x1 + 1)), none]) (show subL [some (.ref (E.2.1 66)), some (.int (x1 + 1)), none] [some (.ref (E.2.1 66)), some (.int (x1 + 1)), none] from ⟨rfl, ⟨rfl, trivial⟩⟩) (ih (x1 + 1) _ hw)
set_option maxRecDepth 100000 in
set_option maxHeartbeats 4000000 in
theorem t_X9_know_E {p : Program} {l : Launch} {e : Env} {s : State} {m : MethodId} {args : Array Value} {below : List Frame} {meth : Method} {c : Code} {E : WD} {Q : MS → Prop} (hc : Cx p rm_X9_know s m args meth c E (AD E) cX9_know RX9 none 3 0 0 fdm) (σ : MS) (hw : w_X9_know_E Q  σ) : V p l e rm_X9_know s m args below meth c E (AD E) 3 0 0 (MQ below (va_Qv Q (BW E) (AD E)) args s 0 0 (AD E)) σ 0 [some (.ref (E.2.1 66)), none, none] [] := by
  unfold w_X9_know_E at hw
  refine vAload_n (pc := 0) hc dX9_know_0 rfl ?_
  refine vGetI (pc := 1) (k := 66) (j := 27) hc rfl inG9 (hc.G 66 (Nat.le_of_ble_eq_true rfl)) rfl (Nat.le_of_ble_eq_true rfl) tw_750 rfl dX9_know_1 ?_
  refine vIf_eq (pc := 4) (tgt := 8) hc dX9_know_4 (by decide) (fun c4 => ?_) (fun c4 => ?_)
  · have hw := hw.1 c4
    refine vAload_n (pc := 8) hc dX9_know_8 rfl ?_
    refine vIconst (pc := 9) (v := 1) hc dX9_know_9 ki_1 ?_
    refine vPut (pc := 10) (k := 66) (j := 27) hc rfl inG9 (hc.G 66 (Nat.le_of_ble_eq_true rfl)) rfl (Nat.le_of_ble_eq_true rfl) tyX9 tyX9_ok nmX9 tw_750 rfl rfl (zb_nar (Or.inr rfl)) (zb_fit (Or.inr rfl)) dX9_know_10 (fun σ10 eσ10 => ?_)
    have hw := hw σ10 eσ10
    refine vIconst (pc := 13) (v := 1) hc dX9_know_13 ki_1 ?_
    refine vIstore_n (pc := 14) (L2 := [some (.ref (E.2.1 66)), some (.int 1), none]) hc dX9_know_14 rfl (Nat.le_of_ble_eq_true rfl) ?_
    obtain ⟨n15, hw⟩ := hw
    exact vMono (L2 := [some (.ref (E.2.1 66)), some (.int 1), none]) (show subL [some (.ref (E.2.1 66)), some (.int 1), none] [some (.ref (E.2.1 66)), some (.int 1), none] from ⟨rfl, ⟨rfl, trivial⟩⟩) (t_X9_know_H15 hc  n15 1 _ hw)
  · have hw := hw.2 c4
    exact vVret (pc := 7) hc dX9_know_7 hw
set_option maxRecDepth 100000 in
set_option maxHeartbeats 4000000 in
theorem c_X9_know {l : Launch} {E : WD} (hE : inj E) (hG : ∀ k, fdm k → k ∈ E.2.2.2) {σ : MS} {Q : MS → Prop} (hw : w_X9_know  σ Q) : Cv l E yX9_know cX9_know 3 none rm_X9_know [.ref (E.2.1 66)] σ Q :=
  Ct_of (by decide) rfl (by
    intro v hv
    simp only [List.mem_cons, List.not_mem_nil, or_false] at hv
    rcases hv with rfl <;> rfl) (Nat.le_of_ble_eq_true rfl) hE hG (fun p e s m below meth c hc => t_X9_know_E hc  σ hw)
def w_X9_wrongSet_E (Q : Int32 → MS → Prop) (x1 : Int32) (σ : MS) : Prop := w_X9_isSet x1 σ (fun r2 σ2 => ((¬ r2 = 0 → w_X9_hasAway x1 σ2 (fun r14 σ14 => ((r14 = 0 → Q 0 σ14) ∧ (¬ r14 = 0 → Q (-3) σ14)))) ∧ (r2 = 0 → Q (-1) σ2)))
abbrev w_X9_wrongSet (x1 : Int32) (σ : MS) (Q : Int32 → MS → Prop) : Prop := w_X9_wrongSet_E Q x1 σ
abbrev rm_X9_wrongSet : Room := { frames := 2, cells := 0, slots := 0, locals := 43 }
theorem ok_X9_wrongSet : OkV yX9_wrongSet RX9 cX9_wrongSet 2 (some .int) 1 := ⟨tw_948, tw_33, tw_57, tw_949, rfl, by decide, by decide, by decide +kernel⟩
set_option maxRecDepth 100000 in
set_option maxHeartbeats 4000000 in
theorem t_X9_wrongSet_E {p : Program} {l : Launch} {e : Env} {s : State} {m : MethodId} {args : Array Value} {below : List Frame} {meth : Method} {c : Code} {E : WD} {Q : Int32 → MS → Prop} (hc : Cx p rm_X9_wrongSet s m args meth c E (AD E) cX9_wrongSet RX9 (some .int) 2 0 0 fdm) (x1 : Int32) (σ : MS) (hw : w_X9_wrongSet_E Q x1 σ) : V p l e rm_X9_wrongSet s m args below meth c E (AD E) 2 0 0 (MQ below (va_Qi Q (BW E) (AD E)) args s 0 0 (AD E)) σ 0 [some (.ref (E.2.1 66)), some (.int x1)] [] := by
  unfold w_X9_wrongSet_E at hw
  refine vAload_n (pc := 0) hc dX9_wrongSet_0 rfl ?_
  refine vIload_n (pc := 1) hc dX9_wrongSet_1 rfl ?_
  refine vCallVi (pc := 2) (st := []) hc ok_X9_isSet tw_905 (c_X9_isSet hc.2.2.2.2.2.2.1 hc.G hw) (hc.G 66 (Nat.le_of_ble_eq_true rfl)) rfl rfl rfl ⟨rfl, rfl⟩ ⟨Nat.le_of_ble_eq_true rfl, Nat.le_of_ble_eq_true rfl⟩ rfl (Nat.le_of_ble_eq_true rfl) dX9_wrongSet_2 (fun r2 σ2 hw => ?_)
  refine vIf_ne (pc := 5) (tgt := 12) hc dX9_wrongSet_5 (by decide) (fun c5 => ?_) (fun c5 => ?_)
  · have hw := hw.1 c5
    refine vAload_n (pc := 12) hc dX9_wrongSet_12 rfl ?_
    refine vIload_n (pc := 13) hc dX9_wrongSet_13 rfl ?_
    refine vCallVi (pc := 14) (st := []) hc ok_X9_hasAway tw_912 (c_X9_hasAway hc.2.2.2.2.2.2.1 hc.G hw) (hc.G 66 (Nat.le_of_ble_eq_true rfl)) rfl rfl rfl ⟨rfl, rfl⟩ ⟨Nat.le_of_ble_eq_true rfl, Nat.le_of_ble_eq_true rfl⟩ rfl (Nat.le_of_ble_eq_true rfl) dX9_wrongSet_14 (fun r14 σ14 hw => ?_)
    refine vIf_eq (pc := 17) (tgt := 25) hc dX9_wrongSet_17 (by decide) (fun c17 => ?_) (fun c17 => ?_)
    · have hw := hw.1 c17
      refine vIconst (pc := 25) (v := 0) hc dX9_wrongSet_25 ki_0 ?_
      exact vIret (pc := 26) hc dX9_wrongSet_26 hw
    · have hw := hw.2 c17
      refine vBipush (pc := 20) (v := (-3)) hc dX9_wrongSet_20 kb_m3 ?_
      refine vGoto (pc := 22) (tgt := 26) hc dX9_wrongSet_22 (by decide) ?_
      exact vIret (pc := 26) hc dX9_wrongSet_26 hw
  · have hw := hw.2 c5
    refine vIconst (pc := 8) (v := (-1)) hc dX9_wrongSet_8 ki_m1 ?_
    refine vGoto (pc := 9) (tgt := 26) hc dX9_wrongSet_9 (by decide) ?_
    exact vIret (pc := 26) hc dX9_wrongSet_26 hw
set_option maxRecDepth 100000 in
set_option maxHeartbeats 4000000 in
theorem c_X9_wrongSet {l : Launch} {E : WD} (hE : inj E) (hG : ∀ k, fdm k → k ∈ E.2.2.2) {x1 : Int32} {σ : MS} {Q : Int32 → MS → Prop} (hw : w_X9_wrongSet x1 σ Q) : Ci l E yX9_wrongSet cX9_wrongSet 2 (some .int) rm_X9_wrongSet [.ref (E.2.1 66), .int x1] σ Q :=
  Ct_of (by decide) rfl (by
    intro v hv
    simp only [List.mem_cons, List.not_mem_nil, or_false] at hv
    rcases hv with rfl | rfl <;> rfl) (Nat.le_of_ble_eq_true rfl) hE hG (fun p e s m below meth c hc => t_X9_wrongSet_E hc x1 σ hw)
def w_X9_cost_E (Q : Int32 → MS → Prop) (x1 : Int32) (σ : MS) : Prop := w_X9_wrongSet x1 σ (fun r2 σ2 => ((r2 = 0 → w_X9_know  σ2 (fun σ17 => ((vp_in x1 512) ∧ ((0 ≤ (σ17 90 x1.toNatClampNeg) → Q (σ17 89 x1.toNatClampNeg) σ17) ∧ (¬ 0 ≤ (σ17 90 x1.toNatClampNeg) → Q (-9) σ17))))) ∧ (¬ r2 = 0 → w_X9_refuse r2 σ2 (fun r12 σ12 => Q r12 σ12))))
abbrev w_X9_cost (x1 : Int32) (σ : MS) (Q : Int32 → MS → Prop) : Prop := w_X9_cost_E Q x1 σ
abbrev rm_X9_cost : Room := { frames := 18, cells := 0, slots := 0, locals := 482 }
theorem ok_X9_cost : OkV yX9_cost RX9 cX9_cost 3 (some .int) 1 := ⟨tw_943, tw_944, tw_57, tw_945, rfl, by decide, by decide, by decide +kernel⟩
set_option maxRecDepth 100000 in
set_option maxHeartbeats 4000000 in
theorem t_X9_cost_E {p : Program} {l : Launch} {e : Env} {s : State} {m : MethodId} {args : Array Value} {below : List Frame} {meth : Method} {c : Code} {E : WD} {Q : Int32 → MS → Prop} (hc : Cx p rm_X9_cost s m args meth c E (AD E) cX9_cost RX9 (some .int) 3 0 0 fdm) (x1 : Int32) (σ : MS) (hw : w_X9_cost_E Q x1 σ) : V p l e rm_X9_cost s m args below meth c E (AD E) 3 0 0 (MQ below (va_Qi Q (BW E) (AD E)) args s 0 0 (AD E)) σ 0 [some (.ref (E.2.1 66)), some (.int x1), none] [] := by
  unfold w_X9_cost_E at hw
  refine vAload_n (pc := 0) hc dX9_cost_0 rfl ?_
  refine vIload_n (pc := 1) hc dX9_cost_1 rfl ?_
  refine vCallVi (pc := 2) (st := []) hc ok_X9_wrongSet tw_946 (c_X9_wrongSet hc.2.2.2.2.2.2.1 hc.G hw) (hc.G 66 (Nat.le_of_ble_eq_true rfl)) rfl rfl rfl ⟨rfl, rfl⟩ ⟨Nat.le_of_ble_eq_true rfl, Nat.le_of_ble_eq_true rfl⟩ rfl (Nat.le_of_ble_eq_true rfl) dX9_cost_2 (fun r2 σ2 hw => ?_)
  refine vIstore_n (pc := 5) (L2 := [some (.ref (E.2.1 66)), some (.int x1), some (.int r2)]) hc dX9_cost_5 rfl (Nat.le_of_ble_eq_true rfl) ?_
  refine vIload_n (pc := 6) hc dX9_cost_6 rfl ?_
  refine vIf_eq (pc := 7) (tgt := 16) hc dX9_cost_7 (by decide) (fun c7 => ?_) (fun c7 => ?_)
  · have hw := hw.1 c7
    refine vAload_n (pc := 16) hc dX9_cost_16 rfl ?_
    refine vCallVv (pc := 17) (st := []) hc ok_X9_know tw_950 (c_X9_know hc.2.2.2.2.2.2.1 hc.G hw) (hc.G 66 (Nat.le_of_ble_eq_true rfl)) rfl rfl rfl ⟨rfl, rfl⟩ ⟨Nat.le_of_ble_eq_true rfl, Nat.le_of_ble_eq_true rfl⟩ rfl (Nat.le_of_ble_eq_true rfl) dX9_cost_17 (fun σ17 hw => ?_)
    refine vAload_n (pc := 20) hc dX9_cost_20 rfl ?_
    refine vGetR (pc := 21) (k := 66) (j := 29) hc rfl inG9 (hc.G 66 (Nat.le_of_ble_eq_true rfl)) rfl (Nat.le_of_ble_eq_true rfl) tw_752 rfl dX9_cost_21 ?_
    refine vIload_n (pc := 24) hc dX9_cost_24 rfl ?_
    obtain ⟨hi1, hw⟩ := hw
    refine vIald (pc := 25) (k := 90) hc (hc.G 90 (Nat.le_of_ble_eq_true rfl)) rfl rfl hi1 dX9_cost_25 ?_
    refine vIf_ge (pc := 26) (tgt := 34) hc dX9_cost_26 (by decide) (fun c26 => ?_) (fun c26 => ?_)
    · have hw := hw.1 c26
      refine vAload_n (pc := 34) hc dX9_cost_34 rfl ?_
      refine vGetR (pc := 35) (k := 66) (j := 28) hc rfl inG9 (hc.G 66 (Nat.le_of_ble_eq_true rfl)) rfl (Nat.le_of_ble_eq_true rfl) tw_751 rfl dX9_cost_35 ?_
      refine vIload_n (pc := 38) hc dX9_cost_38 rfl ?_
      refine vIald (pc := 39) (k := 89) hc (hc.G 89 (Nat.le_of_ble_eq_true rfl)) rfl rfl hi1 dX9_cost_39 ?_
      exact vIret (pc := 40) hc dX9_cost_40 hw
    · have hw := hw.2 c26
      refine vBipush (pc := 29) (v := (-9)) hc dX9_cost_29 kb_m9 ?_
      refine vGoto (pc := 31) (tgt := 40) hc dX9_cost_31 (by decide) ?_
      exact vIret (pc := 40) hc dX9_cost_40 hw
  · have hw := hw.2 c7
    refine vAload_n (pc := 10) hc dX9_cost_10 rfl ?_
    refine vIload_n (pc := 11) hc dX9_cost_11 rfl ?_
    refine vCallVi (pc := 12) (st := []) hc ok_X9_refuse tw_861 (c_X9_refuse hc.2.2.2.2.2.2.1 hc.G hw) (hc.G 66 (Nat.le_of_ble_eq_true rfl)) rfl rfl rfl ⟨rfl, rfl⟩ ⟨Nat.le_of_ble_eq_true rfl, Nat.le_of_ble_eq_true rfl⟩ rfl (Nat.le_of_ble_eq_true rfl) dX9_cost_12 (fun r12 σ12 hw => ?_)
    exact vIret (pc := 15) hc dX9_cost_15 hw
set_option maxRecDepth 100000 in
set_option maxHeartbeats 4000000 in
theorem c_X9_cost {l : Launch} {E : WD} (hE : inj E) (hG : ∀ k, fdm k → k ∈ E.2.2.2) {x1 : Int32} {σ : MS} {Q : Int32 → MS → Prop} (hw : w_X9_cost x1 σ Q) : Ci l E yX9_cost cX9_cost 3 (some .int) rm_X9_cost [.ref (E.2.1 66), .int x1] σ Q :=
  Ct_of (by decide) rfl (by
    intro v hv
    simp only [List.mem_cons, List.not_mem_nil, or_false] at hv
    rcases hv with rfl | rfl <;> rfl) (Nat.le_of_ble_eq_true rfl) hE hG (fun p e s m below meth c hc => t_X9_cost_E hc x1 σ hw)
