/-! ===== the constructors ===== -/
theorem catR : ∀ (l : List Nat), ∀ v ∈ l.map Value.ref, v.category = 1 := by
  intro l v hv
  obtain ⟨a, -, rfl⟩ := List.mem_map.mp hv
  rfl
theorem zS {Zc : List Nat} {C : Nat → Bool} {σ : MS} (z : ∀ k, C k = true → σ k = fun _ => 0) (h : Zc.all C = true) : ∀ k, Zc.contains k = true → σ k = fun _ => 0 := fun k hk => z k (List.all_eq_true.mp h k (by simpa using hk))
theorem zC {C C2 P : Nat → Bool} {σ σ2 : MS} (z : ∀ k, C k = true → σ k = fun _ => 0) (h : ∀ k j, P k = false → σ2 k j = σ k j) (hC : ∀ k, C2 k = true → C k = true ∧ P k = false) : ∀ k, C2 k = true → σ2 k = fun _ => 0 := fun k hk => z0 (fun j => h k j (hC k hk).2) (z k (hC k hk).1)
theorem restK {rest : List (Nat × Nat)} {P : Nat → Bool} {σ σ2 : MS} (h : ∀ k j, P k = false → σ2 k j = σ k j) (hr : rest.all (fun q => !P q.1) = true) : ∀ q ∈ rest, σ2 q.1 = σ q.1 := fun q hq => funext (fun j => h q.1 j (by
  have := List.all_eq_true.mp hr q hq
  simpa using this))

theorem df_0 : ∀ j, j < 8 → defaultValue (tyX8 j) = vp_V ((fdo 0).2.map dfl) j := fun j hj => match j, hj with
  | 0, _ => rfl
  | 1, _ => rfl
  | 2, _ => rfl
  | 3, _ => rfl
  | 4, _ => rfl
  | 5, _ => rfl
  | 6, _ => rfl
  | 7, _ => rfl
  | n + 8, h => absurd h (by omega)
theorem df_1 : ∀ j, j < 2 → defaultValue (tyX5 j) = vp_V ((fdo 1).2.map dfl) j := fun j hj => match j, hj with
  | 0, _ => rfl
  | 1, _ => rfl
  | n + 2, h => absurd h (by omega)
theorem df_4 : ∀ j, j < 2 → defaultValue (tyX2 j) = vp_V ((fdo 4).2.map dfl) j := fun j hj => match j, hj with
  | 0, _ => rfl
  | 1, _ => rfl
  | n + 2, h => absurd h (by omega)
theorem df_6 : ∀ j, j < 9 → defaultValue (tyX7 j) = vp_V ((fdo 6).2.map dfl) j := fun j hj => match j, hj with
  | 0, _ => rfl
  | 1, _ => rfl
  | 2, _ => rfl
  | 3, _ => rfl
  | 4, _ => rfl
  | 5, _ => rfl
  | 6, _ => rfl
  | 7, _ => rfl
  | 8, _ => rfl
  | n + 9, h => absurd h (by omega)
theorem df_7 : ∀ j, j < 8 → defaultValue (tyX6 j) = vp_V ((fdo 7).2.map dfl) j := fun j hj => match j, hj with
  | 0, _ => rfl
  | 1, _ => rfl
  | 2, _ => rfl
  | 3, _ => rfl
  | 4, _ => rfl
  | 5, _ => rfl
  | 6, _ => rfl
  | 7, _ => rfl
  | n + 8, h => absurd h (by omega)
theorem df_8 : ∀ j, j < 8 → defaultValue (tyX6 j) = vp_V ((fdo 8).2.map dfl) j := fun j hj => match j, hj with
  | 0, _ => rfl
  | 1, _ => rfl
  | 2, _ => rfl
  | 3, _ => rfl
  | 4, _ => rfl
  | 5, _ => rfl
  | 6, _ => rfl
  | 7, _ => rfl
  | n + 8, h => absurd h (by omega)
theorem df_9 : ∀ j, j < 3 → defaultValue (tyX0 j) = vp_V ((fdo 9).2.map dfl) j := fun j hj => match j, hj with
  | 0, _ => rfl
  | 1, _ => rfl
  | 2, _ => rfl
  | n + 3, h => absurd h (by omega)
theorem df_10 : ∀ j, j < 3 → defaultValue (tyX1 j) = vp_V ((fdo 10).2.map dfl) j := fun j hj => match j, hj with
  | 0, _ => rfl
  | 1, _ => rfl
  | 2, _ => rfl
  | n + 3, h => absurd h (by omega)
theorem df_11 : ∀ j, j < 7 → defaultValue (tyX4 j) = vp_V ((fdo 11).2.map dfl) j := fun j hj => match j, hj with
  | 0, _ => rfl
  | 1, _ => rfl
  | 2, _ => rfl
  | 3, _ => rfl
  | 4, _ => rfl
  | 5, _ => rfl
  | 6, _ => rfl
  | n + 7, h => absurd h (by omega)
theorem df_66 : ∀ j, j < 43 → defaultValue (tyX9 j) = vp_V ((fdo 66).2.map dfl) j := fun j hj => match j, hj with
  | 0, _ => rfl
  | 1, _ => rfl
  | 2, _ => rfl
  | 3, _ => rfl
  | 4, _ => rfl
  | 5, _ => rfl
  | 6, _ => rfl
  | 7, _ => rfl
  | 8, _ => rfl
  | 9, _ => rfl
  | 10, _ => rfl
  | 11, _ => rfl
  | 12, _ => rfl
  | 13, _ => rfl
  | 14, _ => rfl
  | 15, _ => rfl
  | 16, _ => rfl
  | 17, _ => rfl
  | 18, _ => rfl
  | 19, _ => rfl
  | 20, _ => rfl
  | 21, _ => rfl
  | 22, _ => rfl
  | 23, _ => rfl
  | 24, _ => rfl
  | 25, _ => rfl
  | 26, _ => rfl
  | 27, _ => rfl
  | 28, _ => rfl
  | 29, _ => rfl
  | 30, _ => rfl
  | 31, _ => rfl
  | 32, _ => rfl
  | 33, _ => rfl
  | 34, _ => rfl
  | 35, _ => rfl
  | 36, _ => rfl
  | 37, _ => rfl
  | 38, _ => rfl
  | 39, _ => rfl
  | 40, _ => rfl
  | 41, _ => rfl
  | 42, _ => rfl
  | n + 43, h => absurd h (by omega)
theorem df3 {k : Nat} (h : 37 ≤ k ∧ k < 46) : ∀ j, j < 11 → defaultValue (tyX3 j) = vp_V ((fdo k).2.map dfl) j := by
  rw [pn_f h]
  exact fun j hj => match j, hj with
  | 0, _ => rfl
  | 1, _ => rfl
  | 2, _ => rfl
  | 3, _ => rfl
  | 4, _ => rfl
  | 5, _ => rfl
  | 6, _ => rfl
  | 7, _ => rfl
  | 8, _ => rfl
  | 9, _ => rfl
  | 10, _ => rfl
  | n + 11, h => absurd h (by omega)
abbrev rm_X3_init : Room := { frames := 1, cells := 0, slots := 0, locals := 20 }
abbrev rm_X6_init : Room := { frames := 1, cells := 5, slots := 20, locals := 20 }
abbrev rm_X2_init : Room := { frames := 2, cells := 10, slots := 108, locals := 44 }
abbrev rm_X1_init : Room := { frames := 1, cells := 2, slots := 1024, locals := 20 }
abbrev rm_X4_init : Room := { frames := 1, cells := 5, slots := 45, locals := 20 }
abbrev rm_X8_init : Room := { frames := 4, cells := 65, slots := 2530, locals := 150 }
theorem ok_X0_init : OkI yX0_init cX0_init 2 1 := ⟨tw_249, tw_54, tw_250, rfl, by decide, by decide, by decide +kernel⟩
theorem ok_X1_init : OkI yX1_init cX1_init 2 1 := ⟨tw_266, tw_55, tw_267, rfl, by decide, by decide, by decide +kernel⟩
theorem ok_X2_init : OkI yX2_init cX2_init 2 0 := ⟨tw_103, tw_50, tw_104, rfl, by decide, by decide, by decide +kernel⟩
theorem ok_X3_init : OkI yX3_init cX3_init 1 0 := ⟨tw_110, tw_51, tw_111, rfl, by decide, by decide, by decide +kernel⟩
theorem ok_X4_init : OkI yX4_init cX4_init 1 0 := ⟨tw_282, tw_56, tw_283, rfl, by decide, by decide, by decide +kernel⟩
theorem ok_X5_init : OkI yX5_init cX5_init 2 0 := ⟨tw_70, tw_46, tw_71, rfl, by decide, by decide, by decide +kernel⟩
theorem ok_X6_init : OkI yX6_init cX6_init 1 0 := ⟨tw_174, tw_53, tw_175, rfl, by decide, by decide, by decide +kernel⟩
theorem ok_X7_init : OkI yX7_init cX7_init 3 2 := ⟨tw_168, tw_52, tw_169, rfl, by decide, by decide, by decide +kernel⟩
theorem ok_X8_init : OkI yX8_init cX8_init 1 0 := ⟨tw_62, tw_45, tw_63, rfl, by decide, by decide, by decide +kernel⟩
theorem ok_X9_init : OkI yX9_init cX9_init 3 0 := ⟨tw_711, tw_57, tw_712, rfl, by decide, by decide, by decide +kernel⟩
set_option maxRecDepth 100000 in
set_option maxHeartbeats 4000000 in
theorem n_X3 {l : Launch} {G : va_G} {cid : Nat → ClassId} {ad : Nat → Nat} {σ : MS} (k : Nat) : ∀ sz, CN l G cid yX3_init cX3_init 1 rm_X3_init [.ref (ad k)] ad σ [(k, 0)] [(k, 0)] (fun u => (ad, σ) = u) 0 0 sz := by
  intro sz
  refine CN_of (own := RX3) (by decide) rfl rfl (catR [_]) (Nat.le_of_ble_eq_true rfl) ?_
  intro p e s m below meth c A hc hin hr
  refine uAload_n (pc := 0) hc dX3_init_0 rfl ?_
  refine uObj (pc := 1) hc tw_112 ⟨Nat.le_of_ble_eq_true rfl, Nat.le_of_ble_eq_true rfl⟩ dX3_init_1 ?_
  exact uRet hc hr dX3_init_4 rfl
set_option maxRecDepth 100000 in
set_option maxHeartbeats 4000000 in
theorem n_X6_7 {l : Launch} {G : va_G} {cid : Nat → ClassId} {ad : Nat → Nat} {σ : MS} (hz : ∀ k, ([13, 14, 15, 16, 17] : List Nat).contains k = true → σ k = fun _ => 0) : ∀ sz, CN l G cid yX6_init cX6_init 1 rm_X6_init [.ref (ad 7)] ad σ [(7, 0)] [(7, 62), (13, 0), (14, 0), (15, 0), (16, 0), (17, 0)] (fun u => (∀ x, x ∉ ([13, 14, 15, 16, 17] : List Nat) → u.1 x = ad x) ∧ σ = u.2) 5 20 sz := by
  intro sz
  refine CN_of (own := RX6) (by decide) rfl rfl (catR [_]) (Nat.le_of_ble_eq_true rfl) ?_
  intro p e s m below meth c A hc hin hr
  refine uAload_n (pc := 0) hc dX6_init_0 rfl ?_
  refine uObj (pc := 1) hc tw_176 ⟨Nat.le_of_ble_eq_true rfl, Nat.le_of_ble_eq_true rfl⟩ dX6_init_1 ?_
  refine uAload_n (pc := 4) hc dX6_init_4 rfl ?_
  refine uIconst (pc := 5) (v := 4) hc dX6_init_5 (by decide) ?_
  refine uNewa (pc := 6) (kc := 0) (ks := 0) (r := 13) (N := 4) (ps := [(7, 0)]) hc rfl rfl (hz 13 rfl) (by decide) (by decide) (Nat.le_of_ble_eq_true rfl) (Nat.le_of_ble_eq_true rfl) (Nat.le_of_ble_eq_true rfl) (by decide +kernel) dX6_init_6 (fun ad6 h6 => ?_)
  have e6 : ad6 7 = ad 7 := h6 7 (by decide)
  refine uPutR (pc := 8) (k := 7) (i := 0) (msk := 0) (j := 1) (r := 13) (ps := [(7, 0), (13, 0)]) (ps2 := [(7, 2), (13, 0)]) hc hin rfl inG6 tyX6 tyX6_ok nmX6 rfl rfl (Nat.le_of_ble_eq_true rfl) tw_180 rfl rfl rfl (fun _ => rfl) (fun _ => rfl) e6 rfl rfl dX6_init_8 ?_
  refine uAload_n (pc := 11) hc dX6_init_11 rfl ?_
  refine uIconst (pc := 12) (v := 4) hc dX6_init_12 (by decide) ?_
  refine uNewa (pc := 13) (kc := 1) (ks := 4) (r := 14) (N := 4) (ps := [(7, 2), (13, 0)]) hc rfl rfl (hz 14 rfl) (by decide) (by decide) (Nat.le_of_ble_eq_true rfl) (Nat.le_of_ble_eq_true rfl) (Nat.le_of_ble_eq_true rfl) (by decide +kernel) dX6_init_13 (fun ad13 h13 => ?_)
  have e13 : ad13 7 = ad 7 := (h13 7 (by decide)).trans e6
  refine uPutR (pc := 15) (k := 7) (i := 0) (msk := 2) (j := 2) (r := 14) (ps := [(7, 2), (13, 0), (14, 0)]) (ps2 := [(7, 6), (13, 0), (14, 0)]) hc hin rfl inG6 tyX6 tyX6_ok nmX6 rfl rfl (Nat.le_of_ble_eq_true rfl) tw_183 rfl rfl rfl (fun _ => rfl) (fun _ => rfl) e13 rfl rfl dX6_init_15 ?_
  refine uAload_n (pc := 18) hc dX6_init_18 rfl ?_
  refine uIconst (pc := 19) (v := 4) hc dX6_init_19 (by decide) ?_
  refine uNewa (pc := 20) (kc := 2) (ks := 8) (r := 15) (N := 4) (ps := [(7, 6), (13, 0), (14, 0)]) hc rfl rfl (hz 15 rfl) (by decide) (by decide) (Nat.le_of_ble_eq_true rfl) (Nat.le_of_ble_eq_true rfl) (Nat.le_of_ble_eq_true rfl) (by decide +kernel) dX6_init_20 (fun ad20 h20 => ?_)
  have e20 : ad20 7 = ad 7 := (h20 7 (by decide)).trans e13
  refine uPutR (pc := 22) (k := 7) (i := 0) (msk := 6) (j := 3) (r := 15) (ps := [(7, 6), (13, 0), (14, 0), (15, 0)]) (ps2 := [(7, 14), (13, 0), (14, 0), (15, 0)]) hc hin rfl inG6 tyX6 tyX6_ok nmX6 rfl rfl (Nat.le_of_ble_eq_true rfl) tw_185 rfl rfl rfl (fun _ => rfl) (fun _ => rfl) e20 rfl rfl dX6_init_22 ?_
  refine uAload_n (pc := 25) hc dX6_init_25 rfl ?_
  refine uIconst (pc := 26) (v := 4) hc dX6_init_26 (by decide) ?_
  refine uNewa (pc := 27) (kc := 3) (ks := 12) (r := 16) (N := 4) (ps := [(7, 14), (13, 0), (14, 0), (15, 0)]) hc rfl rfl (hz 16 rfl) (by decide) (by decide) (Nat.le_of_ble_eq_true rfl) (Nat.le_of_ble_eq_true rfl) (Nat.le_of_ble_eq_true rfl) (by decide +kernel) dX6_init_27 (fun ad27 h27 => ?_)
  have e27 : ad27 7 = ad 7 := (h27 7 (by decide)).trans e20
  refine uPutR (pc := 29) (k := 7) (i := 0) (msk := 14) (j := 4) (r := 16) (ps := [(7, 14), (13, 0), (14, 0), (15, 0), (16, 0)]) (ps2 := [(7, 30), (13, 0), (14, 0), (15, 0), (16, 0)]) hc hin rfl inG6 tyX6 tyX6_ok nmX6 rfl rfl (Nat.le_of_ble_eq_true rfl) tw_187 rfl rfl rfl (fun _ => rfl) (fun _ => rfl) e27 rfl rfl dX6_init_29 ?_
  refine uAload_n (pc := 32) hc dX6_init_32 rfl ?_
  refine uIconst (pc := 33) (v := 4) hc dX6_init_33 (by decide) ?_
  refine uNewa (pc := 34) (kc := 4) (ks := 16) (r := 17) (N := 4) (ps := [(7, 30), (13, 0), (14, 0), (15, 0), (16, 0)]) hc rfl rfl (hz 17 rfl) (by decide) (by decide) (Nat.le_of_ble_eq_true rfl) (Nat.le_of_ble_eq_true rfl) (Nat.le_of_ble_eq_true rfl) (by decide +kernel) dX6_init_34 (fun ad34 h34 => ?_)
  have e34 : ad34 7 = ad 7 := (h34 7 (by decide)).trans e27
  refine uPutR (pc := 36) (k := 7) (i := 0) (msk := 30) (j := 5) (r := 17) (ps := [(7, 30), (13, 0), (14, 0), (15, 0), (16, 0), (17, 0)]) (ps2 := [(7, 62), (13, 0), (14, 0), (15, 0), (16, 0), (17, 0)]) hc hin rfl inG6 tyX6 tyX6_ok nmX6 rfl rfl (Nat.le_of_ble_eq_true rfl) tw_190 rfl rfl rfl (fun _ => rfl) (fun _ => rfl) e34 rfl rfl dX6_init_36 ?_
  refine uRet (kc := 5) (ks := 20) (ps := [(7, 62), (13, 0), (14, 0), (15, 0), (16, 0), (17, 0)]) hc hr dX6_init_39 ?_
  exact ⟨fun x hx => (h34 x (ni hx (by decide +kernel))).trans ((h27 x (ni hx (by decide +kernel))).trans ((h20 x (ni hx (by decide +kernel))).trans ((h13 x (ni hx (by decide +kernel))).trans (h6 x (ni hx (by decide +kernel)))))), rfl⟩

set_option maxRecDepth 100000 in
set_option maxHeartbeats 4000000 in
theorem n_X6_8 {l : Launch} {G : va_G} {cid : Nat → ClassId} {ad : Nat → Nat} {σ : MS} (hz : ∀ k, ([18, 19, 20, 21, 22] : List Nat).contains k = true → σ k = fun _ => 0) : ∀ sz, CN l G cid yX6_init cX6_init 1 rm_X6_init [.ref (ad 8)] ad σ [(8, 0)] [(8, 62), (18, 0), (19, 0), (20, 0), (21, 0), (22, 0)] (fun u => (∀ x, x ∉ ([18, 19, 20, 21, 22] : List Nat) → u.1 x = ad x) ∧ σ = u.2) 5 20 sz := by
  intro sz
  refine CN_of (own := RX6) (by decide) rfl rfl (catR [_]) (Nat.le_of_ble_eq_true rfl) ?_
  intro p e s m below meth c A hc hin hr
  refine uAload_n (pc := 0) hc dX6_init_0 rfl ?_
  refine uObj (pc := 1) hc tw_176 ⟨Nat.le_of_ble_eq_true rfl, Nat.le_of_ble_eq_true rfl⟩ dX6_init_1 ?_
  refine uAload_n (pc := 4) hc dX6_init_4 rfl ?_
  refine uIconst (pc := 5) (v := 4) hc dX6_init_5 (by decide) ?_
  refine uNewa (pc := 6) (kc := 0) (ks := 0) (r := 18) (N := 4) (ps := [(8, 0)]) hc rfl rfl (hz 18 rfl) (by decide) (by decide) (Nat.le_of_ble_eq_true rfl) (Nat.le_of_ble_eq_true rfl) (Nat.le_of_ble_eq_true rfl) (by decide +kernel) dX6_init_6 (fun ad6 h6 => ?_)
  have e6 : ad6 8 = ad 8 := h6 8 (by decide)
  refine uPutR (pc := 8) (k := 8) (i := 0) (msk := 0) (j := 1) (r := 18) (ps := [(8, 0), (18, 0)]) (ps2 := [(8, 2), (18, 0)]) hc hin rfl inG6 tyX6 tyX6_ok nmX6 rfl rfl (Nat.le_of_ble_eq_true rfl) tw_180 rfl rfl rfl (fun _ => rfl) (fun _ => rfl) e6 rfl rfl dX6_init_8 ?_
  refine uAload_n (pc := 11) hc dX6_init_11 rfl ?_
  refine uIconst (pc := 12) (v := 4) hc dX6_init_12 (by decide) ?_
  refine uNewa (pc := 13) (kc := 1) (ks := 4) (r := 19) (N := 4) (ps := [(8, 2), (18, 0)]) hc rfl rfl (hz 19 rfl) (by decide) (by decide) (Nat.le_of_ble_eq_true rfl) (Nat.le_of_ble_eq_true rfl) (Nat.le_of_ble_eq_true rfl) (by decide +kernel) dX6_init_13 (fun ad13 h13 => ?_)
  have e13 : ad13 8 = ad 8 := (h13 8 (by decide)).trans e6
  refine uPutR (pc := 15) (k := 8) (i := 0) (msk := 2) (j := 2) (r := 19) (ps := [(8, 2), (18, 0), (19, 0)]) (ps2 := [(8, 6), (18, 0), (19, 0)]) hc hin rfl inG6 tyX6 tyX6_ok nmX6 rfl rfl (Nat.le_of_ble_eq_true rfl) tw_183 rfl rfl rfl (fun _ => rfl) (fun _ => rfl) e13 rfl rfl dX6_init_15 ?_
  refine uAload_n (pc := 18) hc dX6_init_18 rfl ?_
  refine uIconst (pc := 19) (v := 4) hc dX6_init_19 (by decide) ?_
  refine uNewa (pc := 20) (kc := 2) (ks := 8) (r := 20) (N := 4) (ps := [(8, 6), (18, 0), (19, 0)]) hc rfl rfl (hz 20 rfl) (by decide) (by decide) (Nat.le_of_ble_eq_true rfl) (Nat.le_of_ble_eq_true rfl) (Nat.le_of_ble_eq_true rfl) (by decide +kernel) dX6_init_20 (fun ad20 h20 => ?_)
  have e20 : ad20 8 = ad 8 := (h20 8 (by decide)).trans e13
  refine uPutR (pc := 22) (k := 8) (i := 0) (msk := 6) (j := 3) (r := 20) (ps := [(8, 6), (18, 0), (19, 0), (20, 0)]) (ps2 := [(8, 14), (18, 0), (19, 0), (20, 0)]) hc hin rfl inG6 tyX6 tyX6_ok nmX6 rfl rfl (Nat.le_of_ble_eq_true rfl) tw_185 rfl rfl rfl (fun _ => rfl) (fun _ => rfl) e20 rfl rfl dX6_init_22 ?_
  refine uAload_n (pc := 25) hc dX6_init_25 rfl ?_
  refine uIconst (pc := 26) (v := 4) hc dX6_init_26 (by decide) ?_
  refine uNewa (pc := 27) (kc := 3) (ks := 12) (r := 21) (N := 4) (ps := [(8, 14), (18, 0), (19, 0), (20, 0)]) hc rfl rfl (hz 21 rfl) (by decide) (by decide) (Nat.le_of_ble_eq_true rfl) (Nat.le_of_ble_eq_true rfl) (Nat.le_of_ble_eq_true rfl) (by decide +kernel) dX6_init_27 (fun ad27 h27 => ?_)
  have e27 : ad27 8 = ad 8 := (h27 8 (by decide)).trans e20
  refine uPutR (pc := 29) (k := 8) (i := 0) (msk := 14) (j := 4) (r := 21) (ps := [(8, 14), (18, 0), (19, 0), (20, 0), (21, 0)]) (ps2 := [(8, 30), (18, 0), (19, 0), (20, 0), (21, 0)]) hc hin rfl inG6 tyX6 tyX6_ok nmX6 rfl rfl (Nat.le_of_ble_eq_true rfl) tw_187 rfl rfl rfl (fun _ => rfl) (fun _ => rfl) e27 rfl rfl dX6_init_29 ?_
  refine uAload_n (pc := 32) hc dX6_init_32 rfl ?_
  refine uIconst (pc := 33) (v := 4) hc dX6_init_33 (by decide) ?_
  refine uNewa (pc := 34) (kc := 4) (ks := 16) (r := 22) (N := 4) (ps := [(8, 30), (18, 0), (19, 0), (20, 0), (21, 0)]) hc rfl rfl (hz 22 rfl) (by decide) (by decide) (Nat.le_of_ble_eq_true rfl) (Nat.le_of_ble_eq_true rfl) (Nat.le_of_ble_eq_true rfl) (by decide +kernel) dX6_init_34 (fun ad34 h34 => ?_)
  have e34 : ad34 8 = ad 8 := (h34 8 (by decide)).trans e27
  refine uPutR (pc := 36) (k := 8) (i := 0) (msk := 30) (j := 5) (r := 22) (ps := [(8, 30), (18, 0), (19, 0), (20, 0), (21, 0), (22, 0)]) (ps2 := [(8, 62), (18, 0), (19, 0), (20, 0), (21, 0), (22, 0)]) hc hin rfl inG6 tyX6 tyX6_ok nmX6 rfl rfl (Nat.le_of_ble_eq_true rfl) tw_190 rfl rfl rfl (fun _ => rfl) (fun _ => rfl) e34 rfl rfl dX6_init_36 ?_
  refine uRet (kc := 5) (ks := 20) (ps := [(8, 62), (18, 0), (19, 0), (20, 0), (21, 0), (22, 0)]) hc hr dX6_init_39 ?_
  exact ⟨fun x hx => (h34 x (ni hx (by decide +kernel))).trans ((h27 x (ni hx (by decide +kernel))).trans ((h20 x (ni hx (by decide +kernel))).trans ((h13 x (ni hx (by decide +kernel))).trans (h6 x (ni hx (by decide +kernel)))))), rfl⟩

set_option maxRecDepth 100000 in
set_option maxHeartbeats 4000000 in
theorem n_X4 {l : Launch} {G : va_G} {cid : Nat → ClassId} {ad : Nat → Nat} {σ : MS} (hz : ∀ k, ([11, 32, 33, 34, 35, 36] : List Nat).contains k = true → σ k = fun _ => 0) : ∀ sz, CN l G cid yX4_init cX4_init 1 rm_X4_init [.ref (ad 11)] ad σ [(11, 0)] [(11, 124), (32, 0), (33, 0), (34, 0), (35, 0), (36, 0)] (fun u => (∀ x, x ∉ ([32, 33, 34, 35, 36] : List Nat) → u.1 x = ad x) ∧ σ = u.2) 5 45 sz := by
  intro sz
  refine CN_of (own := RX4) (by decide) rfl rfl (catR [_]) (Nat.le_of_ble_eq_true rfl) ?_
  intro p e s m below meth c A hc hin hr
  refine uAload_n (pc := 0) hc dX4_init_0 rfl ?_
  refine uObj (pc := 1) hc tw_284 ⟨Nat.le_of_ble_eq_true rfl, Nat.le_of_ble_eq_true rfl⟩ dX4_init_1 ?_
  refine uAload_n (pc := 4) hc dX4_init_4 rfl ?_
  refine uBipush (pc := 5) (v := 9) hc dX4_init_5 (by decide) ?_
  refine uNewa (pc := 7) (kc := 0) (ks := 0) (r := 32) (N := 9) (ps := [(11, 0)]) hc rfl rfl (hz 32 rfl) (by decide) (by decide) (Nat.le_of_ble_eq_true rfl) (Nat.le_of_ble_eq_true rfl) (Nat.le_of_ble_eq_true rfl) (by decide +kernel) dX4_init_7 (fun ad7 h7 => ?_)
  have e7 : ad7 11 = ad 11 := h7 11 (by decide)
  refine uPutR (pc := 9) (k := 11) (i := 0) (msk := 0) (j := 2) (r := 32) (ps := [(11, 0), (32, 0)]) (ps2 := [(11, 4), (32, 0)]) hc hin rfl inG4 tyX4 tyX4_ok nmX4 rfl rfl (Nat.le_of_ble_eq_true rfl) tw_287 rfl rfl rfl (fun _ => rfl) (fun _ => rfl) e7 rfl rfl dX4_init_9 ?_
  refine uAload_n (pc := 12) hc dX4_init_12 rfl ?_
  refine uBipush (pc := 13) (v := 9) hc dX4_init_13 (by decide) ?_
  refine uNewa (pc := 15) (kc := 1) (ks := 9) (r := 33) (N := 9) (ps := [(11, 4), (32, 0)]) hc rfl rfl (hz 33 rfl) (by decide) (by decide) (Nat.le_of_ble_eq_true rfl) (Nat.le_of_ble_eq_true rfl) (Nat.le_of_ble_eq_true rfl) (by decide +kernel) dX4_init_15 (fun ad15 h15 => ?_)
  have e15 : ad15 11 = ad 11 := (h15 11 (by decide)).trans e7
  refine uPutR (pc := 17) (k := 11) (i := 0) (msk := 4) (j := 3) (r := 33) (ps := [(11, 4), (32, 0), (33, 0)]) (ps2 := [(11, 12), (32, 0), (33, 0)]) hc hin rfl inG4 tyX4 tyX4_ok nmX4 rfl rfl (Nat.le_of_ble_eq_true rfl) tw_288 rfl rfl rfl (fun _ => rfl) (fun _ => rfl) e15 rfl rfl dX4_init_17 ?_
  refine uAload_n (pc := 20) hc dX4_init_20 rfl ?_
  refine uBipush (pc := 21) (v := 9) hc dX4_init_21 (by decide) ?_
  refine uNewa (pc := 23) (kc := 2) (ks := 18) (r := 34) (N := 9) (ps := [(11, 12), (32, 0), (33, 0)]) hc rfl rfl (hz 34 rfl) (by decide) (by decide) (Nat.le_of_ble_eq_true rfl) (Nat.le_of_ble_eq_true rfl) (Nat.le_of_ble_eq_true rfl) (by decide +kernel) dX4_init_23 (fun ad23 h23 => ?_)
  have e23 : ad23 11 = ad 11 := (h23 11 (by decide)).trans e15
  refine uPutR (pc := 25) (k := 11) (i := 0) (msk := 12) (j := 4) (r := 34) (ps := [(11, 12), (32, 0), (33, 0), (34, 0)]) (ps2 := [(11, 28), (32, 0), (33, 0), (34, 0)]) hc hin rfl inG4 tyX4 tyX4_ok nmX4 rfl rfl (Nat.le_of_ble_eq_true rfl) tw_289 rfl rfl rfl (fun _ => rfl) (fun _ => rfl) e23 rfl rfl dX4_init_25 ?_
  refine uAload_n (pc := 28) hc dX4_init_28 rfl ?_
  refine uBipush (pc := 29) (v := 9) hc dX4_init_29 (by decide) ?_
  refine uNewa (pc := 31) (kc := 3) (ks := 27) (r := 35) (N := 9) (ps := [(11, 28), (32, 0), (33, 0), (34, 0)]) hc rfl rfl (hz 35 rfl) (by decide) (by decide) (Nat.le_of_ble_eq_true rfl) (Nat.le_of_ble_eq_true rfl) (Nat.le_of_ble_eq_true rfl) (by decide +kernel) dX4_init_31 (fun ad31 h31 => ?_)
  have e31 : ad31 11 = ad 11 := (h31 11 (by decide)).trans e23
  refine uPutR (pc := 33) (k := 11) (i := 0) (msk := 28) (j := 5) (r := 35) (ps := [(11, 28), (32, 0), (33, 0), (34, 0), (35, 0)]) (ps2 := [(11, 60), (32, 0), (33, 0), (34, 0), (35, 0)]) hc hin rfl inG4 tyX4 tyX4_ok nmX4 rfl rfl (Nat.le_of_ble_eq_true rfl) tw_290 rfl rfl rfl (fun _ => rfl) (fun _ => rfl) e31 rfl rfl dX4_init_33 ?_
  refine uAload_n (pc := 36) hc dX4_init_36 rfl ?_
  refine uBipush (pc := 37) (v := 9) hc dX4_init_37 (by decide) ?_
  refine uNewa (pc := 39) (kc := 4) (ks := 36) (r := 36) (N := 9) (ps := [(11, 60), (32, 0), (33, 0), (34, 0), (35, 0)]) hc rfl rfl (hz 36 rfl) (by decide) (by decide) (Nat.le_of_ble_eq_true rfl) (Nat.le_of_ble_eq_true rfl) (Nat.le_of_ble_eq_true rfl) (by decide +kernel) dX4_init_39 (fun ad39 h39 => ?_)
  have e39 : ad39 11 = ad 11 := (h39 11 (by decide)).trans e31
  refine uPutR (pc := 41) (k := 11) (i := 0) (msk := 60) (j := 6) (r := 36) (ps := [(11, 60), (32, 0), (33, 0), (34, 0), (35, 0), (36, 0)]) (ps2 := [(11, 124), (32, 0), (33, 0), (34, 0), (35, 0), (36, 0)]) hc hin rfl inG4 tyX4 tyX4_ok nmX4 rfl rfl (Nat.le_of_ble_eq_true rfl) tw_291 rfl rfl rfl (fun _ => rfl) (fun _ => rfl) e39 rfl rfl dX4_init_41 ?_
  refine uAload_n (pc := 44) hc dX4_init_44 rfl ?_
  refine uIconst (pc := 45) (v := 0) hc dX4_init_45 (by decide) ?_
  refine uPut0 (pc := 46) (k := 11) (i := 0) (msk := 124) (j := 0) (ps := [(11, 124), (32, 0), (33, 0), (34, 0), (35, 0), (36, 0)]) hc rfl inG4 tyX4 tyX4_ok nmX4 rfl rfl (Nat.le_of_ble_eq_true rfl) tw_285 rfl rfl rfl rfl e39 (congrFun (hz 11 rfl) 0) dX4_init_46 ?_
  refine uAload_n (pc := 49) hc dX4_init_49 rfl ?_
  refine uIconst (pc := 50) (v := 0) hc dX4_init_50 (by decide) ?_
  refine uPut0 (pc := 51) (k := 11) (i := 0) (msk := 124) (j := 1) (ps := [(11, 124), (32, 0), (33, 0), (34, 0), (35, 0), (36, 0)]) hc rfl inG4 tyX4 tyX4_ok nmX4 rfl rfl (Nat.le_of_ble_eq_true rfl) tw_286 rfl rfl rfl rfl e39 (congrFun (hz 11 rfl) 1) dX4_init_51 ?_
  refine uRet (kc := 5) (ks := 45) (ps := [(11, 124), (32, 0), (33, 0), (34, 0), (35, 0), (36, 0)]) hc hr dX4_init_54 ?_
  exact ⟨fun x hx => (h39 x (ni hx (by decide +kernel))).trans ((h31 x (ni hx (by decide +kernel))).trans ((h23 x (ni hx (by decide +kernel))).trans ((h15 x (ni hx (by decide +kernel))).trans (h7 x (ni hx (by decide +kernel)))))), rfl⟩

set_option maxRecDepth 100000 in
set_option maxHeartbeats 4000000 in
theorem n_X1 {l : Launch} {G : va_G} {cid : Nat → ClassId} {ad : Nat → Nat} {σ : MS} (hz : ∀ k, ([30, 31] : List Nat).contains k = true → σ k = fun _ => 0) : ∀ sz, CN l G cid yX1_init cX1_init 2 rm_X1_init [.ref (ad 10), .ref (ad 9)] ad σ [(10, 0)] [(10, 7), (30, 0), (31, 0)] (fun u => (∀ x, x ∉ ([30, 31] : List Nat) → u.1 x = ad x) ∧ σ = u.2) 2 1024 sz := by
  intro sz
  refine CN_of (own := RX1) (by decide) rfl rfl (catR [_, _]) (Nat.le_of_ble_eq_true rfl) ?_
  intro p e s m below meth c A hc hin hr
  refine uAload_n (pc := 0) hc dX1_init_0 rfl ?_
  refine uObj (pc := 1) hc tw_268 ⟨Nat.le_of_ble_eq_true rfl, Nat.le_of_ble_eq_true rfl⟩ dX1_init_1 ?_
  refine uAload_n (pc := 4) hc dX1_init_4 rfl ?_
  refine uSipush (pc := 5) (v := 512) hc dX1_init_5 (by decide) ?_
  refine uNewa (pc := 8) (kc := 0) (ks := 0) (r := 30) (N := 512) (ps := [(10, 0)]) hc rfl rfl (hz 30 rfl) (by decide) (by decide) (Nat.le_of_ble_eq_true rfl) (Nat.le_of_ble_eq_true rfl) (Nat.le_of_ble_eq_true rfl) (by decide +kernel) dX1_init_8 (fun ad8 h8 => ?_)
  have e8 : ad8 10 = ad 10 := h8 10 (by decide)
  refine uPutR (pc := 10) (k := 10) (i := 0) (msk := 0) (j := 1) (r := 30) (ps := [(10, 0), (30, 0)]) (ps2 := [(10, 2), (30, 0)]) hc hin rfl inG1 tyX1 tyX1_ok nmX1 rfl rfl (Nat.le_of_ble_eq_true rfl) tw_270 rfl rfl rfl (fun _ => rfl) (fun _ => rfl) e8 rfl rfl dX1_init_10 ?_
  refine uAload_n (pc := 13) hc dX1_init_13 rfl ?_
  refine uSipush (pc := 14) (v := 512) hc dX1_init_14 (by decide) ?_
  refine uNewa (pc := 17) (kc := 1) (ks := 512) (r := 31) (N := 512) (ps := [(10, 2), (30, 0)]) hc rfl rfl (hz 31 rfl) (by decide) (by decide) (Nat.le_of_ble_eq_true rfl) (Nat.le_of_ble_eq_true rfl) (Nat.le_of_ble_eq_true rfl) (by decide +kernel) dX1_init_17 (fun ad17 h17 => ?_)
  have e17 : ad17 10 = ad 10 := (h17 10 (by decide)).trans e8
  refine uPutR (pc := 19) (k := 10) (i := 0) (msk := 2) (j := 2) (r := 31) (ps := [(10, 2), (30, 0), (31, 0)]) (ps2 := [(10, 6), (30, 0), (31, 0)]) hc hin rfl inG1 tyX1 tyX1_ok nmX1 rfl rfl (Nat.le_of_ble_eq_true rfl) tw_271 rfl rfl rfl (fun _ => rfl) (fun _ => rfl) e17 rfl rfl dX1_init_19 ?_
  refine uAload_n (pc := 22) hc dX1_init_22 rfl ?_
  refine uAload_n (pc := 23) hc dX1_init_23 rfl ?_
  refine uPutR (pc := 24) (k := 10) (i := 0) (msk := 6) (j := 0) (r := 9) (ps := [(10, 6), (30, 0), (31, 0)]) (ps2 := [(10, 7), (30, 0), (31, 0)]) hc hin rfl inG1 tyX1 tyX1_ok nmX1 rfl rfl (Nat.le_of_ble_eq_true rfl) tw_269 rfl rfl rfl (fun _ => rfl) (fun _ => rfl) e17 ((h17 9 (by decide)).trans (h8 9 (by decide))) rfl dX1_init_24 ?_
  refine uRet (kc := 2) (ks := 1024) (ps := [(10, 7), (30, 0), (31, 0)]) hc hr dX1_init_27 ?_
  exact ⟨fun x hx => (h17 x (ni hx (by decide +kernel))).trans (h8 x (ni hx (by decide +kernel))), rfl⟩

set_option maxRecDepth 100000 in
set_option maxHeartbeats 4000000 in
theorem n_X2 {l : Launch} {G : va_G} {cid : Nat → ClassId} {ad : Nat → Nat} {σ : MS} (hz : ∀ k, ([4, 5, 37, 38, 39, 40, 41, 42, 43, 44, 45] : List Nat).contains k = true → σ k = fun _ => 0) : ∀ sz, CN l G cid yX2_init cX2_init 2 rm_X2_init [.ref (ad 4)] ad σ [(4, 0)] [(4, 1), (5, 511), (37, 0), (38, 0), (39, 0), (40, 0), (41, 0), (42, 0), (43, 0), (44, 0), (45, 0)] (fun u => (∀ x, x ∉ ([5, 37, 38, 39, 40, 41, 42, 43, 44, 45] : List Nat) → u.1 x = ad x) ∧ σ = u.2) 10 108 sz := by
  intro sz
  refine CN_of (own := RX2) (by decide) rfl rfl (catR [_]) (Nat.le_of_ble_eq_true rfl) ?_
  intro p e s m below meth c A hc hin hr
  refine uAload_n (pc := 0) hc dX2_init_0 rfl ?_
  refine uObj (pc := 1) hc tw_105 ⟨Nat.le_of_ble_eq_true rfl, Nat.le_of_ble_eq_true rfl⟩ dX2_init_1 ?_
  refine uAload_n (pc := 4) hc dX2_init_4 rfl ?_
  refine uBipush (pc := 5) (v := 9) hc dX2_init_5 (by decide) ?_
  refine uAnew (pc := 7) (kc := 0) (ks := 0) (ps := [(4, 0)]) hc tw_106 (by decide) (by decide) (Nat.le_of_ble_eq_true rfl) (Nat.le_of_ble_eq_true rfl) (by decide +kernel) dX2_init_7 (fun ad7 h7 => ?_)
  have e7 : ad7 4 = ad 4 := h7 4 (by decide)
  refine uPutR (pc := 10) (k := 4) (i := 0) (msk := 0) (j := 0) (r := 5) (ps := [(4, 0), (5, 0)]) (ps2 := [(4, 1), (5, 0)]) hc hin rfl inG2 tyX2 tyX2_ok nmX2 rfl rfl (Nat.le_of_ble_eq_true rfl) tw_158 rfl rfl rfl (fun _ => rfl) (fun _ => rfl) e7 rfl rfl dX2_init_10 ?_
  refine uIconst (pc := 13) (v := 0) hc dX2_init_13 (by decide) ?_
  refine uIstore_n (pc := 14) (L2 := [some (.ref (ad 4)), some (.int 0)]) hc dX2_init_14 rfl (Nat.le_of_ble_eq_true rfl) ?_
  refine uIload_n (pc := 15) hc dX2_init_15 rfl ?_
  refine uBipush (pc := 16) (v := 9) hc dX2_init_16 (by decide) ?_
  refine uIcmp_ge (pc := 18) (tgt := 40) hc dX2_init_18 (by decide) (fun z => absurd z (by decide)) (fun _ => ?_)
  refine uAload_n (pc := 21) hc dX2_init_21 rfl ?_
  refine uGetR (pc := 22) (k := 4) (i := 0) (msk := 1) (j := 0) (r := 5) (ps := [(4, 1), (5, 0)]) hc rfl inG2 rfl rfl (Nat.le_of_ble_eq_true rfl) tw_158 rfl rfl e7 dX2_init_22 ?_
  refine uIload_n (pc := 25) hc dX2_init_25 rfl ?_
  refine uNew (pc := 26) (kc := 1) (ks := 9) (k := 37) (ps := [(4, 1), (5, 0)]) hc rfl inG3 tyX3 tyX3_ok tw_106 tw_108 tw_51 rfl (hz 37 rfl) (df3 ⟨by decide, by decide⟩) (Nat.le_of_ble_eq_true rfl) (Nat.le_of_ble_eq_true rfl) (by decide +kernel) dX2_init_26 (fun ad26 h26 => ?_)
  have e26 : ad26 4 = ad 4 := (h26 4 (by decide)).trans e7
  refine uDup (pc := 29) hc dX2_init_29 rfl ?_
  refine uCallN (pc := 30) (kc := 2) (ks := 20) (k := 37) (nw := []) (rest := [(4, 1), (5, 0)]) (ps := [(4, 1), (5, 0), (37, 0)]) (ps1 := [(37, 0)]) (ps2 := [(4, 1), (5, 0), (37, 0)]) (st := [.ref (ad26 37), .int 0, .ref (ad7 5)]) (As := []) (mc := 0) (ms := 0) hc ok_X3_init nw_0 (n_X3 37) (fun u hu => by subst hu; exact ⟨fun _ _ => rfl, fun _ _ => rfl⟩) rfl rfl (by decide +kernel) (by decide +kernel) rfl ⟨rfl, rfl⟩ ⟨Nat.le_of_ble_eq_true rfl, Nat.le_of_ble_eq_true rfl⟩ rfl rfl (Nat.le_of_ble_eq_true rfl) ⟨Nat.le_of_ble_eq_true rfl, Nat.le_of_ble_eq_true rfl⟩ dX2_init_30 (fun ad30 τ30 q30 => ?_)
  obtain ⟨rfl, rfl⟩ := Prod.mk.inj q30
  refine uAast (pc := 33) (i := 1) (i2 := 2) (msk := 0) (b := 0) (ps := [(4, 1), (5, 0), (37, 0)]) (ps2 := [(4, 1), (5, 1), (37, 0)]) hc rfl rfl rfl (Nat.le_of_ble_eq_true rfl) rfl (h26 5 (by decide)) rfl dX2_init_33 ?_
  refine uIinc (pc := 34) (v := 1) (L2 := [some (.ref (ad 4)), some (.int 1)]) hc dX2_init_34 rfl (by decide) rfl (Nat.le_of_ble_eq_true rfl) ?_
  refine uGoto (pc := 37) (tgt := 15) hc dX2_init_37 (by decide) ?_
  refine uIload_n (pc := 15) hc dX2_init_15 rfl ?_
  refine uBipush (pc := 16) (v := 9) hc dX2_init_16 (by decide) ?_
  refine uIcmp_ge (pc := 18) (tgt := 40) hc dX2_init_18 (by decide) (fun z => absurd z (by decide)) (fun _ => ?_)
  refine uAload_n (pc := 21) hc dX2_init_21 rfl ?_
  refine uGetR (pc := 22) (k := 4) (i := 0) (msk := 1) (j := 0) (r := 5) (ps := [(4, 1), (5, 1), (37, 0)]) hc rfl inG2 rfl rfl (Nat.le_of_ble_eq_true rfl) tw_158 rfl rfl e26 dX2_init_22 ?_
  refine uIload_n (pc := 25) hc dX2_init_25 rfl ?_
  refine uNew (pc := 26) (kc := 2) (ks := 20) (k := 38) (ps := [(4, 1), (5, 1), (37, 0)]) hc rfl inG3 tyX3 tyX3_ok tw_106 tw_108 tw_51 rfl (hz 38 rfl) (df3 ⟨by decide, by decide⟩) (Nat.le_of_ble_eq_true rfl) (Nat.le_of_ble_eq_true rfl) (by decide +kernel) dX2_init_26 (fun ad26_2 h26_2 => ?_)
  have e26_2 : ad26_2 4 = ad 4 := (h26_2 4 (by decide)).trans e26
  refine uDup (pc := 29) hc dX2_init_29 rfl ?_
  refine uCallN (pc := 30) (kc := 3) (ks := 31) (k := 38) (nw := []) (rest := [(4, 1), (5, 1), (37, 0)]) (ps := [(4, 1), (5, 1), (37, 0), (38, 0)]) (ps1 := [(38, 0)]) (ps2 := [(4, 1), (5, 1), (37, 0), (38, 0)]) (st := [.ref (ad26_2 38), .int 1, .ref (ad26 5)]) (As := []) (mc := 0) (ms := 0) hc ok_X3_init nw_0 (n_X3 38) (fun u hu => by subst hu; exact ⟨fun _ _ => rfl, fun _ _ => rfl⟩) rfl rfl (by decide +kernel) (by decide +kernel) rfl ⟨rfl, rfl⟩ ⟨Nat.le_of_ble_eq_true rfl, Nat.le_of_ble_eq_true rfl⟩ rfl rfl (Nat.le_of_ble_eq_true rfl) ⟨Nat.le_of_ble_eq_true rfl, Nat.le_of_ble_eq_true rfl⟩ dX2_init_30 (fun ad30_2 τ30_2 q30_2 => ?_)
  obtain ⟨rfl, rfl⟩ := Prod.mk.inj q30_2
  refine uAast (pc := 33) (i := 1) (i2 := 3) (msk := 1) (b := 1) (ps := [(4, 1), (5, 1), (37, 0), (38, 0)]) (ps2 := [(4, 1), (5, 3), (37, 0), (38, 0)]) hc rfl rfl rfl (Nat.le_of_ble_eq_true rfl) rfl (h26_2 5 (by decide)) rfl dX2_init_33 ?_
  refine uIinc (pc := 34) (v := 2) (L2 := [some (.ref (ad 4)), some (.int 2)]) hc dX2_init_34 rfl (by decide) rfl (Nat.le_of_ble_eq_true rfl) ?_
  refine uGoto (pc := 37) (tgt := 15) hc dX2_init_37 (by decide) ?_
  refine uIload_n (pc := 15) hc dX2_init_15 rfl ?_
  refine uBipush (pc := 16) (v := 9) hc dX2_init_16 (by decide) ?_
  refine uIcmp_ge (pc := 18) (tgt := 40) hc dX2_init_18 (by decide) (fun z => absurd z (by decide)) (fun _ => ?_)
  refine uAload_n (pc := 21) hc dX2_init_21 rfl ?_
  refine uGetR (pc := 22) (k := 4) (i := 0) (msk := 1) (j := 0) (r := 5) (ps := [(4, 1), (5, 3), (37, 0), (38, 0)]) hc rfl inG2 rfl rfl (Nat.le_of_ble_eq_true rfl) tw_158 rfl rfl e26_2 dX2_init_22 ?_
  refine uIload_n (pc := 25) hc dX2_init_25 rfl ?_
  refine uNew (pc := 26) (kc := 3) (ks := 31) (k := 39) (ps := [(4, 1), (5, 3), (37, 0), (38, 0)]) hc rfl inG3 tyX3 tyX3_ok tw_106 tw_108 tw_51 rfl (hz 39 rfl) (df3 ⟨by decide, by decide⟩) (Nat.le_of_ble_eq_true rfl) (Nat.le_of_ble_eq_true rfl) (by decide +kernel) dX2_init_26 (fun ad26_3 h26_3 => ?_)
  have e26_3 : ad26_3 4 = ad 4 := (h26_3 4 (by decide)).trans e26_2
  refine uDup (pc := 29) hc dX2_init_29 rfl ?_
  refine uCallN (pc := 30) (kc := 4) (ks := 42) (k := 39) (nw := []) (rest := [(4, 1), (5, 3), (37, 0), (38, 0)]) (ps := [(4, 1), (5, 3), (37, 0), (38, 0), (39, 0)]) (ps1 := [(39, 0)]) (ps2 := [(4, 1), (5, 3), (37, 0), (38, 0), (39, 0)]) (st := [.ref (ad26_3 39), .int 2, .ref (ad26_2 5)]) (As := []) (mc := 0) (ms := 0) hc ok_X3_init nw_0 (n_X3 39) (fun u hu => by subst hu; exact ⟨fun _ _ => rfl, fun _ _ => rfl⟩) rfl rfl (by decide +kernel) (by decide +kernel) rfl ⟨rfl, rfl⟩ ⟨Nat.le_of_ble_eq_true rfl, Nat.le_of_ble_eq_true rfl⟩ rfl rfl (Nat.le_of_ble_eq_true rfl) ⟨Nat.le_of_ble_eq_true rfl, Nat.le_of_ble_eq_true rfl⟩ dX2_init_30 (fun ad30_3 τ30_3 q30_3 => ?_)
  obtain ⟨rfl, rfl⟩ := Prod.mk.inj q30_3
  refine uAast (pc := 33) (i := 1) (i2 := 4) (msk := 3) (b := 2) (ps := [(4, 1), (5, 3), (37, 0), (38, 0), (39, 0)]) (ps2 := [(4, 1), (5, 7), (37, 0), (38, 0), (39, 0)]) hc rfl rfl rfl (Nat.le_of_ble_eq_true rfl) rfl (h26_3 5 (by decide)) rfl dX2_init_33 ?_
  refine uIinc (pc := 34) (v := 3) (L2 := [some (.ref (ad 4)), some (.int 3)]) hc dX2_init_34 rfl (by decide) rfl (Nat.le_of_ble_eq_true rfl) ?_
  refine uGoto (pc := 37) (tgt := 15) hc dX2_init_37 (by decide) ?_
  refine uIload_n (pc := 15) hc dX2_init_15 rfl ?_
  refine uBipush (pc := 16) (v := 9) hc dX2_init_16 (by decide) ?_
  refine uIcmp_ge (pc := 18) (tgt := 40) hc dX2_init_18 (by decide) (fun z => absurd z (by decide)) (fun _ => ?_)
  refine uAload_n (pc := 21) hc dX2_init_21 rfl ?_
  refine uGetR (pc := 22) (k := 4) (i := 0) (msk := 1) (j := 0) (r := 5) (ps := [(4, 1), (5, 7), (37, 0), (38, 0), (39, 0)]) hc rfl inG2 rfl rfl (Nat.le_of_ble_eq_true rfl) tw_158 rfl rfl e26_3 dX2_init_22 ?_
  refine uIload_n (pc := 25) hc dX2_init_25 rfl ?_
  refine uNew (pc := 26) (kc := 4) (ks := 42) (k := 40) (ps := [(4, 1), (5, 7), (37, 0), (38, 0), (39, 0)]) hc rfl inG3 tyX3 tyX3_ok tw_106 tw_108 tw_51 rfl (hz 40 rfl) (df3 ⟨by decide, by decide⟩) (Nat.le_of_ble_eq_true rfl) (Nat.le_of_ble_eq_true rfl) (by decide +kernel) dX2_init_26 (fun ad26_4 h26_4 => ?_)
  have e26_4 : ad26_4 4 = ad 4 := (h26_4 4 (by decide)).trans e26_3
  refine uDup (pc := 29) hc dX2_init_29 rfl ?_
  refine uCallN (pc := 30) (kc := 5) (ks := 53) (k := 40) (nw := []) (rest := [(4, 1), (5, 7), (37, 0), (38, 0), (39, 0)]) (ps := [(4, 1), (5, 7), (37, 0), (38, 0), (39, 0), (40, 0)]) (ps1 := [(40, 0)]) (ps2 := [(4, 1), (5, 7), (37, 0), (38, 0), (39, 0), (40, 0)]) (st := [.ref (ad26_4 40), .int 3, .ref (ad26_3 5)]) (As := []) (mc := 0) (ms := 0) hc ok_X3_init nw_0 (n_X3 40) (fun u hu => by subst hu; exact ⟨fun _ _ => rfl, fun _ _ => rfl⟩) rfl rfl (by decide +kernel) (by decide +kernel) rfl ⟨rfl, rfl⟩ ⟨Nat.le_of_ble_eq_true rfl, Nat.le_of_ble_eq_true rfl⟩ rfl rfl (Nat.le_of_ble_eq_true rfl) ⟨Nat.le_of_ble_eq_true rfl, Nat.le_of_ble_eq_true rfl⟩ dX2_init_30 (fun ad30_4 τ30_4 q30_4 => ?_)
  obtain ⟨rfl, rfl⟩ := Prod.mk.inj q30_4
  refine uAast (pc := 33) (i := 1) (i2 := 5) (msk := 7) (b := 3) (ps := [(4, 1), (5, 7), (37, 0), (38, 0), (39, 0), (40, 0)]) (ps2 := [(4, 1), (5, 15), (37, 0), (38, 0), (39, 0), (40, 0)]) hc rfl rfl rfl (Nat.le_of_ble_eq_true rfl) rfl (h26_4 5 (by decide)) rfl dX2_init_33 ?_
  refine uIinc (pc := 34) (v := 4) (L2 := [some (.ref (ad 4)), some (.int 4)]) hc dX2_init_34 rfl (by decide) rfl (Nat.le_of_ble_eq_true rfl) ?_
  refine uGoto (pc := 37) (tgt := 15) hc dX2_init_37 (by decide) ?_
  refine uIload_n (pc := 15) hc dX2_init_15 rfl ?_
  refine uBipush (pc := 16) (v := 9) hc dX2_init_16 (by decide) ?_
  refine uIcmp_ge (pc := 18) (tgt := 40) hc dX2_init_18 (by decide) (fun z => absurd z (by decide)) (fun _ => ?_)
  refine uAload_n (pc := 21) hc dX2_init_21 rfl ?_
  refine uGetR (pc := 22) (k := 4) (i := 0) (msk := 1) (j := 0) (r := 5) (ps := [(4, 1), (5, 15), (37, 0), (38, 0), (39, 0), (40, 0)]) hc rfl inG2 rfl rfl (Nat.le_of_ble_eq_true rfl) tw_158 rfl rfl e26_4 dX2_init_22 ?_
  refine uIload_n (pc := 25) hc dX2_init_25 rfl ?_
  refine uNew (pc := 26) (kc := 5) (ks := 53) (k := 41) (ps := [(4, 1), (5, 15), (37, 0), (38, 0), (39, 0), (40, 0)]) hc rfl inG3 tyX3 tyX3_ok tw_106 tw_108 tw_51 rfl (hz 41 rfl) (df3 ⟨by decide, by decide⟩) (Nat.le_of_ble_eq_true rfl) (Nat.le_of_ble_eq_true rfl) (by decide +kernel) dX2_init_26 (fun ad26_5 h26_5 => ?_)
  have e26_5 : ad26_5 4 = ad 4 := (h26_5 4 (by decide)).trans e26_4
  refine uDup (pc := 29) hc dX2_init_29 rfl ?_
  refine uCallN (pc := 30) (kc := 6) (ks := 64) (k := 41) (nw := []) (rest := [(4, 1), (5, 15), (37, 0), (38, 0), (39, 0), (40, 0)]) (ps := [(4, 1), (5, 15), (37, 0), (38, 0), (39, 0), (40, 0), (41, 0)]) (ps1 := [(41, 0)]) (ps2 := [(4, 1), (5, 15), (37, 0), (38, 0), (39, 0), (40, 0), (41, 0)]) (st := [.ref (ad26_5 41), .int 4, .ref (ad26_4 5)]) (As := []) (mc := 0) (ms := 0) hc ok_X3_init nw_0 (n_X3 41) (fun u hu => by subst hu; exact ⟨fun _ _ => rfl, fun _ _ => rfl⟩) rfl rfl (by decide +kernel) (by decide +kernel) rfl ⟨rfl, rfl⟩ ⟨Nat.le_of_ble_eq_true rfl, Nat.le_of_ble_eq_true rfl⟩ rfl rfl (Nat.le_of_ble_eq_true rfl) ⟨Nat.le_of_ble_eq_true rfl, Nat.le_of_ble_eq_true rfl⟩ dX2_init_30 (fun ad30_5 τ30_5 q30_5 => ?_)
  obtain ⟨rfl, rfl⟩ := Prod.mk.inj q30_5
  refine uAast (pc := 33) (i := 1) (i2 := 6) (msk := 15) (b := 4) (ps := [(4, 1), (5, 15), (37, 0), (38, 0), (39, 0), (40, 0), (41, 0)]) (ps2 := [(4, 1), (5, 31), (37, 0), (38, 0), (39, 0), (40, 0), (41, 0)]) hc rfl rfl rfl (Nat.le_of_ble_eq_true rfl) rfl (h26_5 5 (by decide)) rfl dX2_init_33 ?_
  refine uIinc (pc := 34) (v := 5) (L2 := [some (.ref (ad 4)), some (.int 5)]) hc dX2_init_34 rfl (by decide) rfl (Nat.le_of_ble_eq_true rfl) ?_
  refine uGoto (pc := 37) (tgt := 15) hc dX2_init_37 (by decide) ?_
  refine uIload_n (pc := 15) hc dX2_init_15 rfl ?_
  refine uBipush (pc := 16) (v := 9) hc dX2_init_16 (by decide) ?_
  refine uIcmp_ge (pc := 18) (tgt := 40) hc dX2_init_18 (by decide) (fun z => absurd z (by decide)) (fun _ => ?_)
  refine uAload_n (pc := 21) hc dX2_init_21 rfl ?_
  refine uGetR (pc := 22) (k := 4) (i := 0) (msk := 1) (j := 0) (r := 5) (ps := [(4, 1), (5, 31), (37, 0), (38, 0), (39, 0), (40, 0), (41, 0)]) hc rfl inG2 rfl rfl (Nat.le_of_ble_eq_true rfl) tw_158 rfl rfl e26_5 dX2_init_22 ?_
  refine uIload_n (pc := 25) hc dX2_init_25 rfl ?_
  refine uNew (pc := 26) (kc := 6) (ks := 64) (k := 42) (ps := [(4, 1), (5, 31), (37, 0), (38, 0), (39, 0), (40, 0), (41, 0)]) hc rfl inG3 tyX3 tyX3_ok tw_106 tw_108 tw_51 rfl (hz 42 rfl) (df3 ⟨by decide, by decide⟩) (Nat.le_of_ble_eq_true rfl) (Nat.le_of_ble_eq_true rfl) (by decide +kernel) dX2_init_26 (fun ad26_6 h26_6 => ?_)
  have e26_6 : ad26_6 4 = ad 4 := (h26_6 4 (by decide)).trans e26_5
  refine uDup (pc := 29) hc dX2_init_29 rfl ?_
  refine uCallN (pc := 30) (kc := 7) (ks := 75) (k := 42) (nw := []) (rest := [(4, 1), (5, 31), (37, 0), (38, 0), (39, 0), (40, 0), (41, 0)]) (ps := [(4, 1), (5, 31), (37, 0), (38, 0), (39, 0), (40, 0), (41, 0), (42, 0)]) (ps1 := [(42, 0)]) (ps2 := [(4, 1), (5, 31), (37, 0), (38, 0), (39, 0), (40, 0), (41, 0), (42, 0)]) (st := [.ref (ad26_6 42), .int 5, .ref (ad26_5 5)]) (As := []) (mc := 0) (ms := 0) hc ok_X3_init nw_0 (n_X3 42) (fun u hu => by subst hu; exact ⟨fun _ _ => rfl, fun _ _ => rfl⟩) rfl rfl (by decide +kernel) (by decide +kernel) rfl ⟨rfl, rfl⟩ ⟨Nat.le_of_ble_eq_true rfl, Nat.le_of_ble_eq_true rfl⟩ rfl rfl (Nat.le_of_ble_eq_true rfl) ⟨Nat.le_of_ble_eq_true rfl, Nat.le_of_ble_eq_true rfl⟩ dX2_init_30 (fun ad30_6 τ30_6 q30_6 => ?_)
  obtain ⟨rfl, rfl⟩ := Prod.mk.inj q30_6
  refine uAast (pc := 33) (i := 1) (i2 := 7) (msk := 31) (b := 5) (ps := [(4, 1), (5, 31), (37, 0), (38, 0), (39, 0), (40, 0), (41, 0), (42, 0)]) (ps2 := [(4, 1), (5, 63), (37, 0), (38, 0), (39, 0), (40, 0), (41, 0), (42, 0)]) hc rfl rfl rfl (Nat.le_of_ble_eq_true rfl) rfl (h26_6 5 (by decide)) rfl dX2_init_33 ?_
  refine uIinc (pc := 34) (v := 6) (L2 := [some (.ref (ad 4)), some (.int 6)]) hc dX2_init_34 rfl (by decide) rfl (Nat.le_of_ble_eq_true rfl) ?_
  refine uGoto (pc := 37) (tgt := 15) hc dX2_init_37 (by decide) ?_
  refine uIload_n (pc := 15) hc dX2_init_15 rfl ?_
  refine uBipush (pc := 16) (v := 9) hc dX2_init_16 (by decide) ?_
  refine uIcmp_ge (pc := 18) (tgt := 40) hc dX2_init_18 (by decide) (fun z => absurd z (by decide)) (fun _ => ?_)
  refine uAload_n (pc := 21) hc dX2_init_21 rfl ?_
  refine uGetR (pc := 22) (k := 4) (i := 0) (msk := 1) (j := 0) (r := 5) (ps := [(4, 1), (5, 63), (37, 0), (38, 0), (39, 0), (40, 0), (41, 0), (42, 0)]) hc rfl inG2 rfl rfl (Nat.le_of_ble_eq_true rfl) tw_158 rfl rfl e26_6 dX2_init_22 ?_
  refine uIload_n (pc := 25) hc dX2_init_25 rfl ?_
  refine uNew (pc := 26) (kc := 7) (ks := 75) (k := 43) (ps := [(4, 1), (5, 63), (37, 0), (38, 0), (39, 0), (40, 0), (41, 0), (42, 0)]) hc rfl inG3 tyX3 tyX3_ok tw_106 tw_108 tw_51 rfl (hz 43 rfl) (df3 ⟨by decide, by decide⟩) (Nat.le_of_ble_eq_true rfl) (Nat.le_of_ble_eq_true rfl) (by decide +kernel) dX2_init_26 (fun ad26_7 h26_7 => ?_)
  have e26_7 : ad26_7 4 = ad 4 := (h26_7 4 (by decide)).trans e26_6
  refine uDup (pc := 29) hc dX2_init_29 rfl ?_
  refine uCallN (pc := 30) (kc := 8) (ks := 86) (k := 43) (nw := []) (rest := [(4, 1), (5, 63), (37, 0), (38, 0), (39, 0), (40, 0), (41, 0), (42, 0)]) (ps := [(4, 1), (5, 63), (37, 0), (38, 0), (39, 0), (40, 0), (41, 0), (42, 0), (43, 0)]) (ps1 := [(43, 0)]) (ps2 := [(4, 1), (5, 63), (37, 0), (38, 0), (39, 0), (40, 0), (41, 0), (42, 0), (43, 0)]) (st := [.ref (ad26_7 43), .int 6, .ref (ad26_6 5)]) (As := []) (mc := 0) (ms := 0) hc ok_X3_init nw_0 (n_X3 43) (fun u hu => by subst hu; exact ⟨fun _ _ => rfl, fun _ _ => rfl⟩) rfl rfl (by decide +kernel) (by decide +kernel) rfl ⟨rfl, rfl⟩ ⟨Nat.le_of_ble_eq_true rfl, Nat.le_of_ble_eq_true rfl⟩ rfl rfl (Nat.le_of_ble_eq_true rfl) ⟨Nat.le_of_ble_eq_true rfl, Nat.le_of_ble_eq_true rfl⟩ dX2_init_30 (fun ad30_7 τ30_7 q30_7 => ?_)
  obtain ⟨rfl, rfl⟩ := Prod.mk.inj q30_7
  refine uAast (pc := 33) (i := 1) (i2 := 8) (msk := 63) (b := 6) (ps := [(4, 1), (5, 63), (37, 0), (38, 0), (39, 0), (40, 0), (41, 0), (42, 0), (43, 0)]) (ps2 := [(4, 1), (5, 127), (37, 0), (38, 0), (39, 0), (40, 0), (41, 0), (42, 0), (43, 0)]) hc rfl rfl rfl (Nat.le_of_ble_eq_true rfl) rfl (h26_7 5 (by decide)) rfl dX2_init_33 ?_
  refine uIinc (pc := 34) (v := 7) (L2 := [some (.ref (ad 4)), some (.int 7)]) hc dX2_init_34 rfl (by decide) rfl (Nat.le_of_ble_eq_true rfl) ?_
  refine uGoto (pc := 37) (tgt := 15) hc dX2_init_37 (by decide) ?_
  refine uIload_n (pc := 15) hc dX2_init_15 rfl ?_
  refine uBipush (pc := 16) (v := 9) hc dX2_init_16 (by decide) ?_
  refine uIcmp_ge (pc := 18) (tgt := 40) hc dX2_init_18 (by decide) (fun z => absurd z (by decide)) (fun _ => ?_)
  refine uAload_n (pc := 21) hc dX2_init_21 rfl ?_
  refine uGetR (pc := 22) (k := 4) (i := 0) (msk := 1) (j := 0) (r := 5) (ps := [(4, 1), (5, 127), (37, 0), (38, 0), (39, 0), (40, 0), (41, 0), (42, 0), (43, 0)]) hc rfl inG2 rfl rfl (Nat.le_of_ble_eq_true rfl) tw_158 rfl rfl e26_7 dX2_init_22 ?_
  refine uIload_n (pc := 25) hc dX2_init_25 rfl ?_
  refine uNew (pc := 26) (kc := 8) (ks := 86) (k := 44) (ps := [(4, 1), (5, 127), (37, 0), (38, 0), (39, 0), (40, 0), (41, 0), (42, 0), (43, 0)]) hc rfl inG3 tyX3 tyX3_ok tw_106 tw_108 tw_51 rfl (hz 44 rfl) (df3 ⟨by decide, by decide⟩) (Nat.le_of_ble_eq_true rfl) (Nat.le_of_ble_eq_true rfl) (by decide +kernel) dX2_init_26 (fun ad26_8 h26_8 => ?_)
  have e26_8 : ad26_8 4 = ad 4 := (h26_8 4 (by decide)).trans e26_7
  refine uDup (pc := 29) hc dX2_init_29 rfl ?_
  refine uCallN (pc := 30) (kc := 9) (ks := 97) (k := 44) (nw := []) (rest := [(4, 1), (5, 127), (37, 0), (38, 0), (39, 0), (40, 0), (41, 0), (42, 0), (43, 0)]) (ps := [(4, 1), (5, 127), (37, 0), (38, 0), (39, 0), (40, 0), (41, 0), (42, 0), (43, 0), (44, 0)]) (ps1 := [(44, 0)]) (ps2 := [(4, 1), (5, 127), (37, 0), (38, 0), (39, 0), (40, 0), (41, 0), (42, 0), (43, 0), (44, 0)]) (st := [.ref (ad26_8 44), .int 7, .ref (ad26_7 5)]) (As := []) (mc := 0) (ms := 0) hc ok_X3_init nw_0 (n_X3 44) (fun u hu => by subst hu; exact ⟨fun _ _ => rfl, fun _ _ => rfl⟩) rfl rfl (by decide +kernel) (by decide +kernel) rfl ⟨rfl, rfl⟩ ⟨Nat.le_of_ble_eq_true rfl, Nat.le_of_ble_eq_true rfl⟩ rfl rfl (Nat.le_of_ble_eq_true rfl) ⟨Nat.le_of_ble_eq_true rfl, Nat.le_of_ble_eq_true rfl⟩ dX2_init_30 (fun ad30_8 τ30_8 q30_8 => ?_)
  obtain ⟨rfl, rfl⟩ := Prod.mk.inj q30_8
  refine uAast (pc := 33) (i := 1) (i2 := 9) (msk := 127) (b := 7) (ps := [(4, 1), (5, 127), (37, 0), (38, 0), (39, 0), (40, 0), (41, 0), (42, 0), (43, 0), (44, 0)]) (ps2 := [(4, 1), (5, 255), (37, 0), (38, 0), (39, 0), (40, 0), (41, 0), (42, 0), (43, 0), (44, 0)]) hc rfl rfl rfl (Nat.le_of_ble_eq_true rfl) rfl (h26_8 5 (by decide)) rfl dX2_init_33 ?_
  refine uIinc (pc := 34) (v := 8) (L2 := [some (.ref (ad 4)), some (.int 8)]) hc dX2_init_34 rfl (by decide) rfl (Nat.le_of_ble_eq_true rfl) ?_
  refine uGoto (pc := 37) (tgt := 15) hc dX2_init_37 (by decide) ?_
  refine uIload_n (pc := 15) hc dX2_init_15 rfl ?_
  refine uBipush (pc := 16) (v := 9) hc dX2_init_16 (by decide) ?_
  refine uIcmp_ge (pc := 18) (tgt := 40) hc dX2_init_18 (by decide) (fun z => absurd z (by decide)) (fun _ => ?_)
  refine uAload_n (pc := 21) hc dX2_init_21 rfl ?_
  refine uGetR (pc := 22) (k := 4) (i := 0) (msk := 1) (j := 0) (r := 5) (ps := [(4, 1), (5, 255), (37, 0), (38, 0), (39, 0), (40, 0), (41, 0), (42, 0), (43, 0), (44, 0)]) hc rfl inG2 rfl rfl (Nat.le_of_ble_eq_true rfl) tw_158 rfl rfl e26_8 dX2_init_22 ?_
  refine uIload_n (pc := 25) hc dX2_init_25 rfl ?_
  refine uNew (pc := 26) (kc := 9) (ks := 97) (k := 45) (ps := [(4, 1), (5, 255), (37, 0), (38, 0), (39, 0), (40, 0), (41, 0), (42, 0), (43, 0), (44, 0)]) hc rfl inG3 tyX3 tyX3_ok tw_106 tw_108 tw_51 rfl (hz 45 rfl) (df3 ⟨by decide, by decide⟩) (Nat.le_of_ble_eq_true rfl) (Nat.le_of_ble_eq_true rfl) (by decide +kernel) dX2_init_26 (fun ad26_9 h26_9 => ?_)
  have e26_9 : ad26_9 4 = ad 4 := (h26_9 4 (by decide)).trans e26_8
  refine uDup (pc := 29) hc dX2_init_29 rfl ?_
  refine uCallN (pc := 30) (kc := 10) (ks := 108) (k := 45) (nw := []) (rest := [(4, 1), (5, 255), (37, 0), (38, 0), (39, 0), (40, 0), (41, 0), (42, 0), (43, 0), (44, 0)]) (ps := [(4, 1), (5, 255), (37, 0), (38, 0), (39, 0), (40, 0), (41, 0), (42, 0), (43, 0), (44, 0), (45, 0)]) (ps1 := [(45, 0)]) (ps2 := [(4, 1), (5, 255), (37, 0), (38, 0), (39, 0), (40, 0), (41, 0), (42, 0), (43, 0), (44, 0), (45, 0)]) (st := [.ref (ad26_9 45), .int 8, .ref (ad26_8 5)]) (As := []) (mc := 0) (ms := 0) hc ok_X3_init nw_0 (n_X3 45) (fun u hu => by subst hu; exact ⟨fun _ _ => rfl, fun _ _ => rfl⟩) rfl rfl (by decide +kernel) (by decide +kernel) rfl ⟨rfl, rfl⟩ ⟨Nat.le_of_ble_eq_true rfl, Nat.le_of_ble_eq_true rfl⟩ rfl rfl (Nat.le_of_ble_eq_true rfl) ⟨Nat.le_of_ble_eq_true rfl, Nat.le_of_ble_eq_true rfl⟩ dX2_init_30 (fun ad30_9 τ30_9 q30_9 => ?_)
  obtain ⟨rfl, rfl⟩ := Prod.mk.inj q30_9
  refine uAast (pc := 33) (i := 1) (i2 := 10) (msk := 255) (b := 8) (ps := [(4, 1), (5, 255), (37, 0), (38, 0), (39, 0), (40, 0), (41, 0), (42, 0), (43, 0), (44, 0), (45, 0)]) (ps2 := [(4, 1), (5, 511), (37, 0), (38, 0), (39, 0), (40, 0), (41, 0), (42, 0), (43, 0), (44, 0), (45, 0)]) hc rfl rfl rfl (Nat.le_of_ble_eq_true rfl) rfl (h26_9 5 (by decide)) rfl dX2_init_33 ?_
  refine uIinc (pc := 34) (v := 9) (L2 := [some (.ref (ad 4)), some (.int 9)]) hc dX2_init_34 rfl (by decide) rfl (Nat.le_of_ble_eq_true rfl) ?_
  refine uGoto (pc := 37) (tgt := 15) hc dX2_init_37 (by decide) ?_
  refine uIload_n (pc := 15) hc dX2_init_15 rfl ?_
  refine uBipush (pc := 16) (v := 9) hc dX2_init_16 (by decide) ?_
  refine uIcmp_ge (pc := 18) (tgt := 40) hc dX2_init_18 (by decide) (fun _ => ?_) (fun z => absurd (by decide) z)
  refine uAload_n (pc := 40) hc dX2_init_40 rfl ?_
  refine uIconst (pc := 41) (v := 0) hc dX2_init_41 (by decide) ?_
  refine uPut0 (pc := 42) (k := 4) (i := 0) (msk := 1) (j := 1) (ps := [(4, 1), (5, 511), (37, 0), (38, 0), (39, 0), (40, 0), (41, 0), (42, 0), (43, 0), (44, 0), (45, 0)]) hc rfl inG2 tyX2 tyX2_ok nmX2 rfl rfl (Nat.le_of_ble_eq_true rfl) tw_159 rfl rfl rfl rfl e26_9 (congrFun (hz 4 rfl) 1) dX2_init_42 ?_
  refine uRet (kc := 10) (ks := 108) (ps := [(4, 1), (5, 511), (37, 0), (38, 0), (39, 0), (40, 0), (41, 0), (42, 0), (43, 0), (44, 0), (45, 0)]) hc hr dX2_init_45 ?_
  exact ⟨fun x hx => (h26_9 x (ni hx (by decide +kernel))).trans ((h26_8 x (ni hx (by decide +kernel))).trans ((h26_7 x (ni hx (by decide +kernel))).trans ((h26_6 x (ni hx (by decide +kernel))).trans ((h26_5 x (ni hx (by decide +kernel))).trans ((h26_4 x (ni hx (by decide +kernel))).trans ((h26_3 x (ni hx (by decide +kernel))).trans ((h26_2 x (ni hx (by decide +kernel))).trans ((h26 x (ni hx (by decide +kernel))).trans (h7 x (ni hx (by decide +kernel))))))))))), rfl⟩

theorem vL {p : Program} {l : Launch} {e : Env} {R : Room} {s : State} {m : MethodId} {args : Array Value} {below : List Frame} {meth : Method} {c : Code} {E : WD} {A : Nat → Prop} {nL kc ks : Nat} {Q : State → Prop} {σ : MS} {pc : Nat} {L L2 : List (Option Value)} {st : List Value} (h : L2 = L) (k : V p l e R s m args below meth c E A nL kc ks Q σ pc L2 st) : V p l e R s m args below meth c E A nL kc ks Q σ pc L st := h ▸ k
def p0 (k : Nat) : Bool := k == 28
def p7 (k : Nat) : Bool := k == 8
def p5 (k : Nat) : Bool := decide (46 ≤ k) && decide (k < 66)
def x0 (σ : MS) : Prop := ∀ j, j < 512 → σ 28 j = -1
def x5 (σ : MS) : Prop := (∀ a b, a < 10 → b < 10 → σ (46 + a) b = Mi0 a b) ∧ AGc (fwM Mi0 10) σ
set_option maxRecDepth 100000 in
set_option maxHeartbeats 4000000 in
theorem n_X0 {l : Launch} {G : va_G} {cid : Nat → ClassId} {ad : Nat → Nat} {σ : MS} (hz : ∀ k, ([28, 29] : List Nat).contains k = true → σ k = fun _ => 0) : ∀ sz, CN l G cid yX0_init cX0_init 2 rm_X0_init [.ref (ad 9), .ref (ad 6)] ad σ [(9, 0)] [(9, 7), (28, 0), (29, 0)] (fun u => (∀ x, x ∉ ([28, 29] : List Nat) → u.1 x = ad x) ∧ (∀ k j, p0 k = false → u.2 k j = σ k j) ∧ x0 u.2) 2 1024 sz := by
  intro sz
  refine CN_of (own := RX0) (by decide) rfl rfl (catR [_, _]) (Nat.le_of_ble_eq_true rfl) ?_
  intro p e s m below meth c A hc hin hr
  refine uAload_n (pc := 0) hc dX0_init_0 rfl ?_
  refine uObj (pc := 1) hc tw_251 ⟨Nat.le_of_ble_eq_true rfl, Nat.le_of_ble_eq_true rfl⟩ dX0_init_1 ?_
  refine uAload_n (pc := 4) hc dX0_init_4 rfl ?_
  refine uSipush (pc := 5) (v := 512) hc dX0_init_5 (by decide) ?_
  refine uNewa (pc := 8) (kc := 0) (ks := 0) (r := 28) (N := 512) (ps := [(9, 0)]) hc rfl rfl (hz 28 rfl) (by decide) (by decide) (Nat.le_of_ble_eq_true rfl) (Nat.le_of_ble_eq_true rfl) (Nat.le_of_ble_eq_true rfl) (by decide +kernel) dX0_init_8 (fun ad8 h8 => ?_)
  have e8 : ad8 9 = ad 9 := h8 9 (by decide)
  refine uPutR (pc := 10) (k := 9) (i := 0) (msk := 0) (j := 1) (r := 28) (ps := [(9, 0), (28, 0)]) (ps2 := [(9, 2), (28, 0)]) hc hin rfl inG0 tyX0 tyX0_ok nmX0 rfl rfl (Nat.le_of_ble_eq_true rfl) tw_254 rfl rfl rfl (fun _ => rfl) (fun _ => rfl) e8 rfl rfl dX0_init_10 ?_
  refine uAload_n (pc := 13) hc dX0_init_13 rfl ?_
  refine uSipush (pc := 14) (v := 512) hc dX0_init_14 (by decide) ?_
  refine uNewa (pc := 17) (kc := 1) (ks := 512) (r := 29) (N := 512) (ps := [(9, 2), (28, 0)]) hc rfl rfl (hz 29 rfl) (by decide) (by decide) (Nat.le_of_ble_eq_true rfl) (Nat.le_of_ble_eq_true rfl) (Nat.le_of_ble_eq_true rfl) (by decide +kernel) dX0_init_17 (fun ad17 h17 => ?_)
  have e17 : ad17 9 = ad 9 := (h17 9 (by decide)).trans e8
  refine uPutR (pc := 19) (k := 9) (i := 0) (msk := 2) (j := 2) (r := 29) (ps := [(9, 2), (28, 0), (29, 0)]) (ps2 := [(9, 6), (28, 0), (29, 0)]) hc hin rfl inG0 tyX0 tyX0_ok nmX0 rfl rfl (Nat.le_of_ble_eq_true rfl) tw_255 rfl rfl rfl (fun _ => rfl) (fun _ => rfl) e17 rfl rfl dX0_init_19 ?_
  refine uAload_n (pc := 22) hc dX0_init_22 rfl ?_
  refine uAload_n (pc := 23) hc dX0_init_23 rfl ?_
  refine uPutR (pc := 24) (k := 9) (i := 0) (msk := 6) (j := 0) (r := 6) (ps := [(9, 6), (28, 0), (29, 0)]) (ps2 := [(9, 7), (28, 0), (29, 0)]) hc hin rfl inG0 tyX0 tyX0_ok nmX0 rfl rfl (Nat.le_of_ble_eq_true rfl) tw_253 rfl rfl rfl (fun _ => rfl) (fun _ => rfl) e17 ((h17 6 (by decide)).trans (h8 6 (by decide))) rfl dX0_init_24 ?_
  refine uV (dm := cdm) (kc := 2) (ks := 1024) (ps := [(9, 7), (28, 0), (29, 0)]) hc hr (by decide +kernel) (by decide +kernel) ⟨Nat.le_of_ble_eq_true rfl, Nat.le_of_ble_eq_true rfl⟩ (fun k hk => by rcases hk with rfl | rfl <;> decide) (fun E hE hC => ?_)
  subst hE
  refine vL (L2 := [some (.ref (ad17 9)), some (.ref (ad 6))]) (by rw [e17]; first | done | rfl) ?_
  refine vMono (L2 := [some (.ref (ad17 9)), none]) (show subL _ _ from ⟨rfl, trivial⟩) ?_
  have hx : ∀ x, x ∉ ([28, 29] : List Nat) → ad17 x = ad x := fun x hx => (h17 x (ni hx (by decide +kernel))).trans (h8 x (ni hx (by decide +kernel)))
  exact t_X0_init_T hC (fun σ3 L3 hq => vRetN hc rfl hC (by decide +kernel) dX0_init_35 hq) _ (costsT (fun σ4 f1 f2 => ⟨hx, fun k j hk => f1 k j (by simpa [p0] using hk), f2⟩))

theorem zrow46 {i : Nat} (hi : i < 10) : ([46, 47, 48, 49, 50, 51, 52, 53, 54, 55, 56, 57, 58, 59, 60, 61, 62, 63, 64, 65] : List Nat).contains (46 + i) = true := (of_decide_eq_true (all_lt (by decide +kernel : (List.range 10).all (fun i => decide (([46, 47, 48, 49, 50, 51, 52, 53, 54, 55, 56, 57, 58, 59, 60, 61, 62, 63, 64, 65] : List Nat).contains (46 + i) = true)) = true) i hi))
theorem zrow56 {i : Nat} (hi : i < 10) : ([46, 47, 48, 49, 50, 51, 52, 53, 54, 55, 56, 57, 58, 59, 60, 61, 62, 63, 64, 65] : List Nat).contains (56 + i) = true := (of_decide_eq_true (all_lt (by decide +kernel : (List.range 10).all (fun i => decide (([46, 47, 48, 49, 50, 51, 52, 53, 54, 55, 56, 57, 58, 59, 60, 61, 62, 63, 64, 65] : List Nat).contains (56 + i) = true)) = true) i hi))
theorem rdm_in : ∀ k, rdm k → k ∈ ([(1, 3), (2, 0), (46, 0), (47, 0), (48, 0), (49, 0), (50, 0), (51, 0), (52, 0), (53, 0), (54, 0), (55, 0), (3, 0), (56, 0), (57, 0), (58, 0), (59, 0), (60, 0), (61, 0), (62, 0), (63, 0), (64, 0), (65, 0)] : List (Nat × Nat)).map (fun q => q.1) := fun k hk => of_decide_eq_true (all_lt (by decide +kernel : (List.range 66).all (fun k => decide (rdm k → k ∈ ([(1, 3), (2, 0), (46, 0), (47, 0), (48, 0), (49, 0), (50, 0), (51, 0), (52, 0), (53, 0), (54, 0), (55, 0), (3, 0), (56, 0), (57, 0), (58, 0), (59, 0), (60, 0), (61, 0), (62, 0), (63, 0), (64, 0), (65, 0)] : List (Nat × Nat)).map (fun q => q.1))) = true) k (by unfold rdm at hk; omega)) hk
set_option maxRecDepth 100000 in
set_option maxHeartbeats 4000000 in
theorem n_X5 {l : Launch} {G : va_G} {cid : Nat → ClassId} {ad : Nat → Nat} {σ : MS} (hz : ∀ k, ([46, 47, 48, 49, 50, 51, 52, 53, 54, 55, 56, 57, 58, 59, 60, 61, 62, 63, 64, 65] : List Nat).contains k = true → σ k = fun _ => 0) : ∀ sz, CN l G cid yX5_init cX5_init 2 rm_X5_init [.ref (ad 1)] ad σ [(1, 0)] [(1, 3), (2, 0), (46, 0), (47, 0), (48, 0), (49, 0), (50, 0), (51, 0), (52, 0), (53, 0), (54, 0), (55, 0), (3, 0), (56, 0), (57, 0), (58, 0), (59, 0), (60, 0), (61, 0), (62, 0), (63, 0), (64, 0), (65, 0)] (fun u => (∀ x, x ∉ ([2, 3, 46, 47, 48, 49, 50, 51, 52, 53, 54, 55, 56, 57, 58, 59, 60, 61, 62, 63, 64, 65] : List Nat) → u.1 x = ad x) ∧ (∀ k j, p5 k = false → u.2 k j = σ k j) ∧ x5 u.2) 22 220 sz := by
  intro sz
  refine CN_of (own := RX5) (by decide) rfl rfl (catR [_]) (Nat.le_of_ble_eq_true rfl) ?_
  intro p e s m below meth c A hc hin hr
  refine uAload_n (pc := 0) hc dX5_init_0 rfl ?_
  refine uObj (pc := 1) hc tw_72 ⟨Nat.le_of_ble_eq_true rfl, Nat.le_of_ble_eq_true rfl⟩ dX5_init_1 ?_
  refine uAload_n (pc := 4) hc dX5_init_4 rfl ?_
  refine uBipush (pc := 5) (v := 10) hc dX5_init_5 (by decide) ?_
  refine uBipush (pc := 7) (v := 10) hc dX5_init_7 (by decide) ?_
  refine uMna (pc := 9) (kc := 0) (ks := 0) (o := 2) (base := 46) (ps := [(1, 0)]) (ps2 := [(1, 0), (2, 0), (46, 0), (47, 0), (48, 0), (49, 0), (50, 0), (51, 0), (52, 0), (53, 0), (54, 0), (55, 0)]) hc (Or.inl ⟨rfl, rfl⟩) tw_73 (fun i hi => hz _ (zrow46 hi)) (Nat.le_of_ble_eq_true rfl) (Nat.le_of_ble_eq_true rfl) (by decide +kernel) rfl dX5_init_9 (fun ad9 h9 => ?_)
  have e9 : ad9 1 = ad 1 := h9 1 (by decide)
  refine uPutR (pc := 13) (k := 1) (i := 0) (msk := 0) (j := 0) (r := 2) (ps := [(1, 0), (2, 0), (46, 0), (47, 0), (48, 0), (49, 0), (50, 0), (51, 0), (52, 0), (53, 0), (54, 0), (55, 0)]) (ps2 := [(1, 1), (2, 0), (46, 0), (47, 0), (48, 0), (49, 0), (50, 0), (51, 0), (52, 0), (53, 0), (54, 0), (55, 0)]) hc hin rfl inG5 tyX5 tyX5_ok nmX5 rfl rfl (Nat.le_of_ble_eq_true rfl) tw_92 rfl rfl rfl (fun _ => rfl) (fun _ => rfl) e9 rfl rfl dX5_init_13 ?_
  refine uAload_n (pc := 16) hc dX5_init_16 rfl ?_
  refine uBipush (pc := 17) (v := 10) hc dX5_init_17 (by decide) ?_
  refine uBipush (pc := 19) (v := 10) hc dX5_init_19 (by decide) ?_
  refine uMna (pc := 21) (kc := 11) (ks := 110) (o := 3) (base := 56) (ps := [(1, 1), (2, 0), (46, 0), (47, 0), (48, 0), (49, 0), (50, 0), (51, 0), (52, 0), (53, 0), (54, 0), (55, 0)]) (ps2 := [(1, 1), (2, 0), (46, 0), (47, 0), (48, 0), (49, 0), (50, 0), (51, 0), (52, 0), (53, 0), (54, 0), (55, 0), (3, 0), (56, 0), (57, 0), (58, 0), (59, 0), (60, 0), (61, 0), (62, 0), (63, 0), (64, 0), (65, 0)]) hc (Or.inr ⟨rfl, rfl⟩) tw_73 (fun i hi => hz _ (zrow56 hi)) (Nat.le_of_ble_eq_true rfl) (Nat.le_of_ble_eq_true rfl) (by decide +kernel) rfl dX5_init_21 (fun ad21 h21 => ?_)
  have e21 : ad21 1 = ad 1 := (h21 1 (by decide)).trans e9
  refine uPutR (pc := 25) (k := 1) (i := 0) (msk := 1) (j := 1) (r := 3) (ps := [(1, 1), (2, 0), (46, 0), (47, 0), (48, 0), (49, 0), (50, 0), (51, 0), (52, 0), (53, 0), (54, 0), (55, 0), (3, 0), (56, 0), (57, 0), (58, 0), (59, 0), (60, 0), (61, 0), (62, 0), (63, 0), (64, 0), (65, 0)]) (ps2 := [(1, 3), (2, 0), (46, 0), (47, 0), (48, 0), (49, 0), (50, 0), (51, 0), (52, 0), (53, 0), (54, 0), (55, 0), (3, 0), (56, 0), (57, 0), (58, 0), (59, 0), (60, 0), (61, 0), (62, 0), (63, 0), (64, 0), (65, 0)]) hc hin rfl inG5 tyX5 tyX5_ok nmX5 rfl rfl (Nat.le_of_ble_eq_true rfl) tw_93 rfl rfl rfl (fun _ => rfl) (fun _ => rfl) e21 rfl rfl dX5_init_25 ?_
  refine uV (dm := rdm) (kc := 22) (ks := 220) (ps := [(1, 3), (2, 0), (46, 0), (47, 0), (48, 0), (49, 0), (50, 0), (51, 0), (52, 0), (53, 0), (54, 0), (55, 0), (3, 0), (56, 0), (57, 0), (58, 0), (59, 0), (60, 0), (61, 0), (62, 0), (63, 0), (64, 0), (65, 0)]) hc hr (by decide +kernel) (by decide +kernel) ⟨Nat.le_of_ble_eq_true rfl, Nat.le_of_ble_eq_true rfl⟩ (rdm_in) (fun E hE hC => ?_)
  subst hE
  refine vL (L2 := [some (.ref (ad21 1)), none]) (by rw [e21]; first | done | rfl) ?_
  have hx : ∀ x, x ∉ ([2, 3, 46, 47, 48, 49, 50, 51, 52, 53, 54, 55, 56, 57, 58, 59, 60, 61, 62, 63, 64, 65] : List Nat) → ad21 x = ad x := fun x hx => (h21 x (ni hx (by decide +kernel))).trans (h9 x (ni hx (by decide +kernel)))
  exact t_X5_init_T hC (fun σ3 L3 hq => vRetN hc rfl hC (by decide +kernel) dX5_init_67 hq) _ (roadsT (fun σ4 f1 f2 f3 => ⟨hx, fun k j hk => f1 k j (by simpa [p5] using hk), f2, f3⟩))

set_option maxRecDepth 100000 in
set_option maxHeartbeats 4000000 in
theorem n_X7 {l : Launch} {G : va_G} {cid : Nat → ClassId} {ad : Nat → Nat} {σ : MS} (hz : ∀ k, ([7, 8, 13, 14, 15, 16, 17, 18, 19, 20, 21, 22, 23, 24, 25, 26, 27] : List Nat).contains k = true → σ k = fun _ => 0) : ∀ sz, CN l G cid yX7_init cX7_init 3 rm_X7_init [.ref (ad 6), .ref (ad 1), .ref (ad 4)] ad σ [(6, 0)] [(6, 511), (7, 62), (13, 0), (14, 0), (15, 0), (16, 0), (17, 0), (8, 62), (18, 0), (19, 0), (20, 0), (21, 0), (22, 0), (23, 0), (24, 0), (25, 0), (26, 0), (27, 0)] (fun u => (∀ x, x ∉ ([7, 8, 13, 14, 15, 16, 17, 18, 19, 20, 21, 22, 23, 24, 25, 26, 27] : List Nat) → u.1 x = ad x) ∧ (∀ k j, p7 k = false → u.2 k j = σ k j) ∧ True) 17 76 sz := by
  intro sz
  refine CN_of (own := RX7) (by decide) rfl rfl (catR [_, _, _]) (Nat.le_of_ble_eq_true rfl) ?_
  intro p e s m below meth c A hc hin hr
  refine uAload_n (pc := 0) hc dX7_init_0 rfl ?_
  refine uObj (pc := 1) hc tw_170 ⟨Nat.le_of_ble_eq_true rfl, Nat.le_of_ble_eq_true rfl⟩ dX7_init_1 ?_
  refine uAload_n (pc := 4) hc dX7_init_4 rfl ?_
  refine uNew (pc := 5) (kc := 0) (ks := 0) (k := 7) (ps := [(6, 0)]) hc rfl inG6 tyX6 tyX6_ok tw_171 tw_172 tw_53 rfl (hz 7 rfl) df_7 (Nat.le_of_ble_eq_true rfl) (Nat.le_of_ble_eq_true rfl) (by decide +kernel) dX7_init_5 (fun ad5 h5 => ?_)
  have e5 : ad5 6 = ad 6 := h5 6 (by decide)
  refine uDup (pc := 8) hc dX7_init_8 rfl ?_
  refine uCallN (pc := 9) (kc := 1) (ks := 8) (k := 7) (nw := [13, 14, 15, 16, 17]) (rest := [(6, 0)]) (ps := [(6, 0), (7, 0)]) (ps1 := [(7, 62), (13, 0), (14, 0), (15, 0), (16, 0), (17, 0)]) (ps2 := [(6, 0), (7, 62), (13, 0), (14, 0), (15, 0), (16, 0), (17, 0)]) (st := [.ref (ad5 7), .ref (ad 6)]) (As := []) (mc := 5) (ms := 20) hc ok_X6_init nw_20 (n_X6_7 (zS (Zc := [13, 14, 15, 16, 17]) hz (by decide +kernel))) (fun u hu => ⟨hu.1, fun q _ => by rw [← hu.2]⟩) rfl rfl (by decide +kernel) (by decide +kernel) rfl ⟨rfl, rfl⟩ ⟨Nat.le_of_ble_eq_true rfl, Nat.le_of_ble_eq_true rfl⟩ rfl rfl (Nat.le_of_ble_eq_true rfl) ⟨Nat.le_of_ble_eq_true rfl, Nat.le_of_ble_eq_true rfl⟩ dX7_init_9 (fun ad9 τ9 q9 => ?_)
  obtain ⟨h9, s9⟩ := q9
  subst s9
  have e9 : ad9 6 = ad 6 := (h9 6 (by decide)).trans e5
  refine uPutR (pc := 12) (k := 6) (i := 0) (msk := 0) (j := 2) (r := 7) (ps := [(6, 0), (7, 62), (13, 0), (14, 0), (15, 0), (16, 0), (17, 0)]) (ps2 := [(6, 4), (7, 62), (13, 0), (14, 0), (15, 0), (16, 0), (17, 0)]) hc hin rfl inG7 tyX7 tyX7_ok nmX7 rfl rfl (Nat.le_of_ble_eq_true rfl) tw_220 rfl rfl rfl (fun _ => rfl) (fun _ => rfl) e9 (h9 7 (by decide)) rfl dX7_init_12 ?_
  refine uAload_n (pc := 15) hc dX7_init_15 rfl ?_
  refine uNew (pc := 16) (kc := 6) (ks := 28) (k := 8) (ps := [(6, 4), (7, 62), (13, 0), (14, 0), (15, 0), (16, 0), (17, 0)]) hc rfl inG6 tyX6 tyX6_ok tw_171 tw_172 tw_53 rfl (hz 8 rfl) df_8 (Nat.le_of_ble_eq_true rfl) (Nat.le_of_ble_eq_true rfl) (by decide +kernel) dX7_init_16 (fun ad16 h16 => ?_)
  have e16 : ad16 6 = ad 6 := (h16 6 (by decide)).trans e9
  refine uDup (pc := 19) hc dX7_init_19 rfl ?_
  refine uCallN (pc := 20) (kc := 7) (ks := 36) (k := 8) (nw := [18, 19, 20, 21, 22]) (rest := [(6, 4), (7, 62), (13, 0), (14, 0), (15, 0), (16, 0), (17, 0)]) (ps := [(6, 4), (7, 62), (13, 0), (14, 0), (15, 0), (16, 0), (17, 0), (8, 0)]) (ps1 := [(8, 62), (18, 0), (19, 0), (20, 0), (21, 0), (22, 0)]) (ps2 := [(6, 4), (7, 62), (13, 0), (14, 0), (15, 0), (16, 0), (17, 0), (8, 62), (18, 0), (19, 0), (20, 0), (21, 0), (22, 0)]) (st := [.ref (ad16 8), .ref (ad 6)]) (As := []) (mc := 5) (ms := 20) hc ok_X6_init nw_20 (n_X6_8 (zS (Zc := [18, 19, 20, 21, 22]) hz (by decide +kernel))) (fun u hu => ⟨hu.1, fun q _ => by rw [← hu.2]⟩) rfl rfl (by decide +kernel) (by decide +kernel) rfl ⟨rfl, rfl⟩ ⟨Nat.le_of_ble_eq_true rfl, Nat.le_of_ble_eq_true rfl⟩ rfl rfl (Nat.le_of_ble_eq_true rfl) ⟨Nat.le_of_ble_eq_true rfl, Nat.le_of_ble_eq_true rfl⟩ dX7_init_20 (fun ad20 τ20 q20 => ?_)
  obtain ⟨h20, s20⟩ := q20
  subst s20
  have e20 : ad20 6 = ad 6 := (h20 6 (by decide)).trans e16
  refine uPutR (pc := 23) (k := 6) (i := 0) (msk := 4) (j := 3) (r := 8) (ps := [(6, 4), (7, 62), (13, 0), (14, 0), (15, 0), (16, 0), (17, 0), (8, 62), (18, 0), (19, 0), (20, 0), (21, 0), (22, 0)]) (ps2 := [(6, 12), (7, 62), (13, 0), (14, 0), (15, 0), (16, 0), (17, 0), (8, 62), (18, 0), (19, 0), (20, 0), (21, 0), (22, 0)]) hc hin rfl inG7 tyX7 tyX7_ok nmX7 rfl rfl (Nat.le_of_ble_eq_true rfl) tw_221 rfl rfl rfl (fun _ => rfl) (fun _ => rfl) e20 (h20 8 (by decide)) rfl dX7_init_23 ?_
  refine uAload_n (pc := 26) hc dX7_init_26 rfl ?_
  refine uIconst (pc := 27) (v := 4) hc dX7_init_27 (by decide) ?_
  refine uNewa (pc := 28) (kc := 12) (ks := 56) (r := 23) (N := 4) (ps := [(6, 12), (7, 62), (13, 0), (14, 0), (15, 0), (16, 0), (17, 0), (8, 62), (18, 0), (19, 0), (20, 0), (21, 0), (22, 0)]) hc rfl rfl (hz 23 rfl) (by decide) (by decide) (Nat.le_of_ble_eq_true rfl) (Nat.le_of_ble_eq_true rfl) (Nat.le_of_ble_eq_true rfl) (by decide +kernel) dX7_init_28 (fun ad28 h28 => ?_)
  have e28 : ad28 6 = ad 6 := (h28 6 (by decide)).trans e20
  refine uPutR (pc := 30) (k := 6) (i := 0) (msk := 12) (j := 4) (r := 23) (ps := [(6, 12), (7, 62), (13, 0), (14, 0), (15, 0), (16, 0), (17, 0), (8, 62), (18, 0), (19, 0), (20, 0), (21, 0), (22, 0), (23, 0)]) (ps2 := [(6, 28), (7, 62), (13, 0), (14, 0), (15, 0), (16, 0), (17, 0), (8, 62), (18, 0), (19, 0), (20, 0), (21, 0), (22, 0), (23, 0)]) hc hin rfl inG7 tyX7 tyX7_ok nmX7 rfl rfl (Nat.le_of_ble_eq_true rfl) tw_222 rfl rfl rfl (fun _ => rfl) (fun _ => rfl) e28 rfl rfl dX7_init_30 ?_
  refine uAload_n (pc := 33) hc dX7_init_33 rfl ?_
  refine uIconst (pc := 34) (v := 4) hc dX7_init_34 (by decide) ?_
  refine uNewa (pc := 35) (kc := 13) (ks := 60) (r := 24) (N := 4) (ps := [(6, 28), (7, 62), (13, 0), (14, 0), (15, 0), (16, 0), (17, 0), (8, 62), (18, 0), (19, 0), (20, 0), (21, 0), (22, 0), (23, 0)]) hc rfl rfl (hz 24 rfl) (by decide) (by decide) (Nat.le_of_ble_eq_true rfl) (Nat.le_of_ble_eq_true rfl) (Nat.le_of_ble_eq_true rfl) (by decide +kernel) dX7_init_35 (fun ad35 h35 => ?_)
  have e35 : ad35 6 = ad 6 := (h35 6 (by decide)).trans e28
  refine uPutR (pc := 37) (k := 6) (i := 0) (msk := 28) (j := 5) (r := 24) (ps := [(6, 28), (7, 62), (13, 0), (14, 0), (15, 0), (16, 0), (17, 0), (8, 62), (18, 0), (19, 0), (20, 0), (21, 0), (22, 0), (23, 0), (24, 0)]) (ps2 := [(6, 60), (7, 62), (13, 0), (14, 0), (15, 0), (16, 0), (17, 0), (8, 62), (18, 0), (19, 0), (20, 0), (21, 0), (22, 0), (23, 0), (24, 0)]) hc hin rfl inG7 tyX7 tyX7_ok nmX7 rfl rfl (Nat.le_of_ble_eq_true rfl) tw_223 rfl rfl rfl (fun _ => rfl) (fun _ => rfl) e35 rfl rfl dX7_init_37 ?_
  refine uAload_n (pc := 40) hc dX7_init_40 rfl ?_
  refine uIconst (pc := 41) (v := 4) hc dX7_init_41 (by decide) ?_
  refine uNewa (pc := 42) (kc := 14) (ks := 64) (r := 25) (N := 4) (ps := [(6, 60), (7, 62), (13, 0), (14, 0), (15, 0), (16, 0), (17, 0), (8, 62), (18, 0), (19, 0), (20, 0), (21, 0), (22, 0), (23, 0), (24, 0)]) hc rfl rfl (hz 25 rfl) (by decide) (by decide) (Nat.le_of_ble_eq_true rfl) (Nat.le_of_ble_eq_true rfl) (Nat.le_of_ble_eq_true rfl) (by decide +kernel) dX7_init_42 (fun ad42 h42 => ?_)
  have e42 : ad42 6 = ad 6 := (h42 6 (by decide)).trans e35
  refine uPutR (pc := 44) (k := 6) (i := 0) (msk := 60) (j := 6) (r := 25) (ps := [(6, 60), (7, 62), (13, 0), (14, 0), (15, 0), (16, 0), (17, 0), (8, 62), (18, 0), (19, 0), (20, 0), (21, 0), (22, 0), (23, 0), (24, 0), (25, 0)]) (ps2 := [(6, 124), (7, 62), (13, 0), (14, 0), (15, 0), (16, 0), (17, 0), (8, 62), (18, 0), (19, 0), (20, 0), (21, 0), (22, 0), (23, 0), (24, 0), (25, 0)]) hc hin rfl inG7 tyX7 tyX7_ok nmX7 rfl rfl (Nat.le_of_ble_eq_true rfl) tw_224 rfl rfl rfl (fun _ => rfl) (fun _ => rfl) e42 rfl rfl dX7_init_44 ?_
  refine uAload_n (pc := 47) hc dX7_init_47 rfl ?_
  refine uIconst (pc := 48) (v := 4) hc dX7_init_48 (by decide) ?_
  refine uNewa (pc := 49) (kc := 15) (ks := 68) (r := 26) (N := 4) (ps := [(6, 124), (7, 62), (13, 0), (14, 0), (15, 0), (16, 0), (17, 0), (8, 62), (18, 0), (19, 0), (20, 0), (21, 0), (22, 0), (23, 0), (24, 0), (25, 0)]) hc rfl rfl (hz 26 rfl) (by decide) (by decide) (Nat.le_of_ble_eq_true rfl) (Nat.le_of_ble_eq_true rfl) (Nat.le_of_ble_eq_true rfl) (by decide +kernel) dX7_init_49 (fun ad49 h49 => ?_)
  have e49 : ad49 6 = ad 6 := (h49 6 (by decide)).trans e42
  refine uPutR (pc := 51) (k := 6) (i := 0) (msk := 124) (j := 7) (r := 26) (ps := [(6, 124), (7, 62), (13, 0), (14, 0), (15, 0), (16, 0), (17, 0), (8, 62), (18, 0), (19, 0), (20, 0), (21, 0), (22, 0), (23, 0), (24, 0), (25, 0), (26, 0)]) (ps2 := [(6, 252), (7, 62), (13, 0), (14, 0), (15, 0), (16, 0), (17, 0), (8, 62), (18, 0), (19, 0), (20, 0), (21, 0), (22, 0), (23, 0), (24, 0), (25, 0), (26, 0)]) hc hin rfl inG7 tyX7 tyX7_ok nmX7 rfl rfl (Nat.le_of_ble_eq_true rfl) tw_225 rfl rfl rfl (fun _ => rfl) (fun _ => rfl) e49 rfl rfl dX7_init_51 ?_
  refine uAload_n (pc := 54) hc dX7_init_54 rfl ?_
  refine uIconst (pc := 55) (v := 4) hc dX7_init_55 (by decide) ?_
  refine uNewa (pc := 56) (kc := 16) (ks := 72) (r := 27) (N := 4) (ps := [(6, 252), (7, 62), (13, 0), (14, 0), (15, 0), (16, 0), (17, 0), (8, 62), (18, 0), (19, 0), (20, 0), (21, 0), (22, 0), (23, 0), (24, 0), (25, 0), (26, 0)]) hc rfl rfl (hz 27 rfl) (by decide) (by decide) (Nat.le_of_ble_eq_true rfl) (Nat.le_of_ble_eq_true rfl) (Nat.le_of_ble_eq_true rfl) (by decide +kernel) dX7_init_56 (fun ad56 h56 => ?_)
  have e56 : ad56 6 = ad 6 := (h56 6 (by decide)).trans e49
  refine uPutR (pc := 58) (k := 6) (i := 0) (msk := 252) (j := 8) (r := 27) (ps := [(6, 252), (7, 62), (13, 0), (14, 0), (15, 0), (16, 0), (17, 0), (8, 62), (18, 0), (19, 0), (20, 0), (21, 0), (22, 0), (23, 0), (24, 0), (25, 0), (26, 0), (27, 0)]) (ps2 := [(6, 508), (7, 62), (13, 0), (14, 0), (15, 0), (16, 0), (17, 0), (8, 62), (18, 0), (19, 0), (20, 0), (21, 0), (22, 0), (23, 0), (24, 0), (25, 0), (26, 0), (27, 0)]) hc hin rfl inG7 tyX7 tyX7_ok nmX7 rfl rfl (Nat.le_of_ble_eq_true rfl) tw_226 rfl rfl rfl (fun _ => rfl) (fun _ => rfl) e56 rfl rfl dX7_init_58 ?_
  refine uAload_n (pc := 61) hc dX7_init_61 rfl ?_
  refine uAload_n (pc := 62) hc dX7_init_62 rfl ?_
  refine uPutR (pc := 63) (k := 6) (i := 0) (msk := 508) (j := 0) (r := 1) (ps := [(6, 508), (7, 62), (13, 0), (14, 0), (15, 0), (16, 0), (17, 0), (8, 62), (18, 0), (19, 0), (20, 0), (21, 0), (22, 0), (23, 0), (24, 0), (25, 0), (26, 0), (27, 0)]) (ps2 := [(6, 509), (7, 62), (13, 0), (14, 0), (15, 0), (16, 0), (17, 0), (8, 62), (18, 0), (19, 0), (20, 0), (21, 0), (22, 0), (23, 0), (24, 0), (25, 0), (26, 0), (27, 0)]) hc hin rfl inG7 tyX7 tyX7_ok nmX7 rfl rfl (Nat.le_of_ble_eq_true rfl) tw_218 rfl rfl rfl (fun _ => rfl) (fun _ => rfl) e56 ((h56 1 (by decide)).trans ((h49 1 (by decide)).trans ((h42 1 (by decide)).trans ((h35 1 (by decide)).trans ((h28 1 (by decide)).trans ((h20 1 (by decide)).trans ((h16 1 (by decide)).trans ((h9 1 (by decide)).trans (h5 1 (by decide)))))))))) rfl dX7_init_63 ?_
  refine uAload_n (pc := 66) hc dX7_init_66 rfl ?_
  refine uAload_n (pc := 67) hc dX7_init_67 rfl ?_
  refine uPutR (pc := 68) (k := 6) (i := 0) (msk := 509) (j := 1) (r := 4) (ps := [(6, 509), (7, 62), (13, 0), (14, 0), (15, 0), (16, 0), (17, 0), (8, 62), (18, 0), (19, 0), (20, 0), (21, 0), (22, 0), (23, 0), (24, 0), (25, 0), (26, 0), (27, 0)]) (ps2 := [(6, 511), (7, 62), (13, 0), (14, 0), (15, 0), (16, 0), (17, 0), (8, 62), (18, 0), (19, 0), (20, 0), (21, 0), (22, 0), (23, 0), (24, 0), (25, 0), (26, 0), (27, 0)]) hc hin rfl inG7 tyX7 tyX7_ok nmX7 rfl rfl (Nat.le_of_ble_eq_true rfl) tw_219 rfl rfl rfl (fun _ => rfl) (fun _ => rfl) e56 ((h56 4 (by decide)).trans ((h49 4 (by decide)).trans ((h42 4 (by decide)).trans ((h35 4 (by decide)).trans ((h28 4 (by decide)).trans ((h20 4 (by decide)).trans ((h16 4 (by decide)).trans ((h9 4 (by decide)).trans (h5 4 (by decide)))))))))) rfl dX7_init_68 ?_
  refine uV (dm := odm) (kc := 17) (ks := 76) (ps := [(6, 511), (7, 62), (13, 0), (14, 0), (15, 0), (16, 0), (17, 0), (8, 62), (18, 0), (19, 0), (20, 0), (21, 0), (22, 0), (23, 0), (24, 0), (25, 0), (26, 0), (27, 0)]) hc hr (by decide +kernel) (by decide +kernel) ⟨Nat.le_of_ble_eq_true rfl, Nat.le_of_ble_eq_true rfl⟩ (fun k hk => by rcases hk with rfl | rfl <;> decide) (fun E hE hC => ?_)
  subst hE
  refine vL (L2 := [some (.ref (ad56 6)), some (.ref (ad 1)), some (.ref (ad 4))]) (by rw [e56]; first | done | rfl) ?_
  refine vMono (L2 := [some (.ref (ad56 6)), none, none]) (show subL _ _ from ⟨rfl, trivial⟩) ?_
  have hx : ∀ x, x ∉ ([7, 8, 13, 14, 15, 16, 17, 18, 19, 20, 21, 22, 23, 24, 25, 26, 27] : List Nat) → ad56 x = ad x := fun x hx => (h56 x (ni hx (by decide +kernel))).trans ((h49 x (ni hx (by decide +kernel))).trans ((h42 x (ni hx (by decide +kernel))).trans ((h35 x (ni hx (by decide +kernel))).trans ((h28 x (ni hx (by decide +kernel))).trans ((h20 x (ni hx (by decide +kernel))).trans ((h16 x (ni hx (by decide +kernel))).trans ((h9 x (ni hx (by decide +kernel))).trans (h5 x (ni hx (by decide +kernel))))))))))
  exact t_X7_init_T hC (fun σ3 L3 hq => vRetN hc rfl hC (by decide +kernel) dX7_init_81 hq) _ ((fun σ4 e4 => ⟨hx, fun k j hk => by show σ4 k j = σ k j; rw [e4]; unfold mst; rw [if_neg (fun z => by rw [z.1] at hk; cases hk)], trivial⟩ : w_X7_init_T _ _))

