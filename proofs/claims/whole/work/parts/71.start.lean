/-! ===== the law's beginning ===== -/
theorem nl_0 : Cond.methodLinkNest "RidePools$People" 17 yX3_init "RidePools" ∈ lw_tbl := List.mem_append_right _ (List.mem_of_getElem? (i := 65) rfl)
theorem nl_1 : Cond.fieldLinkNest "RidePools" 97 "RidePools$Person" "kind" "I" "RidePools" ∈ lw_tbl := List.mem_append_right _ (List.mem_of_getElem? (i := 70) rfl)
theorem nl_2 : Cond.fieldLinkNest "RidePools" 102 "RidePools$Person" "house" "I" "RidePools" ∈ lw_tbl := List.mem_append_right _ (List.mem_of_getElem? (i := 71) rfl)
theorem nl_3 : Cond.fieldLinkNest "RidePools$WayFinder" 109 "RidePools$Person" "house" "I" "RidePools" ∈ lw_tbl := List.mem_append_right _ (List.mem_of_getElem? (i := 72) rfl)
theorem nl_4 : Cond.fieldLinkNest "RidePools" 105 "RidePools$Person" "work" "I" "RidePools" ∈ lw_tbl := List.mem_append_right _ (List.mem_of_getElem? (i := 73) rfl)
theorem nl_5 : Cond.fieldLinkNest "RidePools$WayFinder" 111 "RidePools$Person" "work" "I" "RidePools" ∈ lw_tbl := List.mem_append_right _ (List.mem_of_getElem? (i := 74) rfl)
theorem nl_6 : Cond.fieldLinkNest "RidePools" 108 "RidePools$Person" "early" "I" "RidePools" ∈ lw_tbl := List.mem_append_right _ (List.mem_of_getElem? (i := 75) rfl)
theorem nl_7 : Cond.fieldLinkNest "RidePools$WayFinder" 113 "RidePools$Person" "early" "I" "RidePools" ∈ lw_tbl := List.mem_append_right _ (List.mem_of_getElem? (i := 76) rfl)
theorem nl_8 : Cond.fieldLinkNest "RidePools" 111 "RidePools$Person" "late" "I" "RidePools" ∈ lw_tbl := List.mem_append_right _ (List.mem_of_getElem? (i := 77) rfl)
theorem nl_9 : Cond.fieldLinkNest "RidePools$WayFinder" 115 "RidePools$Person" "late" "I" "RidePools" ∈ lw_tbl := List.mem_append_right _ (List.mem_of_getElem? (i := 78) rfl)
theorem nl_10 : Cond.fieldLinkNest "RidePools" 114 "RidePools$Person" "detour" "I" "RidePools" ∈ lw_tbl := List.mem_append_right _ (List.mem_of_getElem? (i := 79) rfl)
theorem nl_11 : Cond.fieldLinkNest "RidePools$WayFinder" 123 "RidePools$Person" "detour" "I" "RidePools" ∈ lw_tbl := List.mem_append_right _ (List.mem_of_getElem? (i := 80) rfl)
theorem nl_12 : Cond.fieldLinkNest "RidePools" 117 "RidePools$Person" "seats" "I" "RidePools" ∈ lw_tbl := List.mem_append_right _ (List.mem_of_getElem? (i := 82) rfl)
theorem nl_13 : Cond.fieldLinkNest "RidePools$People" 41 "RidePools$Person" "seats" "I" "RidePools" ∈ lw_tbl := List.mem_append_right _ (List.mem_of_getElem? (i := 83) rfl)
theorem nl_14 : Cond.fieldLinkNest "RidePools" 130 "RidePools$Person" "isAway" "Z" "RidePools" ∈ lw_tbl := List.mem_append_right _ (List.mem_of_getElem? (i := 84) rfl)
theorem nl_15 : Cond.fieldLinkNest "RidePools$People" 22 "RidePools$Person" "isAway" "Z" "RidePools" ∈ lw_tbl := List.mem_append_right _ (List.mem_of_getElem? (i := 85) rfl)
theorem nl_16 : Cond.fieldLinkNest "RidePools" 243 "RidePools$Person" "isBroken" "Z" "RidePools" ∈ lw_tbl := List.mem_append_right _ (List.mem_of_getElem? (i := 87) rfl)
theorem nl_17 : Cond.fieldLinkNest "RidePools" 123 "RidePools$Person" "bars" "I" "RidePools" ∈ lw_tbl := List.mem_append_right _ (List.mem_of_getElem? (i := 88) rfl)
theorem nl_18 : Cond.fieldLinkNest "RidePools$People" 44 "RidePools$Person" "bars" "I" "RidePools" ∈ lw_tbl := List.mem_append_right _ (List.mem_of_getElem? (i := 89) rfl)
theorem nl_19 : Cond.fieldLinkNest "RidePools" 222 "RidePools$Person" "points" "I" "RidePools" ∈ lw_tbl := List.mem_append_right _ (List.mem_of_getElem? (i := 90) rfl)
theorem nl_20 : Cond.methodLinkNest "RidePools$WayFinder" 11 yX6_init "RidePools" ∈ lw_tbl := List.mem_append_right _ (List.mem_of_getElem? (i := 129) rfl)
theorem nl_21 : Cond.fieldLinkNest "RidePools$WayFinder" 96 "RidePools$Way" "size" "I" "RidePools" ∈ lw_tbl := List.mem_append_right _ (List.mem_of_getElem? (i := 134) rfl)
theorem nl_22 : Cond.fieldLinkNest "RidePools$Plan" 41 "RidePools$Way" "size" "I" "RidePools" ∈ lw_tbl := List.mem_append_right _ (List.mem_of_getElem? (i := 135) rfl)
theorem nl_23 : Cond.fieldLinkNest "RidePools$Plan" 46 "RidePools$Way" "members" "[I" "RidePools" ∈ lw_tbl := List.mem_append_right _ (List.mem_of_getElem? (i := 137) rfl)
theorem nl_24 : Cond.fieldLinkNest "RidePools$WayFinder" 106 "RidePools$Way" "members" "[I" "RidePools" ∈ lw_tbl := List.mem_append_right _ (List.mem_of_getElem? (i := 138) rfl)
theorem nl_25 : Cond.fieldLinkNest "RidePools$WayFinder" 82 "RidePools$Way" "picked" "[I" "RidePools" ∈ lw_tbl := List.mem_append_right _ (List.mem_of_getElem? (i := 140) rfl)
theorem nl_26 : Cond.fieldLinkNest "RidePools$WayFinder" 145 "RidePools$Way" "brought" "[I" "RidePools" ∈ lw_tbl := List.mem_append_right _ (List.mem_of_getElem? (i := 142) rfl)
theorem nl_27 : Cond.fieldLinkNest "RidePools$WayFinder" 85 "RidePools$Way" "pickedAfter" "[I" "RidePools" ∈ lw_tbl := List.mem_append_right _ (List.mem_of_getElem? (i := 144) rfl)
theorem nl_28 : Cond.fieldLinkNest "RidePools$Plan" 54 "RidePools$Way" "pickedAfter" "[I" "RidePools" ∈ lw_tbl := List.mem_append_right _ (List.mem_of_getElem? (i := 145) rfl)
theorem nl_29 : Cond.fieldLinkNest "RidePools$Plan" 57 "RidePools$Way" "broughtAfter" "[I" "RidePools" ∈ lw_tbl := List.mem_append_right _ (List.mem_of_getElem? (i := 147) rfl)
theorem nl_30 : Cond.fieldLinkNest "RidePools$WayFinder" 148 "RidePools$Way" "broughtAfter" "[I" "RidePools" ∈ lw_tbl := List.mem_append_right _ (List.mem_of_getElem? (i := 148) rfl)
theorem nl_31 : Cond.fieldLinkNest "RidePools$WayFinder" 45 "RidePools$Way" "taken" "I" "RidePools" ∈ lw_tbl := List.mem_append_right _ (List.mem_of_getElem? (i := 149) rfl)
theorem nl_32 : Cond.fieldLinkNest "RidePools$Plan" 49 "RidePools$Way" "taken" "I" "RidePools" ∈ lw_tbl := List.mem_append_right _ (List.mem_of_getElem? (i := 151) rfl)
theorem nl_33 : Cond.fieldLinkNest "RidePools$Costs" 52 "RidePools$Way" "taken" "I" "RidePools" ∈ lw_tbl := List.mem_append_right _ (List.mem_of_getElem? (i := 152) rfl)
theorem nl_34 : Cond.fieldLinkNest "RidePools" 148 "RidePools$Way" "taken" "I" "RidePools" ∈ lw_tbl := List.mem_append_right _ (List.mem_of_getElem? (i := 153) rfl)
theorem nl_35 : Cond.fieldLinkNest "RidePools$Plan" 51 "RidePools$Way" "begin" "I" "RidePools" ∈ lw_tbl := List.mem_append_right _ (List.mem_of_getElem? (i := 155) rfl)
theorem nl_36 : Cond.fieldLinkNest "RidePools$WayFinder" 135 "RidePools$Way" "begin" "I" "RidePools" ∈ lw_tbl := List.mem_append_right _ (List.mem_of_getElem? (i := 156) rfl)
set_option maxRecDepth 20000 in
theorem nl_37 : Cond.methodLinkNest "RidePools$People" 34 yX8_contains "RidePools" ∈ lw_tbl := List.mem_append_right _ (List.mem_of_getElem? (i := 402) rfl)
set_option maxRecDepth 20000 in
theorem nl_38 : Cond.methodLinkNest "RidePools$WayFinder" 99 yX8_contains "RidePools" ∈ lw_tbl := List.mem_append_right _ (List.mem_of_getElem? (i := 415) rfl)
set_option maxRecDepth 20000 in
theorem nl_39 : Cond.methodLinkNest "RidePools$Costs" 38 yX8_contains "RidePools" ∈ lw_tbl := List.mem_append_right _ (List.mem_of_getElem? (i := 466) rfl)
set_option maxRecDepth 20000 in
theorem nl_40 : Cond.methodLinkNest "RidePools$Plan" 60 yX8_contains "RidePools" ∈ lw_tbl := List.mem_append_right _ (List.mem_of_getElem? (i := 629) rfl)
theorem nestIn : ∀ w ∈ nestWs, w ∈ lw_tbl := List.forall_mem_cons.mpr ⟨nl_0, List.forall_mem_cons.mpr ⟨nl_1, List.forall_mem_cons.mpr ⟨nl_2, List.forall_mem_cons.mpr ⟨nl_3, List.forall_mem_cons.mpr ⟨nl_4, List.forall_mem_cons.mpr ⟨nl_5, List.forall_mem_cons.mpr ⟨nl_6, List.forall_mem_cons.mpr ⟨nl_7, List.forall_mem_cons.mpr ⟨nl_8, List.forall_mem_cons.mpr ⟨nl_9, List.forall_mem_cons.mpr ⟨nl_10, List.forall_mem_cons.mpr ⟨nl_11, List.forall_mem_cons.mpr ⟨nl_12, List.forall_mem_cons.mpr ⟨nl_13, List.forall_mem_cons.mpr ⟨nl_14, List.forall_mem_cons.mpr ⟨nl_15, List.forall_mem_cons.mpr ⟨nl_16, List.forall_mem_cons.mpr ⟨nl_17, List.forall_mem_cons.mpr ⟨nl_18, List.forall_mem_cons.mpr ⟨nl_19, List.forall_mem_cons.mpr ⟨nl_20, List.forall_mem_cons.mpr ⟨nl_21, List.forall_mem_cons.mpr ⟨nl_22, List.forall_mem_cons.mpr ⟨nl_23, List.forall_mem_cons.mpr ⟨nl_24, List.forall_mem_cons.mpr ⟨nl_25, List.forall_mem_cons.mpr ⟨nl_26, List.forall_mem_cons.mpr ⟨nl_27, List.forall_mem_cons.mpr ⟨nl_28, List.forall_mem_cons.mpr ⟨nl_29, List.forall_mem_cons.mpr ⟨nl_30, List.forall_mem_cons.mpr ⟨nl_31, List.forall_mem_cons.mpr ⟨nl_32, List.forall_mem_cons.mpr ⟨nl_33, List.forall_mem_cons.mpr ⟨nl_34, List.forall_mem_cons.mpr ⟨nl_35, List.forall_mem_cons.mpr ⟨nl_36, List.forall_mem_cons.mpr ⟨nl_37, List.forall_mem_cons.mpr ⟨nl_38, List.forall_mem_cons.mpr ⟨nl_39, List.forall_mem_cons.mpr ⟨nl_40, fun _ h => absurd h List.not_mem_nil⟩⟩⟩⟩⟩⟩⟩⟩⟩⟩⟩⟩⟩⟩⟩⟩⟩⟩⟩⟩⟩⟩⟩⟩⟩⟩⟩⟩⟩⟩⟩⟩⟩⟩⟩⟩⟩⟩⟩⟩⟩
theorem ao_in : Cond.arrayOver (FieldType.object "RidePools$Person") ∈ lw_tbl := List.mem_append_right _ (List.mem_of_getElem? (i := 63) rfl)
theorem aoa_in : Cond.arrayOver (FieldType.array FieldType.int) ∈ lw_tbl := List.mem_append_right _ (List.mem_of_getElem? (i := 30) rfl)
theorem KN_of {args : Array Value} {s : State} (hts : ∀ w ∈ lw_tbl, w.before args s = true) : ∃ (G : va_G) (cid : Nat → ClassId), KN G cid s := by
  obtain ⟨c0, i0, k0⟩ := u_known (C := RX0) (T := TX0) (N := 3) (n := 3) hts (fun w h => gt_in (inG0 w h)) (hts _ (gt_in tw_247))
  obtain ⟨c1, i1, k1⟩ := u_known (C := RX1) (T := TX1) (N := 3) (n := 3) hts (fun w h => gt_in (inG1 w h)) (hts _ (gt_in tw_264))
  obtain ⟨c2, i2, k2⟩ := u_known (C := RX2) (T := TX2) (N := 2) (n := 2) hts (fun w h => gt_in (inG2 w h)) (hts _ (gt_in tw_101))
  obtain ⟨c3, i3, k3⟩ := u_known (C := RX3) (T := TX3) (N := 11) (n := 11) hts (fun w h => gt_in (inG3 w h)) (hts _ (gt_in tw_108))
  obtain ⟨c4, i4, k4⟩ := u_known (C := RX4) (T := TX4) (N := 7) (n := 7) hts (fun w h => gt_in (inG4 w h)) (hts _ (gt_in tw_280))
  obtain ⟨c5, i5, k5⟩ := u_known (C := RX5) (T := TX5) (N := 2) (n := 2) hts (fun w h => gt_in (inG5 w h)) (hts _ (gt_in tw_68))
  obtain ⟨c6, i6, k6⟩ := u_known (C := RX6) (T := TX6) (N := 8) (n := 8) hts (fun w h => gt_in (inG6 w h)) (hts _ (gt_in tw_172))
  obtain ⟨c7, i7, k7⟩ := u_known (C := RX7) (T := TX7) (N := 9) (n := 9) hts (fun w h => gt_in (inG7 w h)) (hts _ (gt_in tw_166))
  obtain ⟨c8, i8, k8⟩ := u_known (C := RX8) (T := TX8) (N := 8) (n := 8) hts (fun w h => gt_in (inG8 w h)) (hts _ (gt_in tw_60))
  obtain ⟨c9, i9, k9⟩ := u_known (C := RX9) (T := TX9) (N := 43) (n := 43) hts (fun w h => gt_in (inG9 w h)) (hts _ (gt_in tw_709))
  obtain ⟨a0, kA0, co0, f0, g0, m0⟩ := Cond.arrayClass_spec (hts _ (gt_in tw_99))
  obtain ⟨a1, kA1, co1, f1, g1, m1⟩ := Cond.arrayClass_spec (hts _ (gt_in tw_853))
  have hAO : va_AO "RidePools$Person" s := va_AO.of (hts _ ao_in)
  have hAA : va_AOA .int s := hts _ aoa_in
  obtain ⟨co2, a2, kA2, f2, -, g2, m2, n2⟩ := Cond.arrayOver_spec hAO
  obtain ⟨co3, a3, kA3, cc3, f3, -, g3, m3, n3⟩ := aoa_spec hAA
  refine ⟨(fun k => if k = 0 then c0 else if k = 1 then c1 else if k = 2 then c2 else if k = 3 then c3 else if k = 4 then c4 else if k = 5 then c5 else if k = 6 then c6 else if k = 7 then c7 else if k = 8 then c8 else c9, fun k => if k = 0 then i0 else if k = 1 then i1 else if k = 2 then i2 else if k = 3 then i3 else if k = 4 then i4 else if k = 5 then i5 else if k = 6 then i6 else if k = 7 then i7 else if k = 8 then i8 else i9), fun i => if i = 0 then a0 else if i = 1 then a1 else if i = 2 then a2 else a3, ⟨⟨?_, ?_⟩, ?_⟩, hAO, hAA⟩
  · intro k q hq
    match k, hq with
    | 0, hq => cases hq; exact k0
    | 1, hq => cases hq; exact k1
    | 2, hq => cases hq; exact k2
    | 3, hq => cases hq; exact k3
    | 4, hq => cases hq; exact k4
    | 5, hq => cases hq; exact k5
    | 6, hq => cases hq; exact k6
    | 7, hq => cases hq; exact k7
    | 8, hq => cases hq; exact k8
    | 9, hq => cases hq; exact k9
    | k + 10, hq => simp [vwCl] at hq
  · intro k q hq
    match k, hq with
    | 0, hq => cases hq; exact ⟨fun n z => ⟨fun k h => (by cases h), kA0, g0, co0, m0⟩, f0⟩
    | 1, hq => cases hq; exact ⟨fun n z => ⟨fun k h => (by cases h), kA1, g1, co1, m1⟩, f1⟩
    | 2, hq => cases hq; exact ⟨fun n z => ⟨fun k h => (by cases h), kA2, g2, co2, m2⟩, ⟨kA2, co2, g2, m2, f2, n2⟩⟩
    | 3, hq => cases hq; exact ⟨fun n z => ⟨fun k h => (by cases h), kA3, g3, cc3, m3⟩, n3⟩
    | k + 4, hq => simp at hq
  · intro w hw
    have h := hts w (nestIn w hw)
    rcases nest_kind w hw with ⟨a, i, b, n, d, g, rfl⟩ | ⟨a, i, x, g, rfl⟩
    · exact va_Nw.of rfl h
    · exact va_Nw.of rfl h
theorem uVR {p : Program} {l : Launch} {e : Env} {R : Room} {s : State} {m : MethodId} {args : Array Value} {below : List Frame} {meth : Method} {c : Code} {G : va_G} {cid : Nat → ClassId} {A : Nat → Prop} {nL : Nat} {Q : State → Prop} {cc : ByteArray} {own : String} {ad : Nat → Nat} {σ : MS} {ps : List (Nat × Nat)} {kc ks pc : Nat} {L : List (Option Value)} {st : List Value} {rt : Option FieldType} (hc : Ux p s m args meth c G cid A cc own nL) (hr : meth.sig.returnType = rt) (hf : ps.all ful = true) (hn : (ps.map (fun q => q.1)).Nodup) (hR : kc ≤ R.cells ∧ ks ≤ R.slots) {dm : Nat → Prop} (hdm : ∀ k, dm k → k ∈ ps.map (fun q => q.1))
    (kk : ∀ E : WD, E = (G, ad, cid, ps.map (fun q => q.1)) → Cx p R s m args meth c E A cc own rt nL kc ks dm → V p l e R s m args below meth c E A nL kc ks Q σ pc L st) : U p l e R s m args below meth c G cid A nL Q ad σ ps kc ks pc L st := fun H locs ls hP hD hS hl => by
  obtain ⟨hi, hA⟩ := ful_inj (G := G) hn hD
  exact kk _ rfl ⟨hc.1, hc.2.1, hc.2.2.1, hc.2.2.2.1, hc.2.2.2.2.1, hc.2.2.2.2.2.1.1, hi, hA, hr, hc.2.2.2.2.2.2.2, hR.1, hR.2, hdm⟩ H locs ls ((ful_P hf).mp hP) hS hl
def ctt (_ : Nat) : Bool := true
theorem p98 : ∀ k, p9 k = true → ctt k = true ∧ p8 k = false := fun k h => by
  simp [p9] at h
  exact ⟨rfl, by simp [p8]; omega⟩
abbrev psL : List (Nat × Nat) := [(0, 127), (1, 3), (2, 0), (46, 0), (47, 0), (48, 0), (49, 0), (50, 0), (51, 0), (52, 0), (53, 0), (54, 0), (55, 0), (3, 0), (56, 0), (57, 0), (58, 0), (59, 0), (60, 0), (61, 0), (62, 0), (63, 0), (64, 0), (65, 0), (4, 1), (5, 511), (37, 0), (38, 0), (39, 0), (40, 0), (41, 0), (42, 0), (43, 0), (44, 0), (45, 0), (6, 511), (7, 62), (13, 0), (14, 0), (15, 0), (16, 0), (17, 0), (8, 62), (18, 0), (19, 0), (20, 0), (21, 0), (22, 0), (23, 0), (24, 0), (25, 0), (26, 0), (27, 0), (9, 7), (28, 0), (29, 0), (10, 7), (30, 0), (31, 0), (11, 124), (32, 0), (33, 0), (34, 0), (35, 0), (36, 0), (12, 0), (66, 8589682933735), (67, 0), (68, 0), (69, 0), (70, 0), (71, 0), (72, 0), (73, 0), (74, 0), (75, 0), (76, 0), (77, 0), (78, 0), (79, 0), (80, 0), (81, 0), (82, 0), (83, 0), (84, 0), (85, 0), (86, 0), (87, 0), (88, 0), (89, 0), (90, 0), (91, 0), (92, 0), (93, 0), (94, 0), (95, 0), (96, 0), (97, 0), (98, 0), (99, 0), (100, 0), (101, 0)]
theorem fdm_in : ∀ k, fdm k → k ∈ psL.map (fun q => q.1) := fun k hk => of_decide_eq_true (all_lt (by decide +kernel : (List.range 102).all (fun k => decide (k ∈ psL.map (fun q => q.1))) = true) k hk)
set_option maxRecDepth 100000 in
set_option maxHeartbeats 4000000 in
theorem law_U {p : Program} {l : Launch} {e : Env} {s : State} {m : MethodId} {below : List Frame} {meth : Method} {c : Code} {G : va_G} {cid : Nat → ClassId} {b Ln : Nat} {xs : Nat → Int32} {ad : Nat → Nat} {σ : MS} (hL : Ln ≤ 4096) (hc : Ux p s m #[Value.ref b] meth c G cid (fun q => s.heap.size ≤ q) cL_law RL 4) (hr : meth.sig.returnType = ret) (hX : va_X b Ln xs s s.heap ∧ b < s.heap.size) (hz : ∀ k, ctt k = true → σ k = fun _ => 0) : U p l e room_1 s m #[Value.ref b] below meth c G cid (fun q => s.heap.size ≤ q) 4 (lw_Z below #[Value.ref b] s) ad σ [] 0 0 0 [some (.ref b), none, none, none] [] := by
  refine uNew (pc := 0) (kc := 0) (ks := 0) (k := 0) (ps := []) hc rfl inG8 tyX8 tyX8_ok tw_59 tw_60 tw_45 rfl (hz 0 rfl) df_0 (Nat.le_of_ble_eq_true rfl) (Nat.le_of_ble_eq_true rfl) (by decide +kernel) dL_law_0 (fun ad0 h0 => ?_)
  refine uDup (pc := 3) hc dL_law_3 rfl ?_
  refine uCall (pc := 4) (kc := 1) (ks := 8) (k := 0) (nw := [1, 2, 3, 4, 5, 6, 7, 8, 9, 10, 11, 12, 13, 14, 15, 16, 17, 18, 19, 20, 21, 22, 23, 24, 25, 26, 27, 28, 29, 30, 31, 32, 33, 34, 35, 36, 37, 38, 39, 40, 41, 42, 43, 44, 45, 46, 47, 48, 49, 50, 51, 52, 53, 54, 55, 56, 57, 58, 59, 60, 61, 62, 63, 64, 65]) (rest := []) (ps := [(0, 0)]) (ps1 := [(0, 127), (1, 3), (2, 0), (46, 0), (47, 0), (48, 0), (49, 0), (50, 0), (51, 0), (52, 0), (53, 0), (54, 0), (55, 0), (3, 0), (56, 0), (57, 0), (58, 0), (59, 0), (60, 0), (61, 0), (62, 0), (63, 0), (64, 0), (65, 0), (4, 1), (5, 511), (37, 0), (38, 0), (39, 0), (40, 0), (41, 0), (42, 0), (43, 0), (44, 0), (45, 0), (6, 511), (7, 62), (13, 0), (14, 0), (15, 0), (16, 0), (17, 0), (8, 62), (18, 0), (19, 0), (20, 0), (21, 0), (22, 0), (23, 0), (24, 0), (25, 0), (26, 0), (27, 0), (9, 7), (28, 0), (29, 0), (10, 7), (30, 0), (31, 0), (11, 124), (32, 0), (33, 0), (34, 0), (35, 0), (36, 0), (12, 0)]) (ps2 := [(0, 127), (1, 3), (2, 0), (46, 0), (47, 0), (48, 0), (49, 0), (50, 0), (51, 0), (52, 0), (53, 0), (54, 0), (55, 0), (3, 0), (56, 0), (57, 0), (58, 0), (59, 0), (60, 0), (61, 0), (62, 0), (63, 0), (64, 0), (65, 0), (4, 1), (5, 511), (37, 0), (38, 0), (39, 0), (40, 0), (41, 0), (42, 0), (43, 0), (44, 0), (45, 0), (6, 511), (7, 62), (13, 0), (14, 0), (15, 0), (16, 0), (17, 0), (8, 62), (18, 0), (19, 0), (20, 0), (21, 0), (22, 0), (23, 0), (24, 0), (25, 0), (26, 0), (27, 0), (9, 7), (28, 0), (29, 0), (10, 7), (30, 0), (31, 0), (11, 124), (32, 0), (33, 0), (34, 0), (35, 0), (36, 0), (12, 0)]) (st := [.ref (ad0 0)]) (As := []) (mc := 65) (ms := 2530) hc ok_X8_init tw_61 (n_X8 (fun k _ => hz k rfl)) (fun u hu => ⟨hu.1, restK (P := p8) hu.2.1 (by decide +kernel)⟩) rfl rfl (by decide +kernel) (by decide +kernel) rfl ⟨rfl, rfl⟩ ⟨Nat.le_of_ble_eq_true rfl, Nat.le_of_ble_eq_true rfl⟩ rfl rfl (Nat.le_of_ble_eq_true rfl) ⟨Nat.le_of_ble_eq_true rfl, Nat.le_of_ble_eq_true rfl⟩ dL_law_4 (fun ad4 σ4 q4 => ?_)
  have h4 := q4.1
  have z4 := zC (C2 := p9) hz q4.2.1 p98
  refine uAstore_n (pc := 7) (L2 := [some (.ref b), some (.ref (ad0 0)), none, none]) hc dL_law_7 rfl (Nat.le_of_ble_eq_true rfl) ?_
  refine uNew (pc := 8) (kc := 66) (ks := 2538) (k := 66) (ps := [(0, 127), (1, 3), (2, 0), (46, 0), (47, 0), (48, 0), (49, 0), (50, 0), (51, 0), (52, 0), (53, 0), (54, 0), (55, 0), (3, 0), (56, 0), (57, 0), (58, 0), (59, 0), (60, 0), (61, 0), (62, 0), (63, 0), (64, 0), (65, 0), (4, 1), (5, 511), (37, 0), (38, 0), (39, 0), (40, 0), (41, 0), (42, 0), (43, 0), (44, 0), (45, 0), (6, 511), (7, 62), (13, 0), (14, 0), (15, 0), (16, 0), (17, 0), (8, 62), (18, 0), (19, 0), (20, 0), (21, 0), (22, 0), (23, 0), (24, 0), (25, 0), (26, 0), (27, 0), (9, 7), (28, 0), (29, 0), (10, 7), (30, 0), (31, 0), (11, 124), (32, 0), (33, 0), (34, 0), (35, 0), (36, 0), (12, 0)]) hc rfl inG9 tyX9 tyX9_ok tw_708 tw_709 tw_57 rfl (z4 66 rfl) df_66 (Nat.le_of_ble_eq_true rfl) (Nat.le_of_ble_eq_true rfl) (by decide +kernel) dL_law_8 (fun ad8 h8 => ?_)
  refine uDup (pc := 11) hc dL_law_11 rfl ?_
  refine uCall (pc := 12) (kc := 67) (ks := 2581) (k := 66) (nw := [67, 68, 69, 70, 71, 72, 73, 74, 75, 76, 77, 78, 79, 80, 81, 82, 83, 84, 85, 86, 87, 88, 89, 90, 91, 92, 93, 94, 95, 96, 97, 98, 99, 100, 101]) (rest := [(0, 127), (1, 3), (2, 0), (46, 0), (47, 0), (48, 0), (49, 0), (50, 0), (51, 0), (52, 0), (53, 0), (54, 0), (55, 0), (3, 0), (56, 0), (57, 0), (58, 0), (59, 0), (60, 0), (61, 0), (62, 0), (63, 0), (64, 0), (65, 0), (4, 1), (5, 511), (37, 0), (38, 0), (39, 0), (40, 0), (41, 0), (42, 0), (43, 0), (44, 0), (45, 0), (6, 511), (7, 62), (13, 0), (14, 0), (15, 0), (16, 0), (17, 0), (8, 62), (18, 0), (19, 0), (20, 0), (21, 0), (22, 0), (23, 0), (24, 0), (25, 0), (26, 0), (27, 0), (9, 7), (28, 0), (29, 0), (10, 7), (30, 0), (31, 0), (11, 124), (32, 0), (33, 0), (34, 0), (35, 0), (36, 0), (12, 0)]) (ps := [(0, 127), (1, 3), (2, 0), (46, 0), (47, 0), (48, 0), (49, 0), (50, 0), (51, 0), (52, 0), (53, 0), (54, 0), (55, 0), (3, 0), (56, 0), (57, 0), (58, 0), (59, 0), (60, 0), (61, 0), (62, 0), (63, 0), (64, 0), (65, 0), (4, 1), (5, 511), (37, 0), (38, 0), (39, 0), (40, 0), (41, 0), (42, 0), (43, 0), (44, 0), (45, 0), (6, 511), (7, 62), (13, 0), (14, 0), (15, 0), (16, 0), (17, 0), (8, 62), (18, 0), (19, 0), (20, 0), (21, 0), (22, 0), (23, 0), (24, 0), (25, 0), (26, 0), (27, 0), (9, 7), (28, 0), (29, 0), (10, 7), (30, 0), (31, 0), (11, 124), (32, 0), (33, 0), (34, 0), (35, 0), (36, 0), (12, 0), (66, 0)]) (ps1 := [(66, 8589682933735), (67, 0), (68, 0), (69, 0), (70, 0), (71, 0), (72, 0), (73, 0), (74, 0), (75, 0), (76, 0), (77, 0), (78, 0), (79, 0), (80, 0), (81, 0), (82, 0), (83, 0), (84, 0), (85, 0), (86, 0), (87, 0), (88, 0), (89, 0), (90, 0), (91, 0), (92, 0), (93, 0), (94, 0), (95, 0), (96, 0), (97, 0), (98, 0), (99, 0), (100, 0), (101, 0)]) (ps2 := [(0, 127), (1, 3), (2, 0), (46, 0), (47, 0), (48, 0), (49, 0), (50, 0), (51, 0), (52, 0), (53, 0), (54, 0), (55, 0), (3, 0), (56, 0), (57, 0), (58, 0), (59, 0), (60, 0), (61, 0), (62, 0), (63, 0), (64, 0), (65, 0), (4, 1), (5, 511), (37, 0), (38, 0), (39, 0), (40, 0), (41, 0), (42, 0), (43, 0), (44, 0), (45, 0), (6, 511), (7, 62), (13, 0), (14, 0), (15, 0), (16, 0), (17, 0), (8, 62), (18, 0), (19, 0), (20, 0), (21, 0), (22, 0), (23, 0), (24, 0), (25, 0), (26, 0), (27, 0), (9, 7), (28, 0), (29, 0), (10, 7), (30, 0), (31, 0), (11, 124), (32, 0), (33, 0), (34, 0), (35, 0), (36, 0), (12, 0), (66, 8589682933735), (67, 0), (68, 0), (69, 0), (70, 0), (71, 0), (72, 0), (73, 0), (74, 0), (75, 0), (76, 0), (77, 0), (78, 0), (79, 0), (80, 0), (81, 0), (82, 0), (83, 0), (84, 0), (85, 0), (86, 0), (87, 0), (88, 0), (89, 0), (90, 0), (91, 0), (92, 0), (93, 0), (94, 0), (95, 0), (96, 0), (97, 0), (98, 0), (99, 0), (100, 0), (101, 0)]) (st := [.ref (ad8 66)]) (As := []) (mc := 35) (ms := 4503) hc ok_X9_init tw_710 (n_X9 (zS (Zc := [67, 68, 69, 70, 71, 72, 73, 74, 75, 76, 77, 78, 79, 80, 81, 82, 83, 84, 85, 86, 87, 88, 89, 90, 91, 92, 93, 94, 95, 96, 97, 98, 99, 100, 101]) z4 (by decide +kernel))) (fun u hu => ⟨hu.1, restK (P := p9) hu.2.1 (by decide +kernel)⟩) rfl rfl (by decide +kernel) (by decide +kernel) rfl ⟨rfl, rfl⟩ ⟨Nat.le_of_ble_eq_true rfl, Nat.le_of_ble_eq_true rfl⟩ rfl rfl (Nat.le_of_ble_eq_true rfl) ⟨Nat.le_of_ble_eq_true rfl, Nat.le_of_ble_eq_true rfl⟩ dL_law_12 (fun ad12 σ12 q12 => ?_)
  have h12 := q12.1
  refine uAstore_n (pc := 15) (L2 := [some (.ref b), some (.ref (ad0 0)), some (.ref (ad8 66)), none]) hc dL_law_15 rfl (Nat.le_of_ble_eq_true rfl) ?_
  refine uIconst (pc := 16) (v := 0) hc dL_law_16 (by decide) ?_
  refine uIstore_n (pc := 17) (L2 := [some (.ref b), some (.ref (ad0 0)), some (.ref (ad8 66)), some (.int 0)]) hc dL_law_17 rfl (Nat.le_of_ble_eq_true rfl) ?_
  refine uVR (dm := fdm) (kc := 102) (ks := 7084) (ps := psL) hc hr (by decide +kernel) (by decide +kernel) ⟨Nat.le_of_ble_eq_true rfl, Nat.le_of_ble_eq_true rfl⟩ fdm_in (fun E hE hC => ?_)
  subst hE
  refine vL (L2 := [some (.ref b), some (.ref (ad12 0)), some (.ref (ad12 66)), some (.int 0)]) (by rw [show ad12 0 = ad0 0 from ((h12 0 (by decide)).trans ((h8 0 (by decide)).trans (h4 0 (by decide)))), show ad12 66 = ad8 66 from (h12 66 (by decide))]) ?_
  exact t_L_law_H18 hC hX (Nat.le_of_ble_eq_true rfl) (Nat.le_of_ble_eq_true rfl) (Ln + 1) 0 _ (law_H18 hL (Ln + 1) 0 A0 _ (by omega) (by omega) (rel0 q4.2.2 z4 q12.2.1 q12.2.2))
/-- YOUR PART: from the entry, for every script of at most 4096 ints, the law comes to its end with true -/
theorem whole_start {p : Program} {e : Env} {s : State} {m : MethodId} {below : List Frame} {meth : Method} {c : Code} (l : Launch) {b L : Nat} {xs : Nat → Int32} (hL : L ≤ 4096) (C0 : lw_At p s m meth c b L xs) : W p l e room_1 s m #[Value.ref b] below meth c s.heap [] 0 0 (lw_Z below #[Value.ref b] s) (entryFrame m ([Value.ref b] : List Value).toArray 4) := by
  obtain ⟨hx, hb, hr, hml, hown, hts, hX, hbl, hlocks, hgv⟩ := id C0
  obtain ⟨G, cid, hK⟩ := KN_of hts
  have hc : Ux p s m #[Value.ref b] meth c G cid (fun q => s.heap.size ≤ q) cL_law RL 4 := ⟨hx, hb, hml, hown, fun w hw => hts w (gt_in hw), hK, fun _ h => h, hlocks⟩
  have hP : va_P G vwCl (wN (fun _ => 0) cid (fun _ _ => 0) []) s.heap := fun k q h => by simp [wN] at h
  have hD : va_D (fun q => s.heap.size ≤ q) (wN (fun _ => 0) cid (fun _ _ => 0) []) := ⟨fun i j p q h => by simp [wN] at h, fun k q h => by simp [wN] at h⟩
  have hU := law_U (l := l) (e := e) (below := below) (ad := fun _ => 0) (σ := fun _ _ => 0) hL hc hr ⟨hX, hbl⟩ (fun _ _ => rfl)
  rw [lg_entry_eq]
  exact hU s.heap [] _ hP hD va_S.rf (lvh_entry (vs := [.ref b]) (n := 4) (catR [b]) (Nat.le_of_ble_eq_true rfl))

