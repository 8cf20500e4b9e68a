section
-- ===== PART A: goes FIRST, ahead of the names: the tables' words, and 'selects' of the private methods out of them =====
/-- a private method of a class that the tables say can be made, by its rows of tables_1 -/
def lw_okq (q : MethodName × Nat) : Prop := (q.1.cls ≠ "java/lang/invoke/MethodHandle" ∧ q.1.cls ≠ "java/lang/invoke/VarHandle") ∧ Cond.instantiable q.1.cls q.2 ∈ tables_1 ∧ Cond.privateMethod q.1 ∈ tables_1 ∧ Cond.instanceMethod q.1 ∈ tables_1
theorem lw_p0 : lw_okq (⟨"RidePools$Roads", "renew", "()V"⟩, 2) := ⟨⟨by decide +kernel, by decide +kernel⟩, List.mem_of_getElem? (i := 24) (by decide +kernel), List.mem_of_getElem? (i := 35) (by decide +kernel), List.mem_of_getElem? (i := 36) (by decide +kernel)⟩
theorem lw_p1 : lw_okq (⟨"RidePools$Roads", "shortenBy", "(I[I)V"⟩, 2) := ⟨⟨by decide +kernel, by decide +kernel⟩, List.mem_of_getElem? (i := 24) (by decide +kernel), List.mem_of_getElem? (i := 42) (by decide +kernel), List.mem_of_getElem? (i := 43) (by decide +kernel)⟩
theorem lw_p2 : lw_okq (⟨"RidePools", "refuse", "(I)I"⟩, 8) := ⟨⟨by decide +kernel, by decide +kernel⟩, List.mem_of_getElem? (i := 16) (by decide +kernel), List.mem_of_getElem? (i := 296) (by decide +kernel), List.mem_of_getElem? (i := 297) (by decide +kernel)⟩
theorem lw_p3 : lw_okq (⟨"RidePools", "setBroken", "(IZ)Z"⟩, 8) := ⟨⟨by decide +kernel, by decide +kernel⟩, List.mem_of_getElem? (i := 16) (by decide +kernel), List.mem_of_getElem? (i := 355) (by decide +kernel), List.mem_of_getElem? (i := 356) (by decide +kernel)⟩
theorem lw_p4 : lw_okq (⟨"RidePools", "wrongRide", "(II)I"⟩, 8) := ⟨⟨by decide +kernel, by decide +kernel⟩, List.mem_of_getElem? (i := 16) (by decide +kernel), List.mem_of_getElem? (i := 363) (by decide +kernel), List.mem_of_getElem? (i := 364) (by decide +kernel)⟩
theorem lw_p5 : lw_okq (⟨"RidePools", "wrongSet", "(I)I"⟩, 8) := ⟨⟨by decide +kernel, by decide +kernel⟩, List.mem_of_getElem? (i := 16) (by decide +kernel), List.mem_of_getElem? (i := 367) (by decide +kernel), List.mem_of_getElem? (i := 368) (by decide +kernel)⟩
theorem lw_p6 : lw_okq (⟨"RidePools$WayFinder", "load", "(I)V"⟩, 9) := ⟨⟨by decide +kernel, by decide +kernel⟩, List.mem_of_getElem? (i := 122) (by decide +kernel), List.mem_of_getElem? (i := 412) (by decide +kernel), List.mem_of_getElem? (i := 413) (by decide +kernel)⟩
theorem lw_p7 : lw_okq (⟨"RidePools$WayFinder", "loadOne", "(II)V"⟩, 9) := ⟨⟨by decide +kernel, by decide +kernel⟩, List.mem_of_getElem? (i := 122) (by decide +kernel), List.mem_of_getElem? (i := 417) (by decide +kernel), List.mem_of_getElem? (i := 418) (by decide +kernel)⟩
theorem lw_p8 : lw_okq (⟨"RidePools$WayFinder", "allPlaces", "()I"⟩, 9) := ⟨⟨by decide +kernel, by decide +kernel⟩, List.mem_of_getElem? (i := 122) (by decide +kernel), List.mem_of_getElem? (i := 423) (by decide +kernel), List.mem_of_getElem? (i := 424) (by decide +kernel)⟩
theorem lw_p9 : lw_okq (⟨"RidePools$WayFinder", "pickNext", "(IIII)V"⟩, 9) := ⟨⟨by decide +kernel, by decide +kernel⟩, List.mem_of_getElem? (i := 122) (by decide +kernel), List.mem_of_getElem? (i := 427) (by decide +kernel), List.mem_of_getElem? (i := 428) (by decide +kernel)⟩
theorem lw_p10 : lw_okq (⟨"RidePools$WayFinder", "bringNext", "(IIIIII)V"⟩, 9) := ⟨⟨by decide +kernel, by decide +kernel⟩, List.mem_of_getElem? (i := 122) (by decide +kernel), List.mem_of_getElem? (i := 431) (by decide +kernel), List.mem_of_getElem? (i := 432) (by decide +kernel)⟩
theorem lw_p11 : lw_okq (⟨"RidePools$Costs", "takeIfFewer", "(III)V"⟩, 3) := ⟨⟨by decide +kernel, by decide +kernel⟩, List.mem_of_getElem? (i := 203) (by decide +kernel), List.mem_of_getElem? (i := 470) (by decide +kernel), List.mem_of_getElem? (i := 471) (by decide +kernel)⟩
theorem lw_p12 : lw_okq (⟨"RidePools", "whoseTurn", "(I)I"⟩, 8) := ⟨⟨by decide +kernel, by decide +kernel⟩, List.mem_of_getElem? (i := 16) (by decide +kernel), List.mem_of_getElem? (i := 490) (by decide +kernel), List.mem_of_getElem? (i := 491) (by decide +kernel)⟩
theorem lw_p13 : lw_okq (⟨"RidePools$Parting", "findAll", "(II)I"⟩, 3) := ⟨⟨by decide +kernel, by decide +kernel⟩, List.mem_of_getElem? (i := 220) (by decide +kernel), List.mem_of_getElem? (i := 509) (by decide +kernel), List.mem_of_getElem? (i := 510) (by decide +kernel)⟩
theorem lw_p14 : lw_okq (⟨"RidePools$Parting", "choose", "(II)V"⟩, 3) := ⟨⟨by decide +kernel, by decide +kernel⟩, List.mem_of_getElem? (i := 220) (by decide +kernel), List.mem_of_getElem? (i := 513) (by decide +kernel), List.mem_of_getElem? (i := 514) (by decide +kernel)⟩
theorem lw_p15 : lw_okq (⟨"RidePools$Parting", "tryPool", "(III)V"⟩, 3) := ⟨⟨by decide +kernel, by decide +kernel⟩, List.mem_of_getElem? (i := 220) (by decide +kernel), List.mem_of_getElem? (i := 519) (by decide +kernel), List.mem_of_getElem? (i := 520) (by decide +kernel)⟩
def lw_privs_1 : List (MethodName × Nat) := [(⟨"RidePools$Roads", "renew", "()V"⟩, 2), (⟨"RidePools$Roads", "shortenBy", "(I[I)V"⟩, 2), (⟨"RidePools", "refuse", "(I)I"⟩, 8), (⟨"RidePools", "setBroken", "(IZ)Z"⟩, 8), (⟨"RidePools", "wrongRide", "(II)I"⟩, 8), (⟨"RidePools", "wrongSet", "(I)I"⟩, 8), (⟨"RidePools$WayFinder", "load", "(I)V"⟩, 9), (⟨"RidePools$WayFinder", "loadOne", "(II)V"⟩, 9), (⟨"RidePools$WayFinder", "allPlaces", "()I"⟩, 9), (⟨"RidePools$WayFinder", "pickNext", "(IIII)V"⟩, 9), (⟨"RidePools$WayFinder", "bringNext", "(IIIIII)V"⟩, 9), (⟨"RidePools$Costs", "takeIfFewer", "(III)V"⟩, 3), (⟨"RidePools", "whoseTurn", "(I)I"⟩, 8), (⟨"RidePools$Parting", "findAll", "(II)I"⟩, 3), (⟨"RidePools$Parting", "choose", "(II)V"⟩, 3), (⟨"RidePools$Parting", "tryPool", "(III)V"⟩, 3)]
theorem lw_r1 : ∀ q ∈ lw_privs_1, lw_okq q := List.forall_mem_cons.mpr ⟨lw_p0, List.forall_mem_cons.mpr ⟨lw_p1, List.forall_mem_cons.mpr ⟨lw_p2, List.forall_mem_cons.mpr ⟨lw_p3, List.forall_mem_cons.mpr ⟨lw_p4, List.forall_mem_cons.mpr ⟨lw_p5, List.forall_mem_cons.mpr ⟨lw_p6, List.forall_mem_cons.mpr ⟨lw_p7, List.forall_mem_cons.mpr ⟨lw_p8, List.forall_mem_cons.mpr ⟨lw_p9, List.forall_mem_cons.mpr ⟨lw_p10, List.forall_mem_cons.mpr ⟨lw_p11, List.forall_mem_cons.mpr ⟨lw_p12, List.forall_mem_cons.mpr ⟨lw_p13, List.forall_mem_cons.mpr ⟨lw_p14, List.forall_mem_cons.mpr ⟨lw_p15, fun _ h => absurd h List.not_mem_nil⟩⟩⟩⟩⟩⟩⟩⟩⟩⟩⟩⟩⟩⟩⟩⟩
theorem lw_p16 : lw_okq (⟨"RidePools", "takeIntoPlan", "(II)V"⟩, 8) := ⟨⟨by decide +kernel, by decide +kernel⟩, List.mem_of_getElem? (i := 16) (by decide +kernel), List.mem_of_getElem? (i := 533) (by decide +kernel), List.mem_of_getElem? (i := 534) (by decide +kernel)⟩
theorem lw_p17 : lw_okq (⟨"RidePools", "putIntoPlan", "(II)Z"⟩, 8) := ⟨⟨by decide +kernel, by decide +kernel⟩, List.mem_of_getElem? (i := 16) (by decide +kernel), List.mem_of_getElem? (i := 541) (by decide +kernel), List.mem_of_getElem? (i := 542) (by decide +kernel)⟩
theorem lw_p18 : lw_okq (⟨"RidePools", "evenOut", "(II)Z"⟩, 8) := ⟨⟨by decide +kernel, by decide +kernel⟩, List.mem_of_getElem? (i := 16) (by decide +kernel), List.mem_of_getElem? (i := 606) (by decide +kernel), List.mem_of_getElem? (i := 607) (by decide +kernel)⟩
theorem lw_p19 : lw_okq (⟨"RidePools", "findPlace", "(I)Z"⟩, 8) := ⟨⟨by decide +kernel, by decide +kernel⟩, List.mem_of_getElem? (i := 16) (by decide +kernel), List.mem_of_getElem? (i := 631) (by decide +kernel), List.mem_of_getElem? (i := 632) (by decide +kernel)⟩
theorem lw_p20 : lw_okq (⟨"RidePools", "isOpen", "(I)Z"⟩, 8) := ⟨⟨by decide +kernel, by decide +kernel⟩, List.mem_of_getElem? (i := 16) (by decide +kernel), List.mem_of_getElem? (i := 635) (by decide +kernel), List.mem_of_getElem? (i := 636) (by decide +kernel)⟩
theorem lw_p21 : lw_okq (⟨"RidePoolsModel", "measure", "()V"⟩, 43) := ⟨⟨by decide +kernel, by decide +kernel⟩, List.mem_of_getElem? (i := 665) (by decide +kernel), List.mem_of_getElem? (i := 671) (by decide +kernel), List.mem_of_getElem? (i := 672) (by decide +kernel)⟩
theorem lw_p22 : lw_okq (⟨"RidePoolsModel", "changes", "()V"⟩, 43) := ⟨⟨by decide +kernel, by decide +kernel⟩, List.mem_of_getElem? (i := 665) (by decide +kernel), List.mem_of_getElem? (i := 676) (by decide +kernel), List.mem_of_getElem? (i := 677) (by decide +kernel)⟩
theorem lw_p23 : lw_okq (⟨"RidePoolsModel", "refuse", "(I)I"⟩, 43) := ⟨⟨by decide +kernel, by decide +kernel⟩, List.mem_of_getElem? (i := 665) (by decide +kernel), List.mem_of_getElem? (i := 818) (by decide +kernel), List.mem_of_getElem? (i := 819) (by decide +kernel)⟩
theorem lw_p24 : lw_okq (⟨"RidePoolsModel", "leastOf", "(II)I"⟩, 43) := ⟨⟨by decide +kernel, by decide +kernel⟩, List.mem_of_getElem? (i := 665) (by decide +kernel), List.mem_of_getElem? (i := 826) (by decide +kernel), List.mem_of_getElem? (i := 827) (by decide +kernel)⟩
theorem lw_p25 : lw_okq (⟨"RidePoolsModel", "isPerson", "(I)Z"⟩, 43) := ⟨⟨by decide +kernel, by decide +kernel⟩, List.mem_of_getElem? (i := 665) (by decide +kernel), List.mem_of_getElem? (i := 838) (by decide +kernel), List.mem_of_getElem? (i := 839) (by decide +kernel)⟩
theorem lw_p26 : lw_okq (⟨"RidePoolsModel", "wrong", "(II)I"⟩, 43) := ⟨⟨by decide +kernel, by decide +kernel⟩, List.mem_of_getElem? (i := 665) (by decide +kernel), List.mem_of_getElem? (i := 858) (by decide +kernel), List.mem_of_getElem? (i := 859) (by decide +kernel)⟩
theorem lw_p27 : lw_okq (⟨"RidePoolsModel", "isSet", "(I)Z"⟩, 43) := ⟨⟨by decide +kernel, by decide +kernel⟩, List.mem_of_getElem? (i := 665) (by decide +kernel), List.mem_of_getElem? (i := 862) (by decide +kernel), List.mem_of_getElem? (i := 863) (by decide +kernel)⟩
theorem lw_p28 : lw_okq (⟨"RidePoolsModel", "hasAway", "(I)Z"⟩, 43) := ⟨⟨by decide +kernel, by decide +kernel⟩, List.mem_of_getElem? (i := 665) (by decide +kernel), List.mem_of_getElem? (i := 869) (by decide +kernel), List.mem_of_getElem? (i := 870) (by decide +kernel)⟩
theorem lw_p29 : lw_okq (⟨"RidePoolsModel", "whyNot", "(II)I"⟩, 43) := ⟨⟨by decide +kernel, by decide +kernel⟩, List.mem_of_getElem? (i := 665) (by decide +kernel), List.mem_of_getElem? (i := 873) (by decide +kernel), List.mem_of_getElem? (i := 874) (by decide +kernel)⟩
theorem lw_p30 : lw_okq (⟨"RidePoolsModel", "picks", "(IIII)V"⟩, 43) := ⟨⟨by decide +kernel, by decide +kernel⟩, List.mem_of_getElem? (i := 665) (by decide +kernel), List.mem_of_getElem? (i := 878) (by decide +kernel), List.mem_of_getElem? (i := 879) (by decide +kernel)⟩
theorem lw_p31 : lw_okq (⟨"RidePoolsModel", "drops", "(IIII)V"⟩, 43) := ⟨⟨by decide +kernel, by decide +kernel⟩, List.mem_of_getElem? (i := 665) (by decide +kernel), List.mem_of_getElem? (i := 882) (by decide +kernel), List.mem_of_getElem? (i := 883) (by decide +kernel)⟩
def lw_privs_2 : List (MethodName × Nat) := [(⟨"RidePools", "takeIntoPlan", "(II)V"⟩, 8), (⟨"RidePools", "putIntoPlan", "(II)Z"⟩, 8), (⟨"RidePools", "evenOut", "(II)Z"⟩, 8), (⟨"RidePools", "findPlace", "(I)Z"⟩, 8), (⟨"RidePools", "isOpen", "(I)Z"⟩, 8), (⟨"RidePoolsModel", "measure", "()V"⟩, 43), (⟨"RidePoolsModel", "changes", "()V"⟩, 43), (⟨"RidePoolsModel", "refuse", "(I)I"⟩, 43), (⟨"RidePoolsModel", "leastOf", "(II)I"⟩, 43), (⟨"RidePoolsModel", "isPerson", "(I)Z"⟩, 43), (⟨"RidePoolsModel", "wrong", "(II)I"⟩, 43), (⟨"RidePoolsModel", "isSet", "(I)Z"⟩, 43), (⟨"RidePoolsModel", "hasAway", "(I)Z"⟩, 43), (⟨"RidePoolsModel", "whyNot", "(II)I"⟩, 43), (⟨"RidePoolsModel", "picks", "(IIII)V"⟩, 43), (⟨"RidePoolsModel", "drops", "(IIII)V"⟩, 43)]
theorem lw_r2 : ∀ q ∈ lw_privs_2, lw_okq q := List.forall_mem_cons.mpr ⟨lw_p16, List.forall_mem_cons.mpr ⟨lw_p17, List.forall_mem_cons.mpr ⟨lw_p18, List.forall_mem_cons.mpr ⟨lw_p19, List.forall_mem_cons.mpr ⟨lw_p20, List.forall_mem_cons.mpr ⟨lw_p21, List.forall_mem_cons.mpr ⟨lw_p22, List.forall_mem_cons.mpr ⟨lw_p23, List.forall_mem_cons.mpr ⟨lw_p24, List.forall_mem_cons.mpr ⟨lw_p25, List.forall_mem_cons.mpr ⟨lw_p26, List.forall_mem_cons.mpr ⟨lw_p27, List.forall_mem_cons.mpr ⟨lw_p28, List.forall_mem_cons.mpr ⟨lw_p29, List.forall_mem_cons.mpr ⟨lw_p30, List.forall_mem_cons.mpr ⟨lw_p31, fun _ h => absurd h List.not_mem_nil⟩⟩⟩⟩⟩⟩⟩⟩⟩⟩⟩⟩⟩⟩⟩⟩
theorem lw_p32 : lw_okq (⟨"RidePoolsModel", "looks", "(I)V"⟩, 43) := ⟨⟨by decide +kernel, by decide +kernel⟩, List.mem_of_getElem? (i := 665) (by decide +kernel), List.mem_of_getElem? (i := 886) (by decide +kernel), List.mem_of_getElem? (i := 887) (by decide +kernel)⟩
theorem lw_p33 : lw_okq (⟨"RidePoolsModel", "wrongSet", "(I)I"⟩, 43) := ⟨⟨by decide +kernel, by decide +kernel⟩, List.mem_of_getElem? (i := 665) (by decide +kernel), List.mem_of_getElem? (i := 903) (by decide +kernel), List.mem_of_getElem? (i := 904) (by decide +kernel)⟩
theorem lw_p34 : lw_okq (⟨"RidePoolsModel", "know", "()V"⟩, 43) := ⟨⟨by decide +kernel, by decide +kernel⟩, List.mem_of_getElem? (i := 665) (by decide +kernel), List.mem_of_getElem? (i := 907) (by decide +kernel), List.mem_of_getElem? (i := 908) (by decide +kernel)⟩
theorem lw_p35 : lw_okq (⟨"RidePoolsModel", "turnOf", "(I)I"⟩, 43) := ⟨⟨by decide +kernel, by decide +kernel⟩, List.mem_of_getElem? (i := 665) (by decide +kernel), List.mem_of_getElem? (i := 919) (by decide +kernel), List.mem_of_getElem? (i := 920) (by decide +kernel)⟩
theorem lw_p36 : lw_okq (⟨"RidePoolsModel", "best", "()V"⟩, 43) := ⟨⟨by decide +kernel, by decide +kernel⟩, List.mem_of_getElem? (i := 665) (by decide +kernel), List.mem_of_getElem? (i := 927) (by decide +kernel), List.mem_of_getElem? (i := 928) (by decide +kernel)⟩
theorem lw_p37 : lw_okq (⟨"RidePoolsModel", "present", "()I"⟩, 43) := ⟨⟨by decide +kernel, by decide +kernel⟩, List.mem_of_getElem? (i := 665) (by decide +kernel), List.mem_of_getElem? (i := 931) (by decide +kernel), List.mem_of_getElem? (i := 932) (by decide +kernel)⟩
theorem lw_p38 : lw_okq (⟨"RidePoolsModel", "bestOf", "(I)V"⟩, 43) := ⟨⟨by decide +kernel, by decide +kernel⟩, List.mem_of_getElem? (i := 665) (by decide +kernel), List.mem_of_getElem? (i := 935) (by decide +kernel), List.mem_of_getElem? (i := 936) (by decide +kernel)⟩
theorem lw_p39 : lw_okq (⟨"RidePoolsModel", "leaves", "(I)V"⟩, 43) := ⟨⟨by decide +kernel, by decide +kernel⟩, List.mem_of_getElem? (i := 665) (by decide +kernel), List.mem_of_getElem? (i := 939) (by decide +kernel), List.mem_of_getElem? (i := 940) (by decide +kernel)⟩
theorem lw_p40 : lw_okq (⟨"RidePoolsModel", "lays", "(II)V"⟩, 43) := ⟨⟨by decide +kernel, by decide +kernel⟩, List.mem_of_getElem? (i := 665) (by decide +kernel), List.mem_of_getElem? (i := 943) (by decide +kernel), List.mem_of_getElem? (i := 944) (by decide +kernel)⟩
theorem lw_p41 : lw_okq (⟨"RidePoolsModel", "planned", "(I)I"⟩, 43) := ⟨⟨by decide +kernel, by decide +kernel⟩, List.mem_of_getElem? (i := 665) (by decide +kernel), List.mem_of_getElem? (i := 951) (by decide +kernel), List.mem_of_getElem? (i := 952) (by decide +kernel)⟩
theorem lw_p42 : lw_okq (⟨"RidePoolsModel", "isFirst", "(I)Z"⟩, 43) := ⟨⟨by decide +kernel, by decide +kernel⟩, List.mem_of_getElem? (i := 665) (by decide +kernel), List.mem_of_getElem? (i := 955) (by decide +kernel), List.mem_of_getElem? (i := 956) (by decide +kernel)⟩
theorem lw_p43 : lw_okq (⟨"RidePoolsModel", "joins", "(I)Z"⟩, 43) := ⟨⟨by decide +kernel, by decide +kernel⟩, List.mem_of_getElem? (i := 665) (by decide +kernel), List.mem_of_getElem? (i := 979) (by decide +kernel), List.mem_of_getElem? (i := 980) (by decide +kernel)⟩
def lw_privs_3 : List (MethodName × Nat) := [(⟨"RidePoolsModel", "looks", "(I)V"⟩, 43), (⟨"RidePoolsModel", "wrongSet", "(I)I"⟩, 43), (⟨"RidePoolsModel", "know", "()V"⟩, 43), (⟨"RidePoolsModel", "turnOf", "(I)I"⟩, 43), (⟨"RidePoolsModel", "best", "()V"⟩, 43), (⟨"RidePoolsModel", "present", "()I"⟩, 43), (⟨"RidePoolsModel", "bestOf", "(I)V"⟩, 43), (⟨"RidePoolsModel", "leaves", "(I)V"⟩, 43), (⟨"RidePoolsModel", "lays", "(II)V"⟩, 43), (⟨"RidePoolsModel", "planned", "(I)I"⟩, 43), (⟨"RidePoolsModel", "isFirst", "(I)Z"⟩, 43), (⟨"RidePoolsModel", "joins", "(I)Z"⟩, 43)]
theorem lw_r3 : ∀ q ∈ lw_privs_3, lw_okq q := List.forall_mem_cons.mpr ⟨lw_p32, List.forall_mem_cons.mpr ⟨lw_p33, List.forall_mem_cons.mpr ⟨lw_p34, List.forall_mem_cons.mpr ⟨lw_p35, List.forall_mem_cons.mpr ⟨lw_p36, List.forall_mem_cons.mpr ⟨lw_p37, List.forall_mem_cons.mpr ⟨lw_p38, List.forall_mem_cons.mpr ⟨lw_p39, List.forall_mem_cons.mpr ⟨lw_p40, List.forall_mem_cons.mpr ⟨lw_p41, List.forall_mem_cons.mpr ⟨lw_p42, List.forall_mem_cons.mpr ⟨lw_p43, fun _ h => absurd h List.not_mem_nil⟩⟩⟩⟩⟩⟩⟩⟩⟩⟩⟩⟩
def lw_privs : List (MethodName × Nat) := lw_privs_1 ++ (lw_privs_2 ++ (lw_privs_3))
def lw_tbl : List Cond := k2_sels lw_privs ++ tables_1
theorem lw_privs_ok : ∀ q ∈ lw_privs, lw_okq q := by
  show ∀ q ∈ lw_privs_1 ++ (lw_privs_2 ++ (lw_privs_3)), lw_okq q
  exact List.forall_mem_append.mpr ⟨lw_r1, List.forall_mem_append.mpr ⟨lw_r2, lw_r3⟩⟩
end
section
/-! ===== BEGIN words of one list among another's, by their places ===== -/
theorem goodIn_r {big : List Cond} (ws : List Cond) (ps : List Nat) (hp : ws = ps.filterMap (fun i => big[i]?)) (h : ws.all goodWord = true) : GoodIn big ws := by
  intro w hw
  have h1 := List.all_eq_true.mp h w hw
  rw [hp] at hw
  obtain ⟨i, -, hi⟩ := List.mem_filterMap.mp hw
  have hm : w ∈ big := by first | exact List.mem_of_getElem? hi | exact List.getElem?_mem hi
  exact ⟨hm, good_of_word h1⟩
theorem goodIn_app {big a b : List Cond} (ha : GoodIn big a) (hb : GoodIn big b) : GoodIn big (a ++ b) := fun w h => (List.mem_append.mp h).elim (ha w) (hb w)
theorem goodIn_ca {big a b : List Cond} {c : Cond} (ha : GoodIn big (c :: a)) (hb : GoodIn big b) : GoodIn big (c :: (a ++ b)) := fun w h => (List.mem_cons.mp h).elim (fun e => ha w (List.mem_cons.mpr (Or.inl e))) (fun h => (List.mem_append.mp h).elim (fun h => ha w (List.mem_cons.mpr (Or.inr h))) (hb w))
theorem goodIn_sub {big ws : List Cond} (hm : ∀ w ∈ ws, w ∈ big) (h : ws.all goodWord = true) : GoodIn big ws := fun w hw => ⟨hm w hw, good_of_word (List.all_eq_true.mp h w hw)⟩
/-! ===== END ===== -/

/-! ===== BEGIN new T[n][m]: the outer array a place, the inner ones among the pooled ===== -/
/-- f, but v at every address of l -/
def vr_up {α : Type} (f : Nat → α) (l : List Nat) (v : α) : Nat → α := fun a => if a ∈ l then v else f a
theorem vr_up_in {α : Type} {f : Nat → α} {l : List Nat} {v : α} {a : Nat} (h : a ∈ l) : vr_up f l v a = v := if_pos h
theorem vr_up_ne {α : Type} {f : Nat → α} {l : List Nat} {v : α} {a : Nat} (h : a ∉ l) : vr_up f l v a = f a := if_neg h
theorem vr_rows {L l : List Nat} {f : Nat → va_E} {e : va_E} (h : ∀ a, a ∈ l → a ∉ L) : va_pl L f ++ l.map (fun a => (a, e)) = va_pl (L ++ l) (vr_up f l e) := by
  unfold va_pl
  rw [List.map_append]
  congr 1
  · apply List.map_congr_left
    intro a ha
    rw [vr_up_ne (fun q => h a q ha)]
  · apply List.map_congr_left
    intro a ha
    rw [vr_up_in ha]
theorem vr_lay {X rows : va_W} {x : Nat × va_E} {pl : va_W} {D : va_G} {cl : List vw_C} {H : Heap} (hP : va_P D cl (((X ++ pl) ++ [x]) ++ rows) H) : va_P D cl ((X ++ [x]) ++ (pl ++ rows)) H := by
  rw [List.append_assoc (X ++ pl)] at hP
  have h := va_P.swap hP
  rw [← List.append_assoc X] at h
  have h2 := va_P.swap h
  rw [List.append_assoc (X ++ [x])] at h2
  exact h2
theorem vr_layD {X rows : va_W} {x : Nat × va_E} {pl : va_W} {A : Nat → Prop} (hD : va_D A (((X ++ pl) ++ [x]) ++ rows)) : va_D A ((X ++ [x]) ++ (pl ++ rows)) := by
  rw [List.append_assoc (X ++ pl)] at hD
  have h := va_D.swap hD
  rw [← List.append_assoc X] at h
  have h2 := va_D.swap h
  rw [List.append_assoc (X ++ [x])] at h2
  exact h2
theorem vr_outer (c : ClassId) (N h0 : Nat) : ∀ i : Nat, Jvm.Free.Multi.outerC c N h0 i = arrV c N (fun j => va_rf (if j < i then some (h0 + 1 + j) else none))
  | 0 => by
    show ({ cls := c, slots := Array.replicate N .null, vm := .none } : Cell) = _
    rw [arrV_new]
    refine congrArg (arrV c N) (funext fun j => ?_)
    simp [va_rf]
  | i + 1 => by
    show (Jvm.Free.Multi.outerC c N h0 i).setSlot i (.ref (h0 + 1 + i)) = _
    rw [vr_outer c N h0 i, arrV_store]
    refine congrArg (arrV c N) (funext fun j => ?_)
    by_cases e : j = i
    · subst e
      simp [updV, va_rf]
    · by_cases h : j < i
      · simp [updV, e, h, Nat.lt_succ_of_lt h]
      · simp [updV, e, h, show ¬ j < i + 1 by omega]
def va_AOA (ty : FieldType) (U : State) : Prop := (Cond.arrayOver (.array ty)).before #[] U = true
theorem va_AOA.use {ty : FieldType} {A : Array Value} {U : State} (h : va_AOA ty U) : (Cond.arrayOver (.array ty)).before A U = true := h
section VGM
variable {p : Program} {l : Launch} {e : Env} {R : Room} {s : State} {m : MethodId} {args : Array Value} {below : List Frame} {meth : Method} {c : Code} {H : Heap} {locs : List Loc} {cells slots : Nat} {Q : State → Prop}
variable {cc : ByteArray} {pc : Nat} {ls : Array Slot} {rest : List Value} {D : va_G} {cl : List vw_C} {A : Nat → Prop} {a : Nat} {tys : List (ClassId × FieldType)} {ws : va_W} {H0 : Heap}
theorem va_mna {X : va_W} {L : List Nat} {f : Nat → va_E} {cc : ByteArray} (hexec : p.tables.exec = Jvm.exec) (hb : c.code = cc) {own : String} {index : Nat} {ty : FieldType} {cy : ClassId} (hown : s.vm.findClass own = some m.cls) (hclink : (Cond.classLink own index ("[" ++ (FieldType.array ty).toString)).before args s = true) (hover : va_AOA ty s) (harr : (Cond.arrayClass ty).before args s = true) (hcy : s.vm.findClass (FieldType.array ty).toString = some cy)
    (hK : va_K D cl tys s) (hP : va_P D cl (X ++ va_pl L f) H) (hD : va_D A (X ++ va_pl L f)) (hS : va_S A H0 H locs) (hA : ∀ q, H0.size ≤ q → A q) {n k : Int32} {N' K' : Nat} {z : vp_A} (hn : ¬ n < 0) (hk : ¬ k < 0) (hN : n.toNatClampNeg = N') (hM : k.toNatClampNeg = K')
    (hb1 : N' * 4 ≤ 536870912) (hb2 : K' * componentBytes ty ≤ 536870912) (hb3 : K' ≤ 536870912) (hdf : fits ty (defaultValue ty) = true) (hdd : (defaultValue ty).isDefault = true) (hcells : cells + (1 + N') ≤ R.cells) (hslots : slots + (N' + N' * K') ≤ R.slots) (hz : ∀ c : ClassId, Jvm.Free.Multi.innerC c K' (defaultValue ty) = vp_cell c z) (hdg : decode cc pc = .ok (.multianewarray index 2, 4))
    (kk : ∀ (q : Nat) (r : Nat → Nat) (cA : ClassId) (H1 : Heap), (∀ i j : Nat, i < N' → j < N' → r i = r j → i = j) → (∀ i : Nat, i < N' → r i ∉ L) → va_K D cl (tys ++ [(cA, .array ty)]) s →
      va_P D cl ((X ++ [(q, .inl (cA, N', .inr (.inr (.inr (.inr (fun i => if i < N' then some (r i) else none))))))]) ++ va_pl (L ++ (List.range N').map r) (vr_up f ((List.range N').map r) (.inl (cy, z)))) H1 → va_D A ((X ++ [(q, .inl (cA, N', .inr (.inr (.inr (.inr (fun i => if i < N' then some (r i) else none))))))]) ++ va_pl (L ++ (List.range N').map r) (vr_up f ((List.range N').map r) (.inl (cy, z)))) → va_S A H0 H1 locs →
      W p l e R s m args below meth c H1 locs (cells + 1 + N') (slots + N' + N' * K') Q (F0 m (pc + 4) ls (.ref q :: rest))) : W p l e R s m args below meth c H locs cells slots Q (F0 m pc ls (.int k :: .int n :: rest)) := by
  subst hN
  subst hM
  intro T hT Xs
  obtain ⟨vm₁, cA, comp, -, fA, fC, hO, -, X', step⟩ := Xs.multianewarray2F hexec hown hclink (va_AOA.use hover) harr (g := F0 m pc ls (.int k :: .int n :: rest)) rfl (by rw [hb]; exact hdg) rfl hn hk hb1 hb2 hb3 hdf hdd hcells hslots
  have ec : some cy = some comp := hcy.symm.trans fC
  cases ec
  generalize hF : Jvm.Free.Multi.fill (T.setVm vm₁) cA cy n.toNatClampNeg k.toNatClampNeg (defaultValue ty) n.toNatClampNeg = F at X' step
  have hTh : (T.setVm vm₁).heap = H := hT
  obtain ⟨f1, f2, -, -⟩ := Jvm.Free.Multi.fill_facts (T.setVm vm₁) cA cy n.toNatClampNeg k.toNatClampNeg (defaultValue ty) n.toNatClampNeg
  rw [hF, hTh] at f1 f2
  have hold : ∀ x : Nat, x < H.size → F.heap[x]? = H[x]? := fun x hx => by
    have := Jvm.Free.Multi.fill_old (T.setVm vm₁) cA cy n.toNatClampNeg k.toNatClampNeg (defaultValue ty) (a := x) (by rw [hTh]; exact hx) n.toNatClampNeg
    rw [hF, hTh] at this
    exact this
  have hrow : ∀ j : Nat, j < n.toNatClampNeg → F.heap[H.size + 1 + j]? = some (vp_cell cy z) := fun j hj => by
    have := Jvm.Free.Multi.fill_inner (T.setVm vm₁) cA cy n.toNatClampNeg k.toNatClampNeg (defaultValue ty) n.toNatClampNeg j hj
    rw [hF, hTh, hz] at this
    exact this
  have hout : Jvm.Free.Multi.outerC cA n.toNatClampNeg H.size n.toNatClampNeg = vp_cell cA (n.toNatClampNeg, .inr (.inr (.inr (.inr (fun i => if i < n.toNatClampNeg then some (H.size + 1 + i) else none))))) := by
    rw [vp_cell_q]
    exact vr_outer cA n.toNatClampNeg H.size n.toNatClampNeg
  rw [hout] at f2
  have hlt : ∀ a, a ∈ L → a < H.size := fun a ha => by
    obtain ⟨k9, hk9⟩ := va_pl_get (X := X) (f := f) ha
    exact (hP k9 _ hk9).lt
  have hnl : ∀ i : Nat, i < n.toNatClampNeg → H.size + 1 + i ∉ L := fun i _ h => by
    have := hlt _ h
    omega
  have hnm : ∀ a, a ∈ (List.range n.toNatClampNeg).map (fun i => H.size + 1 + i) → a ∉ L := fun a ha h => by
    obtain ⟨i, -, rfl⟩ := List.mem_map.mp ha
    have := hlt _ h
    omega
  have hP0 : va_P D cl (X ++ va_pl L f) F.heap := hP.kept (fun k9 x hx => hold x.1 ((hP k9 x hx).lt))
  have hP1 : va_P D cl ((X ++ va_pl L f) ++ [(H.size, .inl (cA, n.toNatClampNeg, .inr (.inr (.inr (.inr (fun i => if i < n.toNatClampNeg then some (H.size + 1 + i) else none))))))]) F.heap := hP0.app (fun k9 x hx => by
    have h0 : k9 < 1 := (List.getElem?_eq_some_iff.mp hx).1
    rw [show k9 = 0 by omega] at hx
    cases hx
    exact f2)
  have hP2 : va_P D cl (((X ++ va_pl L f) ++ [(H.size, .inl (cA, n.toNatClampNeg, .inr (.inr (.inr (.inr (fun i => if i < n.toNatClampNeg then some (H.size + 1 + i) else none))))))]) ++ ((List.range n.toNatClampNeg).map (fun i => H.size + 1 + i)).map (fun a => (a, .inl (cy, z)))) F.heap := hP1.app (fun k9 x hx => by
    obtain ⟨a, ha, rfl⟩ := List.mem_map.mp (List.mem_of_getElem? hx)
    obtain ⟨i, hi, rfl⟩ := List.mem_map.mp ha
    exact hrow i (List.mem_range.mp hi))
  have hD2 : va_D A (((X ++ va_pl L f) ++ [(H.size, .inl (cA, n.toNatClampNeg, .inr (.inr (.inr (.inr (fun i => if i < n.toNatClampNeg then some (H.size + 1 + i) else none))))))]) ++ ((List.range n.toNatClampNeg).map (fun i => H.size + 1 + i)).map (fun a => (a, .inl (cy, z)))) := by
    have hD1 := hD.push (e := .inl (cA, n.toNatClampNeg, .inr (.inr (.inr (.inr (fun i => if i < n.toNatClampNeg then some (H.size + 1 + i) else none)))))) hP rfl (hA _ hS.1)
    generalize hW1 : (X ++ va_pl L f) ++ [(H.size, .inl (cA, n.toNatClampNeg, .inr (.inr (.inr (.inr (fun i => if i < n.toNatClampNeg then some (H.size + 1 + i) else none))))))] = W1 at hD1 hP1 ⊢
    have hle : ∀ (k9 : Nat) (x : Nat × va_E), W1[k9]? = some x → x.1 ≤ H.size := fun k9 x hx => by
      rw [← hW1] at hx
      by_cases hl : k9 < (X ++ va_pl L f).length
      · rw [List.getElem?_append_left hl] at hx
        exact Nat.le_of_lt ((hP k9 x hx).lt)
      · rw [List.getElem?_append_right (by omega)] at hx
        have h0 : k9 - (X ++ va_pl L f).length < 1 := (List.getElem?_eq_some_iff.mp hx).1
        rw [show k9 - (X ++ va_pl L f).length = 0 by omega] at hx
        cases hx
        exact Nat.le_refl _
    have hr : ∀ (k9 : Nat) (x : Nat × va_E), (((List.range n.toNatClampNeg).map (fun i => H.size + 1 + i)).map (fun a => ((a, .inl (cy, z)) : Nat × va_E)))[k9]? = some x → x.1 = H.size + 1 + k9 := fun k9 x hx => by
      rw [List.getElem?_map, List.getElem?_map] at hx
      by_cases h9 : k9 < n.toNatClampNeg
      · rw [List.getElem?_range h9] at hx
        cases hx
        rfl
      · have hn0 : (List.range n.toNatClampNeg)[k9]? = none := List.getElem?_eq_none (by rw [List.length_range]; omega)
        rw [hn0] at hx
        cases hx
    refine ⟨fun i j x y hi hj hxy => ?_, fun k9 x hx => ?_⟩
    · by_cases h1 : i < W1.length <;> by_cases h2 : j < W1.length
      · rw [List.getElem?_append_left h1] at hi
        rw [List.getElem?_append_left h2] at hj
        exact hD1.1 i j x y hi hj hxy
      · rw [List.getElem?_append_left h1] at hi
        rw [List.getElem?_append_right (by omega)] at hj
        have := hle _ _ hi
        have := hr _ _ hj
        omega
      · rw [List.getElem?_append_right (by omega)] at hi
        rw [List.getElem?_append_left h2] at hj
        have := hle _ _ hj
        have := hr _ _ hi
        omega
      · rw [List.getElem?_append_right (by omega)] at hi hj
        have := hr _ _ hi
        have := hr _ _ hj
        omega
    · by_cases h1 : k9 < W1.length
      · rw [List.getElem?_append_left h1] at hx
        exact hD1.2 k9 x hx
      · rw [List.getElem?_append_right (by omega)] at hx
        have := hr _ _ hx
        exact hA _ (by have := hS.1; omega)
  have hAr : ArrOfT s cA (.array ty) := fun N9 z9 => by
    obtain ⟨-, k9, hk9, cm9, hkk9⟩ := (hO 0 0 0).1
    exact ⟨(fun q hq => by cases hq), k9, hk9, cm9, hkk9⟩
  have hK2 : va_K D cl (tys ++ [(cA, .array ty)]) s := ⟨hK.1, fun k9 x hx => by
    by_cases hl : k9 < tys.length
    · rw [List.getElem?_append_left hl] at hx
      exact hK.2 k9 x hx
    · rw [List.getElem?_append_right (by omega)] at hx
      have h0 : k9 - tys.length < 1 := (List.getElem?_eq_some_iff.mp hx).1
      rw [show k9 - tys.length = 0 by omega] at hx
      cases hx
      exact ⟨hAr, fA⟩⟩
  obtain ⟨t, a1, b1⟩ := kk H.size (fun i => H.size + 1 + i) cA F.heap (fun i j _ _ h => by have h9 : H.size + 1 + i = H.size + 1 + j := h; omega) hnl hK2 (by rw [← vr_rows hnm]; exact vr_lay hP2) (by rw [← vr_rows hnm]; exact vr_layD hD2) ⟨by rw [f1]; have := hS.1; omega, fun x h1 h2 => (hold x (Nat.lt_of_lt_of_le h1 hS.1)).trans (hS.2.1 x h1 h2), hS.2.2⟩ F rfl X'
  refine ⟨t, step t ?_, b1⟩
  have e : T.heap.size = H.size := by rw [hT]
  rw [e]
  exact a1
end VGM
/-! ===== END ===== -/

/-! ===== BEGIN printed: names, fields, word lists, decode rows ===== -/
def RX0 : String := "RidePools$Costs"
def TX0 : u_T := fun k => match k with
  | 0 => ("RidePools$Costs", "finder", "LRidePools$WayFinder;", true)
  | 1 => ("RidePools$Costs", "fewest", "[I", true)
  | _ => ("RidePools$Costs", "drivers", "[I", true)
def tyX0 : Nat → FieldType := fun k => match k with
  | 0 => .object "RidePools$WayFinder"
  | 1 => .array .int
  | _ => .array .int
abbrev wsX00 : List Cond := u_ws RX0 TX0 3
theorem nmX0 : ∀ a, a < 3 → ∀ b, b < 3 → a ≠ b → (TX0 a).2.1 ≠ (TX0 b).2.1 := by decide +kernel
theorem tyX0_ok : ∀ k, k < 3 → parseFieldDescriptor (TX0 k).2.2.1 = some (tyX0 k) := by decide +kernel
abbrev cX0_init : ByteArray := prog_2_method_1_code
def yX0_init : MethodName := ⟨RX0, "<init>", "(LRidePools$WayFinder;)V"⟩
abbrev cX0_minutesFor : ByteArray := prog_2_method_2_code
def yX0_minutesFor : MethodName := ⟨RX0, "minutesFor", "(I)I"⟩
abbrev cX0_driverFor : ByteArray := prog_2_method_3_code
def yX0_driverFor : MethodName := ⟨RX0, "driverFor", "(I)I"⟩
abbrev cX0_forgetWith : ByteArray := prog_2_method_4_code
def yX0_forgetWith : MethodName := ⟨RX0, "forgetWith", "(I)V"⟩
abbrev cX0_learnAll : ByteArray := prog_2_method_5_code
def yX0_learnAll : MethodName := ⟨RX0, "learnAll", "(I)V"⟩
abbrev cX0_learn : ByteArray := prog_2_method_6_code
def yX0_learn : MethodName := ⟨RX0, "learn", "(I)V"⟩
abbrev cX0_takeIfFewer : ByteArray := prog_2_method_7_code
def yX0_takeIfFewer : MethodName := ⟨RX0, "takeIfFewer", "(III)V"⟩
def RX1 : String := "RidePools$Parting"
def TX1 : u_T := fun k => match k with
  | 0 => ("RidePools$Parting", "costs", "LRidePools$Costs;", true)
  | 1 => ("RidePools$Parting", "worth", "[I", true)
  | _ => ("RidePools$Parting", "choice", "[I", true)
def tyX1 : Nat → FieldType := fun k => match k with
  | 0 => .object "RidePools$Costs"
  | 1 => .array .int
  | _ => .array .int
abbrev wsX10 : List Cond := u_ws RX1 TX1 3
theorem nmX1 : ∀ a, a < 3 → ∀ b, b < 3 → a ≠ b → (TX1 a).2.1 ≠ (TX1 b).2.1 := by decide +kernel
theorem tyX1_ok : ∀ k, k < 3 → parseFieldDescriptor (TX1 k).2.2.1 = some (tyX1 k) := by decide +kernel
abbrev cX1_init : ByteArray := prog_3_method_1_code
def yX1_init : MethodName := ⟨RX1, "<init>", "(LRidePools$Costs;)V"⟩
abbrev cX1_worthOf : ByteArray := prog_3_method_2_code
def yX1_worthOf : MethodName := ⟨RX1, "worthOf", "(III)I"⟩
abbrev cX1_findBest : ByteArray := prog_3_method_3_code
def yX1_findBest : MethodName := ⟨RX1, "findBest", "(I)I"⟩
abbrev cX1_fewestPools : ByteArray := prog_3_method_4_code
def yX1_fewestPools : MethodName := ⟨RX1, "fewestPools", "(I)I"⟩
abbrev cX1_choiceFor : ByteArray := prog_3_method_5_code
def yX1_choiceFor : MethodName := ⟨RX1, "choiceFor", "(I)I"⟩
abbrev cX1_findAll : ByteArray := prog_3_method_6_code
def yX1_findAll : MethodName := ⟨RX1, "findAll", "(II)I"⟩
abbrev cX1_choose : ByteArray := prog_3_method_7_code
def yX1_choose : MethodName := ⟨RX1, "choose", "(II)V"⟩
abbrev cX1_tryPool : ByteArray := prog_3_method_8_code
def yX1_tryPool : MethodName := ⟨RX1, "tryPool", "(III)V"⟩
def RX2 : String := "RidePools$People"
def TX2 : u_T := fun k => match k with
  | 0 => ("RidePools$People", "all", "[LRidePools$Person;", true)
  | _ => ("RidePools$People", "size", "I", false)
def tyX2 : Nat → FieldType := fun k => match k with
  | 0 => .array (.object "RidePools$Person")
  | _ => .int
abbrev wsX20 : List Cond := u_ws RX2 TX2 2
theorem nmX2 : ∀ a, a < 2 → ∀ b, b < 2 → a ≠ b → (TX2 a).2.1 ≠ (TX2 b).2.1 := by decide +kernel
theorem tyX2_ok : ∀ k, k < 2 → parseFieldDescriptor (TX2 k).2.2.1 = some (tyX2 k) := by decide +kernel
abbrev cX2_init : ByteArray := prog_4_method_1_code
def yX2_init : MethodName := ⟨RX2, "<init>", "()V"⟩
abbrev cX2_size : ByteArray := prog_4_method_2_code
def yX2_size : MethodName := ⟨RX2, "size", "()I"⟩
abbrev cX2_isFull : ByteArray := prog_4_method_3_code
def yX2_isFull : MethodName := ⟨RX2, "isFull", "()Z"⟩
abbrev cX2_has : ByteArray := prog_4_method_4_code
def yX2_has : MethodName := ⟨RX2, "has", "(I)Z"⟩
abbrev cX2_hasAll : ByteArray := prog_4_method_5_code
def yX2_hasAll : MethodName := ⟨RX2, "hasAll", "(I)Z"⟩
abbrev cX2_at : ByteArray := prog_4_method_6_code
def yX2_at : MethodName := ⟨RX2, "at", "(I)LRidePools$Person;"⟩
abbrev cX2_addOne : ByteArray := prog_4_method_7_code
def yX2_addOne : MethodName := ⟨RX2, "addOne", "()I"⟩
abbrev cX2_notAway : ByteArray := prog_4_method_8_code
def yX2_notAway : MethodName := ⟨RX2, "notAway", "()I"⟩
abbrev cX2_someAway : ByteArray := prog_4_method_9_code
def yX2_someAway : MethodName := ⟨RX2, "someAway", "(I)Z"⟩
abbrev cX2_withCar : ByteArray := prog_4_method_10_code
def yX2_withCar : MethodName := ⟨RX2, "withCar", "()I"⟩
abbrev cX2_seatsSuffice : ByteArray := prog_4_method_11_code
def yX2_seatsSuffice : MethodName := ⟨RX2, "seatsSuffice", "(II)Z"⟩
abbrev cX2_hasBar : ByteArray := prog_4_method_12_code
def yX2_hasBar : MethodName := ⟨RX2, "hasBar", "(I)Z"⟩
def RX3 : String := "RidePools$Person"
def TX3 : u_T := fun k => match k with
  | 0 => ("RidePools$Person", "kind", "I", false)
  | 1 => ("RidePools$Person", "house", "I", false)
  | 2 => ("RidePools$Person", "work", "I", false)
  | 3 => ("RidePools$Person", "early", "I", false)
  | 4 => ("RidePools$Person", "late", "I", false)
  | 5 => ("RidePools$Person", "detour", "I", false)
  | 6 => ("RidePools$Person", "seats", "I", false)
  | 7 => ("RidePools$Person", "isAway", "Z", false)
  | 8 => ("RidePools$Person", "isBroken", "Z", false)
  | 9 => ("RidePools$Person", "bars", "I", false)
  | _ => ("RidePools$Person", "points", "I", false)
def tyX3 : Nat → FieldType := fun k => match k with
  | 0 => .int
  | 1 => .int
  | 2 => .int
  | 3 => .int
  | 4 => .int
  | 5 => .int
  | 6 => .int
  | 7 => .boolean
  | 8 => .boolean
  | 9 => .int
  | _ => .int
abbrev wsX30 : List Cond := u_ws RX3 TX3 11
theorem nmX3 : ∀ a, a < 11 → ∀ b, b < 11 → a ≠ b → (TX3 a).2.1 ≠ (TX3 b).2.1 := by decide +kernel
theorem tyX3_ok : ∀ k, k < 11 → parseFieldDescriptor (TX3 k).2.2.1 = some (tyX3 k) := by decide +kernel
abbrev cX3_init : ByteArray := prog_5_method_1_code
def yX3_init : MethodName := ⟨RX3, "<init>", "()V"⟩
abbrev cX3_hasCar : ByteArray := prog_5_method_2_code
def yX3_hasCar : MethodName := ⟨RX3, "hasCar", "()Z"⟩
abbrev cX3_seatsTaken : ByteArray := prog_5_method_3_code
def yX3_seatsTaken : MethodName := ⟨RX3, "seatsTaken", "()I"⟩
def RX4 : String := "RidePools$Plan"
def TX4 : u_T := fun k => match k with
  | 0 => ("RidePools$Plan", "made", "Z", false)
  | 1 => ("RidePools$Plan", "left", "I", false)
  | 2 => ("RidePools$Plan", "pool", "[I", true)
  | 3 => ("RidePools$Plan", "driverIn", "[I", true)
  | 4 => ("RidePools$Plan", "taken", "[I", true)
  | 5 => ("RidePools$Plan", "pickedAt", "[I", true)
  | _ => ("RidePools$Plan", "broughtAt", "[I", true)
def tyX4 : Nat → FieldType := fun k => match k with
  | 0 => .boolean
  | 1 => .int
  | 2 => .array .int
  | 3 => .array .int
  | 4 => .array .int
  | 5 => .array .int
  | _ => .array .int
abbrev wsX40 : List Cond := u_ws RX4 TX4 7
theorem nmX4 : ∀ a, a < 7 → ∀ b, b < 7 → a ≠ b → (TX4 a).2.1 ≠ (TX4 b).2.1 := by decide +kernel
theorem tyX4_ok : ∀ k, k < 7 → parseFieldDescriptor (TX4 k).2.2.1 = some (tyX4 k) := by decide +kernel
abbrev cX4_init : ByteArray := prog_6_method_1_code
def yX4_init : MethodName := ⟨RX4, "<init>", "()V"⟩
abbrev cX4_isMade : ByteArray := prog_6_method_2_code
def yX4_isMade : MethodName := ⟨RX4, "isMade", "()Z"⟩
abbrev cX4_begin : ByteArray := prog_6_method_3_code
def yX4_begin : MethodName := ⟨RX4, "begin", "()V"⟩
abbrev cX4_put : ByteArray := prog_6_method_4_code
def yX4_put : MethodName := ⟨RX4, "put", "(IILRidePools$Way;)V"⟩
abbrev cX4_leave : ByteArray := prog_6_method_5_code
def yX4_leave : MethodName := ⟨RX4, "leave", "(I)V"⟩
abbrev cX4_dissolve : ByteArray := prog_6_method_6_code
def yX4_dissolve : MethodName := ⟨RX4, "dissolve", "(I)V"⟩
abbrev cX4_leads : ByteArray := prog_6_method_7_code
def yX4_leads : MethodName := ⟨RX4, "leads", "(I)Z"⟩
abbrev cX4_drives : ByteArray := prog_6_method_8_code
def yX4_drives : MethodName := ⟨RX4, "drives", "(I)Z"⟩
abbrev cX4_poolAt : ByteArray := prog_6_method_9_code
def yX4_poolAt : MethodName := ⟨RX4, "poolAt", "(I)I"⟩
abbrev cX4_driverAt : ByteArray := prog_6_method_10_code
def yX4_driverAt : MethodName := ⟨RX4, "driverAt", "(I)I"⟩
abbrev cX4_pools : ByteArray := prog_6_method_11_code
def yX4_pools : MethodName := ⟨RX4, "pools", "()I"⟩
abbrev cX4_leftCount : ByteArray := prog_6_method_12_code
def yX4_leftCount : MethodName := ⟨RX4, "leftCount", "()I"⟩
abbrev cX4_minutesTogether : ByteArray := prog_6_method_13_code
def yX4_minutesTogether : MethodName := ⟨RX4, "minutesTogether", "()I"⟩
abbrev cX4_personsInPools : ByteArray := prog_6_method_14_code
def yX4_personsInPools : MethodName := ⟨RX4, "personsInPools", "()I"⟩
abbrev cX4_pointsEachMorning : ByteArray := prog_6_method_15_code
def yX4_pointsEachMorning : MethodName := ⟨RX4, "pointsEachMorning", "(I)I"⟩
abbrev cX4_tell : ByteArray := prog_6_method_16_code
def yX4_tell : MethodName := ⟨RX4, "tell", "(II)I"⟩
def RX5 : String := "RidePools$Roads"
def TX5 : u_T := fun k => match k with
  | 0 => ("RidePools$Roads", "direct", "[[I", true)
  | _ => ("RidePools$Roads", "fewest", "[[I", true)
def tyX5 : Nat → FieldType := fun k => match k with
  | 0 => .array (.array .int)
  | _ => .array (.array .int)
abbrev wsX50 : List Cond := u_ws RX5 TX5 2
theorem nmX5 : ∀ a, a < 2 → ∀ b, b < 2 → a ≠ b → (TX5 a).2.1 ≠ (TX5 b).2.1 := by decide +kernel
theorem tyX5_ok : ∀ k, k < 2 → parseFieldDescriptor (TX5 k).2.2.1 = some (tyX5 k) := by decide +kernel
abbrev cX5_init : ByteArray := prog_7_method_1_code
def yX5_init : MethodName := ⟨RX5, "<init>", "()V"⟩
abbrev cX5_shortest : ByteArray := prog_7_method_2_code
def yX5_shortest : MethodName := ⟨RX5, "shortest", "(II)I"⟩
abbrev cX5_change : ByteArray := prog_7_method_3_code
def yX5_change : MethodName := ⟨RX5, "change", "(III)I"⟩
abbrev cX5_renew : ByteArray := prog_7_method_4_code
def yX5_renew : MethodName := ⟨RX5, "renew", "()V"⟩
abbrev cX5_shortenBy : ByteArray := prog_7_method_5_code
def yX5_shortenBy : MethodName := ⟨RX5, "shortenBy", "(I[I)V"⟩
def RX6 : String := "RidePools$Way"
def TX6 : u_T := fun k => match k with
  | 0 => ("RidePools$Way", "size", "I", false)
  | 1 => ("RidePools$Way", "members", "[I", true)
  | 2 => ("RidePools$Way", "picked", "[I", true)
  | 3 => ("RidePools$Way", "brought", "[I", true)
  | 4 => ("RidePools$Way", "pickedAfter", "[I", true)
  | 5 => ("RidePools$Way", "broughtAfter", "[I", true)
  | 6 => ("RidePools$Way", "taken", "I", false)
  | _ => ("RidePools$Way", "begin", "I", false)
def tyX6 : Nat → FieldType := fun k => match k with
  | 0 => .int
  | 1 => .array .int
  | 2 => .array .int
  | 3 => .array .int
  | 4 => .array .int
  | 5 => .array .int
  | 6 => .int
  | _ => .int
abbrev wsX60 : List Cond := u_ws RX6 TX6 8
theorem nmX6 : ∀ a, a < 8 → ∀ b, b < 8 → a ≠ b → (TX6 a).2.1 ≠ (TX6 b).2.1 := by decide +kernel
theorem tyX6_ok : ∀ k, k < 8 → parseFieldDescriptor (TX6 k).2.2.1 = some (tyX6 k) := by decide +kernel
abbrev cX6_init : ByteArray := prog_8_method_1_code
def yX6_init : MethodName := ⟨RX6, "<init>", "()V"⟩
abbrev cX6_copyOf : ByteArray := prog_8_method_2_code
def yX6_copyOf : MethodName := ⟨RX6, "copyOf", "(LRidePools$Way;)V"⟩
abbrev cX6_tell : ByteArray := prog_8_method_3_code
def yX6_tell : MethodName := ⟨RX6, "tell", "(I)I"⟩
def RX7 : String := "RidePools$WayFinder"
def TX7 : u_T := fun k => match k with
  | 0 => ("RidePools$WayFinder", "roads", "LRidePools$Roads;", true)
  | 1 => ("RidePools$WayFinder", "people", "LRidePools$People;", true)
  | 2 => ("RidePools$WayFinder", "trial", "LRidePools$Way;", true)
  | 3 => ("RidePools$WayFinder", "found", "LRidePools$Way;", true)
  | 4 => ("RidePools$WayFinder", "house", "[I", true)
  | 5 => ("RidePools$WayFinder", "work", "[I", true)
  | 6 => ("RidePools$WayFinder", "early", "[I", true)
  | 7 => ("RidePools$WayFinder", "late", "[I", true)
  | _ => ("RidePools$WayFinder", "longest", "[I", true)
def tyX7 : Nat → FieldType := fun k => match k with
  | 0 => .object "RidePools$Roads"
  | 1 => .object "RidePools$People"
  | 2 => .object "RidePools$Way"
  | 3 => .object "RidePools$Way"
  | 4 => .array .int
  | 5 => .array .int
  | 6 => .array .int
  | 7 => .array .int
  | _ => .array .int
abbrev wsX70 : List Cond := u_ws RX7 TX7 9
theorem nmX7 : ∀ a, a < 9 → ∀ b, b < 9 → a ≠ b → (TX7 a).2.1 ≠ (TX7 b).2.1 := by decide +kernel
theorem tyX7_ok : ∀ k, k < 9 → parseFieldDescriptor (TX7 k).2.2.1 = some (tyX7 k) := by decide +kernel
abbrev cX7_init : ByteArray := prog_9_method_1_code
def yX7_init : MethodName := ⟨RX7, "<init>", "(LRidePools$Roads;LRidePools$People;)V"⟩
abbrev cX7_reasonAgainst : ByteArray := prog_9_method_2_code
def yX7_reasonAgainst : MethodName := ⟨RX7, "reasonAgainst", "(II)I"⟩
abbrev cX7_found : ByteArray := prog_9_method_3_code
def yX7_found : MethodName := ⟨RX7, "found", "()LRidePools$Way;"⟩
abbrev cX7_load : ByteArray := prog_9_method_4_code
def yX7_load : MethodName := ⟨RX7, "load", "(I)V"⟩
abbrev cX7_loadOne : ByteArray := prog_9_method_5_code
def yX7_loadOne : MethodName := ⟨RX7, "loadOne", "(II)V"⟩
abbrev cX7_allPlaces : ByteArray := prog_9_method_6_code
def yX7_allPlaces : MethodName := ⟨RX7, "allPlaces", "()I"⟩
abbrev cX7_pickNext : ByteArray := prog_9_method_7_code
def yX7_pickNext : MethodName := ⟨RX7, "pickNext", "(IIII)V"⟩
abbrev cX7_bringNext : ByteArray := prog_9_method_8_code
def yX7_bringNext : MethodName := ⟨RX7, "bringNext", "(IIIIII)V"⟩
def RX8 : String := "RidePools"
def TX8 : u_T := fun k => match k with
  | 0 => ("RidePools", "roads", "LRidePools$Roads;", true)
  | 1 => ("RidePools", "people", "LRidePools$People;", true)
  | 2 => ("RidePools", "finder", "LRidePools$WayFinder;", true)
  | 3 => ("RidePools", "costs", "LRidePools$Costs;", true)
  | 4 => ("RidePools", "parting", "LRidePools$Parting;", true)
  | 5 => ("RidePools", "current", "LRidePools$Plan;", true)
  | 6 => ("RidePools", "refusals", "[I", true)
  | _ => ("RidePools", "morningsSoFar", "I", false)
def tyX8 : Nat → FieldType := fun k => match k with
  | 0 => .object "RidePools$Roads"
  | 1 => .object "RidePools$People"
  | 2 => .object "RidePools$WayFinder"
  | 3 => .object "RidePools$Costs"
  | 4 => .object "RidePools$Parting"
  | 5 => .object "RidePools$Plan"
  | 6 => .array .int
  | _ => .int
abbrev wsX80 : List Cond := u_ws RX8 TX8 8
theorem nmX8 : ∀ a, a < 8 → ∀ b, b < 8 → a ≠ b → (TX8 a).2.1 ≠ (TX8 b).2.1 := by decide +kernel
theorem tyX8_ok : ∀ k, k < 8 → parseFieldDescriptor (TX8 k).2.2.1 = some (tyX8 k) := by decide +kernel
abbrev cX8_init : ByteArray := prog_1_method_1_code
def yX8_init : MethodName := ⟨RX8, "<init>", "()V"⟩
abbrev cX8_minutes : ByteArray := prog_1_method_2_code
def yX8_minutes : MethodName := ⟨RX8, "minutes", "(III)I"⟩
abbrev cX8_least : ByteArray := prog_1_method_3_code
def yX8_least : MethodName := ⟨RX8, "least", "(II)I"⟩
abbrev cX8_person : ByteArray := prog_1_method_4_code
def yX8_person : MethodName := ⟨RX8, "person", "(IIIIIII)I"⟩
abbrev cX8_times : ByteArray := prog_1_method_5_code
def yX8_times : MethodName := ⟨RX8, "times", "(III)I"⟩
abbrev cX8_bar : ByteArray := prog_1_method_6_code
def yX8_bar : MethodName := ⟨RX8, "bar", "(IIZ)I"⟩
abbrev cX8_away : ByteArray := prog_1_method_7_code
def yX8_away : MethodName := ⟨RX8, "away", "(IZ)I"⟩
abbrev cX8_broken : ByteArray := prog_1_method_8_code
def yX8_broken : MethodName := ⟨RX8, "broken", "(IZ)I"⟩
abbrev cX8_fits : ByteArray := prog_1_method_9_code
def yX8_fits : MethodName := ⟨RX8, "fits", "(II)I"⟩
abbrev cX8_why : ByteArray := prog_1_method_10_code
def yX8_why : MethodName := ⟨RX8, "why", "(II)I"⟩
abbrev cX8_way : ByteArray := prog_1_method_11_code
def yX8_way : MethodName := ⟨RX8, "way", "(III)I"⟩
abbrev cX8_cost : ByteArray := prog_1_method_12_code
def yX8_cost : MethodName := ⟨RX8, "cost", "(I)I"⟩
abbrev cX8_driver : ByteArray := prog_1_method_13_code
def yX8_driver : MethodName := ⟨RX8, "driver", "(I)I"⟩
abbrev cX8_turn : ByteArray := prog_1_method_14_code
def yX8_turn : MethodName := ⟨RX8, "turn", "(I)I"⟩
abbrev cX8_plan : ByteArray := prog_1_method_15_code
def yX8_plan : MethodName := ⟨RX8, "plan", "()I"⟩
abbrev cX8_planOf : ByteArray := prog_1_method_16_code
def yX8_planOf : MethodName := ⟨RX8, "planOf", "(I)I"⟩
abbrev cX8_poolOf : ByteArray := prog_1_method_17_code
def yX8_poolOf : MethodName := ⟨RX8, "poolOf", "(II)I"⟩
abbrev cX8_same : ByteArray := prog_1_method_18_code
def yX8_same : MethodName := ⟨RX8, "same", "()I"⟩
abbrev cX8_even : ByteArray := prog_1_method_19_code
def yX8_even : MethodName := ⟨RX8, "even", "()I"⟩
abbrev cX8_mornings : ByteArray := prog_1_method_20_code
def yX8_mornings : MethodName := ⟨RX8, "mornings", "(I)I"⟩
abbrev cX8_fail : ByteArray := prog_1_method_21_code
def yX8_fail : MethodName := ⟨RX8, "fail", "(I)I"⟩
abbrev cX8_few : ByteArray := prog_1_method_22_code
def yX8_few : MethodName := ⟨RX8, "few", "()I"⟩
abbrev cX8_personOf : ByteArray := prog_1_method_23_code
def yX8_personOf : MethodName := ⟨RX8, "personOf", "(II)I"⟩
abbrev cX8_count : ByteArray := prog_1_method_24_code
def yX8_count : MethodName := ⟨RX8, "count", "(I)I"⟩
abbrev cX8_refuse : ByteArray := prog_1_method_25_code
def yX8_refuse : MethodName := ⟨RX8, "refuse", "(I)I"⟩
abbrev cX8_isStop : ByteArray := prog_1_method_26_code
def yX8_isStop : MethodName := ⟨RX8, "isStop", "(I)Z"⟩
abbrev cX8_contains : ByteArray := prog_1_method_27_code
def yX8_contains : MethodName := ⟨RX8, "contains", "(II)Z"⟩
abbrev cX8_wrongSet : ByteArray := prog_1_method_28_code
def yX8_wrongSet : MethodName := ⟨RX8, "wrongSet", "(I)I"⟩
abbrev cX8_wrongRide : ByteArray := prog_1_method_29_code
def yX8_wrongRide : MethodName := ⟨RX8, "wrongRide", "(II)I"⟩
abbrev cX8_setBroken : ByteArray := prog_1_method_30_code
def yX8_setBroken : MethodName := ⟨RX8, "setBroken", "(IZ)Z"⟩
abbrev cX8_whoseTurn : ByteArray := prog_1_method_31_code
def yX8_whoseTurn : MethodName := ⟨RX8, "whoseTurn", "(I)I"⟩
abbrev cX8_takeIntoPlan : ByteArray := prog_1_method_32_code
def yX8_takeIntoPlan : MethodName := ⟨RX8, "takeIntoPlan", "(II)V"⟩
abbrev cX8_putIntoPlan : ByteArray := prog_1_method_33_code
def yX8_putIntoPlan : MethodName := ⟨RX8, "putIntoPlan", "(II)Z"⟩
abbrev cX8_evenOut : ByteArray := prog_1_method_34_code
def yX8_evenOut : MethodName := ⟨RX8, "evenOut", "(II)Z"⟩
abbrev cX8_findPlace : ByteArray := prog_1_method_35_code
def yX8_findPlace : MethodName := ⟨RX8, "findPlace", "(I)Z"⟩
abbrev cX8_isOpen : ByteArray := prog_1_method_36_code
def yX8_isOpen : MethodName := ⟨RX8, "isOpen", "(I)Z"⟩
def RX9 : String := "RidePoolsModel"
def TX9 : u_T := fun k => match k with
  | 0 => ("RidePoolsModel", "refusals", "[I", true)
  | 1 => ("RidePoolsModel", "minutes", "[I", true)
  | 2 => ("RidePoolsModel", "least", "[I", true)
  | 3 => ("RidePoolsModel", "persons", "I", false)
  | 4 => ("RidePoolsModel", "mornings", "I", false)
  | 5 => ("RidePoolsModel", "kind", "[I", true)
  | 6 => ("RidePoolsModel", "house", "[I", true)
  | 7 => ("RidePoolsModel", "work", "[I", true)
  | 8 => ("RidePoolsModel", "early", "[I", true)
  | 9 => ("RidePoolsModel", "late", "[I", true)
  | 10 => ("RidePoolsModel", "detour", "[I", true)
  | 11 => ("RidePoolsModel", "seats", "[I", true)
  | 12 => ("RidePoolsModel", "bars", "[I", true)
  | 13 => ("RidePoolsModel", "points", "[I", true)
  | 14 => ("RidePoolsModel", "isAway", "[Z", true)
  | 15 => ("RidePoolsModel", "isBroken", "[Z", true)
  | 16 => ("RidePoolsModel", "up", "[I", true)
  | 17 => ("RidePoolsModel", "down", "[I", true)
  | 18 => ("RidePoolsModel", "upAt", "[I", true)
  | 19 => ("RidePoolsModel", "downAt", "[I", true)
  | 20 => ("RidePoolsModel", "bestUp", "[I", true)
  | 21 => ("RidePoolsModel", "bestDown", "[I", true)
  | 22 => ("RidePoolsModel", "bestUpAt", "[I", true)
  | 23 => ("RidePoolsModel", "bestDownAt", "[I", true)
  | 24 => ("RidePoolsModel", "size", "I", false)
  | 25 => ("RidePoolsModel", "bestMinutes", "I", false)
  | 26 => ("RidePoolsModel", "bestBegin", "I", false)
  | 27 => ("RidePoolsModel", "isKnown", "Z", false)
  | 28 => ("RidePoolsModel", "cost", "[I", true)
  | 29 => ("RidePoolsModel", "by", "[I", true)
  | 30 => ("RidePoolsModel", "fit", "[I", true)
  | 31 => ("RidePoolsModel", "left", "[I", true)
  | 32 => ("RidePoolsModel", "sum", "[I", true)
  | 33 => ("RidePoolsModel", "pools", "[I", true)
  | 34 => ("RidePoolsModel", "choice", "[I", true)
  | 35 => ("RidePoolsModel", "fewest", "[I", true)
  | 36 => ("RidePoolsModel", "isPlanned", "Z", false)
  | 37 => ("RidePoolsModel", "planLeft", "I", false)
  | 38 => ("RidePoolsModel", "poolOf", "[I", true)
  | 39 => ("RidePoolsModel", "driverOf", "[I", true)
  | 40 => ("RidePoolsModel", "pickedAt", "[I", true)
  | 41 => ("RidePoolsModel", "workAt", "[I", true)
  | _ => ("RidePoolsModel", "takes", "[I", true)
def tyX9 : Nat → FieldType := fun k => match k with
  | 0 => .array .int
  | 1 => .array .int
  | 2 => .array .int
  | 3 => .int
  | 4 => .int
  | 5 => .array .int
  | 6 => .array .int
  | 7 => .array .int
  | 8 => .array .int
  | 9 => .array .int
  | 10 => .array .int
  | 11 => .array .int
  | 12 => .array .int
  | 13 => .array .int
  | 14 => .array .boolean
  | 15 => .array .boolean
  | 16 => .array .int
  | 17 => .array .int
  | 18 => .array .int
  | 19 => .array .int
  | 20 => .array .int
  | 21 => .array .int
  | 22 => .array .int
  | 23 => .array .int
  | 24 => .int
  | 25 => .int
  | 26 => .int
  | 27 => .boolean
  | 28 => .array .int
  | 29 => .array .int
  | 30 => .array .int
  | 31 => .array .int
  | 32 => .array .int
  | 33 => .array .int
  | 34 => .array .int
  | 35 => .array .int
  | 36 => .boolean
  | 37 => .int
  | 38 => .array .int
  | 39 => .array .int
  | 40 => .array .int
  | 41 => .array .int
  | _ => .array .int
abbrev wsX90 : List Cond := u_ws RX9 TX9 43
theorem nmX9 : ∀ a, a < 43 → ∀ b, b < 43 → a ≠ b → (TX9 a).2.1 ≠ (TX9 b).2.1 := by decide +kernel
theorem tyX9_ok : ∀ k, k < 43 → parseFieldDescriptor (TX9 k).2.2.1 = some (tyX9 k) := by decide +kernel
abbrev cX9_init : ByteArray := prog_11_method_1_code
def yX9_init : MethodName := ⟨RX9, "<init>", "()V"⟩
abbrev cX9_refuse : ByteArray := prog_11_method_2_code
def yX9_refuse : MethodName := ⟨RX9, "refuse", "(I)I"⟩
abbrev cX9_isIn : ByteArray := prog_11_method_3_code
def yX9_isIn : MethodName := ⟨RX9, "isIn", "(II)Z"⟩
abbrev cX9_changes : ByteArray := prog_11_method_4_code
def yX9_changes : MethodName := ⟨RX9, "changes", "()V"⟩
abbrev cX9_measure : ByteArray := prog_11_method_5_code
def yX9_measure : MethodName := ⟨RX9, "measure", "()V"⟩
abbrev cX9_leastOf : ByteArray := prog_11_method_6_code
def yX9_leastOf : MethodName := ⟨RX9, "leastOf", "(II)I"⟩
abbrev cX9_minutes : ByteArray := prog_11_method_7_code
def yX9_minutes : MethodName := ⟨RX9, "minutes", "(III)I"⟩
abbrev cX9_least : ByteArray := prog_11_method_8_code
def yX9_least : MethodName := ⟨RX9, "least", "(II)I"⟩
abbrev cX9_person : ByteArray := prog_11_method_9_code
def yX9_person : MethodName := ⟨RX9, "person", "(IIIIIII)I"⟩
abbrev cX9_isPerson : ByteArray := prog_11_method_10_code
def yX9_isPerson : MethodName := ⟨RX9, "isPerson", "(I)Z"⟩
abbrev cX9_times : ByteArray := prog_11_method_11_code
def yX9_times : MethodName := ⟨RX9, "times", "(III)I"⟩
abbrev cX9_bar : ByteArray := prog_11_method_12_code
def yX9_bar : MethodName := ⟨RX9, "bar", "(IIZ)I"⟩
abbrev cX9_away : ByteArray := prog_11_method_13_code
def yX9_away : MethodName := ⟨RX9, "away", "(IZ)I"⟩
abbrev cX9_broken : ByteArray := prog_11_method_14_code
def yX9_broken : MethodName := ⟨RX9, "broken", "(IZ)I"⟩
abbrev cX9_many : ByteArray := prog_11_method_15_code
def yX9_many : MethodName := ⟨RX9, "many", "(I)I"⟩
abbrev cX9_whyNot : ByteArray := prog_11_method_16_code
def yX9_whyNot : MethodName := ⟨RX9, "whyNot", "(II)I"⟩
abbrev cX9_picks : ByteArray := prog_11_method_17_code
def yX9_picks : MethodName := ⟨RX9, "picks", "(IIII)V"⟩
abbrev cX9_drops : ByteArray := prog_11_method_18_code
def yX9_drops : MethodName := ⟨RX9, "drops", "(IIII)V"⟩
abbrev cX9_looks : ByteArray := prog_11_method_19_code
def yX9_looks : MethodName := ⟨RX9, "looks", "(I)V"⟩
abbrev cX9_isSet : ByteArray := prog_11_method_20_code
def yX9_isSet : MethodName := ⟨RX9, "isSet", "(I)Z"⟩
abbrev cX9_hasAway : ByteArray := prog_11_method_21_code
def yX9_hasAway : MethodName := ⟨RX9, "hasAway", "(I)Z"⟩
abbrev cX9_wrong : ByteArray := prog_11_method_22_code
def yX9_wrong : MethodName := ⟨RX9, "wrong", "(II)I"⟩
abbrev cX9_fits : ByteArray := prog_11_method_23_code
def yX9_fits : MethodName := ⟨RX9, "fits", "(II)I"⟩
abbrev cX9_why : ByteArray := prog_11_method_24_code
def yX9_why : MethodName := ⟨RX9, "why", "(II)I"⟩
abbrev cX9_way : ByteArray := prog_11_method_25_code
def yX9_way : MethodName := ⟨RX9, "way", "(III)I"⟩
abbrev cX9_know : ByteArray := prog_11_method_26_code
def yX9_know : MethodName := ⟨RX9, "know", "()V"⟩
abbrev cX9_wrongSet : ByteArray := prog_11_method_27_code
def yX9_wrongSet : MethodName := ⟨RX9, "wrongSet", "(I)I"⟩
abbrev cX9_cost : ByteArray := prog_11_method_28_code
def yX9_cost : MethodName := ⟨RX9, "cost", "(I)I"⟩
abbrev cX9_driver : ByteArray := prog_11_method_29_code
def yX9_driver : MethodName := ⟨RX9, "driver", "(I)I"⟩
abbrev cX9_turnOf : ByteArray := prog_11_method_30_code
def yX9_turnOf : MethodName := ⟨RX9, "turnOf", "(I)I"⟩
abbrev cX9_turn : ByteArray := prog_11_method_31_code
def yX9_turn : MethodName := ⟨RX9, "turn", "(I)I"⟩
abbrev cX9_present : ByteArray := prog_11_method_32_code
def yX9_present : MethodName := ⟨RX9, "present", "()I"⟩
abbrev cX9_best : ByteArray := prog_11_method_33_code
def yX9_best : MethodName := ⟨RX9, "best", "()V"⟩
abbrev cX9_bestOf : ByteArray := prog_11_method_34_code
def yX9_bestOf : MethodName := ⟨RX9, "bestOf", "(I)V"⟩
abbrev cX9_leaves : ByteArray := prog_11_method_35_code
def yX9_leaves : MethodName := ⟨RX9, "leaves", "(I)V"⟩
abbrev cX9_lays : ByteArray := prog_11_method_36_code
def yX9_lays : MethodName := ⟨RX9, "lays", "(II)V"⟩
abbrev cX9_plan : ByteArray := prog_11_method_37_code
def yX9_plan : MethodName := ⟨RX9, "plan", "()I"⟩
abbrev cX9_isFirst : ByteArray := prog_11_method_38_code
def yX9_isFirst : MethodName := ⟨RX9, "isFirst", "(I)Z"⟩
abbrev cX9_planned : ByteArray := prog_11_method_39_code
def yX9_planned : MethodName := ⟨RX9, "planned", "(I)I"⟩
abbrev cX9_planOf : ByteArray := prog_11_method_40_code
def yX9_planOf : MethodName := ⟨RX9, "planOf", "(I)I"⟩
abbrev cX9_poolOf : ByteArray := prog_11_method_41_code
def yX9_poolOf : MethodName := ⟨RX9, "poolOf", "(II)I"⟩
abbrev cX9_same : ByteArray := prog_11_method_42_code
def yX9_same : MethodName := ⟨RX9, "same", "()I"⟩
abbrev cX9_even : ByteArray := prog_11_method_43_code
def yX9_even : MethodName := ⟨RX9, "even", "()I"⟩
abbrev cX9_mornings : ByteArray := prog_11_method_44_code
def yX9_mornings : MethodName := ⟨RX9, "mornings", "(I)I"⟩
abbrev cX9_joins : ByteArray := prog_11_method_45_code
def yX9_joins : MethodName := ⟨RX9, "joins", "(I)Z"⟩
abbrev cX9_fail : ByteArray := prog_11_method_46_code
def yX9_fail : MethodName := ⟨RX9, "fail", "(I)I"⟩
abbrev cX9_few : ByteArray := prog_11_method_47_code
def yX9_few : MethodName := ⟨RX9, "few", "()I"⟩
abbrev cX9_personOf : ByteArray := prog_11_method_48_code
def yX9_personOf : MethodName := ⟨RX9, "personOf", "(II)I"⟩
abbrev cX9_count : ByteArray := prog_11_method_49_code
def yX9_count : MethodName := ⟨RX9, "count", "(I)I"⟩
def RJ6 : String := "java/lang/Integer"
def TJ6 : u_T := fun k => match k with
  | _ => ("", "", "", false)
def tyJ6 : Nat → FieldType := fun k => match k with
  | _ => .int
abbrev wsJ60 : List Cond := u_ws RJ6 TJ6 0
theorem nmJ6 : ∀ a, a < 0 → ∀ b, b < 0 → a ≠ b → (TJ6 a).2.1 ≠ (TJ6 b).2.1 := by decide +kernel
theorem tyJ6_ok : ∀ k, k < 0 → parseFieldDescriptor (TJ6 k).2.2.1 = some (tyJ6 k) := by decide +kernel
abbrev cJ6_bitCount_0f7a4 : ByteArray := prog_12_method_49_code
def yJ6_bitCount_0f7a4 : MethodName := ⟨RJ6, "bitCount", "(I)I"⟩
def RJ9 : String := "java/lang/Math"
def TJ9 : u_T := fun k => match k with
  | _ => ("", "", "", false)
def tyJ9 : Nat → FieldType := fun k => match k with
  | _ => .int
abbrev wsJ90 : List Cond := u_ws RJ9 TJ9 0
theorem nmJ9 : ∀ a, a < 0 → ∀ b, b < 0 → a ≠ b → (TJ9 a).2.1 ≠ (TJ9 b).2.1 := by decide +kernel
theorem tyJ9_ok : ∀ k, k < 0 → parseFieldDescriptor (TJ9 k).2.2.1 = some (tyJ9 k) := by decide +kernel
abbrev cJ9_max_7cf53 : ByteArray := prog_13_method_65_code
def yJ9_max_7cf53 : MethodName := ⟨RJ9, "max", "(II)I"⟩
abbrev cJ9_min_7cf53 : ByteArray := prog_13_method_69_code
def yJ9_min_7cf53 : MethodName := ⟨RJ9, "min", "(II)I"⟩
def RJ10 : String := "java/lang/System"
def TJ10 : u_T := fun k => match k with
  | _ => ("", "", "", false)
def tyJ10 : Nat → FieldType := fun k => match k with
  | _ => .int
abbrev wsJ100 : List Cond := u_ws RJ10 TJ10 0
theorem nmJ10 : ∀ a, a < 0 → ∀ b, b < 0 → a ≠ b → (TJ10 a).2.1 ≠ (TJ10 b).2.1 := by decide +kernel
theorem tyJ10_ok : ∀ k, k < 0 → parseFieldDescriptor (TJ10 k).2.2.1 = some (tyJ10 k) := by decide +kernel
def RJ7 : String := "java/util/Arrays"
def TJ7 : u_T := fun k => match k with
  | _ => ("", "", "", false)
def tyJ7 : Nat → FieldType := fun k => match k with
  | _ => .int
abbrev wsJ70 : List Cond := u_ws RJ7 TJ7 0
theorem nmJ7 : ∀ a, a < 0 → ∀ b, b < 0 → a ≠ b → (TJ7 a).2.1 ≠ (TJ7 b).2.1 := by decide +kernel
theorem tyJ7_ok : ∀ k, k < 0 → parseFieldDescriptor (TJ7 k).2.2.1 = some (tyJ7 k) := by decide +kernel
abbrev cJ7_fill_53178 : ByteArray := prog_15_method_103_code
def yJ7_fill_53178 : MethodName := ⟨RJ7, "fill", "([II)V"⟩
def RL : String := "RidePoolsLaw"
abbrev cL_law : ByteArray := code
def yL_law : MethodName := ⟨RL, "law", "([I)Z"⟩
abbrev vwCl : List vw_C := [(RX0, TX0, 3), (RX1, TX1, 3), (RX2, TX2, 2), (RX3, TX3, 11), (RX4, TX4, 7), (RX5, TX5, 2), (RX6, TX6, 8), (RX7, TX7, 9), (RX8, TX8, 8), (RX9, TX9, 43)]
end
section
/-- the words of the tables that last, for every method alike -/
def gtbl : List Cond := lw_tbl.filter goodWord
theorem gt_l {w : Cond} {i : Nat} (h : (k2_sels lw_privs)[i]? = some w) (g : goodWord w = true) : w ∈ gtbl := List.mem_filter.mpr ⟨List.mem_append_left _ (List.mem_of_getElem? h), g⟩
theorem gt_r {w : Cond} {i : Nat} (h : tables_1[i]? = some w) (g : goodWord w = true) : w ∈ gtbl := List.mem_filter.mpr ⟨List.mem_append_right _ (List.mem_of_getElem? h), g⟩
theorem gt_in {w : Cond} (h : w ∈ gtbl) : w ∈ lw_tbl := (List.mem_filter.mp h).1
theorem law_good {w : Cond} (h : w ∈ gtbl) : w ∈ gtbl ∧ ((w.onTables && w.keeps) = true ∨ ∃ ty, w = .arrayClass ty) := ⟨h, good_of_word (List.mem_filter.mp h).2⟩
theorem tw_0 : Cond.selects "RidePools$Roads" yX5_renew yX5_renew ∈ gtbl := gt_l (i := 0) rfl rfl
theorem tw_1 : Cond.selects "RidePools$Roads" yX5_shortenBy yX5_shortenBy ∈ gtbl := gt_l (i := 1) rfl rfl
theorem tw_2 : Cond.selects "RidePools" yX8_refuse yX8_refuse ∈ gtbl := gt_l (i := 2) rfl rfl
theorem tw_3 : Cond.selects "RidePools" yX8_setBroken yX8_setBroken ∈ gtbl := gt_l (i := 3) rfl rfl
theorem tw_4 : Cond.selects "RidePools" yX8_wrongRide yX8_wrongRide ∈ gtbl := gt_l (i := 4) rfl rfl
theorem tw_5 : Cond.selects "RidePools" yX8_wrongSet yX8_wrongSet ∈ gtbl := gt_l (i := 5) rfl rfl
theorem tw_6 : Cond.selects "RidePools$WayFinder" yX7_load yX7_load ∈ gtbl := gt_l (i := 6) rfl rfl
theorem tw_7 : Cond.selects "RidePools$WayFinder" yX7_loadOne yX7_loadOne ∈ gtbl := gt_l (i := 7) rfl rfl
theorem tw_8 : Cond.selects "RidePools$WayFinder" yX7_allPlaces yX7_allPlaces ∈ gtbl := gt_l (i := 8) rfl rfl
theorem tw_9 : Cond.selects "RidePools$WayFinder" yX7_pickNext yX7_pickNext ∈ gtbl := gt_l (i := 9) rfl rfl
theorem tw_10 : Cond.selects "RidePools$WayFinder" yX7_bringNext yX7_bringNext ∈ gtbl := gt_l (i := 10) rfl rfl
theorem tw_11 : Cond.selects "RidePools$Costs" yX0_takeIfFewer yX0_takeIfFewer ∈ gtbl := gt_l (i := 11) rfl rfl
theorem tw_12 : Cond.selects "RidePools" yX8_whoseTurn yX8_whoseTurn ∈ gtbl := gt_l (i := 12) rfl rfl
theorem tw_13 : Cond.selects "RidePools$Parting" yX1_findAll yX1_findAll ∈ gtbl := gt_l (i := 13) rfl rfl
theorem tw_14 : Cond.selects "RidePools$Parting" yX1_choose yX1_choose ∈ gtbl := gt_l (i := 14) rfl rfl
theorem tw_15 : Cond.selects "RidePools$Parting" yX1_tryPool yX1_tryPool ∈ gtbl := gt_l (i := 15) rfl rfl
theorem tw_16 : Cond.selects "RidePools" yX8_takeIntoPlan yX8_takeIntoPlan ∈ gtbl := gt_l (i := 16) rfl rfl
theorem tw_17 : Cond.selects "RidePools" yX8_putIntoPlan yX8_putIntoPlan ∈ gtbl := gt_l (i := 17) rfl rfl
theorem tw_18 : Cond.selects "RidePools" yX8_evenOut yX8_evenOut ∈ gtbl := gt_l (i := 18) rfl rfl
theorem tw_19 : Cond.selects "RidePools" yX8_findPlace yX8_findPlace ∈ gtbl := gt_l (i := 19) rfl rfl
theorem tw_20 : Cond.selects "RidePools" yX8_isOpen yX8_isOpen ∈ gtbl := gt_l (i := 20) rfl rfl
theorem tw_21 : Cond.selects "RidePoolsModel" yX9_measure yX9_measure ∈ gtbl := gt_l (i := 21) rfl rfl
theorem tw_22 : Cond.selects "RidePoolsModel" yX9_changes yX9_changes ∈ gtbl := gt_l (i := 22) rfl rfl
theorem tw_23 : Cond.selects "RidePoolsModel" yX9_refuse yX9_refuse ∈ gtbl := gt_l (i := 23) rfl rfl
theorem tw_24 : Cond.selects "RidePoolsModel" yX9_leastOf yX9_leastOf ∈ gtbl := gt_l (i := 24) rfl rfl
theorem tw_25 : Cond.selects "RidePoolsModel" yX9_isPerson yX9_isPerson ∈ gtbl := gt_l (i := 25) rfl rfl
theorem tw_26 : Cond.selects "RidePoolsModel" yX9_wrong yX9_wrong ∈ gtbl := gt_l (i := 26) rfl rfl
theorem tw_27 : Cond.selects "RidePoolsModel" yX9_isSet yX9_isSet ∈ gtbl := gt_l (i := 27) rfl rfl
theorem tw_28 : Cond.selects "RidePoolsModel" yX9_hasAway yX9_hasAway ∈ gtbl := gt_l (i := 28) rfl rfl
theorem tw_29 : Cond.selects "RidePoolsModel" yX9_whyNot yX9_whyNot ∈ gtbl := gt_l (i := 29) rfl rfl
theorem tw_30 : Cond.selects "RidePoolsModel" yX9_picks yX9_picks ∈ gtbl := gt_l (i := 30) rfl rfl
theorem tw_31 : Cond.selects "RidePoolsModel" yX9_drops yX9_drops ∈ gtbl := gt_l (i := 31) rfl rfl
theorem tw_32 : Cond.selects "RidePoolsModel" yX9_looks yX9_looks ∈ gtbl := gt_l (i := 32) rfl rfl
theorem tw_33 : Cond.selects "RidePoolsModel" yX9_wrongSet yX9_wrongSet ∈ gtbl := gt_l (i := 33) rfl rfl
theorem tw_34 : Cond.selects "RidePoolsModel" yX9_know yX9_know ∈ gtbl := gt_l (i := 34) rfl rfl
theorem tw_35 : Cond.selects "RidePoolsModel" yX9_turnOf yX9_turnOf ∈ gtbl := gt_l (i := 35) rfl rfl
theorem tw_36 : Cond.selects "RidePoolsModel" yX9_best yX9_best ∈ gtbl := gt_l (i := 36) rfl rfl
theorem tw_37 : Cond.selects "RidePoolsModel" yX9_present yX9_present ∈ gtbl := gt_l (i := 37) rfl rfl
theorem tw_38 : Cond.selects "RidePoolsModel" yX9_bestOf yX9_bestOf ∈ gtbl := gt_l (i := 38) rfl rfl
theorem tw_39 : Cond.selects "RidePoolsModel" yX9_leaves yX9_leaves ∈ gtbl := gt_l (i := 39) rfl rfl
theorem tw_40 : Cond.selects "RidePoolsModel" yX9_lays yX9_lays ∈ gtbl := gt_l (i := 40) rfl rfl
theorem tw_41 : Cond.selects "RidePoolsModel" yX9_planned yX9_planned ∈ gtbl := gt_l (i := 41) rfl rfl
theorem tw_42 : Cond.selects "RidePoolsModel" yX9_isFirst yX9_isFirst ∈ gtbl := gt_l (i := 42) rfl rfl
theorem tw_43 : Cond.selects "RidePoolsModel" yX9_joins yX9_joins ∈ gtbl := gt_l (i := 43) rfl rfl
theorem tw_44 : Cond.initialized "RidePoolsLaw" ∈ gtbl := gt_r (i := 0) rfl rfl
theorem tw_45 : Cond.initialized "RidePools" ∈ gtbl := gt_r (i := 1) rfl rfl
theorem tw_46 : Cond.initialized "RidePools$Roads" ∈ gtbl := gt_r (i := 2) rfl rfl
theorem tw_47 : Cond.initialized "java/util/Arrays" ∈ gtbl := gt_r (i := 3) rfl rfl
theorem tw_48 : Cond.initialized "java/lang/System" ∈ gtbl := gt_r (i := 4) rfl rfl
theorem tw_49 : Cond.initialized "java/lang/Math" ∈ gtbl := gt_r (i := 5) rfl rfl
theorem tw_50 : Cond.initialized "RidePools$People" ∈ gtbl := gt_r (i := 6) rfl rfl
theorem tw_51 : Cond.initialized "RidePools$Person" ∈ gtbl := gt_r (i := 7) rfl rfl
theorem tw_52 : Cond.initialized "RidePools$WayFinder" ∈ gtbl := gt_r (i := 8) rfl rfl
theorem tw_53 : Cond.initialized "RidePools$Way" ∈ gtbl := gt_r (i := 9) rfl rfl
theorem tw_54 : Cond.initialized "RidePools$Costs" ∈ gtbl := gt_r (i := 10) rfl rfl
theorem tw_55 : Cond.initialized "RidePools$Parting" ∈ gtbl := gt_r (i := 11) rfl rfl
theorem tw_56 : Cond.initialized "RidePools$Plan" ∈ gtbl := gt_r (i := 12) rfl rfl
theorem tw_57 : Cond.initialized "RidePoolsModel" ∈ gtbl := gt_r (i := 13) rfl rfl
theorem tw_58 : Cond.initialized "java/lang/Integer" ∈ gtbl := gt_r (i := 14) rfl rfl
theorem tw_59 : Cond.classLink "RidePoolsLaw" 7 "RidePools" ∈ gtbl := gt_r (i := 15) rfl rfl
theorem tw_60 : Cond.instantiable "RidePools" 8 ∈ gtbl := gt_r (i := 16) rfl rfl
theorem tw_61 : Cond.methodLink "RidePoolsLaw" 9 yX8_init ∈ gtbl := gt_r (i := 17) rfl rfl
theorem tw_62 : Cond.instanceMethod yX8_init ∈ gtbl := gt_r (i := 18) rfl rfl
theorem tw_63 : Cond.code yX8_init prog_1_method_1_code 1 (none : Option FieldType) ∈ gtbl := gt_r (i := 19) rfl rfl
theorem tw_64 : Cond.methodLink "RidePools" 3 (⟨"java/lang/Object", "<init>", "()V"⟩ : MethodName) ∈ gtbl := gt_r (i := 20) rfl rfl
theorem tw_65 : Cond.instanceMethod (⟨"java/lang/Object", "<init>", "()V"⟩ : MethodName) ∈ gtbl := gt_r (i := 21) rfl rfl
theorem tw_66 : Cond.code (⟨"java/lang/Object", "<init>", "()V"⟩ : MethodName) object_method_1_code 1 (none : Option FieldType) ∈ gtbl := gt_r (i := 22) rfl rfl
theorem tw_67 : Cond.classLink "RidePools" 9 "RidePools$Roads" ∈ gtbl := gt_r (i := 23) rfl rfl
theorem tw_68 : Cond.instantiable "RidePools$Roads" 2 ∈ gtbl := gt_r (i := 24) rfl rfl
theorem tw_69 : Cond.methodLink "RidePools" 11 yX5_init ∈ gtbl := gt_r (i := 25) rfl rfl
theorem tw_70 : Cond.instanceMethod yX5_init ∈ gtbl := gt_r (i := 26) rfl rfl
theorem tw_71 : Cond.code yX5_init prog_7_method_1_code 2 (none : Option FieldType) ∈ gtbl := gt_r (i := 27) rfl rfl
theorem tw_72 : Cond.methodLink "RidePools$Roads" 3 (⟨"java/lang/Object", "<init>", "()V"⟩ : MethodName) ∈ gtbl := gt_r (i := 28) rfl rfl
theorem tw_73 : Cond.classLink "RidePools$Roads" 9 "[[I" ∈ gtbl := gt_r (i := 29) rfl rfl
theorem tw_75 : Cond.methodLink "RidePools$Roads" 19 yJ7_fill_53178 ∈ gtbl := gt_r (i := 31) rfl rfl
theorem tw_76 : Cond.static yJ7_fill_53178 ∈ gtbl := gt_r (i := 32) rfl rfl
theorem tw_77 : Cond.code yJ7_fill_53178 prog_15_method_103_code 4 (none : Option FieldType) ∈ gtbl := gt_r (i := 33) rfl rfl
theorem tw_78 : Cond.methodLink "RidePools$Roads" 25 yX5_renew ∈ gtbl := gt_r (i := 34) rfl rfl
theorem tw_80 : Cond.instanceMethod yX5_renew ∈ gtbl := gt_r (i := 36) rfl rfl
theorem tw_81 : Cond.code yX5_renew prog_7_method_4_code 3 (none : Option FieldType) ∈ gtbl := gt_r (i := 37) rfl rfl
theorem tw_82 : Cond.methodLink "RidePools$Roads" 28 (⟨"java/lang/System", "arraycopy", "(Ljava/lang/Object;ILjava/lang/Object;II)V"⟩ : MethodName) ∈ gtbl := gt_r (i := 38) rfl rfl
theorem tw_83 : Cond.static (⟨"java/lang/System", "arraycopy", "(Ljava/lang/Object;ILjava/lang/Object;II)V"⟩ : MethodName) ∈ gtbl := gt_r (i := 39) rfl rfl
theorem tw_85 : Cond.methodLink "RidePools$Roads" 34 yX5_shortenBy ∈ gtbl := gt_r (i := 41) rfl rfl
theorem tw_87 : Cond.instanceMethod yX5_shortenBy ∈ gtbl := gt_r (i := 43) rfl rfl
theorem tw_88 : Cond.code yX5_shortenBy prog_7_method_5_code 4 (none : Option FieldType) ∈ gtbl := gt_r (i := 44) rfl rfl
theorem tw_89 : Cond.methodLink "RidePools$Roads" 38 yJ9_min_7cf53 ∈ gtbl := gt_r (i := 45) rfl rfl
theorem tw_90 : Cond.static yJ9_min_7cf53 ∈ gtbl := gt_r (i := 46) rfl rfl
theorem tw_91 : Cond.code yJ9_min_7cf53 prog_13_method_69_code 2 (some FieldType.int) ∈ gtbl := gt_r (i := 47) rfl rfl
theorem tw_92 : Cond.fieldLink "RidePools$Roads" 11 "RidePools$Roads" "direct" "[[I" ∈ gtbl := gt_r (i := 48) rfl rfl
theorem tw_93 : Cond.fieldLink "RidePools$Roads" 16 "RidePools$Roads" "fewest" "[[I" ∈ gtbl := gt_r (i := 49) rfl rfl
theorem tw_94 : Cond.laysFinal "RidePools$Roads" "RidePools$Roads" "direct" "[[I" ∈ gtbl := gt_r (i := 50) rfl rfl
theorem tw_96 : Cond.laysFinal "RidePools$Roads" "RidePools$Roads" "fewest" "[[I" ∈ gtbl := gt_r (i := 52) rfl rfl
theorem tw_99 : Cond.arrayClass FieldType.int ∈ gtbl := gt_r (i := 55) rfl rfl
theorem tw_100 : Cond.classLink "RidePools" 16 "RidePools$People" ∈ gtbl := gt_r (i := 56) rfl rfl
theorem tw_101 : Cond.instantiable "RidePools$People" 2 ∈ gtbl := gt_r (i := 57) rfl rfl
theorem tw_102 : Cond.methodLink "RidePools" 18 yX2_init ∈ gtbl := gt_r (i := 58) rfl rfl
theorem tw_103 : Cond.instanceMethod yX2_init ∈ gtbl := gt_r (i := 59) rfl rfl
theorem tw_104 : Cond.code yX2_init prog_4_method_1_code 2 (none : Option FieldType) ∈ gtbl := gt_r (i := 60) rfl rfl
theorem tw_105 : Cond.methodLink "RidePools$People" 3 (⟨"java/lang/Object", "<init>", "()V"⟩ : MethodName) ∈ gtbl := gt_r (i := 61) rfl rfl
theorem tw_106 : Cond.classLink "RidePools$People" 9 "RidePools$Person" ∈ gtbl := gt_r (i := 62) rfl rfl
theorem tw_108 : Cond.instantiable "RidePools$Person" 11 ∈ gtbl := gt_r (i := 64) rfl rfl
theorem tw_110 : Cond.instanceMethod yX3_init ∈ gtbl := gt_r (i := 66) rfl rfl
theorem tw_111 : Cond.code yX3_init prog_5_method_1_code 1 (none : Option FieldType) ∈ gtbl := gt_r (i := 67) rfl rfl
theorem tw_112 : Cond.methodLink "RidePools$Person" 3 (⟨"java/lang/Object", "<init>", "()V"⟩ : MethodName) ∈ gtbl := gt_r (i := 68) rfl rfl
theorem tw_113 : Cond.fieldLink "RidePools$Person" 19 "RidePools$Person" "kind" "I" ∈ gtbl := gt_r (i := 69) rfl rfl
theorem tw_125 : Cond.fieldLink "RidePools$Person" 9 "RidePools$Person" "seats" "I" ∈ gtbl := gt_r (i := 81) rfl rfl
theorem tw_130 : Cond.fieldLink "RidePools$Person" 15 "RidePools$Person" "isBroken" "Z" ∈ gtbl := gt_r (i := 86) rfl rfl
theorem tw_135 : Cond.lays "RidePools$Person" "RidePools$Person" "kind" "I" ∈ gtbl := gt_r (i := 91) rfl rfl
theorem tw_137 : Cond.lays "RidePools$Person" "RidePools$Person" "house" "I" ∈ gtbl := gt_r (i := 93) rfl rfl
theorem tw_139 : Cond.lays "RidePools$Person" "RidePools$Person" "work" "I" ∈ gtbl := gt_r (i := 95) rfl rfl
theorem tw_141 : Cond.lays "RidePools$Person" "RidePools$Person" "early" "I" ∈ gtbl := gt_r (i := 97) rfl rfl
theorem tw_143 : Cond.lays "RidePools$Person" "RidePools$Person" "late" "I" ∈ gtbl := gt_r (i := 99) rfl rfl
theorem tw_145 : Cond.lays "RidePools$Person" "RidePools$Person" "detour" "I" ∈ gtbl := gt_r (i := 101) rfl rfl
theorem tw_147 : Cond.lays "RidePools$Person" "RidePools$Person" "seats" "I" ∈ gtbl := gt_r (i := 103) rfl rfl
theorem tw_149 : Cond.lays "RidePools$Person" "RidePools$Person" "isAway" "Z" ∈ gtbl := gt_r (i := 105) rfl rfl
theorem tw_151 : Cond.lays "RidePools$Person" "RidePools$Person" "isBroken" "Z" ∈ gtbl := gt_r (i := 107) rfl rfl
theorem tw_153 : Cond.lays "RidePools$Person" "RidePools$Person" "bars" "I" ∈ gtbl := gt_r (i := 109) rfl rfl
theorem tw_155 : Cond.lays "RidePools$Person" "RidePools$Person" "points" "I" ∈ gtbl := gt_r (i := 111) rfl rfl
theorem tw_158 : Cond.fieldLink "RidePools$People" 11 "RidePools$People" "all" "[LRidePools$Person;" ∈ gtbl := gt_r (i := 114) rfl rfl
theorem tw_159 : Cond.fieldLink "RidePools$People" 18 "RidePools$People" "size" "I" ∈ gtbl := gt_r (i := 115) rfl rfl
theorem tw_160 : Cond.laysFinal "RidePools$People" "RidePools$People" "all" "[LRidePools$Person;" ∈ gtbl := gt_r (i := 116) rfl rfl
theorem tw_162 : Cond.lays "RidePools$People" "RidePools$People" "size" "I" ∈ gtbl := gt_r (i := 118) rfl rfl
theorem tw_165 : Cond.classLink "RidePools" 23 "RidePools$WayFinder" ∈ gtbl := gt_r (i := 121) rfl rfl
theorem tw_166 : Cond.instantiable "RidePools$WayFinder" 9 ∈ gtbl := gt_r (i := 122) rfl rfl
theorem tw_167 : Cond.methodLink "RidePools" 25 yX7_init ∈ gtbl := gt_r (i := 123) rfl rfl
theorem tw_168 : Cond.instanceMethod yX7_init ∈ gtbl := gt_r (i := 124) rfl rfl
theorem tw_169 : Cond.code yX7_init prog_9_method_1_code 3 (none : Option FieldType) ∈ gtbl := gt_r (i := 125) rfl rfl
theorem tw_170 : Cond.methodLink "RidePools$WayFinder" 3 (⟨"java/lang/Object", "<init>", "()V"⟩ : MethodName) ∈ gtbl := gt_r (i := 126) rfl rfl
theorem tw_171 : Cond.classLink "RidePools$WayFinder" 9 "RidePools$Way" ∈ gtbl := gt_r (i := 127) rfl rfl
theorem tw_172 : Cond.instantiable "RidePools$Way" 8 ∈ gtbl := gt_r (i := 128) rfl rfl
theorem tw_174 : Cond.instanceMethod yX6_init ∈ gtbl := gt_r (i := 130) rfl rfl
theorem tw_175 : Cond.code yX6_init prog_8_method_1_code 1 (none : Option FieldType) ∈ gtbl := gt_r (i := 131) rfl rfl
theorem tw_176 : Cond.methodLink "RidePools$Way" 3 (⟨"java/lang/Object", "<init>", "()V"⟩ : MethodName) ∈ gtbl := gt_r (i := 132) rfl rfl
theorem tw_177 : Cond.fieldLink "RidePools$Way" 27 "RidePools$Way" "size" "I" ∈ gtbl := gt_r (i := 133) rfl rfl
theorem tw_180 : Cond.fieldLink "RidePools$Way" 9 "RidePools$Way" "members" "[I" ∈ gtbl := gt_r (i := 136) rfl rfl
theorem tw_183 : Cond.fieldLink "RidePools$Way" 15 "RidePools$Way" "picked" "[I" ∈ gtbl := gt_r (i := 139) rfl rfl
theorem tw_185 : Cond.fieldLink "RidePools$Way" 18 "RidePools$Way" "brought" "[I" ∈ gtbl := gt_r (i := 141) rfl rfl
theorem tw_187 : Cond.fieldLink "RidePools$Way" 21 "RidePools$Way" "pickedAfter" "[I" ∈ gtbl := gt_r (i := 143) rfl rfl
theorem tw_190 : Cond.fieldLink "RidePools$Way" 24 "RidePools$Way" "broughtAfter" "[I" ∈ gtbl := gt_r (i := 146) rfl rfl
theorem tw_194 : Cond.fieldLink "RidePools$Way" 31 "RidePools$Way" "taken" "I" ∈ gtbl := gt_r (i := 150) rfl rfl
theorem tw_198 : Cond.fieldLink "RidePools$Way" 34 "RidePools$Way" "begin" "I" ∈ gtbl := gt_r (i := 154) rfl rfl
theorem tw_201 : Cond.lays "RidePools$Way" "RidePools$Way" "size" "I" ∈ gtbl := gt_r (i := 157) rfl rfl
theorem tw_203 : Cond.laysFinal "RidePools$Way" "RidePools$Way" "members" "[I" ∈ gtbl := gt_r (i := 159) rfl rfl
theorem tw_205 : Cond.laysFinal "RidePools$Way" "RidePools$Way" "picked" "[I" ∈ gtbl := gt_r (i := 161) rfl rfl
theorem tw_207 : Cond.laysFinal "RidePools$Way" "RidePools$Way" "brought" "[I" ∈ gtbl := gt_r (i := 163) rfl rfl
theorem tw_209 : Cond.laysFinal "RidePools$Way" "RidePools$Way" "pickedAfter" "[I" ∈ gtbl := gt_r (i := 165) rfl rfl
theorem tw_211 : Cond.laysFinal "RidePools$Way" "RidePools$Way" "broughtAfter" "[I" ∈ gtbl := gt_r (i := 167) rfl rfl
theorem tw_213 : Cond.lays "RidePools$Way" "RidePools$Way" "taken" "I" ∈ gtbl := gt_r (i := 169) rfl rfl
theorem tw_215 : Cond.lays "RidePools$Way" "RidePools$Way" "begin" "I" ∈ gtbl := gt_r (i := 171) rfl rfl
theorem tw_218 : Cond.fieldLink "RidePools$WayFinder" 37 "RidePools$WayFinder" "roads" "LRidePools$Roads;" ∈ gtbl := gt_r (i := 174) rfl rfl
theorem tw_219 : Cond.fieldLink "RidePools$WayFinder" 41 "RidePools$WayFinder" "people" "LRidePools$People;" ∈ gtbl := gt_r (i := 175) rfl rfl
theorem tw_220 : Cond.fieldLink "RidePools$WayFinder" 12 "RidePools$WayFinder" "trial" "LRidePools$Way;" ∈ gtbl := gt_r (i := 176) rfl rfl
theorem tw_221 : Cond.fieldLink "RidePools$WayFinder" 18 "RidePools$WayFinder" "found" "LRidePools$Way;" ∈ gtbl := gt_r (i := 177) rfl rfl
theorem tw_222 : Cond.fieldLink "RidePools$WayFinder" 21 "RidePools$WayFinder" "house" "[I" ∈ gtbl := gt_r (i := 178) rfl rfl
theorem tw_223 : Cond.fieldLink "RidePools$WayFinder" 25 "RidePools$WayFinder" "work" "[I" ∈ gtbl := gt_r (i := 179) rfl rfl
theorem tw_224 : Cond.fieldLink "RidePools$WayFinder" 28 "RidePools$WayFinder" "early" "[I" ∈ gtbl := gt_r (i := 180) rfl rfl
theorem tw_225 : Cond.fieldLink "RidePools$WayFinder" 31 "RidePools$WayFinder" "late" "[I" ∈ gtbl := gt_r (i := 181) rfl rfl
theorem tw_226 : Cond.fieldLink "RidePools$WayFinder" 34 "RidePools$WayFinder" "longest" "[I" ∈ gtbl := gt_r (i := 182) rfl rfl
theorem tw_227 : Cond.laysFinal "RidePools$WayFinder" "RidePools$WayFinder" "roads" "LRidePools$Roads;" ∈ gtbl := gt_r (i := 183) rfl rfl
theorem tw_229 : Cond.laysFinal "RidePools$WayFinder" "RidePools$WayFinder" "people" "LRidePools$People;" ∈ gtbl := gt_r (i := 185) rfl rfl
theorem tw_231 : Cond.laysFinal "RidePools$WayFinder" "RidePools$WayFinder" "trial" "LRidePools$Way;" ∈ gtbl := gt_r (i := 187) rfl rfl
theorem tw_233 : Cond.laysFinal "RidePools$WayFinder" "RidePools$WayFinder" "found" "LRidePools$Way;" ∈ gtbl := gt_r (i := 189) rfl rfl
theorem tw_235 : Cond.laysFinal "RidePools$WayFinder" "RidePools$WayFinder" "house" "[I" ∈ gtbl := gt_r (i := 191) rfl rfl
theorem tw_237 : Cond.laysFinal "RidePools$WayFinder" "RidePools$WayFinder" "work" "[I" ∈ gtbl := gt_r (i := 193) rfl rfl
theorem tw_239 : Cond.laysFinal "RidePools$WayFinder" "RidePools$WayFinder" "early" "[I" ∈ gtbl := gt_r (i := 195) rfl rfl
theorem tw_241 : Cond.laysFinal "RidePools$WayFinder" "RidePools$WayFinder" "late" "[I" ∈ gtbl := gt_r (i := 197) rfl rfl
theorem tw_243 : Cond.laysFinal "RidePools$WayFinder" "RidePools$WayFinder" "longest" "[I" ∈ gtbl := gt_r (i := 199) rfl rfl
theorem tw_246 : Cond.classLink "RidePools" 32 "RidePools$Costs" ∈ gtbl := gt_r (i := 202) rfl rfl
theorem tw_247 : Cond.instantiable "RidePools$Costs" 3 ∈ gtbl := gt_r (i := 203) rfl rfl
theorem tw_248 : Cond.methodLink "RidePools" 34 yX0_init ∈ gtbl := gt_r (i := 204) rfl rfl
theorem tw_249 : Cond.instanceMethod yX0_init ∈ gtbl := gt_r (i := 205) rfl rfl
theorem tw_250 : Cond.code yX0_init prog_2_method_1_code 2 (none : Option FieldType) ∈ gtbl := gt_r (i := 206) rfl rfl
theorem tw_251 : Cond.methodLink "RidePools$Costs" 3 (⟨"java/lang/Object", "<init>", "()V"⟩ : MethodName) ∈ gtbl := gt_r (i := 207) rfl rfl
theorem tw_252 : Cond.methodLink "RidePools$Costs" 22 yJ7_fill_53178 ∈ gtbl := gt_r (i := 208) rfl rfl
theorem tw_253 : Cond.fieldLink "RidePools$Costs" 18 "RidePools$Costs" "finder" "LRidePools$WayFinder;" ∈ gtbl := gt_r (i := 209) rfl rfl
theorem tw_254 : Cond.fieldLink "RidePools$Costs" 9 "RidePools$Costs" "fewest" "[I" ∈ gtbl := gt_r (i := 210) rfl rfl
theorem tw_255 : Cond.fieldLink "RidePools$Costs" 15 "RidePools$Costs" "drivers" "[I" ∈ gtbl := gt_r (i := 211) rfl rfl
theorem tw_256 : Cond.laysFinal "RidePools$Costs" "RidePools$Costs" "finder" "LRidePools$WayFinder;" ∈ gtbl := gt_r (i := 212) rfl rfl
theorem tw_258 : Cond.laysFinal "RidePools$Costs" "RidePools$Costs" "fewest" "[I" ∈ gtbl := gt_r (i := 214) rfl rfl
theorem tw_260 : Cond.laysFinal "RidePools$Costs" "RidePools$Costs" "drivers" "[I" ∈ gtbl := gt_r (i := 216) rfl rfl
theorem tw_263 : Cond.classLink "RidePools" 41 "RidePools$Parting" ∈ gtbl := gt_r (i := 219) rfl rfl
theorem tw_264 : Cond.instantiable "RidePools$Parting" 3 ∈ gtbl := gt_r (i := 220) rfl rfl
theorem tw_265 : Cond.methodLink "RidePools" 43 yX1_init ∈ gtbl := gt_r (i := 221) rfl rfl
theorem tw_266 : Cond.instanceMethod yX1_init ∈ gtbl := gt_r (i := 222) rfl rfl
theorem tw_267 : Cond.code yX1_init prog_3_method_1_code 2 (none : Option FieldType) ∈ gtbl := gt_r (i := 223) rfl rfl
theorem tw_268 : Cond.methodLink "RidePools$Parting" 3 (⟨"java/lang/Object", "<init>", "()V"⟩ : MethodName) ∈ gtbl := gt_r (i := 224) rfl rfl
theorem tw_269 : Cond.fieldLink "RidePools$Parting" 18 "RidePools$Parting" "costs" "LRidePools$Costs;" ∈ gtbl := gt_r (i := 225) rfl rfl
theorem tw_270 : Cond.fieldLink "RidePools$Parting" 9 "RidePools$Parting" "worth" "[I" ∈ gtbl := gt_r (i := 226) rfl rfl
theorem tw_271 : Cond.fieldLink "RidePools$Parting" 15 "RidePools$Parting" "choice" "[I" ∈ gtbl := gt_r (i := 227) rfl rfl
theorem tw_272 : Cond.laysFinal "RidePools$Parting" "RidePools$Parting" "costs" "LRidePools$Costs;" ∈ gtbl := gt_r (i := 228) rfl rfl
theorem tw_274 : Cond.laysFinal "RidePools$Parting" "RidePools$Parting" "worth" "[I" ∈ gtbl := gt_r (i := 230) rfl rfl
theorem tw_276 : Cond.laysFinal "RidePools$Parting" "RidePools$Parting" "choice" "[I" ∈ gtbl := gt_r (i := 232) rfl rfl
theorem tw_279 : Cond.classLink "RidePools" 50 "RidePools$Plan" ∈ gtbl := gt_r (i := 235) rfl rfl
theorem tw_280 : Cond.instantiable "RidePools$Plan" 7 ∈ gtbl := gt_r (i := 236) rfl rfl
theorem tw_281 : Cond.methodLink "RidePools" 52 yX4_init ∈ gtbl := gt_r (i := 237) rfl rfl
theorem tw_282 : Cond.instanceMethod yX4_init ∈ gtbl := gt_r (i := 238) rfl rfl
theorem tw_283 : Cond.code yX4_init prog_6_method_1_code 1 (none : Option FieldType) ∈ gtbl := gt_r (i := 239) rfl rfl
theorem tw_284 : Cond.methodLink "RidePools$Plan" 3 (⟨"java/lang/Object", "<init>", "()V"⟩ : MethodName) ∈ gtbl := gt_r (i := 240) rfl rfl
theorem tw_285 : Cond.fieldLink "RidePools$Plan" 27 "RidePools$Plan" "made" "Z" ∈ gtbl := gt_r (i := 241) rfl rfl
theorem tw_286 : Cond.fieldLink "RidePools$Plan" 31 "RidePools$Plan" "left" "I" ∈ gtbl := gt_r (i := 242) rfl rfl
theorem tw_287 : Cond.fieldLink "RidePools$Plan" 9 "RidePools$Plan" "pool" "[I" ∈ gtbl := gt_r (i := 243) rfl rfl
theorem tw_288 : Cond.fieldLink "RidePools$Plan" 15 "RidePools$Plan" "driverIn" "[I" ∈ gtbl := gt_r (i := 244) rfl rfl
theorem tw_289 : Cond.fieldLink "RidePools$Plan" 18 "RidePools$Plan" "taken" "[I" ∈ gtbl := gt_r (i := 245) rfl rfl
theorem tw_290 : Cond.fieldLink "RidePools$Plan" 21 "RidePools$Plan" "pickedAt" "[I" ∈ gtbl := gt_r (i := 246) rfl rfl
theorem tw_291 : Cond.fieldLink "RidePools$Plan" 24 "RidePools$Plan" "broughtAt" "[I" ∈ gtbl := gt_r (i := 247) rfl rfl
theorem tw_292 : Cond.lays "RidePools$Plan" "RidePools$Plan" "made" "Z" ∈ gtbl := gt_r (i := 248) rfl rfl
theorem tw_294 : Cond.lays "RidePools$Plan" "RidePools$Plan" "left" "I" ∈ gtbl := gt_r (i := 250) rfl rfl
theorem tw_296 : Cond.laysFinal "RidePools$Plan" "RidePools$Plan" "pool" "[I" ∈ gtbl := gt_r (i := 252) rfl rfl
theorem tw_298 : Cond.laysFinal "RidePools$Plan" "RidePools$Plan" "driverIn" "[I" ∈ gtbl := gt_r (i := 254) rfl rfl
theorem tw_300 : Cond.laysFinal "RidePools$Plan" "RidePools$Plan" "taken" "[I" ∈ gtbl := gt_r (i := 256) rfl rfl
theorem tw_302 : Cond.laysFinal "RidePools$Plan" "RidePools$Plan" "pickedAt" "[I" ∈ gtbl := gt_r (i := 258) rfl rfl
theorem tw_304 : Cond.laysFinal "RidePools$Plan" "RidePools$Plan" "broughtAt" "[I" ∈ gtbl := gt_r (i := 260) rfl rfl
theorem tw_307 : Cond.fieldLink "RidePools" 12 "RidePools" "roads" "LRidePools$Roads;" ∈ gtbl := gt_r (i := 263) rfl rfl
theorem tw_308 : Cond.fieldLink "RidePools" 19 "RidePools" "people" "LRidePools$People;" ∈ gtbl := gt_r (i := 264) rfl rfl
theorem tw_309 : Cond.fieldLink "RidePools" 28 "RidePools" "finder" "LRidePools$WayFinder;" ∈ gtbl := gt_r (i := 265) rfl rfl
theorem tw_310 : Cond.fieldLink "RidePools" 37 "RidePools" "costs" "LRidePools$Costs;" ∈ gtbl := gt_r (i := 266) rfl rfl
theorem tw_311 : Cond.fieldLink "RidePools" 46 "RidePools" "parting" "LRidePools$Parting;" ∈ gtbl := gt_r (i := 267) rfl rfl
theorem tw_312 : Cond.fieldLink "RidePools" 53 "RidePools" "current" "LRidePools$Plan;" ∈ gtbl := gt_r (i := 268) rfl rfl
theorem tw_313 : Cond.fieldLink "RidePools" 57 "RidePools" "refusals" "[I" ∈ gtbl := gt_r (i := 269) rfl rfl
theorem tw_314 : Cond.fieldLink "RidePools" 61 "RidePools" "morningsSoFar" "I" ∈ gtbl := gt_r (i := 270) rfl rfl
theorem tw_315 : Cond.laysFinal "RidePools" "RidePools" "roads" "LRidePools$Roads;" ∈ gtbl := gt_r (i := 271) rfl rfl
theorem tw_317 : Cond.laysFinal "RidePools" "RidePools" "people" "LRidePools$People;" ∈ gtbl := gt_r (i := 273) rfl rfl
theorem tw_319 : Cond.laysFinal "RidePools" "RidePools" "finder" "LRidePools$WayFinder;" ∈ gtbl := gt_r (i := 275) rfl rfl
theorem tw_321 : Cond.laysFinal "RidePools" "RidePools" "costs" "LRidePools$Costs;" ∈ gtbl := gt_r (i := 277) rfl rfl
theorem tw_323 : Cond.laysFinal "RidePools" "RidePools" "parting" "LRidePools$Parting;" ∈ gtbl := gt_r (i := 279) rfl rfl
theorem tw_325 : Cond.laysFinal "RidePools" "RidePools" "current" "LRidePools$Plan;" ∈ gtbl := gt_r (i := 281) rfl rfl
theorem tw_327 : Cond.laysFinal "RidePools" "RidePools" "refusals" "[I" ∈ gtbl := gt_r (i := 283) rfl rfl
theorem tw_329 : Cond.lays "RidePools" "RidePools" "morningsSoFar" "I" ∈ gtbl := gt_r (i := 285) rfl rfl
theorem tw_332 : Cond.methodLink "RidePoolsLaw" 13 yX8_minutes ∈ gtbl := gt_r (i := 288) rfl rfl
theorem tw_333 : Cond.instanceMethod yX8_minutes ∈ gtbl := gt_r (i := 289) rfl rfl
theorem tw_334 : Cond.selects "RidePools" yX8_minutes yX8_minutes ∈ gtbl := gt_r (i := 290) rfl rfl
theorem tw_335 : Cond.code yX8_minutes prog_1_method_2_code 5 (some FieldType.int) ∈ gtbl := gt_r (i := 291) rfl rfl
theorem tw_336 : Cond.methodLink "RidePools" 65 yX8_isStop ∈ gtbl := gt_r (i := 292) rfl rfl
theorem tw_337 : Cond.static yX8_isStop ∈ gtbl := gt_r (i := 293) rfl rfl
theorem tw_338 : Cond.code yX8_isStop prog_1_method_26_code 1 (some FieldType.boolean) ∈ gtbl := gt_r (i := 294) rfl rfl
theorem tw_339 : Cond.methodLink "RidePools" 69 yX8_refuse ∈ gtbl := gt_r (i := 295) rfl rfl
theorem tw_341 : Cond.instanceMethod yX8_refuse ∈ gtbl := gt_r (i := 297) rfl rfl
theorem tw_342 : Cond.code yX8_refuse prog_1_method_25_code 2 (some FieldType.int) ∈ gtbl := gt_r (i := 298) rfl rfl
theorem tw_343 : Cond.methodLink "RidePools" 73 yX5_change ∈ gtbl := gt_r (i := 299) rfl rfl
theorem tw_344 : Cond.instanceMethod yX5_change ∈ gtbl := gt_r (i := 300) rfl rfl
theorem tw_345 : Cond.selects "RidePools$Roads" yX5_change yX5_change ∈ gtbl := gt_r (i := 301) rfl rfl
theorem tw_346 : Cond.code yX5_change prog_7_method_3_code 5 (some FieldType.int) ∈ gtbl := gt_r (i := 302) rfl rfl
theorem tw_347 : Cond.methodLink "RidePools" 77 yX0_forgetWith ∈ gtbl := gt_r (i := 303) rfl rfl
theorem tw_348 : Cond.instanceMethod yX0_forgetWith ∈ gtbl := gt_r (i := 304) rfl rfl
theorem tw_349 : Cond.selects "RidePools$Costs" yX0_forgetWith yX0_forgetWith ∈ gtbl := gt_r (i := 305) rfl rfl
theorem tw_350 : Cond.code yX0_forgetWith prog_2_method_4_code 3 (none : Option FieldType) ∈ gtbl := gt_r (i := 306) rfl rfl
theorem tw_351 : Cond.methodLink "RidePoolsLaw" 18 yX8_least ∈ gtbl := gt_r (i := 307) rfl rfl
theorem tw_352 : Cond.instanceMethod yX8_least ∈ gtbl := gt_r (i := 308) rfl rfl
theorem tw_353 : Cond.selects "RidePools" yX8_least yX8_least ∈ gtbl := gt_r (i := 309) rfl rfl
theorem tw_354 : Cond.code yX8_least prog_1_method_3_code 3 (some FieldType.int) ∈ gtbl := gt_r (i := 310) rfl rfl
theorem tw_355 : Cond.methodLink "RidePools" 81 yX5_shortest ∈ gtbl := gt_r (i := 311) rfl rfl
theorem tw_356 : Cond.instanceMethod yX5_shortest ∈ gtbl := gt_r (i := 312) rfl rfl
theorem tw_357 : Cond.selects "RidePools$Roads" yX5_shortest yX5_shortest ∈ gtbl := gt_r (i := 313) rfl rfl
theorem tw_358 : Cond.code yX5_shortest prog_7_method_2_code 3 (some FieldType.int) ∈ gtbl := gt_r (i := 314) rfl rfl
theorem tw_359 : Cond.methodLink "RidePoolsLaw" 23 yX8_person ∈ gtbl := gt_r (i := 315) rfl rfl
theorem tw_360 : Cond.instanceMethod yX8_person ∈ gtbl := gt_r (i := 316) rfl rfl
theorem tw_361 : Cond.selects "RidePools" yX8_person yX8_person ∈ gtbl := gt_r (i := 317) rfl rfl
theorem tw_362 : Cond.code yX8_person prog_1_method_4_code 10 (some FieldType.int) ∈ gtbl := gt_r (i := 318) rfl rfl
theorem tw_363 : Cond.methodLink "RidePools" 85 yX2_isFull ∈ gtbl := gt_r (i := 319) rfl rfl
theorem tw_364 : Cond.instanceMethod yX2_isFull ∈ gtbl := gt_r (i := 320) rfl rfl
theorem tw_365 : Cond.selects "RidePools$People" yX2_isFull yX2_isFull ∈ gtbl := gt_r (i := 321) rfl rfl
theorem tw_366 : Cond.code yX2_isFull prog_4_method_3_code 1 (some FieldType.boolean) ∈ gtbl := gt_r (i := 322) rfl rfl
theorem tw_367 : Cond.methodLink "RidePools" 89 yX2_addOne ∈ gtbl := gt_r (i := 323) rfl rfl
theorem tw_368 : Cond.instanceMethod yX2_addOne ∈ gtbl := gt_r (i := 324) rfl rfl
theorem tw_369 : Cond.selects "RidePools$People" yX2_addOne yX2_addOne ∈ gtbl := gt_r (i := 325) rfl rfl
theorem tw_370 : Cond.code yX2_addOne prog_4_method_7_code 1 (some FieldType.int) ∈ gtbl := gt_r (i := 326) rfl rfl
theorem tw_371 : Cond.methodLink "RidePools" 93 yX2_at ∈ gtbl := gt_r (i := 327) rfl rfl
theorem tw_372 : Cond.instanceMethod yX2_at ∈ gtbl := gt_r (i := 328) rfl rfl
theorem tw_373 : Cond.selects "RidePools$People" yX2_at yX2_at ∈ gtbl := gt_r (i := 329) rfl rfl
theorem tw_374 : Cond.code yX2_at prog_4_method_6_code 2 (some (FieldType.object "RidePools$Person")) ∈ gtbl := gt_r (i := 330) rfl rfl
theorem tw_375 : Cond.methodLink "RidePoolsLaw" 28 yX8_times ∈ gtbl := gt_r (i := 331) rfl rfl
theorem tw_376 : Cond.instanceMethod yX8_times ∈ gtbl := gt_r (i := 332) rfl rfl
theorem tw_377 : Cond.selects "RidePools" yX8_times yX8_times ∈ gtbl := gt_r (i := 333) rfl rfl
theorem tw_378 : Cond.code yX8_times prog_1_method_5_code 4 (some FieldType.int) ∈ gtbl := gt_r (i := 334) rfl rfl
theorem tw_379 : Cond.methodLink "RidePools" 120 yX2_has ∈ gtbl := gt_r (i := 335) rfl rfl
theorem tw_380 : Cond.instanceMethod yX2_has ∈ gtbl := gt_r (i := 336) rfl rfl
theorem tw_381 : Cond.selects "RidePools$People" yX2_has yX2_has ∈ gtbl := gt_r (i := 337) rfl rfl
theorem tw_382 : Cond.code yX2_has prog_4_method_4_code 2 (some FieldType.boolean) ∈ gtbl := gt_r (i := 338) rfl rfl
theorem tw_383 : Cond.methodLink "RidePoolsLaw" 32 yX8_bar ∈ gtbl := gt_r (i := 339) rfl rfl
theorem tw_384 : Cond.instanceMethod yX8_bar ∈ gtbl := gt_r (i := 340) rfl rfl
theorem tw_385 : Cond.selects "RidePools" yX8_bar yX8_bar ∈ gtbl := gt_r (i := 341) rfl rfl
theorem tw_386 : Cond.code yX8_bar prog_1_method_6_code 4 (some FieldType.int) ∈ gtbl := gt_r (i := 342) rfl rfl
theorem tw_387 : Cond.methodLink "RidePools" 126 yX8_contains ∈ gtbl := gt_r (i := 343) rfl rfl
theorem tw_388 : Cond.static yX8_contains ∈ gtbl := gt_r (i := 344) rfl rfl
theorem tw_389 : Cond.code yX8_contains prog_1_method_27_code 2 (some FieldType.boolean) ∈ gtbl := gt_r (i := 345) rfl rfl
theorem tw_390 : Cond.methodLink "RidePoolsLaw" 37 yX8_away ∈ gtbl := gt_r (i := 346) rfl rfl
theorem tw_391 : Cond.instanceMethod yX8_away ∈ gtbl := gt_r (i := 347) rfl rfl
theorem tw_392 : Cond.selects "RidePools" yX8_away yX8_away ∈ gtbl := gt_r (i := 348) rfl rfl
theorem tw_393 : Cond.code yX8_away prog_1_method_7_code 3 (some FieldType.int) ∈ gtbl := gt_r (i := 349) rfl rfl
theorem tw_394 : Cond.methodLink "RidePoolsLaw" 42 yX8_broken ∈ gtbl := gt_r (i := 350) rfl rfl
theorem tw_395 : Cond.instanceMethod yX8_broken ∈ gtbl := gt_r (i := 351) rfl rfl
theorem tw_396 : Cond.selects "RidePools" yX8_broken yX8_broken ∈ gtbl := gt_r (i := 352) rfl rfl
theorem tw_397 : Cond.code yX8_broken prog_1_method_8_code 3 (some FieldType.int) ∈ gtbl := gt_r (i := 353) rfl rfl
theorem tw_398 : Cond.methodLink "RidePools" 134 yX8_setBroken ∈ gtbl := gt_r (i := 354) rfl rfl
theorem tw_400 : Cond.instanceMethod yX8_setBroken ∈ gtbl := gt_r (i := 356) rfl rfl
set_option maxRecDepth 20000 in
theorem tw_401 : Cond.code yX8_setBroken prog_1_method_30_code 3 (some FieldType.boolean) ∈ gtbl := gt_r (i := 357) rfl rfl
set_option maxRecDepth 20000 in
theorem tw_402 : Cond.methodLink "RidePoolsLaw" 46 yX8_fits ∈ gtbl := gt_r (i := 358) rfl rfl
set_option maxRecDepth 20000 in
theorem tw_403 : Cond.instanceMethod yX8_fits ∈ gtbl := gt_r (i := 359) rfl rfl
set_option maxRecDepth 20000 in
theorem tw_404 : Cond.selects "RidePools" yX8_fits yX8_fits ∈ gtbl := gt_r (i := 360) rfl rfl
set_option maxRecDepth 20000 in
theorem tw_405 : Cond.code yX8_fits prog_1_method_9_code 4 (some FieldType.int) ∈ gtbl := gt_r (i := 361) rfl rfl
set_option maxRecDepth 20000 in
theorem tw_406 : Cond.methodLink "RidePools" 138 yX8_wrongRide ∈ gtbl := gt_r (i := 362) rfl rfl
set_option maxRecDepth 20000 in
theorem tw_408 : Cond.instanceMethod yX8_wrongRide ∈ gtbl := gt_r (i := 364) rfl rfl
set_option maxRecDepth 20000 in
theorem tw_409 : Cond.code yX8_wrongRide prog_1_method_29_code 3 (some FieldType.int) ∈ gtbl := gt_r (i := 365) rfl rfl
set_option maxRecDepth 20000 in
theorem tw_410 : Cond.methodLink "RidePools" 156 yX8_wrongSet ∈ gtbl := gt_r (i := 366) rfl rfl
set_option maxRecDepth 20000 in
theorem tw_412 : Cond.instanceMethod yX8_wrongSet ∈ gtbl := gt_r (i := 368) rfl rfl
set_option maxRecDepth 20000 in
theorem tw_413 : Cond.code yX8_wrongSet prog_1_method_28_code 2 (some FieldType.int) ∈ gtbl := gt_r (i := 369) rfl rfl
set_option maxRecDepth 20000 in
theorem tw_414 : Cond.methodLink "RidePools" 258 yX2_hasAll ∈ gtbl := gt_r (i := 370) rfl rfl
set_option maxRecDepth 20000 in
theorem tw_415 : Cond.instanceMethod yX2_hasAll ∈ gtbl := gt_r (i := 371) rfl rfl
set_option maxRecDepth 20000 in
theorem tw_416 : Cond.selects "RidePools$People" yX2_hasAll yX2_hasAll ∈ gtbl := gt_r (i := 372) rfl rfl
set_option maxRecDepth 20000 in
theorem tw_417 : Cond.code yX2_hasAll prog_4_method_5_code 2 (some FieldType.boolean) ∈ gtbl := gt_r (i := 373) rfl rfl
set_option maxRecDepth 20000 in
theorem tw_418 : Cond.methodLink "RidePools" 250 yJ6_bitCount_0f7a4 ∈ gtbl := gt_r (i := 374) rfl rfl
set_option maxRecDepth 20000 in
theorem tw_419 : Cond.static yJ6_bitCount_0f7a4 ∈ gtbl := gt_r (i := 375) rfl rfl
set_option maxRecDepth 20000 in
theorem tw_420 : Cond.code yJ6_bitCount_0f7a4 prog_12_method_49_code 1 (some FieldType.int) ∈ gtbl := gt_r (i := 376) rfl rfl
set_option maxRecDepth 20000 in
theorem tw_421 : Cond.constant "java/lang/Integer" 265 1431655765 ∈ gtbl := gt_r (i := 377) rfl rfl
set_option maxRecDepth 20000 in
theorem tw_422 : Cond.constant "java/lang/Integer" 266 858993459 ∈ gtbl := gt_r (i := 378) rfl rfl
set_option maxRecDepth 20000 in
theorem tw_423 : Cond.constant "java/lang/Integer" 267 252645135 ∈ gtbl := gt_r (i := 379) rfl rfl
set_option maxRecDepth 20000 in
theorem tw_424 : Cond.methodLink "RidePools" 261 yX2_someAway ∈ gtbl := gt_r (i := 380) rfl rfl
set_option maxRecDepth 20000 in
theorem tw_425 : Cond.instanceMethod yX2_someAway ∈ gtbl := gt_r (i := 381) rfl rfl
set_option maxRecDepth 20000 in
theorem tw_426 : Cond.selects "RidePools$People" yX2_someAway yX2_someAway ∈ gtbl := gt_r (i := 382) rfl rfl
set_option maxRecDepth 20000 in
theorem tw_427 : Cond.code yX2_someAway prog_4_method_9_code 2 (some FieldType.boolean) ∈ gtbl := gt_r (i := 383) rfl rfl
set_option maxRecDepth 20000 in
theorem tw_428 : Cond.methodLink "RidePools$People" 26 yX2_notAway ∈ gtbl := gt_r (i := 384) rfl rfl
set_option maxRecDepth 20000 in
theorem tw_429 : Cond.instanceMethod yX2_notAway ∈ gtbl := gt_r (i := 385) rfl rfl
set_option maxRecDepth 20000 in
theorem tw_430 : Cond.selects "RidePools$People" yX2_notAway yX2_notAway ∈ gtbl := gt_r (i := 386) rfl rfl
set_option maxRecDepth 20000 in
theorem tw_431 : Cond.code yX2_notAway prog_4_method_8_code 3 (some FieldType.int) ∈ gtbl := gt_r (i := 387) rfl rfl
set_option maxRecDepth 20000 in
theorem tw_432 : Cond.methodLink "RidePools" 141 yX7_reasonAgainst ∈ gtbl := gt_r (i := 388) rfl rfl
set_option maxRecDepth 20000 in
theorem tw_433 : Cond.instanceMethod yX7_reasonAgainst ∈ gtbl := gt_r (i := 389) rfl rfl
set_option maxRecDepth 20000 in
theorem tw_434 : Cond.selects "RidePools$WayFinder" yX7_reasonAgainst yX7_reasonAgainst ∈ gtbl := gt_r (i := 390) rfl rfl
set_option maxRecDepth 20000 in
theorem tw_435 : Cond.code yX7_reasonAgainst prog_9_method_2_code 4 (some FieldType.int) ∈ gtbl := gt_r (i := 391) rfl rfl
set_option maxRecDepth 20000 in
theorem tw_436 : Cond.methodLink "RidePools$WayFinder" 49 yX2_has ∈ gtbl := gt_r (i := 392) rfl rfl
set_option maxRecDepth 20000 in
theorem tw_437 : Cond.methodLink "RidePools$WayFinder" 55 yX2_at ∈ gtbl := gt_r (i := 393) rfl rfl
set_option maxRecDepth 20000 in
theorem tw_438 : Cond.methodLink "RidePools$WayFinder" 59 yX3_hasCar ∈ gtbl := gt_r (i := 394) rfl rfl
set_option maxRecDepth 20000 in
theorem tw_439 : Cond.instanceMethod yX3_hasCar ∈ gtbl := gt_r (i := 395) rfl rfl
set_option maxRecDepth 20000 in
theorem tw_440 : Cond.selects "RidePools$Person" yX3_hasCar yX3_hasCar ∈ gtbl := gt_r (i := 396) rfl rfl
set_option maxRecDepth 20000 in
theorem tw_441 : Cond.code yX3_hasCar prog_5_method_2_code 1 (some FieldType.boolean) ∈ gtbl := gt_r (i := 397) rfl rfl
set_option maxRecDepth 20000 in
theorem tw_442 : Cond.methodLink "RidePools$WayFinder" 65 yX2_seatsSuffice ∈ gtbl := gt_r (i := 398) rfl rfl
set_option maxRecDepth 20000 in
theorem tw_443 : Cond.instanceMethod yX2_seatsSuffice ∈ gtbl := gt_r (i := 399) rfl rfl
set_option maxRecDepth 20000 in
theorem tw_444 : Cond.selects "RidePools$People" yX2_seatsSuffice yX2_seatsSuffice ∈ gtbl := gt_r (i := 400) rfl rfl
set_option maxRecDepth 20000 in
theorem tw_445 : Cond.code yX2_seatsSuffice prog_4_method_11_code 5 (some FieldType.boolean) ∈ gtbl := gt_r (i := 401) rfl rfl
set_option maxRecDepth 20000 in
theorem tw_447 : Cond.methodLink "RidePools$People" 38 yX3_seatsTaken ∈ gtbl := gt_r (i := 403) rfl rfl
set_option maxRecDepth 20000 in
theorem tw_448 : Cond.instanceMethod yX3_seatsTaken ∈ gtbl := gt_r (i := 404) rfl rfl
set_option maxRecDepth 20000 in
theorem tw_449 : Cond.selects "RidePools$Person" yX3_seatsTaken yX3_seatsTaken ∈ gtbl := gt_r (i := 405) rfl rfl
set_option maxRecDepth 20000 in
theorem tw_450 : Cond.code yX3_seatsTaken prog_5_method_3_code 1 (some FieldType.int) ∈ gtbl := gt_r (i := 406) rfl rfl
set_option maxRecDepth 20000 in
theorem tw_451 : Cond.methodLink "RidePools$WayFinder" 69 yX2_hasBar ∈ gtbl := gt_r (i := 407) rfl rfl
set_option maxRecDepth 20000 in
theorem tw_452 : Cond.instanceMethod yX2_hasBar ∈ gtbl := gt_r (i := 408) rfl rfl
set_option maxRecDepth 20000 in
theorem tw_453 : Cond.selects "RidePools$People" yX2_hasBar yX2_hasBar ∈ gtbl := gt_r (i := 409) rfl rfl
set_option maxRecDepth 20000 in
theorem tw_454 : Cond.code yX2_hasBar prog_4_method_12_code 3 (some FieldType.boolean) ∈ gtbl := gt_r (i := 410) rfl rfl
set_option maxRecDepth 20000 in
theorem tw_455 : Cond.methodLink "RidePools$WayFinder" 72 yX7_load ∈ gtbl := gt_r (i := 411) rfl rfl
set_option maxRecDepth 20000 in
theorem tw_457 : Cond.instanceMethod yX7_load ∈ gtbl := gt_r (i := 413) rfl rfl
set_option maxRecDepth 20000 in
theorem tw_458 : Cond.code yX7_load prog_9_method_4_code 3 (none : Option FieldType) ∈ gtbl := gt_r (i := 414) rfl rfl
set_option maxRecDepth 20000 in
theorem tw_460 : Cond.methodLink "RidePools$WayFinder" 102 yX7_loadOne ∈ gtbl := gt_r (i := 416) rfl rfl
set_option maxRecDepth 20000 in
theorem tw_462 : Cond.instanceMethod yX7_loadOne ∈ gtbl := gt_r (i := 418) rfl rfl
set_option maxRecDepth 20000 in
theorem tw_463 : Cond.code yX7_loadOne prog_9_method_5_code 4 (none : Option FieldType) ∈ gtbl := gt_r (i := 419) rfl rfl
set_option maxRecDepth 20000 in
theorem tw_464 : Cond.methodLink "RidePools$WayFinder" 117 yX5_shortest ∈ gtbl := gt_r (i := 420) rfl rfl
set_option maxRecDepth 20000 in
theorem tw_465 : Cond.methodLink "RidePools$WayFinder" 76 yJ6_bitCount_0f7a4 ∈ gtbl := gt_r (i := 421) rfl rfl
set_option maxRecDepth 20000 in
theorem tw_466 : Cond.methodLink "RidePools$WayFinder" 88 yX7_allPlaces ∈ gtbl := gt_r (i := 422) rfl rfl
set_option maxRecDepth 20000 in
theorem tw_468 : Cond.instanceMethod yX7_allPlaces ∈ gtbl := gt_r (i := 424) rfl rfl
set_option maxRecDepth 20000 in
theorem tw_469 : Cond.code yX7_allPlaces prog_9_method_6_code 1 (some FieldType.int) ∈ gtbl := gt_r (i := 425) rfl rfl
set_option maxRecDepth 20000 in
theorem tw_470 : Cond.methodLink "RidePools$WayFinder" 92 yX7_pickNext ∈ gtbl := gt_r (i := 426) rfl rfl
set_option maxRecDepth 20000 in
theorem tw_472 : Cond.instanceMethod yX7_pickNext ∈ gtbl := gt_r (i := 428) rfl rfl
set_option maxRecDepth 20000 in
theorem tw_473 : Cond.code yX7_pickNext prog_9_method_7_code 8 (none : Option FieldType) ∈ gtbl := gt_r (i := 429) rfl rfl
set_option maxRecDepth 20000 in
theorem tw_474 : Cond.methodLink "RidePools$WayFinder" 126 yX7_bringNext ∈ gtbl := gt_r (i := 430) rfl rfl
set_option maxRecDepth 20000 in
theorem tw_476 : Cond.instanceMethod yX7_bringNext ∈ gtbl := gt_r (i := 432) rfl rfl
set_option maxRecDepth 20000 in
theorem tw_477 : Cond.code yX7_bringNext prog_9_method_8_code 11 (none : Option FieldType) ∈ gtbl := gt_r (i := 433) rfl rfl
set_option maxRecDepth 20000 in
theorem tw_478 : Cond.methodLink "RidePools$WayFinder" 138 yX6_copyOf ∈ gtbl := gt_r (i := 434) rfl rfl
set_option maxRecDepth 20000 in
theorem tw_479 : Cond.instanceMethod yX6_copyOf ∈ gtbl := gt_r (i := 435) rfl rfl
set_option maxRecDepth 20000 in
theorem tw_480 : Cond.selects "RidePools$Way" yX6_copyOf yX6_copyOf ∈ gtbl := gt_r (i := 436) rfl rfl
set_option maxRecDepth 20000 in
theorem tw_481 : Cond.code yX6_copyOf prog_8_method_2_code 3 (none : Option FieldType) ∈ gtbl := gt_r (i := 437) rfl rfl
set_option maxRecDepth 20000 in
theorem tw_482 : Cond.methodLink "RidePools$WayFinder" 142 yJ9_min_7cf53 ∈ gtbl := gt_r (i := 438) rfl rfl
set_option maxRecDepth 20000 in
theorem tw_483 : Cond.methodLink "RidePools$WayFinder" 130 yJ9_max_7cf53 ∈ gtbl := gt_r (i := 439) rfl rfl
set_option maxRecDepth 20000 in
theorem tw_484 : Cond.static yJ9_max_7cf53 ∈ gtbl := gt_r (i := 440) rfl rfl
set_option maxRecDepth 20000 in
theorem tw_485 : Cond.code yJ9_max_7cf53 prog_13_method_65_code 2 (some FieldType.int) ∈ gtbl := gt_r (i := 441) rfl rfl
set_option maxRecDepth 20000 in
theorem tw_486 : Cond.methodLink "RidePools" 144 yX7_found ∈ gtbl := gt_r (i := 442) rfl rfl
set_option maxRecDepth 20000 in
theorem tw_487 : Cond.instanceMethod yX7_found ∈ gtbl := gt_r (i := 443) rfl rfl
set_option maxRecDepth 20000 in
theorem tw_488 : Cond.selects "RidePools$WayFinder" yX7_found yX7_found ∈ gtbl := gt_r (i := 444) rfl rfl
set_option maxRecDepth 20000 in
theorem tw_489 : Cond.code yX7_found prog_9_method_3_code 1 (some (FieldType.object "RidePools$Way")) ∈ gtbl := gt_r (i := 445) rfl rfl
set_option maxRecDepth 20000 in
theorem tw_490 : Cond.methodLink "RidePoolsLaw" 50 yX8_why ∈ gtbl := gt_r (i := 446) rfl rfl
set_option maxRecDepth 20000 in
theorem tw_491 : Cond.instanceMethod yX8_why ∈ gtbl := gt_r (i := 447) rfl rfl
set_option maxRecDepth 20000 in
theorem tw_492 : Cond.selects "RidePools" yX8_why yX8_why ∈ gtbl := gt_r (i := 448) rfl rfl
set_option maxRecDepth 20000 in
theorem tw_493 : Cond.code yX8_why prog_1_method_10_code 4 (some FieldType.int) ∈ gtbl := gt_r (i := 449) rfl rfl
set_option maxRecDepth 20000 in
theorem tw_494 : Cond.methodLink "RidePoolsLaw" 54 yX8_way ∈ gtbl := gt_r (i := 450) rfl rfl
set_option maxRecDepth 20000 in
theorem tw_495 : Cond.instanceMethod yX8_way ∈ gtbl := gt_r (i := 451) rfl rfl
set_option maxRecDepth 20000 in
theorem tw_496 : Cond.selects "RidePools" yX8_way yX8_way ∈ gtbl := gt_r (i := 452) rfl rfl
set_option maxRecDepth 20000 in
theorem tw_497 : Cond.code yX8_way prog_1_method_11_code 5 (some FieldType.int) ∈ gtbl := gt_r (i := 453) rfl rfl
set_option maxRecDepth 20000 in
theorem tw_498 : Cond.methodLink "RidePools" 153 yX6_tell ∈ gtbl := gt_r (i := 454) rfl rfl
set_option maxRecDepth 20000 in
theorem tw_499 : Cond.instanceMethod yX6_tell ∈ gtbl := gt_r (i := 455) rfl rfl
set_option maxRecDepth 20000 in
theorem tw_500 : Cond.selects "RidePools$Way" yX6_tell yX6_tell ∈ gtbl := gt_r (i := 456) rfl rfl
set_option maxRecDepth 20000 in
theorem tw_501 : Cond.code yX6_tell prog_8_method_3_code 2 (some FieldType.int) ∈ gtbl := gt_r (i := 457) rfl rfl
set_option maxRecDepth 20000 in
theorem tw_502 : Cond.methodLink "RidePoolsLaw" 58 yX8_cost ∈ gtbl := gt_r (i := 458) rfl rfl
set_option maxRecDepth 20000 in
theorem tw_503 : Cond.instanceMethod yX8_cost ∈ gtbl := gt_r (i := 459) rfl rfl
set_option maxRecDepth 20000 in
theorem tw_504 : Cond.selects "RidePools" yX8_cost yX8_cost ∈ gtbl := gt_r (i := 460) rfl rfl
set_option maxRecDepth 20000 in
theorem tw_505 : Cond.code yX8_cost prog_1_method_12_code 3 (some FieldType.int) ∈ gtbl := gt_r (i := 461) rfl rfl
set_option maxRecDepth 20000 in
theorem tw_506 : Cond.methodLink "RidePools" 159 yX0_learn ∈ gtbl := gt_r (i := 462) rfl rfl
set_option maxRecDepth 20000 in
theorem tw_507 : Cond.instanceMethod yX0_learn ∈ gtbl := gt_r (i := 463) rfl rfl
set_option maxRecDepth 20000 in
theorem tw_508 : Cond.selects "RidePools$Costs" yX0_learn yX0_learn ∈ gtbl := gt_r (i := 464) rfl rfl
set_option maxRecDepth 20000 in
theorem tw_509 : Cond.code yX0_learn prog_2_method_6_code 3 (none : Option FieldType) ∈ gtbl := gt_r (i := 465) rfl rfl
set_option maxRecDepth 20000 in
theorem tw_511 : Cond.methodLink "RidePools$Costs" 42 yX7_reasonAgainst ∈ gtbl := gt_r (i := 467) rfl rfl
set_option maxRecDepth 20000 in
theorem tw_512 : Cond.methodLink "RidePools$Costs" 48 yX7_found ∈ gtbl := gt_r (i := 468) rfl rfl
set_option maxRecDepth 20000 in
theorem tw_513 : Cond.methodLink "RidePools$Costs" 58 yX0_takeIfFewer ∈ gtbl := gt_r (i := 469) rfl rfl
set_option maxRecDepth 20000 in
theorem tw_515 : Cond.instanceMethod yX0_takeIfFewer ∈ gtbl := gt_r (i := 471) rfl rfl
set_option maxRecDepth 20000 in
theorem tw_516 : Cond.code yX0_takeIfFewer prog_2_method_7_code 4 (none : Option FieldType) ∈ gtbl := gt_r (i := 472) rfl rfl
set_option maxRecDepth 20000 in
theorem tw_517 : Cond.methodLink "RidePools" 162 yX0_minutesFor ∈ gtbl := gt_r (i := 473) rfl rfl
set_option maxRecDepth 20000 in
theorem tw_518 : Cond.instanceMethod yX0_minutesFor ∈ gtbl := gt_r (i := 474) rfl rfl
set_option maxRecDepth 20000 in
theorem tw_519 : Cond.selects "RidePools$Costs" yX0_minutesFor yX0_minutesFor ∈ gtbl := gt_r (i := 475) rfl rfl
set_option maxRecDepth 20000 in
theorem tw_520 : Cond.code yX0_minutesFor prog_2_method_2_code 2 (some FieldType.int) ∈ gtbl := gt_r (i := 476) rfl rfl
set_option maxRecDepth 20000 in
theorem tw_521 : Cond.methodLink "RidePoolsLaw" 63 yX8_driver ∈ gtbl := gt_r (i := 477) rfl rfl
set_option maxRecDepth 20000 in
theorem tw_522 : Cond.instanceMethod yX8_driver ∈ gtbl := gt_r (i := 478) rfl rfl
set_option maxRecDepth 20000 in
theorem tw_523 : Cond.selects "RidePools" yX8_driver yX8_driver ∈ gtbl := gt_r (i := 479) rfl rfl
set_option maxRecDepth 20000 in
theorem tw_524 : Cond.code yX8_driver prog_1_method_13_code 3 (some FieldType.int) ∈ gtbl := gt_r (i := 480) rfl rfl
set_option maxRecDepth 20000 in
theorem tw_525 : Cond.methodLink "RidePools" 165 yX0_driverFor ∈ gtbl := gt_r (i := 481) rfl rfl
set_option maxRecDepth 20000 in
theorem tw_526 : Cond.instanceMethod yX0_driverFor ∈ gtbl := gt_r (i := 482) rfl rfl
set_option maxRecDepth 20000 in
theorem tw_527 : Cond.selects "RidePools$Costs" yX0_driverFor yX0_driverFor ∈ gtbl := gt_r (i := 483) rfl rfl
set_option maxRecDepth 20000 in
theorem tw_528 : Cond.code yX0_driverFor prog_2_method_3_code 2 (some FieldType.int) ∈ gtbl := gt_r (i := 484) rfl rfl
set_option maxRecDepth 20000 in
theorem tw_529 : Cond.methodLink "RidePoolsLaw" 67 yX8_turn ∈ gtbl := gt_r (i := 485) rfl rfl
set_option maxRecDepth 20000 in
theorem tw_530 : Cond.instanceMethod yX8_turn ∈ gtbl := gt_r (i := 486) rfl rfl
set_option maxRecDepth 20000 in
theorem tw_531 : Cond.selects "RidePools" yX8_turn yX8_turn ∈ gtbl := gt_r (i := 487) rfl rfl
set_option maxRecDepth 20000 in
theorem tw_532 : Cond.code yX8_turn prog_1_method_14_code 3 (some FieldType.int) ∈ gtbl := gt_r (i := 488) rfl rfl
set_option maxRecDepth 20000 in
theorem tw_533 : Cond.methodLink "RidePools" 168 yX8_whoseTurn ∈ gtbl := gt_r (i := 489) rfl rfl
set_option maxRecDepth 20000 in
theorem tw_535 : Cond.instanceMethod yX8_whoseTurn ∈ gtbl := gt_r (i := 491) rfl rfl
set_option maxRecDepth 20000 in
theorem tw_536 : Cond.code yX8_whoseTurn prog_1_method_31_code 5 (some FieldType.int) ∈ gtbl := gt_r (i := 492) rfl rfl
set_option maxRecDepth 20000 in
theorem tw_537 : Cond.methodLink "RidePoolsLaw" 71 yX8_plan ∈ gtbl := gt_r (i := 493) rfl rfl
set_option maxRecDepth 20000 in
theorem tw_538 : Cond.instanceMethod yX8_plan ∈ gtbl := gt_r (i := 494) rfl rfl
set_option maxRecDepth 20000 in
theorem tw_539 : Cond.selects "RidePools" yX8_plan yX8_plan ∈ gtbl := gt_r (i := 495) rfl rfl
set_option maxRecDepth 20000 in
theorem tw_540 : Cond.code yX8_plan prog_1_method_15_code 5 (some FieldType.int) ∈ gtbl := gt_r (i := 496) rfl rfl
set_option maxRecDepth 20000 in
theorem tw_541 : Cond.methodLink "RidePools" 171 yX2_notAway ∈ gtbl := gt_r (i := 497) rfl rfl
set_option maxRecDepth 20000 in
theorem tw_542 : Cond.methodLink "RidePools" 174 yX0_learnAll ∈ gtbl := gt_r (i := 498) rfl rfl
set_option maxRecDepth 20000 in
theorem tw_543 : Cond.instanceMethod yX0_learnAll ∈ gtbl := gt_r (i := 499) rfl rfl
set_option maxRecDepth 20000 in
theorem tw_544 : Cond.selects "RidePools$Costs" yX0_learnAll yX0_learnAll ∈ gtbl := gt_r (i := 500) rfl rfl
set_option maxRecDepth 20000 in
theorem tw_545 : Cond.code yX0_learnAll prog_2_method_5_code 3 (none : Option FieldType) ∈ gtbl := gt_r (i := 501) rfl rfl
set_option maxRecDepth 20000 in
theorem tw_546 : Cond.methodLink "RidePools$Costs" 28 yJ6_bitCount_0f7a4 ∈ gtbl := gt_r (i := 502) rfl rfl
set_option maxRecDepth 20000 in
theorem tw_547 : Cond.methodLink "RidePools$Costs" 34 yX0_learn ∈ gtbl := gt_r (i := 503) rfl rfl
set_option maxRecDepth 20000 in
theorem tw_548 : Cond.methodLink "RidePools" 177 yX1_findBest ∈ gtbl := gt_r (i := 504) rfl rfl
set_option maxRecDepth 20000 in
theorem tw_549 : Cond.instanceMethod yX1_findBest ∈ gtbl := gt_r (i := 505) rfl rfl
set_option maxRecDepth 20000 in
theorem tw_550 : Cond.selects "RidePools$Parting" yX1_findBest yX1_findBest ∈ gtbl := gt_r (i := 506) rfl rfl
set_option maxRecDepth 20000 in
theorem tw_551 : Cond.code yX1_findBest prog_3_method_3_code 2 (some FieldType.int) ∈ gtbl := gt_r (i := 507) rfl rfl
set_option maxRecDepth 20000 in
theorem tw_552 : Cond.methodLink "RidePools$Parting" 23 yX1_findAll ∈ gtbl := gt_r (i := 508) rfl rfl
set_option maxRecDepth 20000 in
theorem tw_554 : Cond.instanceMethod yX1_findAll ∈ gtbl := gt_r (i := 510) rfl rfl
set_option maxRecDepth 20000 in
theorem tw_555 : Cond.code yX1_findAll prog_3_method_6_code 4 (some FieldType.int) ∈ gtbl := gt_r (i := 511) rfl rfl
set_option maxRecDepth 20000 in
theorem tw_556 : Cond.methodLink "RidePools$Parting" 27 yX1_choose ∈ gtbl := gt_r (i := 512) rfl rfl
set_option maxRecDepth 20000 in
theorem tw_558 : Cond.instanceMethod yX1_choose ∈ gtbl := gt_r (i := 514) rfl rfl
set_option maxRecDepth 20000 in
theorem tw_559 : Cond.code yX1_choose prog_3_method_7_code 8 (none : Option FieldType) ∈ gtbl := gt_r (i := 515) rfl rfl
set_option maxRecDepth 20000 in
theorem tw_560 : Cond.constant "RidePools$Parting" 22 1000000 ∈ gtbl := gt_r (i := 516) rfl rfl
set_option maxRecDepth 20000 in
theorem tw_561 : Cond.methodLink "RidePools$Parting" 31 yJ6_bitCount_0f7a4 ∈ gtbl := gt_r (i := 517) rfl rfl
set_option maxRecDepth 20000 in
theorem tw_562 : Cond.methodLink "RidePools$Parting" 37 yX1_tryPool ∈ gtbl := gt_r (i := 518) rfl rfl
set_option maxRecDepth 20000 in
theorem tw_564 : Cond.instanceMethod yX1_tryPool ∈ gtbl := gt_r (i := 520) rfl rfl
set_option maxRecDepth 20000 in
theorem tw_565 : Cond.code yX1_tryPool prog_3_method_8_code 6 (none : Option FieldType) ∈ gtbl := gt_r (i := 521) rfl rfl
set_option maxRecDepth 20000 in
theorem tw_566 : Cond.methodLink "RidePools$Parting" 41 yX0_minutesFor ∈ gtbl := gt_r (i := 522) rfl rfl
set_option maxRecDepth 20000 in
theorem tw_567 : Cond.methodLink "RidePools" 180 yX4_begin ∈ gtbl := gt_r (i := 523) rfl rfl
set_option maxRecDepth 20000 in
theorem tw_568 : Cond.instanceMethod yX4_begin ∈ gtbl := gt_r (i := 524) rfl rfl
set_option maxRecDepth 20000 in
theorem tw_569 : Cond.selects "RidePools$Plan" yX4_begin yX4_begin ∈ gtbl := gt_r (i := 525) rfl rfl
set_option maxRecDepth 20000 in
theorem tw_570 : Cond.code yX4_begin prog_6_method_3_code 1 (none : Option FieldType) ∈ gtbl := gt_r (i := 526) rfl rfl
set_option maxRecDepth 20000 in
theorem tw_571 : Cond.methodLink "RidePools$Plan" 35 yJ7_fill_53178 ∈ gtbl := gt_r (i := 527) rfl rfl
set_option maxRecDepth 20000 in
theorem tw_572 : Cond.methodLink "RidePools" 183 yX1_choiceFor ∈ gtbl := gt_r (i := 528) rfl rfl
set_option maxRecDepth 20000 in
theorem tw_573 : Cond.instanceMethod yX1_choiceFor ∈ gtbl := gt_r (i := 529) rfl rfl
set_option maxRecDepth 20000 in
theorem tw_574 : Cond.selects "RidePools$Parting" yX1_choiceFor yX1_choiceFor ∈ gtbl := gt_r (i := 530) rfl rfl
set_option maxRecDepth 20000 in
theorem tw_575 : Cond.code yX1_choiceFor prog_3_method_5_code 2 (some FieldType.int) ∈ gtbl := gt_r (i := 531) rfl rfl
set_option maxRecDepth 20000 in
theorem tw_576 : Cond.methodLink "RidePools" 186 yX8_takeIntoPlan ∈ gtbl := gt_r (i := 532) rfl rfl
set_option maxRecDepth 20000 in
theorem tw_578 : Cond.instanceMethod yX8_takeIntoPlan ∈ gtbl := gt_r (i := 534) rfl rfl
set_option maxRecDepth 20000 in
theorem tw_579 : Cond.code yX8_takeIntoPlan prog_1_method_32_code 3 (none : Option FieldType) ∈ gtbl := gt_r (i := 535) rfl rfl
set_option maxRecDepth 20000 in
theorem tw_580 : Cond.methodLink "RidePools" 237 yX4_leave ∈ gtbl := gt_r (i := 536) rfl rfl
set_option maxRecDepth 20000 in
theorem tw_581 : Cond.instanceMethod yX4_leave ∈ gtbl := gt_r (i := 537) rfl rfl
set_option maxRecDepth 20000 in
theorem tw_582 : Cond.selects "RidePools$Plan" yX4_leave yX4_leave ∈ gtbl := gt_r (i := 538) rfl rfl
set_option maxRecDepth 20000 in
theorem tw_583 : Cond.code yX4_leave prog_6_method_5_code 2 (none : Option FieldType) ∈ gtbl := gt_r (i := 539) rfl rfl
set_option maxRecDepth 20000 in
theorem tw_584 : Cond.methodLink "RidePools" 264 yX8_putIntoPlan ∈ gtbl := gt_r (i := 540) rfl rfl
set_option maxRecDepth 20000 in
theorem tw_586 : Cond.instanceMethod yX8_putIntoPlan ∈ gtbl := gt_r (i := 542) rfl rfl
set_option maxRecDepth 20000 in
theorem tw_587 : Cond.code yX8_putIntoPlan prog_1_method_33_code 3 (some FieldType.boolean) ∈ gtbl := gt_r (i := 543) rfl rfl
set_option maxRecDepth 20000 in
theorem tw_588 : Cond.methodLink "RidePools" 267 yX4_put ∈ gtbl := gt_r (i := 544) rfl rfl
set_option maxRecDepth 20000 in
theorem tw_589 : Cond.instanceMethod yX4_put ∈ gtbl := gt_r (i := 545) rfl rfl
set_option maxRecDepth 20000 in
theorem tw_590 : Cond.selects "RidePools$Plan" yX4_put yX4_put ∈ gtbl := gt_r (i := 546) rfl rfl
set_option maxRecDepth 20000 in
theorem tw_591 : Cond.code yX4_put prog_6_method_4_code 6 (none : Option FieldType) ∈ gtbl := gt_r (i := 547) rfl rfl
set_option maxRecDepth 20000 in
theorem tw_592 : Cond.methodLink "RidePools" 190 yX4_pools ∈ gtbl := gt_r (i := 548) rfl rfl
set_option maxRecDepth 20000 in
theorem tw_593 : Cond.instanceMethod yX4_pools ∈ gtbl := gt_r (i := 549) rfl rfl
set_option maxRecDepth 20000 in
theorem tw_594 : Cond.selects "RidePools$Plan" yX4_pools yX4_pools ∈ gtbl := gt_r (i := 550) rfl rfl
set_option maxRecDepth 20000 in
theorem tw_595 : Cond.code yX4_pools prog_6_method_11_code 3 (some FieldType.int) ∈ gtbl := gt_r (i := 551) rfl rfl
set_option maxRecDepth 20000 in
theorem tw_596 : Cond.methodLink "RidePools$Plan" 64 yX4_leads ∈ gtbl := gt_r (i := 552) rfl rfl
set_option maxRecDepth 20000 in
theorem tw_597 : Cond.instanceMethod yX4_leads ∈ gtbl := gt_r (i := 553) rfl rfl
set_option maxRecDepth 20000 in
theorem tw_598 : Cond.selects "RidePools$Plan" yX4_leads yX4_leads ∈ gtbl := gt_r (i := 554) rfl rfl
set_option maxRecDepth 20000 in
theorem tw_599 : Cond.code yX4_leads prog_6_method_7_code 2 (some FieldType.boolean) ∈ gtbl := gt_r (i := 555) rfl rfl
set_option maxRecDepth 20000 in
theorem tw_600 : Cond.methodLink "RidePoolsLaw" 76 yX8_planOf ∈ gtbl := gt_r (i := 556) rfl rfl
set_option maxRecDepth 20000 in
theorem tw_601 : Cond.instanceMethod yX8_planOf ∈ gtbl := gt_r (i := 557) rfl rfl
set_option maxRecDepth 20000 in
theorem tw_602 : Cond.selects "RidePools" yX8_planOf yX8_planOf ∈ gtbl := gt_r (i := 558) rfl rfl
set_option maxRecDepth 20000 in
theorem tw_603 : Cond.code yX8_planOf prog_1_method_16_code 2 (some FieldType.int) ∈ gtbl := gt_r (i := 559) rfl rfl
set_option maxRecDepth 20000 in
theorem tw_604 : Cond.methodLink "RidePools" 193 yX4_isMade ∈ gtbl := gt_r (i := 560) rfl rfl
set_option maxRecDepth 20000 in
theorem tw_605 : Cond.instanceMethod yX4_isMade ∈ gtbl := gt_r (i := 561) rfl rfl
set_option maxRecDepth 20000 in
theorem tw_606 : Cond.selects "RidePools$Plan" yX4_isMade yX4_isMade ∈ gtbl := gt_r (i := 562) rfl rfl
set_option maxRecDepth 20000 in
theorem tw_607 : Cond.code yX4_isMade prog_6_method_2_code 1 (some FieldType.boolean) ∈ gtbl := gt_r (i := 563) rfl rfl
set_option maxRecDepth 20000 in
theorem tw_608 : Cond.methodLink "RidePools" 196 yX4_leftCount ∈ gtbl := gt_r (i := 564) rfl rfl
set_option maxRecDepth 20000 in
theorem tw_609 : Cond.instanceMethod yX4_leftCount ∈ gtbl := gt_r (i := 565) rfl rfl
set_option maxRecDepth 20000 in
theorem tw_610 : Cond.selects "RidePools$Plan" yX4_leftCount yX4_leftCount ∈ gtbl := gt_r (i := 566) rfl rfl
set_option maxRecDepth 20000 in
theorem tw_611 : Cond.code yX4_leftCount prog_6_method_12_code 1 (some FieldType.int) ∈ gtbl := gt_r (i := 567) rfl rfl
set_option maxRecDepth 20000 in
theorem tw_612 : Cond.methodLink "RidePools$Plan" 68 yJ6_bitCount_0f7a4 ∈ gtbl := gt_r (i := 568) rfl rfl
set_option maxRecDepth 20000 in
theorem tw_613 : Cond.methodLink "RidePools" 199 yX4_minutesTogether ∈ gtbl := gt_r (i := 569) rfl rfl
set_option maxRecDepth 20000 in
theorem tw_614 : Cond.instanceMethod yX4_minutesTogether ∈ gtbl := gt_r (i := 570) rfl rfl
set_option maxRecDepth 20000 in
theorem tw_615 : Cond.selects "RidePools$Plan" yX4_minutesTogether yX4_minutesTogether ∈ gtbl := gt_r (i := 571) rfl rfl
set_option maxRecDepth 20000 in
theorem tw_616 : Cond.code yX4_minutesTogether prog_6_method_13_code 3 (some FieldType.int) ∈ gtbl := gt_r (i := 572) rfl rfl
set_option maxRecDepth 20000 in
theorem tw_617 : Cond.methodLink "RidePools" 202 yX4_personsInPools ∈ gtbl := gt_r (i := 573) rfl rfl
set_option maxRecDepth 20000 in
theorem tw_618 : Cond.instanceMethod yX4_personsInPools ∈ gtbl := gt_r (i := 574) rfl rfl
set_option maxRecDepth 20000 in
theorem tw_619 : Cond.selects "RidePools$Plan" yX4_personsInPools yX4_personsInPools ∈ gtbl := gt_r (i := 575) rfl rfl
set_option maxRecDepth 20000 in
theorem tw_620 : Cond.code yX4_personsInPools prog_6_method_14_code 3 (some FieldType.int) ∈ gtbl := gt_r (i := 576) rfl rfl
set_option maxRecDepth 20000 in
theorem tw_621 : Cond.methodLink "RidePoolsLaw" 80 yX8_poolOf ∈ gtbl := gt_r (i := 577) rfl rfl
set_option maxRecDepth 20000 in
theorem tw_622 : Cond.instanceMethod yX8_poolOf ∈ gtbl := gt_r (i := 578) rfl rfl
set_option maxRecDepth 20000 in
theorem tw_623 : Cond.selects "RidePools" yX8_poolOf yX8_poolOf ∈ gtbl := gt_r (i := 579) rfl rfl
set_option maxRecDepth 20000 in
theorem tw_624 : Cond.code yX8_poolOf prog_1_method_17_code 3 (some FieldType.int) ∈ gtbl := gt_r (i := 580) rfl rfl
set_option maxRecDepth 20000 in
theorem tw_625 : Cond.methodLink "RidePools" 205 yX4_tell ∈ gtbl := gt_r (i := 581) rfl rfl
set_option maxRecDepth 20000 in
theorem tw_626 : Cond.instanceMethod yX4_tell ∈ gtbl := gt_r (i := 582) rfl rfl
set_option maxRecDepth 20000 in
theorem tw_627 : Cond.selects "RidePools$Plan" yX4_tell yX4_tell ∈ gtbl := gt_r (i := 583) rfl rfl
set_option maxRecDepth 20000 in
theorem tw_628 : Cond.code yX4_tell prog_6_method_16_code 3 (some FieldType.int) ∈ gtbl := gt_r (i := 584) rfl rfl
set_option maxRecDepth 20000 in
theorem tw_629 : Cond.methodLink "RidePoolsLaw" 84 yX8_same ∈ gtbl := gt_r (i := 585) rfl rfl
set_option maxRecDepth 20000 in
theorem tw_630 : Cond.instanceMethod yX8_same ∈ gtbl := gt_r (i := 586) rfl rfl
set_option maxRecDepth 20000 in
theorem tw_631 : Cond.selects "RidePools" yX8_same yX8_same ∈ gtbl := gt_r (i := 587) rfl rfl
set_option maxRecDepth 20000 in
theorem tw_632 : Cond.code yX8_same prog_1_method_18_code 4 (some FieldType.int) ∈ gtbl := gt_r (i := 588) rfl rfl
set_option maxRecDepth 20000 in
theorem tw_633 : Cond.methodLink "RidePools" 207 yX1_worthOf ∈ gtbl := gt_r (i := 589) rfl rfl
set_option maxRecDepth 20000 in
theorem tw_634 : Cond.static yX1_worthOf ∈ gtbl := gt_r (i := 590) rfl rfl
set_option maxRecDepth 20000 in
theorem tw_635 : Cond.code yX1_worthOf prog_3_method_2_code 3 (some FieldType.int) ∈ gtbl := gt_r (i := 591) rfl rfl
set_option maxRecDepth 20000 in
theorem tw_636 : Cond.methodLink "RidePoolsLaw" 88 yX8_even ∈ gtbl := gt_r (i := 592) rfl rfl
set_option maxRecDepth 20000 in
theorem tw_637 : Cond.instanceMethod yX8_even ∈ gtbl := gt_r (i := 593) rfl rfl
set_option maxRecDepth 20000 in
theorem tw_638 : Cond.selects "RidePools" yX8_even yX8_even ∈ gtbl := gt_r (i := 594) rfl rfl
set_option maxRecDepth 20000 in
theorem tw_639 : Cond.code yX8_even prog_1_method_19_code 3 (some FieldType.int) ∈ gtbl := gt_r (i := 595) rfl rfl
set_option maxRecDepth 20000 in
theorem tw_640 : Cond.methodLink "RidePools" 210 yX4_leads ∈ gtbl := gt_r (i := 596) rfl rfl
set_option maxRecDepth 20000 in
theorem tw_641 : Cond.methodLink "RidePools" 213 yX4_poolAt ∈ gtbl := gt_r (i := 597) rfl rfl
set_option maxRecDepth 20000 in
theorem tw_642 : Cond.instanceMethod yX4_poolAt ∈ gtbl := gt_r (i := 598) rfl rfl
set_option maxRecDepth 20000 in
theorem tw_643 : Cond.selects "RidePools$Plan" yX4_poolAt yX4_poolAt ∈ gtbl := gt_r (i := 599) rfl rfl
set_option maxRecDepth 20000 in
theorem tw_644 : Cond.code yX4_poolAt prog_6_method_9_code 2 (some FieldType.int) ∈ gtbl := gt_r (i := 600) rfl rfl
set_option maxRecDepth 20000 in
theorem tw_645 : Cond.methodLink "RidePools" 216 yX4_driverAt ∈ gtbl := gt_r (i := 601) rfl rfl
set_option maxRecDepth 20000 in
theorem tw_646 : Cond.instanceMethod yX4_driverAt ∈ gtbl := gt_r (i := 602) rfl rfl
set_option maxRecDepth 20000 in
theorem tw_647 : Cond.selects "RidePools$Plan" yX4_driverAt yX4_driverAt ∈ gtbl := gt_r (i := 603) rfl rfl
set_option maxRecDepth 20000 in
theorem tw_648 : Cond.code yX4_driverAt prog_6_method_10_code 2 (some FieldType.int) ∈ gtbl := gt_r (i := 604) rfl rfl
set_option maxRecDepth 20000 in
theorem tw_649 : Cond.methodLink "RidePools" 219 yX8_evenOut ∈ gtbl := gt_r (i := 605) rfl rfl
set_option maxRecDepth 20000 in
theorem tw_651 : Cond.instanceMethod yX8_evenOut ∈ gtbl := gt_r (i := 607) rfl rfl
set_option maxRecDepth 20000 in
theorem tw_652 : Cond.code yX8_evenOut prog_1_method_34_code 4 (some FieldType.boolean) ∈ gtbl := gt_r (i := 608) rfl rfl
set_option maxRecDepth 20000 in
theorem tw_653 : Cond.methodLink "RidePoolsLaw" 92 yX8_mornings ∈ gtbl := gt_r (i := 609) rfl rfl
set_option maxRecDepth 20000 in
theorem tw_654 : Cond.instanceMethod yX8_mornings ∈ gtbl := gt_r (i := 610) rfl rfl
set_option maxRecDepth 20000 in
theorem tw_655 : Cond.selects "RidePools" yX8_mornings yX8_mornings ∈ gtbl := gt_r (i := 611) rfl rfl
set_option maxRecDepth 20000 in
theorem tw_656 : Cond.code yX8_mornings prog_1_method_20_code 3 (some FieldType.int) ∈ gtbl := gt_r (i := 612) rfl rfl
set_option maxRecDepth 20000 in
theorem tw_657 : Cond.methodLink "RidePools" 225 yX4_pointsEachMorning ∈ gtbl := gt_r (i := 613) rfl rfl
set_option maxRecDepth 20000 in
theorem tw_658 : Cond.instanceMethod yX4_pointsEachMorning ∈ gtbl := gt_r (i := 614) rfl rfl
set_option maxRecDepth 20000 in
theorem tw_659 : Cond.selects "RidePools$Plan" yX4_pointsEachMorning yX4_pointsEachMorning ∈ gtbl := gt_r (i := 615) rfl rfl
set_option maxRecDepth 20000 in
theorem tw_660 : Cond.code yX4_pointsEachMorning prog_6_method_15_code 3 (some FieldType.int) ∈ gtbl := gt_r (i := 616) rfl rfl
set_option maxRecDepth 20000 in
theorem tw_661 : Cond.methodLink "RidePoolsLaw" 96 yX8_fail ∈ gtbl := gt_r (i := 617) rfl rfl
set_option maxRecDepth 20000 in
theorem tw_662 : Cond.instanceMethod yX8_fail ∈ gtbl := gt_r (i := 618) rfl rfl
set_option maxRecDepth 20000 in
theorem tw_663 : Cond.selects "RidePools" yX8_fail yX8_fail ∈ gtbl := gt_r (i := 619) rfl rfl
set_option maxRecDepth 20000 in
theorem tw_664 : Cond.code yX8_fail prog_1_method_21_code 5 (some FieldType.int) ∈ gtbl := gt_r (i := 620) rfl rfl
set_option maxRecDepth 20000 in
theorem tw_665 : Cond.methodLink "RidePools" 228 yX4_drives ∈ gtbl := gt_r (i := 621) rfl rfl
set_option maxRecDepth 20000 in
theorem tw_666 : Cond.instanceMethod yX4_drives ∈ gtbl := gt_r (i := 622) rfl rfl
set_option maxRecDepth 20000 in
theorem tw_667 : Cond.selects "RidePools$Plan" yX4_drives yX4_drives ∈ gtbl := gt_r (i := 623) rfl rfl
set_option maxRecDepth 20000 in
theorem tw_668 : Cond.code yX4_drives prog_6_method_8_code 2 (some FieldType.boolean) ∈ gtbl := gt_r (i := 624) rfl rfl
set_option maxRecDepth 20000 in
theorem tw_669 : Cond.methodLink "RidePools" 231 yX4_dissolve ∈ gtbl := gt_r (i := 625) rfl rfl
set_option maxRecDepth 20000 in
theorem tw_670 : Cond.instanceMethod yX4_dissolve ∈ gtbl := gt_r (i := 626) rfl rfl
set_option maxRecDepth 20000 in
theorem tw_671 : Cond.selects "RidePools$Plan" yX4_dissolve yX4_dissolve ∈ gtbl := gt_r (i := 627) rfl rfl
set_option maxRecDepth 20000 in
theorem tw_672 : Cond.code yX4_dissolve prog_6_method_6_code 3 (none : Option FieldType) ∈ gtbl := gt_r (i := 628) rfl rfl
set_option maxRecDepth 20000 in
theorem tw_674 : Cond.methodLink "RidePools" 234 yX8_findPlace ∈ gtbl := gt_r (i := 630) rfl rfl
set_option maxRecDepth 20000 in
theorem tw_676 : Cond.instanceMethod yX8_findPlace ∈ gtbl := gt_r (i := 632) rfl rfl
set_option maxRecDepth 20000 in
theorem tw_677 : Cond.code yX8_findPlace prog_1_method_35_code 3 (some FieldType.boolean) ∈ gtbl := gt_r (i := 633) rfl rfl
set_option maxRecDepth 20000 in
theorem tw_678 : Cond.methodLink "RidePools" 271 yX8_isOpen ∈ gtbl := gt_r (i := 634) rfl rfl
set_option maxRecDepth 20000 in
theorem tw_680 : Cond.instanceMethod yX8_isOpen ∈ gtbl := gt_r (i := 636) rfl rfl
set_option maxRecDepth 20000 in
theorem tw_681 : Cond.code yX8_isOpen prog_1_method_36_code 3 (some FieldType.boolean) ∈ gtbl := gt_r (i := 637) rfl rfl
set_option maxRecDepth 20000 in
theorem tw_682 : Cond.methodLink "RidePoolsLaw" 100 yX8_few ∈ gtbl := gt_r (i := 638) rfl rfl
set_option maxRecDepth 20000 in
theorem tw_683 : Cond.instanceMethod yX8_few ∈ gtbl := gt_r (i := 639) rfl rfl
set_option maxRecDepth 20000 in
theorem tw_684 : Cond.selects "RidePools" yX8_few yX8_few ∈ gtbl := gt_r (i := 640) rfl rfl
set_option maxRecDepth 20000 in
theorem tw_685 : Cond.code yX8_few prog_1_method_22_code 2 (some FieldType.int) ∈ gtbl := gt_r (i := 641) rfl rfl
set_option maxRecDepth 20000 in
theorem tw_686 : Cond.methodLink "RidePools" 240 yX1_fewestPools ∈ gtbl := gt_r (i := 642) rfl rfl
set_option maxRecDepth 20000 in
theorem tw_687 : Cond.instanceMethod yX1_fewestPools ∈ gtbl := gt_r (i := 643) rfl rfl
set_option maxRecDepth 20000 in
theorem tw_688 : Cond.selects "RidePools$Parting" yX1_fewestPools yX1_fewestPools ∈ gtbl := gt_r (i := 644) rfl rfl
set_option maxRecDepth 20000 in
theorem tw_689 : Cond.code yX1_fewestPools prog_3_method_4_code 3 (some FieldType.int) ∈ gtbl := gt_r (i := 645) rfl rfl
set_option maxRecDepth 20000 in
theorem tw_690 : Cond.methodLink "RidePoolsLaw" 104 yX8_personOf ∈ gtbl := gt_r (i := 646) rfl rfl
set_option maxRecDepth 20000 in
theorem tw_691 : Cond.instanceMethod yX8_personOf ∈ gtbl := gt_r (i := 647) rfl rfl
set_option maxRecDepth 20000 in
theorem tw_692 : Cond.selects "RidePools" yX8_personOf yX8_personOf ∈ gtbl := gt_r (i := 648) rfl rfl
set_option maxRecDepth 20000 in
theorem tw_693 : Cond.code yX8_personOf prog_1_method_23_code 4 (some FieldType.int) ∈ gtbl := gt_r (i := 649) rfl rfl
set_option maxRecDepth 20000 in
theorem tw_694 : Cond.constant "RidePools" 246 1000000000 ∈ gtbl := gt_r (i := 650) rfl rfl
set_option maxRecDepth 20000 in
theorem tw_695 : Cond.methodLink "RidePoolsLaw" 108 yX8_count ∈ gtbl := gt_r (i := 651) rfl rfl
set_option maxRecDepth 20000 in
theorem tw_696 : Cond.instanceMethod yX8_count ∈ gtbl := gt_r (i := 652) rfl rfl
set_option maxRecDepth 20000 in
theorem tw_697 : Cond.selects "RidePools" yX8_count yX8_count ∈ gtbl := gt_r (i := 653) rfl rfl
set_option maxRecDepth 20000 in
theorem tw_698 : Cond.code yX8_count prog_1_method_24_code 2 (some FieldType.int) ∈ gtbl := gt_r (i := 654) rfl rfl
set_option maxRecDepth 20000 in
theorem tw_699 : Cond.methodLink "RidePools" 247 yX2_size ∈ gtbl := gt_r (i := 655) rfl rfl
set_option maxRecDepth 20000 in
theorem tw_700 : Cond.instanceMethod yX2_size ∈ gtbl := gt_r (i := 656) rfl rfl
set_option maxRecDepth 20000 in
theorem tw_701 : Cond.selects "RidePools$People" yX2_size yX2_size ∈ gtbl := gt_r (i := 657) rfl rfl
set_option maxRecDepth 20000 in
theorem tw_702 : Cond.code yX2_size prog_4_method_2_code 1 (some FieldType.int) ∈ gtbl := gt_r (i := 658) rfl rfl
set_option maxRecDepth 20000 in
theorem tw_703 : Cond.methodLink "RidePools" 255 yX2_withCar ∈ gtbl := gt_r (i := 659) rfl rfl
set_option maxRecDepth 20000 in
theorem tw_704 : Cond.instanceMethod yX2_withCar ∈ gtbl := gt_r (i := 660) rfl rfl
set_option maxRecDepth 20000 in
theorem tw_705 : Cond.selects "RidePools$People" yX2_withCar yX2_withCar ∈ gtbl := gt_r (i := 661) rfl rfl
set_option maxRecDepth 20000 in
theorem tw_706 : Cond.code yX2_withCar prog_4_method_10_code 3 (some FieldType.int) ∈ gtbl := gt_r (i := 662) rfl rfl
set_option maxRecDepth 20000 in
theorem tw_707 : Cond.methodLink "RidePools$People" 30 yX3_hasCar ∈ gtbl := gt_r (i := 663) rfl rfl
set_option maxRecDepth 20000 in
theorem tw_708 : Cond.classLink "RidePoolsLaw" 10 "RidePoolsModel" ∈ gtbl := gt_r (i := 664) rfl rfl
set_option maxRecDepth 20000 in
theorem tw_709 : Cond.instantiable "RidePoolsModel" 43 ∈ gtbl := gt_r (i := 665) rfl rfl
set_option maxRecDepth 20000 in
theorem tw_710 : Cond.methodLink "RidePoolsLaw" 12 yX9_init ∈ gtbl := gt_r (i := 666) rfl rfl
set_option maxRecDepth 20000 in
theorem tw_711 : Cond.instanceMethod yX9_init ∈ gtbl := gt_r (i := 667) rfl rfl
set_option maxRecDepth 20000 in
theorem tw_712 : Cond.code yX9_init prog_11_method_1_code 3 (none : Option FieldType) ∈ gtbl := gt_r (i := 668) rfl rfl
set_option maxRecDepth 20000 in
theorem tw_713 : Cond.methodLink "RidePoolsModel" 1 (⟨"java/lang/Object", "<init>", "()V"⟩ : MethodName) ∈ gtbl := gt_r (i := 669) rfl rfl
set_option maxRecDepth 20000 in
theorem tw_714 : Cond.methodLink "RidePoolsModel" 116 yX9_measure ∈ gtbl := gt_r (i := 670) rfl rfl
set_option maxRecDepth 20000 in
theorem tw_716 : Cond.instanceMethod yX9_measure ∈ gtbl := gt_r (i := 672) rfl rfl
set_option maxRecDepth 20000 in
theorem tw_717 : Cond.code yX9_measure prog_11_method_5_code 4 (none : Option FieldType) ∈ gtbl := gt_r (i := 673) rfl rfl
set_option maxRecDepth 20000 in
theorem tw_718 : Cond.methodLink "RidePoolsModel" 123 yJ9_min_7cf53 ∈ gtbl := gt_r (i := 674) rfl rfl
set_option maxRecDepth 20000 in
theorem tw_719 : Cond.methodLink "RidePoolsModel" 129 yX9_changes ∈ gtbl := gt_r (i := 675) rfl rfl
set_option maxRecDepth 20000 in
theorem tw_721 : Cond.instanceMethod yX9_changes ∈ gtbl := gt_r (i := 677) rfl rfl
set_option maxRecDepth 20000 in
theorem tw_722 : Cond.code yX9_changes prog_11_method_4_code 1 (none : Option FieldType) ∈ gtbl := gt_r (i := 678) rfl rfl
set_option maxRecDepth 20000 in
theorem tw_723 : Cond.fieldLink "RidePoolsModel" 7 "RidePoolsModel" "refusals" "[I" ∈ gtbl := gt_r (i := 679) rfl rfl
set_option maxRecDepth 20000 in
theorem tw_724 : Cond.fieldLink "RidePoolsModel" 13 "RidePoolsModel" "minutes" "[I" ∈ gtbl := gt_r (i := 680) rfl rfl
set_option maxRecDepth 20000 in
theorem tw_725 : Cond.fieldLink "RidePoolsModel" 16 "RidePoolsModel" "least" "[I" ∈ gtbl := gt_r (i := 681) rfl rfl
set_option maxRecDepth 20000 in
theorem tw_726 : Cond.fieldLink "RidePoolsModel" 143 "RidePoolsModel" "persons" "I" ∈ gtbl := gt_r (i := 682) rfl rfl
set_option maxRecDepth 20000 in
theorem tw_727 : Cond.fieldLink "RidePoolsModel" 228 "RidePoolsModel" "mornings" "I" ∈ gtbl := gt_r (i := 683) rfl rfl
set_option maxRecDepth 20000 in
theorem tw_728 : Cond.fieldLink "RidePoolsModel" 19 "RidePoolsModel" "kind" "[I" ∈ gtbl := gt_r (i := 684) rfl rfl
set_option maxRecDepth 20000 in
theorem tw_729 : Cond.fieldLink "RidePoolsModel" 22 "RidePoolsModel" "house" "[I" ∈ gtbl := gt_r (i := 685) rfl rfl
set_option maxRecDepth 20000 in
theorem tw_730 : Cond.fieldLink "RidePoolsModel" 25 "RidePoolsModel" "work" "[I" ∈ gtbl := gt_r (i := 686) rfl rfl
set_option maxRecDepth 20000 in
theorem tw_731 : Cond.fieldLink "RidePoolsModel" 28 "RidePoolsModel" "early" "[I" ∈ gtbl := gt_r (i := 687) rfl rfl
set_option maxRecDepth 20000 in
theorem tw_732 : Cond.fieldLink "RidePoolsModel" 31 "RidePoolsModel" "late" "[I" ∈ gtbl := gt_r (i := 688) rfl rfl
set_option maxRecDepth 20000 in
theorem tw_733 : Cond.fieldLink "RidePoolsModel" 34 "RidePoolsModel" "detour" "[I" ∈ gtbl := gt_r (i := 689) rfl rfl
set_option maxRecDepth 20000 in
theorem tw_734 : Cond.fieldLink "RidePoolsModel" 37 "RidePoolsModel" "seats" "[I" ∈ gtbl := gt_r (i := 690) rfl rfl
set_option maxRecDepth 20000 in
theorem tw_735 : Cond.fieldLink "RidePoolsModel" 40 "RidePoolsModel" "bars" "[I" ∈ gtbl := gt_r (i := 691) rfl rfl
set_option maxRecDepth 20000 in
theorem tw_736 : Cond.fieldLink "RidePoolsModel" 43 "RidePoolsModel" "points" "[I" ∈ gtbl := gt_r (i := 692) rfl rfl
set_option maxRecDepth 20000 in
theorem tw_737 : Cond.fieldLink "RidePoolsModel" 46 "RidePoolsModel" "isAway" "[Z" ∈ gtbl := gt_r (i := 693) rfl rfl
set_option maxRecDepth 20000 in
theorem tw_738 : Cond.fieldLink "RidePoolsModel" 50 "RidePoolsModel" "isBroken" "[Z" ∈ gtbl := gt_r (i := 694) rfl rfl
set_option maxRecDepth 20000 in
theorem tw_739 : Cond.fieldLink "RidePoolsModel" 53 "RidePoolsModel" "up" "[I" ∈ gtbl := gt_r (i := 695) rfl rfl
set_option maxRecDepth 20000 in
theorem tw_740 : Cond.fieldLink "RidePoolsModel" 56 "RidePoolsModel" "down" "[I" ∈ gtbl := gt_r (i := 696) rfl rfl
set_option maxRecDepth 20000 in
theorem tw_741 : Cond.fieldLink "RidePoolsModel" 59 "RidePoolsModel" "upAt" "[I" ∈ gtbl := gt_r (i := 697) rfl rfl
set_option maxRecDepth 20000 in
theorem tw_742 : Cond.fieldLink "RidePoolsModel" 62 "RidePoolsModel" "downAt" "[I" ∈ gtbl := gt_r (i := 698) rfl rfl
set_option maxRecDepth 20000 in
theorem tw_743 : Cond.fieldLink "RidePoolsModel" 65 "RidePoolsModel" "bestUp" "[I" ∈ gtbl := gt_r (i := 699) rfl rfl
set_option maxRecDepth 20000 in
theorem tw_744 : Cond.fieldLink "RidePoolsModel" 68 "RidePoolsModel" "bestDown" "[I" ∈ gtbl := gt_r (i := 700) rfl rfl
set_option maxRecDepth 20000 in
theorem tw_745 : Cond.fieldLink "RidePoolsModel" 71 "RidePoolsModel" "bestUpAt" "[I" ∈ gtbl := gt_r (i := 701) rfl rfl
set_option maxRecDepth 20000 in
theorem tw_746 : Cond.fieldLink "RidePoolsModel" 74 "RidePoolsModel" "bestDownAt" "[I" ∈ gtbl := gt_r (i := 702) rfl rfl
set_option maxRecDepth 20000 in
theorem tw_747 : Cond.fieldLink "RidePoolsModel" 158 "RidePoolsModel" "size" "I" ∈ gtbl := gt_r (i := 703) rfl rfl
set_option maxRecDepth 20000 in
theorem tw_748 : Cond.fieldLink "RidePoolsModel" 152 "RidePoolsModel" "bestMinutes" "I" ∈ gtbl := gt_r (i := 704) rfl rfl
set_option maxRecDepth 20000 in
theorem tw_749 : Cond.fieldLink "RidePoolsModel" 175 "RidePoolsModel" "bestBegin" "I" ∈ gtbl := gt_r (i := 705) rfl rfl
set_option maxRecDepth 20000 in
theorem tw_750 : Cond.fieldLink "RidePoolsModel" 119 "RidePoolsModel" "isKnown" "Z" ∈ gtbl := gt_r (i := 706) rfl rfl
set_option maxRecDepth 20000 in
theorem tw_751 : Cond.fieldLink "RidePoolsModel" 77 "RidePoolsModel" "cost" "[I" ∈ gtbl := gt_r (i := 707) rfl rfl
set_option maxRecDepth 20000 in
theorem tw_752 : Cond.fieldLink "RidePoolsModel" 80 "RidePoolsModel" "by" "[I" ∈ gtbl := gt_r (i := 708) rfl rfl
set_option maxRecDepth 20000 in
theorem tw_753 : Cond.fieldLink "RidePoolsModel" 83 "RidePoolsModel" "fit" "[I" ∈ gtbl := gt_r (i := 709) rfl rfl
set_option maxRecDepth 20000 in
theorem tw_754 : Cond.fieldLink "RidePoolsModel" 86 "RidePoolsModel" "left" "[I" ∈ gtbl := gt_r (i := 710) rfl rfl
set_option maxRecDepth 20000 in
theorem tw_755 : Cond.fieldLink "RidePoolsModel" 89 "RidePoolsModel" "sum" "[I" ∈ gtbl := gt_r (i := 711) rfl rfl
set_option maxRecDepth 20000 in
theorem tw_756 : Cond.fieldLink "RidePoolsModel" 92 "RidePoolsModel" "pools" "[I" ∈ gtbl := gt_r (i := 712) rfl rfl
set_option maxRecDepth 20000 in
theorem tw_757 : Cond.fieldLink "RidePoolsModel" 95 "RidePoolsModel" "choice" "[I" ∈ gtbl := gt_r (i := 713) rfl rfl
set_option maxRecDepth 20000 in
theorem tw_758 : Cond.fieldLink "RidePoolsModel" 98 "RidePoolsModel" "fewest" "[I" ∈ gtbl := gt_r (i := 714) rfl rfl
set_option maxRecDepth 20000 in
theorem tw_759 : Cond.fieldLink "RidePoolsModel" 219 "RidePoolsModel" "isPlanned" "Z" ∈ gtbl := gt_r (i := 715) rfl rfl
set_option maxRecDepth 20000 in
theorem tw_760 : Cond.fieldLink "RidePoolsModel" 212 "RidePoolsModel" "planLeft" "I" ∈ gtbl := gt_r (i := 716) rfl rfl
set_option maxRecDepth 20000 in
theorem tw_761 : Cond.fieldLink "RidePoolsModel" 101 "RidePoolsModel" "poolOf" "[I" ∈ gtbl := gt_r (i := 717) rfl rfl
set_option maxRecDepth 20000 in
theorem tw_762 : Cond.fieldLink "RidePoolsModel" 104 "RidePoolsModel" "driverOf" "[I" ∈ gtbl := gt_r (i := 718) rfl rfl
set_option maxRecDepth 20000 in
theorem tw_763 : Cond.fieldLink "RidePoolsModel" 107 "RidePoolsModel" "pickedAt" "[I" ∈ gtbl := gt_r (i := 719) rfl rfl
set_option maxRecDepth 20000 in
theorem tw_764 : Cond.fieldLink "RidePoolsModel" 110 "RidePoolsModel" "workAt" "[I" ∈ gtbl := gt_r (i := 720) rfl rfl
set_option maxRecDepth 20000 in
theorem tw_765 : Cond.fieldLink "RidePoolsModel" 113 "RidePoolsModel" "takes" "[I" ∈ gtbl := gt_r (i := 721) rfl rfl
set_option maxRecDepth 20000 in
theorem tw_766 : Cond.laysFinal "RidePoolsModel" "RidePoolsModel" "refusals" "[I" ∈ gtbl := gt_r (i := 722) rfl rfl
set_option maxRecDepth 20000 in
theorem tw_768 : Cond.laysFinal "RidePoolsModel" "RidePoolsModel" "minutes" "[I" ∈ gtbl := gt_r (i := 724) rfl rfl
set_option maxRecDepth 20000 in
theorem tw_770 : Cond.laysFinal "RidePoolsModel" "RidePoolsModel" "least" "[I" ∈ gtbl := gt_r (i := 726) rfl rfl
set_option maxRecDepth 20000 in
theorem tw_772 : Cond.lays "RidePoolsModel" "RidePoolsModel" "persons" "I" ∈ gtbl := gt_r (i := 728) rfl rfl
set_option maxRecDepth 20000 in
theorem tw_774 : Cond.lays "RidePoolsModel" "RidePoolsModel" "mornings" "I" ∈ gtbl := gt_r (i := 730) rfl rfl
set_option maxRecDepth 20000 in
theorem tw_776 : Cond.laysFinal "RidePoolsModel" "RidePoolsModel" "kind" "[I" ∈ gtbl := gt_r (i := 732) rfl rfl
set_option maxRecDepth 20000 in
theorem tw_778 : Cond.laysFinal "RidePoolsModel" "RidePoolsModel" "house" "[I" ∈ gtbl := gt_r (i := 734) rfl rfl
set_option maxRecDepth 20000 in
theorem tw_780 : Cond.laysFinal "RidePoolsModel" "RidePoolsModel" "work" "[I" ∈ gtbl := gt_r (i := 736) rfl rfl
set_option maxRecDepth 20000 in
theorem tw_782 : Cond.laysFinal "RidePoolsModel" "RidePoolsModel" "early" "[I" ∈ gtbl := gt_r (i := 738) rfl rfl
set_option maxRecDepth 20000 in
theorem tw_784 : Cond.laysFinal "RidePoolsModel" "RidePoolsModel" "late" "[I" ∈ gtbl := gt_r (i := 740) rfl rfl
set_option maxRecDepth 20000 in
theorem tw_786 : Cond.laysFinal "RidePoolsModel" "RidePoolsModel" "detour" "[I" ∈ gtbl := gt_r (i := 742) rfl rfl
set_option maxRecDepth 20000 in
theorem tw_788 : Cond.laysFinal "RidePoolsModel" "RidePoolsModel" "seats" "[I" ∈ gtbl := gt_r (i := 744) rfl rfl
set_option maxRecDepth 20000 in
theorem tw_790 : Cond.laysFinal "RidePoolsModel" "RidePoolsModel" "bars" "[I" ∈ gtbl := gt_r (i := 746) rfl rfl
set_option maxRecDepth 20000 in
theorem tw_792 : Cond.laysFinal "RidePoolsModel" "RidePoolsModel" "points" "[I" ∈ gtbl := gt_r (i := 748) rfl rfl
set_option maxRecDepth 20000 in
theorem tw_794 : Cond.laysFinal "RidePoolsModel" "RidePoolsModel" "isAway" "[Z" ∈ gtbl := gt_r (i := 750) rfl rfl
set_option maxRecDepth 20000 in
theorem tw_796 : Cond.laysFinal "RidePoolsModel" "RidePoolsModel" "isBroken" "[Z" ∈ gtbl := gt_r (i := 752) rfl rfl
set_option maxRecDepth 20000 in
theorem tw_798 : Cond.laysFinal "RidePoolsModel" "RidePoolsModel" "up" "[I" ∈ gtbl := gt_r (i := 754) rfl rfl
set_option maxRecDepth 20000 in
theorem tw_800 : Cond.laysFinal "RidePoolsModel" "RidePoolsModel" "down" "[I" ∈ gtbl := gt_r (i := 756) rfl rfl
set_option maxRecDepth 20000 in
theorem tw_802 : Cond.laysFinal "RidePoolsModel" "RidePoolsModel" "upAt" "[I" ∈ gtbl := gt_r (i := 758) rfl rfl
set_option maxRecDepth 20000 in
theorem tw_804 : Cond.laysFinal "RidePoolsModel" "RidePoolsModel" "downAt" "[I" ∈ gtbl := gt_r (i := 760) rfl rfl
set_option maxRecDepth 20000 in
theorem tw_806 : Cond.laysFinal "RidePoolsModel" "RidePoolsModel" "bestUp" "[I" ∈ gtbl := gt_r (i := 762) rfl rfl
set_option maxRecDepth 20000 in
theorem tw_808 : Cond.laysFinal "RidePoolsModel" "RidePoolsModel" "bestDown" "[I" ∈ gtbl := gt_r (i := 764) rfl rfl
set_option maxRecDepth 20000 in
theorem tw_810 : Cond.laysFinal "RidePoolsModel" "RidePoolsModel" "bestUpAt" "[I" ∈ gtbl := gt_r (i := 766) rfl rfl
set_option maxRecDepth 20000 in
theorem tw_812 : Cond.laysFinal "RidePoolsModel" "RidePoolsModel" "bestDownAt" "[I" ∈ gtbl := gt_r (i := 768) rfl rfl
set_option maxRecDepth 20000 in
theorem tw_814 : Cond.lays "RidePoolsModel" "RidePoolsModel" "size" "I" ∈ gtbl := gt_r (i := 770) rfl rfl
set_option maxRecDepth 20000 in
theorem tw_816 : Cond.lays "RidePoolsModel" "RidePoolsModel" "bestMinutes" "I" ∈ gtbl := gt_r (i := 772) rfl rfl
set_option maxRecDepth 20000 in
theorem tw_818 : Cond.lays "RidePoolsModel" "RidePoolsModel" "bestBegin" "I" ∈ gtbl := gt_r (i := 774) rfl rfl
set_option maxRecDepth 20000 in
theorem tw_820 : Cond.lays "RidePoolsModel" "RidePoolsModel" "isKnown" "Z" ∈ gtbl := gt_r (i := 776) rfl rfl
set_option maxRecDepth 20000 in
theorem tw_822 : Cond.laysFinal "RidePoolsModel" "RidePoolsModel" "cost" "[I" ∈ gtbl := gt_r (i := 778) rfl rfl
set_option maxRecDepth 20000 in
theorem tw_824 : Cond.laysFinal "RidePoolsModel" "RidePoolsModel" "by" "[I" ∈ gtbl := gt_r (i := 780) rfl rfl
set_option maxRecDepth 20000 in
theorem tw_826 : Cond.laysFinal "RidePoolsModel" "RidePoolsModel" "fit" "[I" ∈ gtbl := gt_r (i := 782) rfl rfl
set_option maxRecDepth 20000 in
theorem tw_828 : Cond.laysFinal "RidePoolsModel" "RidePoolsModel" "left" "[I" ∈ gtbl := gt_r (i := 784) rfl rfl
set_option maxRecDepth 20000 in
theorem tw_830 : Cond.laysFinal "RidePoolsModel" "RidePoolsModel" "sum" "[I" ∈ gtbl := gt_r (i := 786) rfl rfl
set_option maxRecDepth 20000 in
theorem tw_832 : Cond.laysFinal "RidePoolsModel" "RidePoolsModel" "pools" "[I" ∈ gtbl := gt_r (i := 788) rfl rfl
set_option maxRecDepth 20000 in
theorem tw_834 : Cond.laysFinal "RidePoolsModel" "RidePoolsModel" "choice" "[I" ∈ gtbl := gt_r (i := 790) rfl rfl
set_option maxRecDepth 20000 in
theorem tw_836 : Cond.laysFinal "RidePoolsModel" "RidePoolsModel" "fewest" "[I" ∈ gtbl := gt_r (i := 792) rfl rfl
set_option maxRecDepth 20000 in
theorem tw_838 : Cond.lays "RidePoolsModel" "RidePoolsModel" "isPlanned" "Z" ∈ gtbl := gt_r (i := 794) rfl rfl
set_option maxRecDepth 20000 in
theorem tw_840 : Cond.lays "RidePoolsModel" "RidePoolsModel" "planLeft" "I" ∈ gtbl := gt_r (i := 796) rfl rfl
set_option maxRecDepth 20000 in
theorem tw_842 : Cond.laysFinal "RidePoolsModel" "RidePoolsModel" "poolOf" "[I" ∈ gtbl := gt_r (i := 798) rfl rfl
set_option maxRecDepth 20000 in
theorem tw_844 : Cond.laysFinal "RidePoolsModel" "RidePoolsModel" "driverOf" "[I" ∈ gtbl := gt_r (i := 800) rfl rfl
set_option maxRecDepth 20000 in
theorem tw_846 : Cond.laysFinal "RidePoolsModel" "RidePoolsModel" "pickedAt" "[I" ∈ gtbl := gt_r (i := 802) rfl rfl
set_option maxRecDepth 20000 in
theorem tw_848 : Cond.laysFinal "RidePoolsModel" "RidePoolsModel" "workAt" "[I" ∈ gtbl := gt_r (i := 804) rfl rfl
set_option maxRecDepth 20000 in
theorem tw_850 : Cond.laysFinal "RidePoolsModel" "RidePoolsModel" "takes" "[I" ∈ gtbl := gt_r (i := 806) rfl rfl
set_option maxRecDepth 20000 in
theorem tw_853 : Cond.arrayClass FieldType.boolean ∈ gtbl := gt_r (i := 809) rfl rfl
set_option maxRecDepth 20000 in
theorem tw_854 : Cond.methodLink "RidePoolsLaw" 17 yX9_minutes ∈ gtbl := gt_r (i := 810) rfl rfl
set_option maxRecDepth 20000 in
theorem tw_855 : Cond.instanceMethod yX9_minutes ∈ gtbl := gt_r (i := 811) rfl rfl
set_option maxRecDepth 20000 in
theorem tw_856 : Cond.selects "RidePoolsModel" yX9_minutes yX9_minutes ∈ gtbl := gt_r (i := 812) rfl rfl
set_option maxRecDepth 20000 in
theorem tw_857 : Cond.code yX9_minutes prog_11_method_7_code 5 (some FieldType.int) ∈ gtbl := gt_r (i := 813) rfl rfl
set_option maxRecDepth 20000 in
theorem tw_858 : Cond.methodLink "RidePoolsModel" 132 yX9_isIn ∈ gtbl := gt_r (i := 814) rfl rfl
set_option maxRecDepth 20000 in
theorem tw_859 : Cond.static yX9_isIn ∈ gtbl := gt_r (i := 815) rfl rfl
set_option maxRecDepth 20000 in
theorem tw_860 : Cond.code yX9_isIn prog_11_method_3_code 2 (some FieldType.boolean) ∈ gtbl := gt_r (i := 816) rfl rfl
set_option maxRecDepth 20000 in
theorem tw_861 : Cond.methodLink "RidePoolsModel" 136 yX9_refuse ∈ gtbl := gt_r (i := 817) rfl rfl
set_option maxRecDepth 20000 in
theorem tw_863 : Cond.instanceMethod yX9_refuse ∈ gtbl := gt_r (i := 819) rfl rfl
set_option maxRecDepth 20000 in
theorem tw_864 : Cond.code yX9_refuse prog_11_method_2_code 2 (some FieldType.int) ∈ gtbl := gt_r (i := 820) rfl rfl
set_option maxRecDepth 20000 in
theorem tw_865 : Cond.methodLink "RidePoolsLaw" 22 yX9_least ∈ gtbl := gt_r (i := 821) rfl rfl
set_option maxRecDepth 20000 in
theorem tw_866 : Cond.instanceMethod yX9_least ∈ gtbl := gt_r (i := 822) rfl rfl
set_option maxRecDepth 20000 in
theorem tw_867 : Cond.selects "RidePoolsModel" yX9_least yX9_least ∈ gtbl := gt_r (i := 823) rfl rfl
set_option maxRecDepth 20000 in
theorem tw_868 : Cond.code yX9_least prog_11_method_8_code 3 (some FieldType.int) ∈ gtbl := gt_r (i := 824) rfl rfl
set_option maxRecDepth 20000 in
theorem tw_869 : Cond.methodLink "RidePoolsModel" 140 yX9_leastOf ∈ gtbl := gt_r (i := 825) rfl rfl
set_option maxRecDepth 20000 in
theorem tw_871 : Cond.instanceMethod yX9_leastOf ∈ gtbl := gt_r (i := 827) rfl rfl
set_option maxRecDepth 20000 in
theorem tw_872 : Cond.code yX9_leastOf prog_11_method_6_code 3 (some FieldType.int) ∈ gtbl := gt_r (i := 828) rfl rfl
set_option maxRecDepth 20000 in
theorem tw_873 : Cond.methodLink "RidePoolsLaw" 27 yX9_person ∈ gtbl := gt_r (i := 829) rfl rfl
set_option maxRecDepth 20000 in
theorem tw_874 : Cond.instanceMethod yX9_person ∈ gtbl := gt_r (i := 830) rfl rfl
set_option maxRecDepth 20000 in
theorem tw_875 : Cond.selects "RidePoolsModel" yX9_person yX9_person ∈ gtbl := gt_r (i := 831) rfl rfl
set_option maxRecDepth 20000 in
theorem tw_876 : Cond.code yX9_person prog_11_method_9_code 9 (some FieldType.int) ∈ gtbl := gt_r (i := 832) rfl rfl
set_option maxRecDepth 20000 in
theorem tw_877 : Cond.methodLink "RidePoolsLaw" 31 yX9_times ∈ gtbl := gt_r (i := 833) rfl rfl
set_option maxRecDepth 20000 in
theorem tw_878 : Cond.instanceMethod yX9_times ∈ gtbl := gt_r (i := 834) rfl rfl
set_option maxRecDepth 20000 in
theorem tw_879 : Cond.selects "RidePoolsModel" yX9_times yX9_times ∈ gtbl := gt_r (i := 835) rfl rfl
set_option maxRecDepth 20000 in
theorem tw_880 : Cond.code yX9_times prog_11_method_11_code 4 (some FieldType.int) ∈ gtbl := gt_r (i := 836) rfl rfl
set_option maxRecDepth 20000 in
theorem tw_881 : Cond.methodLink "RidePoolsModel" 147 yX9_isPerson ∈ gtbl := gt_r (i := 837) rfl rfl
set_option maxRecDepth 20000 in
theorem tw_883 : Cond.instanceMethod yX9_isPerson ∈ gtbl := gt_r (i := 839) rfl rfl
set_option maxRecDepth 20000 in
theorem tw_884 : Cond.code yX9_isPerson prog_11_method_10_code 2 (some FieldType.boolean) ∈ gtbl := gt_r (i := 840) rfl rfl
set_option maxRecDepth 20000 in
theorem tw_885 : Cond.methodLink "RidePoolsLaw" 36 yX9_bar ∈ gtbl := gt_r (i := 841) rfl rfl
set_option maxRecDepth 20000 in
theorem tw_886 : Cond.instanceMethod yX9_bar ∈ gtbl := gt_r (i := 842) rfl rfl
set_option maxRecDepth 20000 in
theorem tw_887 : Cond.selects "RidePoolsModel" yX9_bar yX9_bar ∈ gtbl := gt_r (i := 843) rfl rfl
set_option maxRecDepth 20000 in
theorem tw_888 : Cond.code yX9_bar prog_11_method_12_code 4 (some FieldType.int) ∈ gtbl := gt_r (i := 844) rfl rfl
set_option maxRecDepth 20000 in
theorem tw_889 : Cond.methodLink "RidePoolsLaw" 41 yX9_away ∈ gtbl := gt_r (i := 845) rfl rfl
set_option maxRecDepth 20000 in
theorem tw_890 : Cond.instanceMethod yX9_away ∈ gtbl := gt_r (i := 846) rfl rfl
set_option maxRecDepth 20000 in
theorem tw_891 : Cond.selects "RidePoolsModel" yX9_away yX9_away ∈ gtbl := gt_r (i := 847) rfl rfl
set_option maxRecDepth 20000 in
theorem tw_892 : Cond.code yX9_away prog_11_method_13_code 3 (some FieldType.int) ∈ gtbl := gt_r (i := 848) rfl rfl
set_option maxRecDepth 20000 in
theorem tw_893 : Cond.methodLink "RidePoolsLaw" 45 yX9_broken ∈ gtbl := gt_r (i := 849) rfl rfl
set_option maxRecDepth 20000 in
theorem tw_894 : Cond.instanceMethod yX9_broken ∈ gtbl := gt_r (i := 850) rfl rfl
set_option maxRecDepth 20000 in
theorem tw_895 : Cond.selects "RidePoolsModel" yX9_broken yX9_broken ∈ gtbl := gt_r (i := 851) rfl rfl
set_option maxRecDepth 20000 in
theorem tw_896 : Cond.code yX9_broken prog_11_method_14_code 3 (some FieldType.int) ∈ gtbl := gt_r (i := 852) rfl rfl
set_option maxRecDepth 20000 in
theorem tw_897 : Cond.methodLink "RidePoolsLaw" 49 yX9_fits ∈ gtbl := gt_r (i := 853) rfl rfl
set_option maxRecDepth 20000 in
theorem tw_898 : Cond.instanceMethod yX9_fits ∈ gtbl := gt_r (i := 854) rfl rfl
set_option maxRecDepth 20000 in
theorem tw_899 : Cond.selects "RidePoolsModel" yX9_fits yX9_fits ∈ gtbl := gt_r (i := 855) rfl rfl
set_option maxRecDepth 20000 in
theorem tw_900 : Cond.code yX9_fits prog_11_method_23_code 4 (some FieldType.int) ∈ gtbl := gt_r (i := 856) rfl rfl
set_option maxRecDepth 20000 in
theorem tw_901 : Cond.methodLink "RidePoolsModel" 184 yX9_wrong ∈ gtbl := gt_r (i := 857) rfl rfl
set_option maxRecDepth 20000 in
theorem tw_903 : Cond.instanceMethod yX9_wrong ∈ gtbl := gt_r (i := 859) rfl rfl
set_option maxRecDepth 20000 in
theorem tw_904 : Cond.code yX9_wrong prog_11_method_22_code 3 (some FieldType.int) ∈ gtbl := gt_r (i := 860) rfl rfl
set_option maxRecDepth 20000 in
theorem tw_905 : Cond.methodLink "RidePoolsModel" 178 yX9_isSet ∈ gtbl := gt_r (i := 861) rfl rfl
set_option maxRecDepth 20000 in
theorem tw_907 : Cond.instanceMethod yX9_isSet ∈ gtbl := gt_r (i := 863) rfl rfl
set_option maxRecDepth 20000 in
theorem tw_908 : Cond.code yX9_isSet prog_11_method_20_code 2 (some FieldType.boolean) ∈ gtbl := gt_r (i := 864) rfl rfl
set_option maxRecDepth 20000 in
theorem tw_909 : Cond.methodLink "RidePoolsModel" 155 yX9_many ∈ gtbl := gt_r (i := 865) rfl rfl
set_option maxRecDepth 20000 in
theorem tw_910 : Cond.static yX9_many ∈ gtbl := gt_r (i := 866) rfl rfl
set_option maxRecDepth 20000 in
theorem tw_911 : Cond.code yX9_many prog_11_method_15_code 3 (some FieldType.int) ∈ gtbl := gt_r (i := 867) rfl rfl
set_option maxRecDepth 20000 in
theorem tw_912 : Cond.methodLink "RidePoolsModel" 181 yX9_hasAway ∈ gtbl := gt_r (i := 868) rfl rfl
set_option maxRecDepth 20000 in
theorem tw_914 : Cond.instanceMethod yX9_hasAway ∈ gtbl := gt_r (i := 870) rfl rfl
set_option maxRecDepth 20000 in
theorem tw_915 : Cond.code yX9_hasAway prog_11_method_21_code 4 (some FieldType.boolean) ∈ gtbl := gt_r (i := 871) rfl rfl
set_option maxRecDepth 20000 in
theorem tw_916 : Cond.methodLink "RidePoolsModel" 187 yX9_whyNot ∈ gtbl := gt_r (i := 872) rfl rfl
set_option maxRecDepth 20000 in
theorem tw_918 : Cond.instanceMethod yX9_whyNot ∈ gtbl := gt_r (i := 874) rfl rfl
set_option maxRecDepth 20000 in
theorem tw_919 : Cond.code yX9_whyNot prog_11_method_16_code 6 (some FieldType.int) ∈ gtbl := gt_r (i := 875) rfl rfl
set_option maxRecDepth 20000 in
theorem tw_920 : Cond.constant "RidePoolsModel" 151 1000000 ∈ gtbl := gt_r (i := 876) rfl rfl
set_option maxRecDepth 20000 in
theorem tw_921 : Cond.methodLink "RidePoolsModel" 161 yX9_picks ∈ gtbl := gt_r (i := 877) rfl rfl
set_option maxRecDepth 20000 in
theorem tw_923 : Cond.instanceMethod yX9_picks ∈ gtbl := gt_r (i := 879) rfl rfl
set_option maxRecDepth 20000 in
theorem tw_924 : Cond.code yX9_picks prog_11_method_17_code 6 (none : Option FieldType) ∈ gtbl := gt_r (i := 880) rfl rfl
set_option maxRecDepth 20000 in
theorem tw_925 : Cond.methodLink "RidePoolsModel" 165 yX9_drops ∈ gtbl := gt_r (i := 881) rfl rfl
set_option maxRecDepth 20000 in
theorem tw_927 : Cond.instanceMethod yX9_drops ∈ gtbl := gt_r (i := 883) rfl rfl
set_option maxRecDepth 20000 in
theorem tw_928 : Cond.code yX9_drops prog_11_method_18_code 6 (none : Option FieldType) ∈ gtbl := gt_r (i := 884) rfl rfl
set_option maxRecDepth 20000 in
theorem tw_929 : Cond.methodLink "RidePoolsModel" 168 yX9_looks ∈ gtbl := gt_r (i := 885) rfl rfl
set_option maxRecDepth 20000 in
theorem tw_931 : Cond.instanceMethod yX9_looks ∈ gtbl := gt_r (i := 887) rfl rfl
set_option maxRecDepth 20000 in
theorem tw_932 : Cond.code yX9_looks prog_11_method_19_code 6 (none : Option FieldType) ∈ gtbl := gt_r (i := 888) rfl rfl
set_option maxRecDepth 20000 in
theorem tw_933 : Cond.methodLink "RidePoolsModel" 172 yJ9_max_7cf53 ∈ gtbl := gt_r (i := 889) rfl rfl
set_option maxRecDepth 20000 in
theorem tw_934 : Cond.methodLink "RidePoolsLaw" 53 yX9_why ∈ gtbl := gt_r (i := 890) rfl rfl
set_option maxRecDepth 20000 in
theorem tw_935 : Cond.instanceMethod yX9_why ∈ gtbl := gt_r (i := 891) rfl rfl
set_option maxRecDepth 20000 in
theorem tw_936 : Cond.selects "RidePoolsModel" yX9_why yX9_why ∈ gtbl := gt_r (i := 892) rfl rfl
set_option maxRecDepth 20000 in
theorem tw_937 : Cond.code yX9_why prog_11_method_24_code 4 (some FieldType.int) ∈ gtbl := gt_r (i := 893) rfl rfl
set_option maxRecDepth 20000 in
theorem tw_938 : Cond.methodLink "RidePoolsLaw" 57 yX9_way ∈ gtbl := gt_r (i := 894) rfl rfl
set_option maxRecDepth 20000 in
theorem tw_939 : Cond.instanceMethod yX9_way ∈ gtbl := gt_r (i := 895) rfl rfl
set_option maxRecDepth 20000 in
theorem tw_940 : Cond.selects "RidePoolsModel" yX9_way yX9_way ∈ gtbl := gt_r (i := 896) rfl rfl
set_option maxRecDepth 20000 in
theorem tw_941 : Cond.code yX9_way prog_11_method_25_code 5 (some FieldType.int) ∈ gtbl := gt_r (i := 897) rfl rfl
set_option maxRecDepth 20000 in
theorem tw_942 : Cond.methodLink "RidePoolsLaw" 62 yX9_cost ∈ gtbl := gt_r (i := 898) rfl rfl
set_option maxRecDepth 20000 in
theorem tw_943 : Cond.instanceMethod yX9_cost ∈ gtbl := gt_r (i := 899) rfl rfl
set_option maxRecDepth 20000 in
theorem tw_944 : Cond.selects "RidePoolsModel" yX9_cost yX9_cost ∈ gtbl := gt_r (i := 900) rfl rfl
set_option maxRecDepth 20000 in
theorem tw_945 : Cond.code yX9_cost prog_11_method_28_code 3 (some FieldType.int) ∈ gtbl := gt_r (i := 901) rfl rfl
set_option maxRecDepth 20000 in
theorem tw_946 : Cond.methodLink "RidePoolsModel" 190 yX9_wrongSet ∈ gtbl := gt_r (i := 902) rfl rfl
set_option maxRecDepth 20000 in
theorem tw_948 : Cond.instanceMethod yX9_wrongSet ∈ gtbl := gt_r (i := 904) rfl rfl
set_option maxRecDepth 20000 in
theorem tw_949 : Cond.code yX9_wrongSet prog_11_method_27_code 2 (some FieldType.int) ∈ gtbl := gt_r (i := 905) rfl rfl
set_option maxRecDepth 20000 in
theorem tw_950 : Cond.methodLink "RidePoolsModel" 193 yX9_know ∈ gtbl := gt_r (i := 906) rfl rfl
set_option maxRecDepth 20000 in
theorem tw_952 : Cond.instanceMethod yX9_know ∈ gtbl := gt_r (i := 908) rfl rfl
set_option maxRecDepth 20000 in
theorem tw_953 : Cond.code yX9_know prog_11_method_26_code 3 (none : Option FieldType) ∈ gtbl := gt_r (i := 909) rfl rfl
set_option maxRecDepth 20000 in
theorem tw_954 : Cond.methodLink "RidePoolsLaw" 66 yX9_driver ∈ gtbl := gt_r (i := 910) rfl rfl
set_option maxRecDepth 20000 in
theorem tw_955 : Cond.instanceMethod yX9_driver ∈ gtbl := gt_r (i := 911) rfl rfl
set_option maxRecDepth 20000 in
theorem tw_956 : Cond.selects "RidePoolsModel" yX9_driver yX9_driver ∈ gtbl := gt_r (i := 912) rfl rfl
set_option maxRecDepth 20000 in
theorem tw_957 : Cond.code yX9_driver prog_11_method_29_code 3 (some FieldType.int) ∈ gtbl := gt_r (i := 913) rfl rfl
set_option maxRecDepth 20000 in
theorem tw_958 : Cond.methodLink "RidePoolsLaw" 70 yX9_turn ∈ gtbl := gt_r (i := 914) rfl rfl
set_option maxRecDepth 20000 in
theorem tw_959 : Cond.instanceMethod yX9_turn ∈ gtbl := gt_r (i := 915) rfl rfl
set_option maxRecDepth 20000 in
theorem tw_960 : Cond.selects "RidePoolsModel" yX9_turn yX9_turn ∈ gtbl := gt_r (i := 916) rfl rfl
set_option maxRecDepth 20000 in
theorem tw_961 : Cond.code yX9_turn prog_11_method_31_code 3 (some FieldType.int) ∈ gtbl := gt_r (i := 917) rfl rfl
set_option maxRecDepth 20000 in
theorem tw_962 : Cond.methodLink "RidePoolsModel" 196 yX9_turnOf ∈ gtbl := gt_r (i := 918) rfl rfl
set_option maxRecDepth 20000 in
theorem tw_964 : Cond.instanceMethod yX9_turnOf ∈ gtbl := gt_r (i := 920) rfl rfl
set_option maxRecDepth 20000 in
theorem tw_965 : Cond.code yX9_turnOf prog_11_method_30_code 4 (some FieldType.int) ∈ gtbl := gt_r (i := 921) rfl rfl
set_option maxRecDepth 20000 in
theorem tw_966 : Cond.methodLink "RidePoolsLaw" 75 yX9_plan ∈ gtbl := gt_r (i := 922) rfl rfl
set_option maxRecDepth 20000 in
theorem tw_967 : Cond.instanceMethod yX9_plan ∈ gtbl := gt_r (i := 923) rfl rfl
set_option maxRecDepth 20000 in
theorem tw_968 : Cond.selects "RidePoolsModel" yX9_plan yX9_plan ∈ gtbl := gt_r (i := 924) rfl rfl
set_option maxRecDepth 20000 in
theorem tw_969 : Cond.code yX9_plan prog_11_method_37_code 4 (some FieldType.int) ∈ gtbl := gt_r (i := 925) rfl rfl
set_option maxRecDepth 20000 in
theorem tw_970 : Cond.methodLink "RidePoolsModel" 206 yX9_best ∈ gtbl := gt_r (i := 926) rfl rfl
set_option maxRecDepth 20000 in
theorem tw_972 : Cond.instanceMethod yX9_best ∈ gtbl := gt_r (i := 928) rfl rfl
set_option maxRecDepth 20000 in
theorem tw_973 : Cond.code yX9_best prog_11_method_33_code 3 (none : Option FieldType) ∈ gtbl := gt_r (i := 929) rfl rfl
set_option maxRecDepth 20000 in
theorem tw_974 : Cond.methodLink "RidePoolsModel" 199 yX9_present ∈ gtbl := gt_r (i := 930) rfl rfl
set_option maxRecDepth 20000 in
theorem tw_976 : Cond.instanceMethod yX9_present ∈ gtbl := gt_r (i := 932) rfl rfl
set_option maxRecDepth 20000 in
theorem tw_977 : Cond.code yX9_present prog_11_method_32_code 3 (some FieldType.int) ∈ gtbl := gt_r (i := 933) rfl rfl
set_option maxRecDepth 20000 in
theorem tw_978 : Cond.methodLink "RidePoolsModel" 203 yX9_bestOf ∈ gtbl := gt_r (i := 934) rfl rfl
set_option maxRecDepth 20000 in
theorem tw_980 : Cond.instanceMethod yX9_bestOf ∈ gtbl := gt_r (i := 936) rfl rfl
set_option maxRecDepth 20000 in
theorem tw_981 : Cond.code yX9_bestOf prog_11_method_34_code 9 (none : Option FieldType) ∈ gtbl := gt_r (i := 937) rfl rfl
set_option maxRecDepth 20000 in
theorem tw_982 : Cond.methodLink "RidePoolsModel" 209 yX9_leaves ∈ gtbl := gt_r (i := 938) rfl rfl
set_option maxRecDepth 20000 in
theorem tw_984 : Cond.instanceMethod yX9_leaves ∈ gtbl := gt_r (i := 940) rfl rfl
set_option maxRecDepth 20000 in
theorem tw_985 : Cond.code yX9_leaves prog_11_method_35_code 2 (none : Option FieldType) ∈ gtbl := gt_r (i := 941) rfl rfl
set_option maxRecDepth 20000 in
theorem tw_986 : Cond.methodLink "RidePoolsModel" 215 yX9_lays ∈ gtbl := gt_r (i := 942) rfl rfl
set_option maxRecDepth 20000 in
theorem tw_988 : Cond.instanceMethod yX9_lays ∈ gtbl := gt_r (i := 944) rfl rfl
set_option maxRecDepth 20000 in
theorem tw_989 : Cond.code yX9_lays prog_11_method_36_code 5 (none : Option FieldType) ∈ gtbl := gt_r (i := 945) rfl rfl
set_option maxRecDepth 20000 in
theorem tw_990 : Cond.methodLink "RidePoolsLaw" 79 yX9_planOf ∈ gtbl := gt_r (i := 946) rfl rfl
set_option maxRecDepth 20000 in
theorem tw_991 : Cond.instanceMethod yX9_planOf ∈ gtbl := gt_r (i := 947) rfl rfl
set_option maxRecDepth 20000 in
theorem tw_992 : Cond.selects "RidePoolsModel" yX9_planOf yX9_planOf ∈ gtbl := gt_r (i := 948) rfl rfl
set_option maxRecDepth 20000 in
theorem tw_993 : Cond.code yX9_planOf prog_11_method_40_code 2 (some FieldType.int) ∈ gtbl := gt_r (i := 949) rfl rfl
set_option maxRecDepth 20000 in
theorem tw_994 : Cond.methodLink "RidePoolsModel" 225 yX9_planned ∈ gtbl := gt_r (i := 950) rfl rfl
set_option maxRecDepth 20000 in
theorem tw_996 : Cond.instanceMethod yX9_planned ∈ gtbl := gt_r (i := 952) rfl rfl
set_option maxRecDepth 20000 in
theorem tw_997 : Cond.code yX9_planned prog_11_method_39_code 4 (some FieldType.int) ∈ gtbl := gt_r (i := 953) rfl rfl
set_option maxRecDepth 20000 in
theorem tw_998 : Cond.methodLink "RidePoolsModel" 222 yX9_isFirst ∈ gtbl := gt_r (i := 954) rfl rfl
set_option maxRecDepth 20000 in
theorem tw_1000 : Cond.instanceMethod yX9_isFirst ∈ gtbl := gt_r (i := 956) rfl rfl
set_option maxRecDepth 20000 in
theorem tw_1001 : Cond.code yX9_isFirst prog_11_method_38_code 2 (some FieldType.boolean) ∈ gtbl := gt_r (i := 957) rfl rfl
set_option maxRecDepth 20000 in
theorem tw_1002 : Cond.methodLink "RidePoolsLaw" 83 yX9_poolOf ∈ gtbl := gt_r (i := 958) rfl rfl
set_option maxRecDepth 20000 in
theorem tw_1003 : Cond.instanceMethod yX9_poolOf ∈ gtbl := gt_r (i := 959) rfl rfl
set_option maxRecDepth 20000 in
theorem tw_1004 : Cond.selects "RidePoolsModel" yX9_poolOf yX9_poolOf ∈ gtbl := gt_r (i := 960) rfl rfl
set_option maxRecDepth 20000 in
theorem tw_1005 : Cond.code yX9_poolOf prog_11_method_41_code 3 (some FieldType.int) ∈ gtbl := gt_r (i := 961) rfl rfl
set_option maxRecDepth 20000 in
theorem tw_1006 : Cond.methodLink "RidePoolsLaw" 87 yX9_same ∈ gtbl := gt_r (i := 962) rfl rfl
set_option maxRecDepth 20000 in
theorem tw_1007 : Cond.instanceMethod yX9_same ∈ gtbl := gt_r (i := 963) rfl rfl
set_option maxRecDepth 20000 in
theorem tw_1008 : Cond.selects "RidePoolsModel" yX9_same yX9_same ∈ gtbl := gt_r (i := 964) rfl rfl
set_option maxRecDepth 20000 in
theorem tw_1009 : Cond.code yX9_same prog_11_method_42_code 2 (some FieldType.int) ∈ gtbl := gt_r (i := 965) rfl rfl
set_option maxRecDepth 20000 in
theorem tw_1010 : Cond.methodLink "RidePoolsLaw" 91 yX9_even ∈ gtbl := gt_r (i := 966) rfl rfl
set_option maxRecDepth 20000 in
theorem tw_1011 : Cond.instanceMethod yX9_even ∈ gtbl := gt_r (i := 967) rfl rfl
set_option maxRecDepth 20000 in
theorem tw_1012 : Cond.selects "RidePoolsModel" yX9_even yX9_even ∈ gtbl := gt_r (i := 968) rfl rfl
set_option maxRecDepth 20000 in
theorem tw_1013 : Cond.code yX9_even prog_11_method_43_code 4 (some FieldType.int) ∈ gtbl := gt_r (i := 969) rfl rfl
set_option maxRecDepth 20000 in
theorem tw_1014 : Cond.methodLink "RidePoolsLaw" 95 yX9_mornings ∈ gtbl := gt_r (i := 970) rfl rfl
set_option maxRecDepth 20000 in
theorem tw_1015 : Cond.instanceMethod yX9_mornings ∈ gtbl := gt_r (i := 971) rfl rfl
set_option maxRecDepth 20000 in
theorem tw_1016 : Cond.selects "RidePoolsModel" yX9_mornings yX9_mornings ∈ gtbl := gt_r (i := 972) rfl rfl
set_option maxRecDepth 20000 in
theorem tw_1017 : Cond.code yX9_mornings prog_11_method_44_code 4 (some FieldType.int) ∈ gtbl := gt_r (i := 973) rfl rfl
set_option maxRecDepth 20000 in
theorem tw_1018 : Cond.methodLink "RidePoolsLaw" 99 yX9_fail ∈ gtbl := gt_r (i := 974) rfl rfl
set_option maxRecDepth 20000 in
theorem tw_1019 : Cond.instanceMethod yX9_fail ∈ gtbl := gt_r (i := 975) rfl rfl
set_option maxRecDepth 20000 in
theorem tw_1020 : Cond.selects "RidePoolsModel" yX9_fail yX9_fail ∈ gtbl := gt_r (i := 976) rfl rfl
set_option maxRecDepth 20000 in
theorem tw_1021 : Cond.code yX9_fail prog_11_method_46_code 5 (some FieldType.int) ∈ gtbl := gt_r (i := 977) rfl rfl
set_option maxRecDepth 20000 in
theorem tw_1022 : Cond.methodLink "RidePoolsModel" 231 yX9_joins ∈ gtbl := gt_r (i := 978) rfl rfl
set_option maxRecDepth 20000 in
theorem tw_1024 : Cond.instanceMethod yX9_joins ∈ gtbl := gt_r (i := 980) rfl rfl
set_option maxRecDepth 20000 in
theorem tw_1025 : Cond.code yX9_joins prog_11_method_45_code 4 (some FieldType.boolean) ∈ gtbl := gt_r (i := 981) rfl rfl
set_option maxRecDepth 20000 in
theorem tw_1026 : Cond.methodLink "RidePoolsLaw" 103 yX9_few ∈ gtbl := gt_r (i := 982) rfl rfl
set_option maxRecDepth 20000 in
theorem tw_1027 : Cond.instanceMethod yX9_few ∈ gtbl := gt_r (i := 983) rfl rfl
set_option maxRecDepth 20000 in
theorem tw_1028 : Cond.selects "RidePoolsModel" yX9_few yX9_few ∈ gtbl := gt_r (i := 984) rfl rfl
set_option maxRecDepth 20000 in
theorem tw_1029 : Cond.code yX9_few prog_11_method_47_code 2 (some FieldType.int) ∈ gtbl := gt_r (i := 985) rfl rfl
set_option maxRecDepth 20000 in
theorem tw_1030 : Cond.methodLink "RidePoolsLaw" 107 yX9_personOf ∈ gtbl := gt_r (i := 986) rfl rfl
set_option maxRecDepth 20000 in
theorem tw_1031 : Cond.instanceMethod yX9_personOf ∈ gtbl := gt_r (i := 987) rfl rfl
set_option maxRecDepth 20000 in
theorem tw_1032 : Cond.selects "RidePoolsModel" yX9_personOf yX9_personOf ∈ gtbl := gt_r (i := 988) rfl rfl
set_option maxRecDepth 20000 in
theorem tw_1033 : Cond.code yX9_personOf prog_11_method_48_code 3 (some FieldType.int) ∈ gtbl := gt_r (i := 989) rfl rfl
set_option maxRecDepth 20000 in
theorem tw_1034 : Cond.constant "RidePoolsModel" 234 1000000000 ∈ gtbl := gt_r (i := 990) rfl rfl
set_option maxRecDepth 20000 in
theorem tw_1035 : Cond.methodLink "RidePoolsLaw" 111 yX9_count ∈ gtbl := gt_r (i := 991) rfl rfl
set_option maxRecDepth 20000 in
theorem tw_1036 : Cond.instanceMethod yX9_count ∈ gtbl := gt_r (i := 992) rfl rfl
set_option maxRecDepth 20000 in
theorem tw_1037 : Cond.selects "RidePoolsModel" yX9_count yX9_count ∈ gtbl := gt_r (i := 993) rfl rfl
set_option maxRecDepth 20000 in
theorem tw_1038 : Cond.code yX9_count prog_11_method_49_code 4 (some FieldType.int) ∈ gtbl := gt_r (i := 994) rfl rfl
theorem inG0 : ∀ w ∈ u_ws RX0 TX0 3, w ∈ gtbl := by
  intro w h
  obtain ⟨k, hk, rfl⟩ := List.mem_map.mp h
  exact match k, List.mem_range.mp hk with
  | 0, _ => tw_256
  | 1, _ => tw_258
  | 2, _ => tw_260
  | n + 3, h => absurd h (by omega)
theorem inG1 : ∀ w ∈ u_ws RX1 TX1 3, w ∈ gtbl := by
  intro w h
  obtain ⟨k, hk, rfl⟩ := List.mem_map.mp h
  exact match k, List.mem_range.mp hk with
  | 0, _ => tw_272
  | 1, _ => tw_274
  | 2, _ => tw_276
  | n + 3, h => absurd h (by omega)
theorem inG2 : ∀ w ∈ u_ws RX2 TX2 2, w ∈ gtbl := by
  intro w h
  obtain ⟨k, hk, rfl⟩ := List.mem_map.mp h
  exact match k, List.mem_range.mp hk with
  | 0, _ => tw_160
  | 1, _ => tw_162
  | n + 2, h => absurd h (by omega)
theorem inG3 : ∀ w ∈ u_ws RX3 TX3 11, w ∈ gtbl := by
  intro w h
  obtain ⟨k, hk, rfl⟩ := List.mem_map.mp h
  exact match k, List.mem_range.mp hk with
  | 0, _ => tw_135
  | 1, _ => tw_137
  | 2, _ => tw_139
  | 3, _ => tw_141
  | 4, _ => tw_143
  | 5, _ => tw_145
  | 6, _ => tw_147
  | 7, _ => tw_149
  | 8, _ => tw_151
  | 9, _ => tw_153
  | 10, _ => tw_155
  | n + 11, h => absurd h (by omega)
theorem inG4 : ∀ w ∈ u_ws RX4 TX4 7, w ∈ gtbl := by
  intro w h
  obtain ⟨k, hk, rfl⟩ := List.mem_map.mp h
  exact match k, List.mem_range.mp hk with
  | 0, _ => tw_292
  | 1, _ => tw_294
  | 2, _ => tw_296
  | 3, _ => tw_298
  | 4, _ => tw_300
  | 5, _ => tw_302
  | 6, _ => tw_304
  | n + 7, h => absurd h (by omega)
theorem inG5 : ∀ w ∈ u_ws RX5 TX5 2, w ∈ gtbl := by
  intro w h
  obtain ⟨k, hk, rfl⟩ := List.mem_map.mp h
  exact match k, List.mem_range.mp hk with
  | 0, _ => tw_94
  | 1, _ => tw_96
  | n + 2, h => absurd h (by omega)
theorem inG6 : ∀ w ∈ u_ws RX6 TX6 8, w ∈ gtbl := by
  intro w h
  obtain ⟨k, hk, rfl⟩ := List.mem_map.mp h
  exact match k, List.mem_range.mp hk with
  | 0, _ => tw_201
  | 1, _ => tw_203
  | 2, _ => tw_205
  | 3, _ => tw_207
  | 4, _ => tw_209
  | 5, _ => tw_211
  | 6, _ => tw_213
  | 7, _ => tw_215
  | n + 8, h => absurd h (by omega)
theorem inG7 : ∀ w ∈ u_ws RX7 TX7 9, w ∈ gtbl := by
  intro w h
  obtain ⟨k, hk, rfl⟩ := List.mem_map.mp h
  exact match k, List.mem_range.mp hk with
  | 0, _ => tw_227
  | 1, _ => tw_229
  | 2, _ => tw_231
  | 3, _ => tw_233
  | 4, _ => tw_235
  | 5, _ => tw_237
  | 6, _ => tw_239
  | 7, _ => tw_241
  | 8, _ => tw_243
  | n + 9, h => absurd h (by omega)
theorem inG8 : ∀ w ∈ u_ws RX8 TX8 8, w ∈ gtbl := by
  intro w h
  obtain ⟨k, hk, rfl⟩ := List.mem_map.mp h
  exact match k, List.mem_range.mp hk with
  | 0, _ => tw_315
  | 1, _ => tw_317
  | 2, _ => tw_319
  | 3, _ => tw_321
  | 4, _ => tw_323
  | 5, _ => tw_325
  | 6, _ => tw_327
  | 7, _ => tw_329
  | n + 8, h => absurd h (by omega)
theorem inG9 : ∀ w ∈ u_ws RX9 TX9 43, w ∈ gtbl := by
  intro w h
  obtain ⟨k, hk, rfl⟩ := List.mem_map.mp h
  exact match k, List.mem_range.mp hk with
  | 0, _ => tw_766
  | 1, _ => tw_768
  | 2, _ => tw_770
  | 3, _ => tw_772
  | 4, _ => tw_774
  | 5, _ => tw_776
  | 6, _ => tw_778
  | 7, _ => tw_780
  | 8, _ => tw_782
  | 9, _ => tw_784
  | 10, _ => tw_786
  | 11, _ => tw_788
  | 12, _ => tw_790
  | 13, _ => tw_792
  | 14, _ => tw_794
  | 15, _ => tw_796
  | 16, _ => tw_798
  | 17, _ => tw_800
  | 18, _ => tw_802
  | 19, _ => tw_804
  | 20, _ => tw_806
  | 21, _ => tw_808
  | 22, _ => tw_810
  | 23, _ => tw_812
  | 24, _ => tw_814
  | 25, _ => tw_816
  | 26, _ => tw_818
  | 27, _ => tw_820
  | 28, _ => tw_822
  | 29, _ => tw_824
  | 30, _ => tw_826
  | 31, _ => tw_828
  | 32, _ => tw_830
  | 33, _ => tw_832
  | 34, _ => tw_834
  | 35, _ => tw_836
  | 36, _ => tw_838
  | 37, _ => tw_840
  | 38, _ => tw_842
  | 39, _ => tw_844
  | 40, _ => tw_846
  | 41, _ => tw_848
  | 42, _ => tw_850
  | n + 43, h => absurd h (by omega)
end
section
theorem dX0_init_0 : decode cX0_init 0 = .ok (.aload_n 0, 1) := by decide +kernel
theorem dX0_init_1 : decode cX0_init 1 = .ok (.invokespecial 3, 3) := by decide +kernel
theorem dX0_init_4 : decode cX0_init 4 = .ok (.aload_n 0, 1) := by decide +kernel
theorem dX0_init_5 : decode cX0_init 5 = .ok (.sipush 512, 3) := by decide +kernel
theorem dX0_init_8 : decode cX0_init 8 = .ok (.newarray .int, 2) := by decide +kernel
theorem dX0_init_10 : decode cX0_init 10 = .ok (.putfield 9, 3) := by decide +kernel
theorem dX0_init_13 : decode cX0_init 13 = .ok (.aload_n 0, 1) := by decide +kernel
theorem dX0_init_14 : decode cX0_init 14 = .ok (.sipush 512, 3) := by decide +kernel
theorem dX0_init_17 : decode cX0_init 17 = .ok (.newarray .int, 2) := by decide +kernel
theorem dX0_init_19 : decode cX0_init 19 = .ok (.putfield 15, 3) := by decide +kernel
theorem dX0_init_22 : decode cX0_init 22 = .ok (.aload_n 0, 1) := by decide +kernel
theorem dX0_init_23 : decode cX0_init 23 = .ok (.aload_n 1, 1) := by decide +kernel
theorem dX0_init_24 : decode cX0_init 24 = .ok (.putfield 18, 3) := by decide +kernel
theorem dX0_init_27 : decode cX0_init 27 = .ok (.aload_n 0, 1) := by decide +kernel
theorem dX0_init_28 : decode cX0_init 28 = .ok (.getfield 9, 3) := by decide +kernel
theorem dX0_init_31 : decode cX0_init 31 = .ok (.iconst (-1), 1) := by decide +kernel
theorem dX0_init_32 : decode cX0_init 32 = .ok (.invokestatic 22, 3) := by decide +kernel
theorem dX0_init_35 : decode cX0_init 35 = .ok (.return_, 1) := by decide +kernel
theorem dX0_minutesFor_0 : decode cX0_minutesFor 0 = .ok (.aload_n 0, 1) := by decide +kernel
theorem dX0_minutesFor_1 : decode cX0_minutesFor 1 = .ok (.getfield 9, 3) := by decide +kernel
theorem dX0_minutesFor_4 : decode cX0_minutesFor 4 = .ok (.iload_n 1, 1) := by decide +kernel
theorem dX0_minutesFor_5 : decode cX0_minutesFor 5 = .ok (.iaload, 1) := by decide +kernel
theorem dX0_minutesFor_6 : decode cX0_minutesFor 6 = .ok (.ireturn, 1) := by decide +kernel
theorem dX0_driverFor_0 : decode cX0_driverFor 0 = .ok (.aload_n 0, 1) := by decide +kernel
theorem dX0_driverFor_1 : decode cX0_driverFor 1 = .ok (.getfield 15, 3) := by decide +kernel
theorem dX0_driverFor_4 : decode cX0_driverFor 4 = .ok (.iload_n 1, 1) := by decide +kernel
theorem dX0_driverFor_5 : decode cX0_driverFor 5 = .ok (.iaload, 1) := by decide +kernel
theorem dX0_driverFor_6 : decode cX0_driverFor 6 = .ok (.ireturn, 1) := by decide +kernel
theorem dX0_forgetWith_0 : decode cX0_forgetWith 0 = .ok (.iconst 0, 1) := by decide +kernel
theorem dX0_forgetWith_1 : decode cX0_forgetWith 1 = .ok (.istore_n 2, 1) := by decide +kernel
theorem dX0_forgetWith_2 : decode cX0_forgetWith 2 = .ok (.iload_n 2, 1) := by decide +kernel
theorem dX0_forgetWith_3 : decode cX0_forgetWith 3 = .ok (.sipush 512, 3) := by decide +kernel
theorem dX0_forgetWith_6 : decode cX0_forgetWith 6 = .ok (.if_icmp .ge 23, 3) := by decide +kernel
theorem dX0_forgetWith_9 : decode cX0_forgetWith 9 = .ok (.iload_n 2, 1) := by decide +kernel
theorem dX0_forgetWith_10 : decode cX0_forgetWith 10 = .ok (.iload_n 1, 1) := by decide +kernel
theorem dX0_forgetWith_11 : decode cX0_forgetWith 11 = .ok (.iand, 1) := by decide +kernel
theorem dX0_forgetWith_12 : decode cX0_forgetWith 12 = .ok (.iload_n 1, 1) := by decide +kernel
theorem dX0_forgetWith_13 : decode cX0_forgetWith 13 = .ok (.if_icmp .ne 10, 3) := by decide +kernel
theorem dX0_forgetWith_16 : decode cX0_forgetWith 16 = .ok (.aload_n 0, 1) := by decide +kernel
theorem dX0_forgetWith_17 : decode cX0_forgetWith 17 = .ok (.getfield 9, 3) := by decide +kernel
theorem dX0_forgetWith_20 : decode cX0_forgetWith 20 = .ok (.iload_n 2, 1) := by decide +kernel
theorem dX0_forgetWith_21 : decode cX0_forgetWith 21 = .ok (.iconst (-1), 1) := by decide +kernel
theorem dX0_forgetWith_22 : decode cX0_forgetWith 22 = .ok (.iastore, 1) := by decide +kernel
theorem dX0_forgetWith_23 : decode cX0_forgetWith 23 = .ok (.iinc 2 1, 3) := by decide +kernel
theorem dX0_forgetWith_26 : decode cX0_forgetWith 26 = .ok (.goto (-24), 3) := by decide +kernel
theorem dX0_forgetWith_29 : decode cX0_forgetWith 29 = .ok (.return_, 1) := by decide +kernel
theorem dX0_learnAll_0 : decode cX0_learnAll 0 = .ok (.iconst 1, 1) := by decide +kernel
theorem dX0_learnAll_1 : decode cX0_learnAll 1 = .ok (.istore_n 2, 1) := by decide +kernel
theorem dX0_learnAll_2 : decode cX0_learnAll 2 = .ok (.iload_n 2, 1) := by decide +kernel
theorem dX0_learnAll_3 : decode cX0_learnAll 3 = .ok (.iload_n 1, 1) := by decide +kernel
theorem dX0_learnAll_4 : decode cX0_learnAll 4 = .ok (.if_icmp .gt 30, 3) := by decide +kernel
theorem dX0_learnAll_7 : decode cX0_learnAll 7 = .ok (.iload_n 2, 1) := by decide +kernel
theorem dX0_learnAll_8 : decode cX0_learnAll 8 = .ok (.iload_n 1, 1) := by decide +kernel
theorem dX0_learnAll_9 : decode cX0_learnAll 9 = .ok (.iconst (-1), 1) := by decide +kernel
theorem dX0_learnAll_10 : decode cX0_learnAll 10 = .ok (.ixor, 1) := by decide +kernel
theorem dX0_learnAll_11 : decode cX0_learnAll 11 = .ok (.iand, 1) := by decide +kernel
theorem dX0_learnAll_12 : decode cX0_learnAll 12 = .ok (.ifCond .ne 16, 3) := by decide +kernel
theorem dX0_learnAll_15 : decode cX0_learnAll 15 = .ok (.iload_n 2, 1) := by decide +kernel
theorem dX0_learnAll_16 : decode cX0_learnAll 16 = .ok (.invokestatic 28, 3) := by decide +kernel
theorem dX0_learnAll_19 : decode cX0_learnAll 19 = .ok (.iconst 4, 1) := by decide +kernel
theorem dX0_learnAll_20 : decode cX0_learnAll 20 = .ok (.if_icmp .gt 8, 3) := by decide +kernel
theorem dX0_learnAll_23 : decode cX0_learnAll 23 = .ok (.aload_n 0, 1) := by decide +kernel
theorem dX0_learnAll_24 : decode cX0_learnAll 24 = .ok (.iload_n 2, 1) := by decide +kernel
theorem dX0_learnAll_25 : decode cX0_learnAll 25 = .ok (.invokevirtual 34, 3) := by decide +kernel
theorem dX0_learnAll_28 : decode cX0_learnAll 28 = .ok (.iinc 2 1, 3) := by decide +kernel
theorem dX0_learnAll_31 : decode cX0_learnAll 31 = .ok (.goto (-29), 3) := by decide +kernel
theorem dX0_learnAll_34 : decode cX0_learnAll 34 = .ok (.return_, 1) := by decide +kernel
theorem dX0_learn_0 : decode cX0_learn 0 = .ok (.aload_n 0, 1) := by decide +kernel
theorem dX0_learn_1 : decode cX0_learn 1 = .ok (.getfield 9, 3) := by decide +kernel
theorem dX0_learn_4 : decode cX0_learn 4 = .ok (.iload_n 1, 1) := by decide +kernel
theorem dX0_learn_5 : decode cX0_learn 5 = .ok (.iaload, 1) := by decide +kernel
theorem dX0_learn_6 : decode cX0_learn 6 = .ok (.iconst (-1), 1) := by decide +kernel
theorem dX0_learn_7 : decode cX0_learn 7 = .ok (.if_icmp .eq 4, 3) := by decide +kernel
theorem dX0_learn_10 : decode cX0_learn 10 = .ok (.return_, 1) := by decide +kernel
theorem dX0_learn_11 : decode cX0_learn 11 = .ok (.aload_n 0, 1) := by decide +kernel
theorem dX0_learn_12 : decode cX0_learn 12 = .ok (.getfield 9, 3) := by decide +kernel
theorem dX0_learn_15 : decode cX0_learn 15 = .ok (.iload_n 1, 1) := by decide +kernel
theorem dX0_learn_16 : decode cX0_learn 16 = .ok (.bipush (-9), 2) := by decide +kernel
theorem dX0_learn_18 : decode cX0_learn 18 = .ok (.iastore, 1) := by decide +kernel
theorem dX0_learn_19 : decode cX0_learn 19 = .ok (.aload_n 0, 1) := by decide +kernel
theorem dX0_learn_20 : decode cX0_learn 20 = .ok (.getfield 15, 3) := by decide +kernel
theorem dX0_learn_23 : decode cX0_learn 23 = .ok (.iload_n 1, 1) := by decide +kernel
theorem dX0_learn_24 : decode cX0_learn 24 = .ok (.bipush (-9), 2) := by decide +kernel
theorem dX0_learn_26 : decode cX0_learn 26 = .ok (.iastore, 1) := by decide +kernel
theorem dX0_learn_27 : decode cX0_learn 27 = .ok (.iconst 0, 1) := by decide +kernel
theorem dX0_learn_28 : decode cX0_learn 28 = .ok (.istore_n 2, 1) := by decide +kernel
theorem dX0_learn_29 : decode cX0_learn 29 = .ok (.iload_n 2, 1) := by decide +kernel
theorem dX0_learn_30 : decode cX0_learn 30 = .ok (.bipush 9, 2) := by decide +kernel
theorem dX0_learn_32 : decode cX0_learn 32 = .ok (.if_icmp .ge 45, 3) := by decide +kernel
theorem dX0_learn_35 : decode cX0_learn 35 = .ok (.iload_n 1, 1) := by decide +kernel
theorem dX0_learn_36 : decode cX0_learn 36 = .ok (.iload_n 2, 1) := by decide +kernel
theorem dX0_learn_37 : decode cX0_learn 37 = .ok (.invokestatic 38, 3) := by decide +kernel
theorem dX0_learn_40 : decode cX0_learn 40 = .ok (.ifCond .eq 31, 3) := by decide +kernel
theorem dX0_learn_43 : decode cX0_learn 43 = .ok (.aload_n 0, 1) := by decide +kernel
theorem dX0_learn_44 : decode cX0_learn 44 = .ok (.getfield 18, 3) := by decide +kernel
theorem dX0_learn_47 : decode cX0_learn 47 = .ok (.iload_n 1, 1) := by decide +kernel
theorem dX0_learn_48 : decode cX0_learn 48 = .ok (.iload_n 2, 1) := by decide +kernel
theorem dX0_learn_49 : decode cX0_learn 49 = .ok (.invokevirtual 42, 3) := by decide +kernel
theorem dX0_learn_52 : decode cX0_learn 52 = .ok (.ifCond .ne 19, 3) := by decide +kernel
theorem dX0_learn_55 : decode cX0_learn 55 = .ok (.aload_n 0, 1) := by decide +kernel
theorem dX0_learn_56 : decode cX0_learn 56 = .ok (.iload_n 1, 1) := by decide +kernel
theorem dX0_learn_57 : decode cX0_learn 57 = .ok (.iload_n 2, 1) := by decide +kernel
theorem dX0_learn_58 : decode cX0_learn 58 = .ok (.aload_n 0, 1) := by decide +kernel
theorem dX0_learn_59 : decode cX0_learn 59 = .ok (.getfield 18, 3) := by decide +kernel
theorem dX0_learn_62 : decode cX0_learn 62 = .ok (.invokevirtual 48, 3) := by decide +kernel
theorem dX0_learn_65 : decode cX0_learn 65 = .ok (.getfield 52, 3) := by decide +kernel
theorem dX0_learn_68 : decode cX0_learn 68 = .ok (.invokevirtual 58, 3) := by decide +kernel
theorem dX0_learn_71 : decode cX0_learn 71 = .ok (.iinc 2 1, 3) := by decide +kernel
theorem dX0_learn_74 : decode cX0_learn 74 = .ok (.goto (-45), 3) := by decide +kernel
theorem dX0_learn_77 : decode cX0_learn 77 = .ok (.return_, 1) := by decide +kernel
theorem dX0_takeIfFewer_0 : decode cX0_takeIfFewer 0 = .ok (.aload_n 0, 1) := by decide +kernel
theorem dX0_takeIfFewer_1 : decode cX0_takeIfFewer 1 = .ok (.getfield 9, 3) := by decide +kernel
theorem dX0_takeIfFewer_4 : decode cX0_takeIfFewer 4 = .ok (.iload_n 1, 1) := by decide +kernel
theorem dX0_takeIfFewer_5 : decode cX0_takeIfFewer 5 = .ok (.iaload, 1) := by decide +kernel
theorem dX0_takeIfFewer_6 : decode cX0_takeIfFewer 6 = .ok (.bipush (-9), 2) := by decide +kernel
theorem dX0_takeIfFewer_8 : decode cX0_takeIfFewer 8 = .ok (.if_icmp .eq 13, 3) := by decide +kernel
theorem dX0_takeIfFewer_11 : decode cX0_takeIfFewer 11 = .ok (.iload_n 3, 1) := by decide +kernel
theorem dX0_takeIfFewer_12 : decode cX0_takeIfFewer 12 = .ok (.aload_n 0, 1) := by decide +kernel
theorem dX0_takeIfFewer_13 : decode cX0_takeIfFewer 13 = .ok (.getfield 9, 3) := by decide +kernel
theorem dX0_takeIfFewer_16 : decode cX0_takeIfFewer 16 = .ok (.iload_n 1, 1) := by decide +kernel
theorem dX0_takeIfFewer_17 : decode cX0_takeIfFewer 17 = .ok (.iaload, 1) := by decide +kernel
theorem dX0_takeIfFewer_18 : decode cX0_takeIfFewer 18 = .ok (.if_icmp .ge 17, 3) := by decide +kernel
theorem dX0_takeIfFewer_21 : decode cX0_takeIfFewer 21 = .ok (.aload_n 0, 1) := by decide +kernel
theorem dX0_takeIfFewer_22 : decode cX0_takeIfFewer 22 = .ok (.getfield 9, 3) := by decide +kernel
theorem dX0_takeIfFewer_25 : decode cX0_takeIfFewer 25 = .ok (.iload_n 1, 1) := by decide +kernel
theorem dX0_takeIfFewer_26 : decode cX0_takeIfFewer 26 = .ok (.iload_n 3, 1) := by decide +kernel
theorem dX0_takeIfFewer_27 : decode cX0_takeIfFewer 27 = .ok (.iastore, 1) := by decide +kernel
theorem dX0_takeIfFewer_28 : decode cX0_takeIfFewer 28 = .ok (.aload_n 0, 1) := by decide +kernel
theorem dX0_takeIfFewer_29 : decode cX0_takeIfFewer 29 = .ok (.getfield 15, 3) := by decide +kernel
theorem dX0_takeIfFewer_32 : decode cX0_takeIfFewer 32 = .ok (.iload_n 1, 1) := by decide +kernel
theorem dX0_takeIfFewer_33 : decode cX0_takeIfFewer 33 = .ok (.iload_n 2, 1) := by decide +kernel
theorem dX0_takeIfFewer_34 : decode cX0_takeIfFewer 34 = .ok (.iastore, 1) := by decide +kernel
theorem dX0_takeIfFewer_35 : decode cX0_takeIfFewer 35 = .ok (.return_, 1) := by decide +kernel
theorem dX1_init_0 : decode cX1_init 0 = .ok (.aload_n 0, 1) := by decide +kernel
theorem dX1_init_1 : decode cX1_init 1 = .ok (.invokespecial 3, 3) := by decide +kernel
theorem dX1_init_4 : decode cX1_init 4 = .ok (.aload_n 0, 1) := by decide +kernel
theorem dX1_init_5 : decode cX1_init 5 = .ok (.sipush 512, 3) := by decide +kernel
theorem dX1_init_8 : decode cX1_init 8 = .ok (.newarray .int, 2) := by decide +kernel
theorem dX1_init_10 : decode cX1_init 10 = .ok (.putfield 9, 3) := by decide +kernel
theorem dX1_init_13 : decode cX1_init 13 = .ok (.aload_n 0, 1) := by decide +kernel
theorem dX1_init_14 : decode cX1_init 14 = .ok (.sipush 512, 3) := by decide +kernel
theorem dX1_init_17 : decode cX1_init 17 = .ok (.newarray .int, 2) := by decide +kernel
theorem dX1_init_19 : decode cX1_init 19 = .ok (.putfield 15, 3) := by decide +kernel
theorem dX1_init_22 : decode cX1_init 22 = .ok (.aload_n 0, 1) := by decide +kernel
theorem dX1_init_23 : decode cX1_init 23 = .ok (.aload_n 1, 1) := by decide +kernel
theorem dX1_init_24 : decode cX1_init 24 = .ok (.putfield 18, 3) := by decide +kernel
theorem dX1_init_27 : decode cX1_init 27 = .ok (.return_, 1) := by decide +kernel
theorem dX1_worthOf_0 : decode cX1_worthOf 0 = .ok (.iload_n 0, 1) := by decide +kernel
theorem dX1_worthOf_1 : decode cX1_worthOf 1 = .ok (.ldc 22, 2) := by decide +kernel
theorem dX1_worthOf_3 : decode cX1_worthOf 3 = .ok (.imul, 1) := by decide +kernel
theorem dX1_worthOf_4 : decode cX1_worthOf 4 = .ok (.iload_n 1, 1) := by decide +kernel
theorem dX1_worthOf_5 : decode cX1_worthOf 5 = .ok (.bipush 10, 2) := by decide +kernel
theorem dX1_worthOf_7 : decode cX1_worthOf 7 = .ok (.imul, 1) := by decide +kernel
theorem dX1_worthOf_8 : decode cX1_worthOf 8 = .ok (.iadd, 1) := by decide +kernel
theorem dX1_worthOf_9 : decode cX1_worthOf 9 = .ok (.iload_n 2, 1) := by decide +kernel
theorem dX1_worthOf_10 : decode cX1_worthOf 10 = .ok (.iadd, 1) := by decide +kernel
theorem dX1_worthOf_11 : decode cX1_worthOf 11 = .ok (.ireturn, 1) := by decide +kernel
theorem dX1_findBest_0 : decode cX1_findBest 0 = .ok (.aload_n 0, 1) := by decide +kernel
theorem dX1_findBest_1 : decode cX1_findBest 1 = .ok (.iload_n 1, 1) := by decide +kernel
theorem dX1_findBest_2 : decode cX1_findBest 2 = .ok (.bipush 10, 2) := by decide +kernel
theorem dX1_findBest_4 : decode cX1_findBest 4 = .ok (.invokevirtual 23, 3) := by decide +kernel
theorem dX1_findBest_7 : decode cX1_findBest 7 = .ok (.ireturn, 1) := by decide +kernel
theorem dX1_fewestPools_0 : decode cX1_fewestPools 0 = .ok (.aload_n 0, 1) := by decide +kernel
theorem dX1_fewestPools_1 : decode cX1_fewestPools 1 = .ok (.iload_n 1, 1) := by decide +kernel
theorem dX1_fewestPools_2 : decode cX1_fewestPools 2 = .ok (.iconst 0, 1) := by decide +kernel
theorem dX1_fewestPools_3 : decode cX1_fewestPools 3 = .ok (.invokevirtual 23, 3) := by decide +kernel
theorem dX1_fewestPools_6 : decode cX1_fewestPools 6 = .ok (.istore_n 2, 1) := by decide +kernel
theorem dX1_fewestPools_7 : decode cX1_fewestPools 7 = .ok (.iload_n 2, 1) := by decide +kernel
theorem dX1_fewestPools_8 : decode cX1_fewestPools 8 = .ok (.ldc 22, 2) := by decide +kernel
theorem dX1_fewestPools_10 : decode cX1_fewestPools 10 = .ok (.if_icmp .ge 7, 3) := by decide +kernel
theorem dX1_fewestPools_13 : decode cX1_fewestPools 13 = .ok (.iload_n 2, 1) := by decide +kernel
theorem dX1_fewestPools_14 : decode cX1_fewestPools 14 = .ok (.goto 5, 3) := by decide +kernel
theorem dX1_fewestPools_17 : decode cX1_fewestPools 17 = .ok (.bipush (-9), 2) := by decide +kernel
theorem dX1_fewestPools_19 : decode cX1_fewestPools 19 = .ok (.ireturn, 1) := by decide +kernel
theorem dX1_choiceFor_0 : decode cX1_choiceFor 0 = .ok (.aload_n 0, 1) := by decide +kernel
theorem dX1_choiceFor_1 : decode cX1_choiceFor 1 = .ok (.getfield 15, 3) := by decide +kernel
theorem dX1_choiceFor_4 : decode cX1_choiceFor 4 = .ok (.iload_n 1, 1) := by decide +kernel
theorem dX1_choiceFor_5 : decode cX1_choiceFor 5 = .ok (.iaload, 1) := by decide +kernel
theorem dX1_choiceFor_6 : decode cX1_choiceFor 6 = .ok (.ireturn, 1) := by decide +kernel
theorem dX1_findAll_0 : decode cX1_findAll 0 = .ok (.aload_n 0, 1) := by decide +kernel
theorem dX1_findAll_1 : decode cX1_findAll 1 = .ok (.getfield 9, 3) := by decide +kernel
theorem dX1_findAll_4 : decode cX1_findAll 4 = .ok (.iconst 0, 1) := by decide +kernel
theorem dX1_findAll_5 : decode cX1_findAll 5 = .ok (.iconst 0, 1) := by decide +kernel
theorem dX1_findAll_6 : decode cX1_findAll 6 = .ok (.iastore, 1) := by decide +kernel
theorem dX1_findAll_7 : decode cX1_findAll 7 = .ok (.iconst 1, 1) := by decide +kernel
theorem dX1_findAll_8 : decode cX1_findAll 8 = .ok (.istore_n 3, 1) := by decide +kernel
theorem dX1_findAll_9 : decode cX1_findAll 9 = .ok (.iload_n 3, 1) := by decide +kernel
theorem dX1_findAll_10 : decode cX1_findAll 10 = .ok (.iload_n 1, 1) := by decide +kernel
theorem dX1_findAll_11 : decode cX1_findAll 11 = .ok (.if_icmp .gt 23, 3) := by decide +kernel
theorem dX1_findAll_14 : decode cX1_findAll 14 = .ok (.iload_n 3, 1) := by decide +kernel
theorem dX1_findAll_15 : decode cX1_findAll 15 = .ok (.iload_n 1, 1) := by decide +kernel
theorem dX1_findAll_16 : decode cX1_findAll 16 = .ok (.iconst (-1), 1) := by decide +kernel
theorem dX1_findAll_17 : decode cX1_findAll 17 = .ok (.ixor, 1) := by decide +kernel
theorem dX1_findAll_18 : decode cX1_findAll 18 = .ok (.iand, 1) := by decide +kernel
theorem dX1_findAll_19 : decode cX1_findAll 19 = .ok (.ifCond .ne 9, 3) := by decide +kernel
theorem dX1_findAll_22 : decode cX1_findAll 22 = .ok (.aload_n 0, 1) := by decide +kernel
theorem dX1_findAll_23 : decode cX1_findAll 23 = .ok (.iload_n 3, 1) := by decide +kernel
theorem dX1_findAll_24 : decode cX1_findAll 24 = .ok (.iload_n 2, 1) := by decide +kernel
theorem dX1_findAll_25 : decode cX1_findAll 25 = .ok (.invokevirtual 27, 3) := by decide +kernel
theorem dX1_findAll_28 : decode cX1_findAll 28 = .ok (.iinc 3 1, 3) := by decide +kernel
theorem dX1_findAll_31 : decode cX1_findAll 31 = .ok (.goto (-22), 3) := by decide +kernel
theorem dX1_findAll_34 : decode cX1_findAll 34 = .ok (.aload_n 0, 1) := by decide +kernel
theorem dX1_findAll_35 : decode cX1_findAll 35 = .ok (.getfield 9, 3) := by decide +kernel
theorem dX1_findAll_38 : decode cX1_findAll 38 = .ok (.iload_n 1, 1) := by decide +kernel
theorem dX1_findAll_39 : decode cX1_findAll 39 = .ok (.iaload, 1) := by decide +kernel
theorem dX1_findAll_40 : decode cX1_findAll 40 = .ok (.ireturn, 1) := by decide +kernel
theorem dX1_choose_0 : decode cX1_choose 0 = .ok (.iload_n 1, 1) := by decide +kernel
theorem dX1_choose_1 : decode cX1_choose 1 = .ok (.iload_n 1, 1) := by decide +kernel
theorem dX1_choose_2 : decode cX1_choose 2 = .ok (.ineg, 1) := by decide +kernel
theorem dX1_choose_3 : decode cX1_choose 3 = .ok (.iand, 1) := by decide +kernel
theorem dX1_choose_4 : decode cX1_choose 4 = .ok (.istore_n 3, 1) := by decide +kernel
theorem dX1_choose_5 : decode cX1_choose 5 = .ok (.iload_n 1, 1) := by decide +kernel
theorem dX1_choose_6 : decode cX1_choose 6 = .ok (.iload_n 3, 1) := by decide +kernel
theorem dX1_choose_7 : decode cX1_choose 7 = .ok (.iconst (-1), 1) := by decide +kernel
theorem dX1_choose_8 : decode cX1_choose 8 = .ok (.ixor, 1) := by decide +kernel
theorem dX1_choose_9 : decode cX1_choose 9 = .ok (.iand, 1) := by decide +kernel
theorem dX1_choose_10 : decode cX1_choose 10 = .ok (.istore 4, 2) := by decide +kernel
theorem dX1_choose_12 : decode cX1_choose 12 = .ok (.aload_n 0, 1) := by decide +kernel
theorem dX1_choose_13 : decode cX1_choose 13 = .ok (.getfield 9, 3) := by decide +kernel
theorem dX1_choose_16 : decode cX1_choose 16 = .ok (.iload_n 1, 1) := by decide +kernel
theorem dX1_choose_17 : decode cX1_choose 17 = .ok (.aload_n 0, 1) := by decide +kernel
theorem dX1_choose_18 : decode cX1_choose 18 = .ok (.getfield 9, 3) := by decide +kernel
theorem dX1_choose_21 : decode cX1_choose 21 = .ok (.iload 4, 2) := by decide +kernel
theorem dX1_choose_23 : decode cX1_choose 23 = .ok (.iaload, 1) := by decide +kernel
theorem dX1_choose_24 : decode cX1_choose 24 = .ok (.ldc 22, 2) := by decide +kernel
theorem dX1_choose_26 : decode cX1_choose 26 = .ok (.iadd, 1) := by decide +kernel
theorem dX1_choose_27 : decode cX1_choose 27 = .ok (.iastore, 1) := by decide +kernel
theorem dX1_choose_28 : decode cX1_choose 28 = .ok (.aload_n 0, 1) := by decide +kernel
theorem dX1_choose_29 : decode cX1_choose 29 = .ok (.getfield 15, 3) := by decide +kernel
theorem dX1_choose_32 : decode cX1_choose 32 = .ok (.iload_n 1, 1) := by decide +kernel
theorem dX1_choose_33 : decode cX1_choose 33 = .ok (.iconst 0, 1) := by decide +kernel
theorem dX1_choose_34 : decode cX1_choose 34 = .ok (.iastore, 1) := by decide +kernel
theorem dX1_choose_35 : decode cX1_choose 35 = .ok (.iconst 1, 1) := by decide +kernel
theorem dX1_choose_36 : decode cX1_choose 36 = .ok (.iload 4, 2) := by decide +kernel
theorem dX1_choose_38 : decode cX1_choose 38 = .ok (.invokestatic 31, 3) := by decide +kernel
theorem dX1_choose_41 : decode cX1_choose 41 = .ok (.ishl, 1) := by decide +kernel
theorem dX1_choose_42 : decode cX1_choose 42 = .ok (.istore 5, 2) := by decide +kernel
theorem dX1_choose_44 : decode cX1_choose 44 = .ok (.iconst 0, 1) := by decide +kernel
theorem dX1_choose_45 : decode cX1_choose 45 = .ok (.istore 6, 2) := by decide +kernel
theorem dX1_choose_47 : decode cX1_choose 47 = .ok (.iconst 0, 1) := by decide +kernel
theorem dX1_choose_48 : decode cX1_choose 48 = .ok (.istore 7, 2) := by decide +kernel
theorem dX1_choose_50 : decode cX1_choose 50 = .ok (.iload 7, 2) := by decide +kernel
theorem dX1_choose_52 : decode cX1_choose 52 = .ok (.iload 5, 2) := by decide +kernel
theorem dX1_choose_54 : decode cX1_choose 54 = .ok (.if_icmp .ge 29, 3) := by decide +kernel
theorem dX1_choose_57 : decode cX1_choose 57 = .ok (.aload_n 0, 1) := by decide +kernel
theorem dX1_choose_58 : decode cX1_choose 58 = .ok (.iload_n 1, 1) := by decide +kernel
theorem dX1_choose_59 : decode cX1_choose 59 = .ok (.iload_n 3, 1) := by decide +kernel
theorem dX1_choose_60 : decode cX1_choose 60 = .ok (.iload 6, 2) := by decide +kernel
theorem dX1_choose_62 : decode cX1_choose 62 = .ok (.ior, 1) := by decide +kernel
theorem dX1_choose_63 : decode cX1_choose 63 = .ok (.iload_n 2, 1) := by decide +kernel
theorem dX1_choose_64 : decode cX1_choose 64 = .ok (.invokevirtual 37, 3) := by decide +kernel
theorem dX1_choose_67 : decode cX1_choose 67 = .ok (.iload 6, 2) := by decide +kernel
theorem dX1_choose_69 : decode cX1_choose 69 = .ok (.iload 4, 2) := by decide +kernel
theorem dX1_choose_71 : decode cX1_choose 71 = .ok (.isub, 1) := by decide +kernel
theorem dX1_choose_72 : decode cX1_choose 72 = .ok (.iload 4, 2) := by decide +kernel
theorem dX1_choose_74 : decode cX1_choose 74 = .ok (.iand, 1) := by decide +kernel
theorem dX1_choose_75 : decode cX1_choose 75 = .ok (.istore 6, 2) := by decide +kernel
theorem dX1_choose_77 : decode cX1_choose 77 = .ok (.iinc 7 1, 3) := by decide +kernel
theorem dX1_choose_80 : decode cX1_choose 80 = .ok (.goto (-30), 3) := by decide +kernel
theorem dX1_choose_83 : decode cX1_choose 83 = .ok (.return_, 1) := by decide +kernel
theorem dX1_tryPool_0 : decode cX1_tryPool 0 = .ok (.iload_n 2, 1) := by decide +kernel
theorem dX1_tryPool_1 : decode cX1_tryPool 1 = .ok (.invokestatic 31, 3) := by decide +kernel
theorem dX1_tryPool_4 : decode cX1_tryPool 4 = .ok (.iconst 4, 1) := by decide +kernel
theorem dX1_tryPool_5 : decode cX1_tryPool 5 = .ok (.if_icmp .le 4, 3) := by decide +kernel
theorem dX1_tryPool_8 : decode cX1_tryPool 8 = .ok (.return_, 1) := by decide +kernel
theorem dX1_tryPool_9 : decode cX1_tryPool 9 = .ok (.aload_n 0, 1) := by decide +kernel
theorem dX1_tryPool_10 : decode cX1_tryPool 10 = .ok (.getfield 18, 3) := by decide +kernel
theorem dX1_tryPool_13 : decode cX1_tryPool 13 = .ok (.iload_n 2, 1) := by decide +kernel
theorem dX1_tryPool_14 : decode cX1_tryPool 14 = .ok (.invokevirtual 41, 3) := by decide +kernel
theorem dX1_tryPool_17 : decode cX1_tryPool 17 = .ok (.istore 4, 2) := by decide +kernel
theorem dX1_tryPool_19 : decode cX1_tryPool 19 = .ok (.iload 4, 2) := by decide +kernel
theorem dX1_tryPool_21 : decode cX1_tryPool 21 = .ok (.ifCond .ge 4, 3) := by decide +kernel
theorem dX1_tryPool_24 : decode cX1_tryPool 24 = .ok (.return_, 1) := by decide +kernel
theorem dX1_tryPool_25 : decode cX1_tryPool 25 = .ok (.aload_n 0, 1) := by decide +kernel
theorem dX1_tryPool_26 : decode cX1_tryPool 26 = .ok (.getfield 9, 3) := by decide +kernel
theorem dX1_tryPool_29 : decode cX1_tryPool 29 = .ok (.iload_n 1, 1) := by decide +kernel
theorem dX1_tryPool_30 : decode cX1_tryPool 30 = .ok (.iload_n 2, 1) := by decide +kernel
theorem dX1_tryPool_31 : decode cX1_tryPool 31 = .ok (.iconst (-1), 1) := by decide +kernel
theorem dX1_tryPool_32 : decode cX1_tryPool 32 = .ok (.ixor, 1) := by decide +kernel
theorem dX1_tryPool_33 : decode cX1_tryPool 33 = .ok (.iand, 1) := by decide +kernel
theorem dX1_tryPool_34 : decode cX1_tryPool 34 = .ok (.iaload, 1) := by decide +kernel
theorem dX1_tryPool_35 : decode cX1_tryPool 35 = .ok (.iload 4, 2) := by decide +kernel
theorem dX1_tryPool_37 : decode cX1_tryPool 37 = .ok (.iload_n 3, 1) := by decide +kernel
theorem dX1_tryPool_38 : decode cX1_tryPool 38 = .ok (.imul, 1) := by decide +kernel
theorem dX1_tryPool_39 : decode cX1_tryPool 39 = .ok (.iadd, 1) := by decide +kernel
theorem dX1_tryPool_40 : decode cX1_tryPool 40 = .ok (.iconst 1, 1) := by decide +kernel
theorem dX1_tryPool_41 : decode cX1_tryPool 41 = .ok (.iadd, 1) := by decide +kernel
theorem dX1_tryPool_42 : decode cX1_tryPool 42 = .ok (.istore 5, 2) := by decide +kernel
theorem dX1_tryPool_44 : decode cX1_tryPool 44 = .ok (.iload 5, 2) := by decide +kernel
theorem dX1_tryPool_46 : decode cX1_tryPool 46 = .ok (.aload_n 0, 1) := by decide +kernel
theorem dX1_tryPool_47 : decode cX1_tryPool 47 = .ok (.getfield 9, 3) := by decide +kernel
theorem dX1_tryPool_50 : decode cX1_tryPool 50 = .ok (.iload_n 1, 1) := by decide +kernel
theorem dX1_tryPool_51 : decode cX1_tryPool 51 = .ok (.iaload, 1) := by decide +kernel
theorem dX1_tryPool_52 : decode cX1_tryPool 52 = .ok (.if_icmp .ge 18, 3) := by decide +kernel
theorem dX1_tryPool_55 : decode cX1_tryPool 55 = .ok (.aload_n 0, 1) := by decide +kernel
theorem dX1_tryPool_56 : decode cX1_tryPool 56 = .ok (.getfield 9, 3) := by decide +kernel
theorem dX1_tryPool_59 : decode cX1_tryPool 59 = .ok (.iload_n 1, 1) := by decide +kernel
theorem dX1_tryPool_60 : decode cX1_tryPool 60 = .ok (.iload 5, 2) := by decide +kernel
theorem dX1_tryPool_62 : decode cX1_tryPool 62 = .ok (.iastore, 1) := by decide +kernel
theorem dX1_tryPool_63 : decode cX1_tryPool 63 = .ok (.aload_n 0, 1) := by decide +kernel
theorem dX1_tryPool_64 : decode cX1_tryPool 64 = .ok (.getfield 15, 3) := by decide +kernel
theorem dX1_tryPool_67 : decode cX1_tryPool 67 = .ok (.iload_n 1, 1) := by decide +kernel
theorem dX1_tryPool_68 : decode cX1_tryPool 68 = .ok (.iload_n 2, 1) := by decide +kernel
theorem dX1_tryPool_69 : decode cX1_tryPool 69 = .ok (.iastore, 1) := by decide +kernel
theorem dX1_tryPool_70 : decode cX1_tryPool 70 = .ok (.return_, 1) := by decide +kernel
theorem dX2_init_0 : decode cX2_init 0 = .ok (.aload_n 0, 1) := by decide +kernel
theorem dX2_init_1 : decode cX2_init 1 = .ok (.invokespecial 3, 3) := by decide +kernel
theorem dX2_init_4 : decode cX2_init 4 = .ok (.aload_n 0, 1) := by decide +kernel
theorem dX2_init_5 : decode cX2_init 5 = .ok (.bipush 9, 2) := by decide +kernel
theorem dX2_init_7 : decode cX2_init 7 = .ok (.anewarray 9, 3) := by decide +kernel
theorem dX2_init_10 : decode cX2_init 10 = .ok (.putfield 11, 3) := by decide +kernel
theorem dX2_init_13 : decode cX2_init 13 = .ok (.iconst 0, 1) := by decide +kernel
theorem dX2_init_14 : decode cX2_init 14 = .ok (.istore_n 1, 1) := by decide +kernel
theorem dX2_init_15 : decode cX2_init 15 = .ok (.iload_n 1, 1) := by decide +kernel
theorem dX2_init_16 : decode cX2_init 16 = .ok (.bipush 9, 2) := by decide +kernel
theorem dX2_init_18 : decode cX2_init 18 = .ok (.if_icmp .ge 22, 3) := by decide +kernel
theorem dX2_init_21 : decode cX2_init 21 = .ok (.aload_n 0, 1) := by decide +kernel
theorem dX2_init_22 : decode cX2_init 22 = .ok (.getfield 11, 3) := by decide +kernel
theorem dX2_init_25 : decode cX2_init 25 = .ok (.iload_n 1, 1) := by decide +kernel
theorem dX2_init_26 : decode cX2_init 26 = .ok (.new 9, 3) := by decide +kernel
theorem dX2_init_29 : decode cX2_init 29 = .ok (.dup, 1) := by decide +kernel
theorem dX2_init_30 : decode cX2_init 30 = .ok (.invokespecial 17, 3) := by decide +kernel
theorem dX2_init_33 : decode cX2_init 33 = .ok (.aastore, 1) := by decide +kernel
theorem dX2_init_34 : decode cX2_init 34 = .ok (.iinc 1 1, 3) := by decide +kernel
theorem dX2_init_37 : decode cX2_init 37 = .ok (.goto (-22), 3) := by decide +kernel
theorem dX2_init_40 : decode cX2_init 40 = .ok (.aload_n 0, 1) := by decide +kernel
theorem dX2_init_41 : decode cX2_init 41 = .ok (.iconst 0, 1) := by decide +kernel
theorem dX2_init_42 : decode cX2_init 42 = .ok (.putfield 18, 3) := by decide +kernel
theorem dX2_init_45 : decode cX2_init 45 = .ok (.return_, 1) := by decide +kernel
theorem dX2_size_0 : decode cX2_size 0 = .ok (.aload_n 0, 1) := by decide +kernel
theorem dX2_size_1 : decode cX2_size 1 = .ok (.getfield 18, 3) := by decide +kernel
theorem dX2_size_4 : decode cX2_size 4 = .ok (.ireturn, 1) := by decide +kernel
theorem dX2_isFull_0 : decode cX2_isFull 0 = .ok (.aload_n 0, 1) := by decide +kernel
theorem dX2_isFull_1 : decode cX2_isFull 1 = .ok (.getfield 18, 3) := by decide +kernel
theorem dX2_isFull_4 : decode cX2_isFull 4 = .ok (.bipush 9, 2) := by decide +kernel
theorem dX2_isFull_6 : decode cX2_isFull 6 = .ok (.if_icmp .lt 7, 3) := by decide +kernel
theorem dX2_isFull_9 : decode cX2_isFull 9 = .ok (.iconst 1, 1) := by decide +kernel
theorem dX2_isFull_10 : decode cX2_isFull 10 = .ok (.goto 4, 3) := by decide +kernel
theorem dX2_isFull_13 : decode cX2_isFull 13 = .ok (.iconst 0, 1) := by decide +kernel
theorem dX2_isFull_14 : decode cX2_isFull 14 = .ok (.ireturn, 1) := by decide +kernel
theorem dX2_has_0 : decode cX2_has 0 = .ok (.iload_n 1, 1) := by decide +kernel
theorem dX2_has_1 : decode cX2_has 1 = .ok (.ifCond .lt 15, 3) := by decide +kernel
theorem dX2_has_4 : decode cX2_has 4 = .ok (.iload_n 1, 1) := by decide +kernel
theorem dX2_has_5 : decode cX2_has 5 = .ok (.aload_n 0, 1) := by decide +kernel
theorem dX2_has_6 : decode cX2_has 6 = .ok (.getfield 18, 3) := by decide +kernel
theorem dX2_has_9 : decode cX2_has 9 = .ok (.if_icmp .ge 7, 3) := by decide +kernel
theorem dX2_has_12 : decode cX2_has 12 = .ok (.iconst 1, 1) := by decide +kernel
theorem dX2_has_13 : decode cX2_has 13 = .ok (.goto 4, 3) := by decide +kernel
theorem dX2_has_16 : decode cX2_has 16 = .ok (.iconst 0, 1) := by decide +kernel
theorem dX2_has_17 : decode cX2_has 17 = .ok (.ireturn, 1) := by decide +kernel
theorem dX2_hasAll_0 : decode cX2_hasAll 0 = .ok (.iload_n 1, 1) := by decide +kernel
theorem dX2_hasAll_1 : decode cX2_hasAll 1 = .ok (.ifCond .le 16, 3) := by decide +kernel
theorem dX2_hasAll_4 : decode cX2_hasAll 4 = .ok (.iload_n 1, 1) := by decide +kernel
theorem dX2_hasAll_5 : decode cX2_hasAll 5 = .ok (.aload_n 0, 1) := by decide +kernel
theorem dX2_hasAll_6 : decode cX2_hasAll 6 = .ok (.getfield 18, 3) := by decide +kernel
theorem dX2_hasAll_9 : decode cX2_hasAll 9 = .ok (.ishr, 1) := by decide +kernel
theorem dX2_hasAll_10 : decode cX2_hasAll 10 = .ok (.ifCond .ne 7, 3) := by decide +kernel
theorem dX2_hasAll_13 : decode cX2_hasAll 13 = .ok (.iconst 1, 1) := by decide +kernel
theorem dX2_hasAll_14 : decode cX2_hasAll 14 = .ok (.goto 4, 3) := by decide +kernel
theorem dX2_hasAll_17 : decode cX2_hasAll 17 = .ok (.iconst 0, 1) := by decide +kernel
theorem dX2_hasAll_18 : decode cX2_hasAll 18 = .ok (.ireturn, 1) := by decide +kernel
theorem dX2_at_0 : decode cX2_at 0 = .ok (.aload_n 0, 1) := by decide +kernel
theorem dX2_at_1 : decode cX2_at 1 = .ok (.getfield 11, 3) := by decide +kernel
theorem dX2_at_4 : decode cX2_at 4 = .ok (.iload_n 1, 1) := by decide +kernel
theorem dX2_at_5 : decode cX2_at 5 = .ok (.aaload, 1) := by decide +kernel
theorem dX2_at_6 : decode cX2_at 6 = .ok (.areturn, 1) := by decide +kernel
theorem dX2_addOne_0 : decode cX2_addOne 0 = .ok (.aload_n 0, 1) := by decide +kernel
theorem dX2_addOne_1 : decode cX2_addOne 1 = .ok (.dup, 1) := by decide +kernel
theorem dX2_addOne_2 : decode cX2_addOne 2 = .ok (.getfield 18, 3) := by decide +kernel
theorem dX2_addOne_5 : decode cX2_addOne 5 = .ok (.iconst 1, 1) := by decide +kernel
theorem dX2_addOne_6 : decode cX2_addOne 6 = .ok (.iadd, 1) := by decide +kernel
theorem dX2_addOne_7 : decode cX2_addOne 7 = .ok (.putfield 18, 3) := by decide +kernel
theorem dX2_addOne_10 : decode cX2_addOne 10 = .ok (.aload_n 0, 1) := by decide +kernel
theorem dX2_addOne_11 : decode cX2_addOne 11 = .ok (.getfield 18, 3) := by decide +kernel
theorem dX2_addOne_14 : decode cX2_addOne 14 = .ok (.iconst 1, 1) := by decide +kernel
theorem dX2_addOne_15 : decode cX2_addOne 15 = .ok (.isub, 1) := by decide +kernel
theorem dX2_addOne_16 : decode cX2_addOne 16 = .ok (.ireturn, 1) := by decide +kernel
theorem dX2_notAway_0 : decode cX2_notAway 0 = .ok (.iconst 0, 1) := by decide +kernel
theorem dX2_notAway_1 : decode cX2_notAway 1 = .ok (.istore_n 1, 1) := by decide +kernel
theorem dX2_notAway_2 : decode cX2_notAway 2 = .ok (.iconst 0, 1) := by decide +kernel
theorem dX2_notAway_3 : decode cX2_notAway 3 = .ok (.istore_n 2, 1) := by decide +kernel
theorem dX2_notAway_4 : decode cX2_notAway 4 = .ok (.iload_n 2, 1) := by decide +kernel
theorem dX2_notAway_5 : decode cX2_notAway 5 = .ok (.aload_n 0, 1) := by decide +kernel
theorem dX2_notAway_6 : decode cX2_notAway 6 = .ok (.getfield 18, 3) := by decide +kernel
theorem dX2_notAway_9 : decode cX2_notAway 9 = .ok (.if_icmp .ge 27, 3) := by decide +kernel
theorem dX2_notAway_12 : decode cX2_notAway 12 = .ok (.aload_n 0, 1) := by decide +kernel
theorem dX2_notAway_13 : decode cX2_notAway 13 = .ok (.getfield 11, 3) := by decide +kernel
theorem dX2_notAway_16 : decode cX2_notAway 16 = .ok (.iload_n 2, 1) := by decide +kernel
theorem dX2_notAway_17 : decode cX2_notAway 17 = .ok (.aaload, 1) := by decide +kernel
theorem dX2_notAway_18 : decode cX2_notAway 18 = .ok (.getfield 22, 3) := by decide +kernel
theorem dX2_notAway_21 : decode cX2_notAway 21 = .ok (.ifCond .ne 9, 3) := by decide +kernel
theorem dX2_notAway_24 : decode cX2_notAway 24 = .ok (.iload_n 1, 1) := by decide +kernel
theorem dX2_notAway_25 : decode cX2_notAway 25 = .ok (.iconst 1, 1) := by decide +kernel
theorem dX2_notAway_26 : decode cX2_notAway 26 = .ok (.iload_n 2, 1) := by decide +kernel
theorem dX2_notAway_27 : decode cX2_notAway 27 = .ok (.ishl, 1) := by decide +kernel
theorem dX2_notAway_28 : decode cX2_notAway 28 = .ok (.ior, 1) := by decide +kernel
theorem dX2_notAway_29 : decode cX2_notAway 29 = .ok (.istore_n 1, 1) := by decide +kernel
theorem dX2_notAway_30 : decode cX2_notAway 30 = .ok (.iinc 2 1, 3) := by decide +kernel
theorem dX2_notAway_33 : decode cX2_notAway 33 = .ok (.goto (-29), 3) := by decide +kernel
theorem dX2_notAway_36 : decode cX2_notAway 36 = .ok (.iload_n 1, 1) := by decide +kernel
theorem dX2_notAway_37 : decode cX2_notAway 37 = .ok (.ireturn, 1) := by decide +kernel
theorem dX2_someAway_0 : decode cX2_someAway 0 = .ok (.iload_n 1, 1) := by decide +kernel
theorem dX2_someAway_1 : decode cX2_someAway 1 = .ok (.aload_n 0, 1) := by decide +kernel
theorem dX2_someAway_2 : decode cX2_someAway 2 = .ok (.invokevirtual 26, 3) := by decide +kernel
theorem dX2_someAway_5 : decode cX2_someAway 5 = .ok (.iconst (-1), 1) := by decide +kernel
theorem dX2_someAway_6 : decode cX2_someAway 6 = .ok (.ixor, 1) := by decide +kernel
theorem dX2_someAway_7 : decode cX2_someAway 7 = .ok (.iand, 1) := by decide +kernel
theorem dX2_someAway_8 : decode cX2_someAway 8 = .ok (.ifCond .eq 7, 3) := by decide +kernel
theorem dX2_someAway_11 : decode cX2_someAway 11 = .ok (.iconst 1, 1) := by decide +kernel
theorem dX2_someAway_12 : decode cX2_someAway 12 = .ok (.goto 4, 3) := by decide +kernel
theorem dX2_someAway_15 : decode cX2_someAway 15 = .ok (.iconst 0, 1) := by decide +kernel
theorem dX2_someAway_16 : decode cX2_someAway 16 = .ok (.ireturn, 1) := by decide +kernel
theorem dX2_withCar_0 : decode cX2_withCar 0 = .ok (.iconst 0, 1) := by decide +kernel
theorem dX2_withCar_1 : decode cX2_withCar 1 = .ok (.istore_n 1, 1) := by decide +kernel
theorem dX2_withCar_2 : decode cX2_withCar 2 = .ok (.iconst 0, 1) := by decide +kernel
theorem dX2_withCar_3 : decode cX2_withCar 3 = .ok (.istore_n 2, 1) := by decide +kernel
theorem dX2_withCar_4 : decode cX2_withCar 4 = .ok (.iload_n 2, 1) := by decide +kernel
theorem dX2_withCar_5 : decode cX2_withCar 5 = .ok (.aload_n 0, 1) := by decide +kernel
theorem dX2_withCar_6 : decode cX2_withCar 6 = .ok (.getfield 18, 3) := by decide +kernel
theorem dX2_withCar_9 : decode cX2_withCar 9 = .ok (.if_icmp .ge 24, 3) := by decide +kernel
theorem dX2_withCar_12 : decode cX2_withCar 12 = .ok (.aload_n 0, 1) := by decide +kernel
theorem dX2_withCar_13 : decode cX2_withCar 13 = .ok (.getfield 11, 3) := by decide +kernel
theorem dX2_withCar_16 : decode cX2_withCar 16 = .ok (.iload_n 2, 1) := by decide +kernel
theorem dX2_withCar_17 : decode cX2_withCar 17 = .ok (.aaload, 1) := by decide +kernel
theorem dX2_withCar_18 : decode cX2_withCar 18 = .ok (.invokevirtual 30, 3) := by decide +kernel
theorem dX2_withCar_21 : decode cX2_withCar 21 = .ok (.ifCond .eq 6, 3) := by decide +kernel
theorem dX2_withCar_24 : decode cX2_withCar 24 = .ok (.iinc 1 1, 3) := by decide +kernel
theorem dX2_withCar_27 : decode cX2_withCar 27 = .ok (.iinc 2 1, 3) := by decide +kernel
theorem dX2_withCar_30 : decode cX2_withCar 30 = .ok (.goto (-26), 3) := by decide +kernel
theorem dX2_withCar_33 : decode cX2_withCar 33 = .ok (.iload_n 1, 1) := by decide +kernel
theorem dX2_withCar_34 : decode cX2_withCar 34 = .ok (.ireturn, 1) := by decide +kernel
theorem dX2_seatsSuffice_0 : decode cX2_seatsSuffice 0 = .ok (.iconst 0, 1) := by decide +kernel
theorem dX2_seatsSuffice_1 : decode cX2_seatsSuffice 1 = .ok (.istore_n 3, 1) := by decide +kernel
theorem dX2_seatsSuffice_2 : decode cX2_seatsSuffice 2 = .ok (.iconst 0, 1) := by decide +kernel
theorem dX2_seatsSuffice_3 : decode cX2_seatsSuffice 3 = .ok (.istore 4, 2) := by decide +kernel
theorem dX2_seatsSuffice_5 : decode cX2_seatsSuffice 5 = .ok (.iload 4, 2) := by decide +kernel
theorem dX2_seatsSuffice_7 : decode cX2_seatsSuffice 7 = .ok (.aload_n 0, 1) := by decide +kernel
theorem dX2_seatsSuffice_8 : decode cX2_seatsSuffice 8 = .ok (.getfield 18, 3) := by decide +kernel
theorem dX2_seatsSuffice_11 : decode cX2_seatsSuffice 11 = .ok (.if_icmp .ge 31, 3) := by decide +kernel
theorem dX2_seatsSuffice_14 : decode cX2_seatsSuffice 14 = .ok (.iload_n 1, 1) := by decide +kernel
theorem dX2_seatsSuffice_15 : decode cX2_seatsSuffice 15 = .ok (.iload 4, 2) := by decide +kernel
theorem dX2_seatsSuffice_17 : decode cX2_seatsSuffice 17 = .ok (.invokestatic 34, 3) := by decide +kernel
theorem dX2_seatsSuffice_20 : decode cX2_seatsSuffice 20 = .ok (.ifCond .eq 16, 3) := by decide +kernel
theorem dX2_seatsSuffice_23 : decode cX2_seatsSuffice 23 = .ok (.iload_n 3, 1) := by decide +kernel
theorem dX2_seatsSuffice_24 : decode cX2_seatsSuffice 24 = .ok (.aload_n 0, 1) := by decide +kernel
theorem dX2_seatsSuffice_25 : decode cX2_seatsSuffice 25 = .ok (.getfield 11, 3) := by decide +kernel
theorem dX2_seatsSuffice_28 : decode cX2_seatsSuffice 28 = .ok (.iload 4, 2) := by decide +kernel
theorem dX2_seatsSuffice_30 : decode cX2_seatsSuffice 30 = .ok (.aaload, 1) := by decide +kernel
theorem dX2_seatsSuffice_31 : decode cX2_seatsSuffice 31 = .ok (.invokevirtual 38, 3) := by decide +kernel
theorem dX2_seatsSuffice_34 : decode cX2_seatsSuffice 34 = .ok (.iadd, 1) := by decide +kernel
theorem dX2_seatsSuffice_35 : decode cX2_seatsSuffice 35 = .ok (.istore_n 3, 1) := by decide +kernel
theorem dX2_seatsSuffice_36 : decode cX2_seatsSuffice 36 = .ok (.iinc 4 1, 3) := by decide +kernel
theorem dX2_seatsSuffice_39 : decode cX2_seatsSuffice 39 = .ok (.goto (-34), 3) := by decide +kernel
theorem dX2_seatsSuffice_42 : decode cX2_seatsSuffice 42 = .ok (.iload_n 3, 1) := by decide +kernel
theorem dX2_seatsSuffice_43 : decode cX2_seatsSuffice 43 = .ok (.aload_n 0, 1) := by decide +kernel
theorem dX2_seatsSuffice_44 : decode cX2_seatsSuffice 44 = .ok (.getfield 11, 3) := by decide +kernel
theorem dX2_seatsSuffice_47 : decode cX2_seatsSuffice 47 = .ok (.iload_n 2, 1) := by decide +kernel
theorem dX2_seatsSuffice_48 : decode cX2_seatsSuffice 48 = .ok (.aaload, 1) := by decide +kernel
theorem dX2_seatsSuffice_49 : decode cX2_seatsSuffice 49 = .ok (.getfield 41, 3) := by decide +kernel
theorem dX2_seatsSuffice_52 : decode cX2_seatsSuffice 52 = .ok (.if_icmp .gt 7, 3) := by decide +kernel
theorem dX2_seatsSuffice_55 : decode cX2_seatsSuffice 55 = .ok (.iconst 1, 1) := by decide +kernel
theorem dX2_seatsSuffice_56 : decode cX2_seatsSuffice 56 = .ok (.goto 4, 3) := by decide +kernel
theorem dX2_seatsSuffice_59 : decode cX2_seatsSuffice 59 = .ok (.iconst 0, 1) := by decide +kernel
theorem dX2_seatsSuffice_60 : decode cX2_seatsSuffice 60 = .ok (.ireturn, 1) := by decide +kernel
theorem dX2_hasBar_0 : decode cX2_hasBar 0 = .ok (.iconst 0, 1) := by decide +kernel
theorem dX2_hasBar_1 : decode cX2_hasBar 1 = .ok (.istore_n 2, 1) := by decide +kernel
theorem dX2_hasBar_2 : decode cX2_hasBar 2 = .ok (.iload_n 2, 1) := by decide +kernel
theorem dX2_hasBar_3 : decode cX2_hasBar 3 = .ok (.aload_n 0, 1) := by decide +kernel
theorem dX2_hasBar_4 : decode cX2_hasBar 4 = .ok (.getfield 18, 3) := by decide +kernel
theorem dX2_hasBar_7 : decode cX2_hasBar 7 = .ok (.if_icmp .ge 33, 3) := by decide +kernel
theorem dX2_hasBar_10 : decode cX2_hasBar 10 = .ok (.iload_n 1, 1) := by decide +kernel
theorem dX2_hasBar_11 : decode cX2_hasBar 11 = .ok (.iload_n 2, 1) := by decide +kernel
theorem dX2_hasBar_12 : decode cX2_hasBar 12 = .ok (.invokestatic 34, 3) := by decide +kernel
theorem dX2_hasBar_15 : decode cX2_hasBar 15 = .ok (.ifCond .eq 19, 3) := by decide +kernel
theorem dX2_hasBar_18 : decode cX2_hasBar 18 = .ok (.aload_n 0, 1) := by decide +kernel
theorem dX2_hasBar_19 : decode cX2_hasBar 19 = .ok (.getfield 11, 3) := by decide +kernel
theorem dX2_hasBar_22 : decode cX2_hasBar 22 = .ok (.iload_n 2, 1) := by decide +kernel
theorem dX2_hasBar_23 : decode cX2_hasBar 23 = .ok (.aaload, 1) := by decide +kernel
theorem dX2_hasBar_24 : decode cX2_hasBar 24 = .ok (.getfield 44, 3) := by decide +kernel
theorem dX2_hasBar_27 : decode cX2_hasBar 27 = .ok (.iload_n 1, 1) := by decide +kernel
theorem dX2_hasBar_28 : decode cX2_hasBar 28 = .ok (.iand, 1) := by decide +kernel
theorem dX2_hasBar_29 : decode cX2_hasBar 29 = .ok (.ifCond .eq 5, 3) := by decide +kernel
theorem dX2_hasBar_32 : decode cX2_hasBar 32 = .ok (.iconst 1, 1) := by decide +kernel
theorem dX2_hasBar_33 : decode cX2_hasBar 33 = .ok (.ireturn, 1) := by decide +kernel
theorem dX2_hasBar_34 : decode cX2_hasBar 34 = .ok (.iinc 2 1, 3) := by decide +kernel
theorem dX2_hasBar_37 : decode cX2_hasBar 37 = .ok (.goto (-35), 3) := by decide +kernel
theorem dX2_hasBar_40 : decode cX2_hasBar 40 = .ok (.iconst 0, 1) := by decide +kernel
theorem dX2_hasBar_41 : decode cX2_hasBar 41 = .ok (.ireturn, 1) := by decide +kernel
theorem dX3_init_0 : decode cX3_init 0 = .ok (.aload_n 0, 1) := by decide +kernel
theorem dX3_init_1 : decode cX3_init 1 = .ok (.invokespecial 3, 3) := by decide +kernel
theorem dX3_init_4 : decode cX3_init 4 = .ok (.return_, 1) := by decide +kernel
theorem dX3_hasCar_0 : decode cX3_hasCar 0 = .ok (.aload_n 0, 1) := by decide +kernel
theorem dX3_hasCar_1 : decode cX3_hasCar 1 = .ok (.getfield 9, 3) := by decide +kernel
theorem dX3_hasCar_4 : decode cX3_hasCar 4 = .ok (.ifCond .le 14, 3) := by decide +kernel
theorem dX3_hasCar_7 : decode cX3_hasCar 7 = .ok (.aload_n 0, 1) := by decide +kernel
theorem dX3_hasCar_8 : decode cX3_hasCar 8 = .ok (.getfield 15, 3) := by decide +kernel
theorem dX3_hasCar_11 : decode cX3_hasCar 11 = .ok (.ifCond .ne 7, 3) := by decide +kernel
theorem dX3_hasCar_14 : decode cX3_hasCar 14 = .ok (.iconst 1, 1) := by decide +kernel
theorem dX3_hasCar_15 : decode cX3_hasCar 15 = .ok (.goto 4, 3) := by decide +kernel
theorem dX3_hasCar_18 : decode cX3_hasCar 18 = .ok (.iconst 0, 1) := by decide +kernel
theorem dX3_hasCar_19 : decode cX3_hasCar 19 = .ok (.ireturn, 1) := by decide +kernel
theorem dX3_seatsTaken_0 : decode cX3_seatsTaken 0 = .ok (.aload_n 0, 1) := by decide +kernel
theorem dX3_seatsTaken_1 : decode cX3_seatsTaken 1 = .ok (.getfield 19, 3) := by decide +kernel
theorem dX3_seatsTaken_4 : decode cX3_seatsTaken 4 = .ok (.iconst 1, 1) := by decide +kernel
theorem dX3_seatsTaken_5 : decode cX3_seatsTaken 5 = .ok (.if_icmp .ne 7, 3) := by decide +kernel
theorem dX3_seatsTaken_8 : decode cX3_seatsTaken 8 = .ok (.iconst 2, 1) := by decide +kernel
theorem dX3_seatsTaken_9 : decode cX3_seatsTaken 9 = .ok (.goto 4, 3) := by decide +kernel
theorem dX3_seatsTaken_12 : decode cX3_seatsTaken 12 = .ok (.iconst 1, 1) := by decide +kernel
theorem dX3_seatsTaken_13 : decode cX3_seatsTaken 13 = .ok (.ireturn, 1) := by decide +kernel
theorem dX4_init_0 : decode cX4_init 0 = .ok (.aload_n 0, 1) := by decide +kernel
theorem dX4_init_1 : decode cX4_init 1 = .ok (.invokespecial 3, 3) := by decide +kernel
theorem dX4_init_4 : decode cX4_init 4 = .ok (.aload_n 0, 1) := by decide +kernel
theorem dX4_init_5 : decode cX4_init 5 = .ok (.bipush 9, 2) := by decide +kernel
theorem dX4_init_7 : decode cX4_init 7 = .ok (.newarray .int, 2) := by decide +kernel
theorem dX4_init_9 : decode cX4_init 9 = .ok (.putfield 9, 3) := by decide +kernel
theorem dX4_init_12 : decode cX4_init 12 = .ok (.aload_n 0, 1) := by decide +kernel
theorem dX4_init_13 : decode cX4_init 13 = .ok (.bipush 9, 2) := by decide +kernel
theorem dX4_init_15 : decode cX4_init 15 = .ok (.newarray .int, 2) := by decide +kernel
theorem dX4_init_17 : decode cX4_init 17 = .ok (.putfield 15, 3) := by decide +kernel
theorem dX4_init_20 : decode cX4_init 20 = .ok (.aload_n 0, 1) := by decide +kernel
theorem dX4_init_21 : decode cX4_init 21 = .ok (.bipush 9, 2) := by decide +kernel
theorem dX4_init_23 : decode cX4_init 23 = .ok (.newarray .int, 2) := by decide +kernel
theorem dX4_init_25 : decode cX4_init 25 = .ok (.putfield 18, 3) := by decide +kernel
theorem dX4_init_28 : decode cX4_init 28 = .ok (.aload_n 0, 1) := by decide +kernel
theorem dX4_init_29 : decode cX4_init 29 = .ok (.bipush 9, 2) := by decide +kernel
theorem dX4_init_31 : decode cX4_init 31 = .ok (.newarray .int, 2) := by decide +kernel
theorem dX4_init_33 : decode cX4_init 33 = .ok (.putfield 21, 3) := by decide +kernel
theorem dX4_init_36 : decode cX4_init 36 = .ok (.aload_n 0, 1) := by decide +kernel
theorem dX4_init_37 : decode cX4_init 37 = .ok (.bipush 9, 2) := by decide +kernel
theorem dX4_init_39 : decode cX4_init 39 = .ok (.newarray .int, 2) := by decide +kernel
theorem dX4_init_41 : decode cX4_init 41 = .ok (.putfield 24, 3) := by decide +kernel
theorem dX4_init_44 : decode cX4_init 44 = .ok (.aload_n 0, 1) := by decide +kernel
theorem dX4_init_45 : decode cX4_init 45 = .ok (.iconst 0, 1) := by decide +kernel
theorem dX4_init_46 : decode cX4_init 46 = .ok (.putfield 27, 3) := by decide +kernel
theorem dX4_init_49 : decode cX4_init 49 = .ok (.aload_n 0, 1) := by decide +kernel
theorem dX4_init_50 : decode cX4_init 50 = .ok (.iconst 0, 1) := by decide +kernel
theorem dX4_init_51 : decode cX4_init 51 = .ok (.putfield 31, 3) := by decide +kernel
theorem dX4_init_54 : decode cX4_init 54 = .ok (.return_, 1) := by decide +kernel
theorem dX4_isMade_0 : decode cX4_isMade 0 = .ok (.aload_n 0, 1) := by decide +kernel
theorem dX4_isMade_1 : decode cX4_isMade 1 = .ok (.getfield 27, 3) := by decide +kernel
theorem dX4_isMade_4 : decode cX4_isMade 4 = .ok (.ireturn, 1) := by decide +kernel
theorem dX4_begin_0 : decode cX4_begin 0 = .ok (.aload_n 0, 1) := by decide +kernel
theorem dX4_begin_1 : decode cX4_begin 1 = .ok (.iconst 1, 1) := by decide +kernel
theorem dX4_begin_2 : decode cX4_begin 2 = .ok (.putfield 27, 3) := by decide +kernel
theorem dX4_begin_5 : decode cX4_begin 5 = .ok (.aload_n 0, 1) := by decide +kernel
theorem dX4_begin_6 : decode cX4_begin 6 = .ok (.iconst 0, 1) := by decide +kernel
theorem dX4_begin_7 : decode cX4_begin 7 = .ok (.putfield 31, 3) := by decide +kernel
theorem dX4_begin_10 : decode cX4_begin 10 = .ok (.aload_n 0, 1) := by decide +kernel
theorem dX4_begin_11 : decode cX4_begin 11 = .ok (.getfield 9, 3) := by decide +kernel
theorem dX4_begin_14 : decode cX4_begin 14 = .ok (.iconst 0, 1) := by decide +kernel
theorem dX4_begin_15 : decode cX4_begin 15 = .ok (.invokestatic 35, 3) := by decide +kernel
theorem dX4_begin_18 : decode cX4_begin 18 = .ok (.return_, 1) := by decide +kernel
theorem dX4_put_0 : decode cX4_put 0 = .ok (.iconst 0, 1) := by decide +kernel
theorem dX4_put_1 : decode cX4_put 1 = .ok (.istore 4, 2) := by decide +kernel
theorem dX4_put_3 : decode cX4_put 3 = .ok (.iload 4, 2) := by decide +kernel
theorem dX4_put_5 : decode cX4_put 5 = .ok (.aload_n 3, 1) := by decide +kernel
theorem dX4_put_6 : decode cX4_put 6 = .ok (.getfield 41, 3) := by decide +kernel
theorem dX4_put_9 : decode cX4_put 9 = .ok (.if_icmp .ge 83, 3) := by decide +kernel
theorem dX4_put_12 : decode cX4_put 12 = .ok (.aload_n 3, 1) := by decide +kernel
theorem dX4_put_13 : decode cX4_put 13 = .ok (.getfield 46, 3) := by decide +kernel
theorem dX4_put_16 : decode cX4_put 16 = .ok (.iload 4, 2) := by decide +kernel
theorem dX4_put_18 : decode cX4_put 18 = .ok (.iaload, 1) := by decide +kernel
theorem dX4_put_19 : decode cX4_put 19 = .ok (.istore 5, 2) := by decide +kernel
theorem dX4_put_21 : decode cX4_put 21 = .ok (.aload_n 0, 1) := by decide +kernel
theorem dX4_put_22 : decode cX4_put 22 = .ok (.getfield 9, 3) := by decide +kernel
theorem dX4_put_25 : decode cX4_put 25 = .ok (.iload 5, 2) := by decide +kernel
theorem dX4_put_27 : decode cX4_put 27 = .ok (.iload_n 1, 1) := by decide +kernel
theorem dX4_put_28 : decode cX4_put 28 = .ok (.iastore, 1) := by decide +kernel
theorem dX4_put_29 : decode cX4_put 29 = .ok (.aload_n 0, 1) := by decide +kernel
theorem dX4_put_30 : decode cX4_put 30 = .ok (.getfield 15, 3) := by decide +kernel
theorem dX4_put_33 : decode cX4_put 33 = .ok (.iload 5, 2) := by decide +kernel
theorem dX4_put_35 : decode cX4_put 35 = .ok (.iload_n 2, 1) := by decide +kernel
theorem dX4_put_36 : decode cX4_put 36 = .ok (.iastore, 1) := by decide +kernel
theorem dX4_put_37 : decode cX4_put 37 = .ok (.aload_n 0, 1) := by decide +kernel
theorem dX4_put_38 : decode cX4_put 38 = .ok (.getfield 18, 3) := by decide +kernel
theorem dX4_put_41 : decode cX4_put 41 = .ok (.iload 5, 2) := by decide +kernel
theorem dX4_put_43 : decode cX4_put 43 = .ok (.aload_n 3, 1) := by decide +kernel
theorem dX4_put_44 : decode cX4_put 44 = .ok (.getfield 49, 3) := by decide +kernel
theorem dX4_put_47 : decode cX4_put 47 = .ok (.iastore, 1) := by decide +kernel
theorem dX4_put_48 : decode cX4_put 48 = .ok (.aload_n 0, 1) := by decide +kernel
theorem dX4_put_49 : decode cX4_put 49 = .ok (.getfield 21, 3) := by decide +kernel
theorem dX4_put_52 : decode cX4_put 52 = .ok (.iload 5, 2) := by decide +kernel
theorem dX4_put_54 : decode cX4_put 54 = .ok (.aload_n 3, 1) := by decide +kernel
theorem dX4_put_55 : decode cX4_put 55 = .ok (.getfield 51, 3) := by decide +kernel
theorem dX4_put_58 : decode cX4_put 58 = .ok (.aload_n 3, 1) := by decide +kernel
theorem dX4_put_59 : decode cX4_put 59 = .ok (.getfield 54, 3) := by decide +kernel
theorem dX4_put_62 : decode cX4_put 62 = .ok (.iload 4, 2) := by decide +kernel
theorem dX4_put_64 : decode cX4_put 64 = .ok (.iaload, 1) := by decide +kernel
theorem dX4_put_65 : decode cX4_put 65 = .ok (.iadd, 1) := by decide +kernel
theorem dX4_put_66 : decode cX4_put 66 = .ok (.iastore, 1) := by decide +kernel
theorem dX4_put_67 : decode cX4_put 67 = .ok (.aload_n 0, 1) := by decide +kernel
theorem dX4_put_68 : decode cX4_put 68 = .ok (.getfield 24, 3) := by decide +kernel
theorem dX4_put_71 : decode cX4_put 71 = .ok (.iload 5, 2) := by decide +kernel
theorem dX4_put_73 : decode cX4_put 73 = .ok (.aload_n 3, 1) := by decide +kernel
theorem dX4_put_74 : decode cX4_put 74 = .ok (.getfield 51, 3) := by decide +kernel
theorem dX4_put_77 : decode cX4_put 77 = .ok (.aload_n 3, 1) := by decide +kernel
theorem dX4_put_78 : decode cX4_put 78 = .ok (.getfield 57, 3) := by decide +kernel
theorem dX4_put_81 : decode cX4_put 81 = .ok (.iload 4, 2) := by decide +kernel
theorem dX4_put_83 : decode cX4_put 83 = .ok (.iaload, 1) := by decide +kernel
theorem dX4_put_84 : decode cX4_put 84 = .ok (.iadd, 1) := by decide +kernel
theorem dX4_put_85 : decode cX4_put 85 = .ok (.iastore, 1) := by decide +kernel
theorem dX4_put_86 : decode cX4_put 86 = .ok (.iinc 4 1, 3) := by decide +kernel
theorem dX4_put_89 : decode cX4_put 89 = .ok (.goto (-86), 3) := by decide +kernel
theorem dX4_put_92 : decode cX4_put 92 = .ok (.return_, 1) := by decide +kernel
theorem dX4_leave_0 : decode cX4_leave 0 = .ok (.aload_n 0, 1) := by decide +kernel
theorem dX4_leave_1 : decode cX4_leave 1 = .ok (.getfield 9, 3) := by decide +kernel
theorem dX4_leave_4 : decode cX4_leave 4 = .ok (.iload_n 1, 1) := by decide +kernel
theorem dX4_leave_5 : decode cX4_leave 5 = .ok (.iconst 0, 1) := by decide +kernel
theorem dX4_leave_6 : decode cX4_leave 6 = .ok (.iastore, 1) := by decide +kernel
theorem dX4_leave_7 : decode cX4_leave 7 = .ok (.aload_n 0, 1) := by decide +kernel
theorem dX4_leave_8 : decode cX4_leave 8 = .ok (.dup, 1) := by decide +kernel
theorem dX4_leave_9 : decode cX4_leave 9 = .ok (.getfield 31, 3) := by decide +kernel
theorem dX4_leave_12 : decode cX4_leave 12 = .ok (.iconst 1, 1) := by decide +kernel
theorem dX4_leave_13 : decode cX4_leave 13 = .ok (.iload_n 1, 1) := by decide +kernel
theorem dX4_leave_14 : decode cX4_leave 14 = .ok (.ishl, 1) := by decide +kernel
theorem dX4_leave_15 : decode cX4_leave 15 = .ok (.ior, 1) := by decide +kernel
theorem dX4_leave_16 : decode cX4_leave 16 = .ok (.putfield 31, 3) := by decide +kernel
theorem dX4_leave_19 : decode cX4_leave 19 = .ok (.return_, 1) := by decide +kernel
theorem dX4_dissolve_0 : decode cX4_dissolve 0 = .ok (.iconst 0, 1) := by decide +kernel
theorem dX4_dissolve_1 : decode cX4_dissolve 1 = .ok (.istore_n 2, 1) := by decide +kernel
theorem dX4_dissolve_2 : decode cX4_dissolve 2 = .ok (.iload_n 2, 1) := by decide +kernel
theorem dX4_dissolve_3 : decode cX4_dissolve 3 = .ok (.bipush 9, 2) := by decide +kernel
theorem dX4_dissolve_5 : decode cX4_dissolve 5 = .ok (.if_icmp .ge 24, 3) := by decide +kernel
theorem dX4_dissolve_8 : decode cX4_dissolve 8 = .ok (.iload_n 1, 1) := by decide +kernel
theorem dX4_dissolve_9 : decode cX4_dissolve 9 = .ok (.iload_n 2, 1) := by decide +kernel
theorem dX4_dissolve_10 : decode cX4_dissolve 10 = .ok (.invokestatic 60, 3) := by decide +kernel
theorem dX4_dissolve_13 : decode cX4_dissolve 13 = .ok (.ifCond .eq 10, 3) := by decide +kernel
theorem dX4_dissolve_16 : decode cX4_dissolve 16 = .ok (.aload_n 0, 1) := by decide +kernel
theorem dX4_dissolve_17 : decode cX4_dissolve 17 = .ok (.getfield 9, 3) := by decide +kernel
theorem dX4_dissolve_20 : decode cX4_dissolve 20 = .ok (.iload_n 2, 1) := by decide +kernel
theorem dX4_dissolve_21 : decode cX4_dissolve 21 = .ok (.iconst 0, 1) := by decide +kernel
theorem dX4_dissolve_22 : decode cX4_dissolve 22 = .ok (.iastore, 1) := by decide +kernel
theorem dX4_dissolve_23 : decode cX4_dissolve 23 = .ok (.iinc 2 1, 3) := by decide +kernel
theorem dX4_dissolve_26 : decode cX4_dissolve 26 = .ok (.goto (-24), 3) := by decide +kernel
theorem dX4_dissolve_29 : decode cX4_dissolve 29 = .ok (.return_, 1) := by decide +kernel
theorem dX4_leads_0 : decode cX4_leads 0 = .ok (.aload_n 0, 1) := by decide +kernel
theorem dX4_leads_1 : decode cX4_leads 1 = .ok (.getfield 9, 3) := by decide +kernel
theorem dX4_leads_4 : decode cX4_leads 4 = .ok (.iload_n 1, 1) := by decide +kernel
theorem dX4_leads_5 : decode cX4_leads 5 = .ok (.iaload, 1) := by decide +kernel
theorem dX4_leads_6 : decode cX4_leads 6 = .ok (.aload_n 0, 1) := by decide +kernel
theorem dX4_leads_7 : decode cX4_leads 7 = .ok (.getfield 9, 3) := by decide +kernel
theorem dX4_leads_10 : decode cX4_leads 10 = .ok (.iload_n 1, 1) := by decide +kernel
theorem dX4_leads_11 : decode cX4_leads 11 = .ok (.iaload, 1) := by decide +kernel
theorem dX4_leads_12 : decode cX4_leads 12 = .ok (.ineg, 1) := by decide +kernel
theorem dX4_leads_13 : decode cX4_leads 13 = .ok (.iand, 1) := by decide +kernel
theorem dX4_leads_14 : decode cX4_leads 14 = .ok (.iconst 1, 1) := by decide +kernel
theorem dX4_leads_15 : decode cX4_leads 15 = .ok (.iload_n 1, 1) := by decide +kernel
theorem dX4_leads_16 : decode cX4_leads 16 = .ok (.ishl, 1) := by decide +kernel
theorem dX4_leads_17 : decode cX4_leads 17 = .ok (.if_icmp .ne 7, 3) := by decide +kernel
theorem dX4_leads_20 : decode cX4_leads 20 = .ok (.iconst 1, 1) := by decide +kernel
theorem dX4_leads_21 : decode cX4_leads 21 = .ok (.goto 4, 3) := by decide +kernel
theorem dX4_leads_24 : decode cX4_leads 24 = .ok (.iconst 0, 1) := by decide +kernel
theorem dX4_leads_25 : decode cX4_leads 25 = .ok (.ireturn, 1) := by decide +kernel
theorem dX4_drives_0 : decode cX4_drives 0 = .ok (.aload_n 0, 1) := by decide +kernel
theorem dX4_drives_1 : decode cX4_drives 1 = .ok (.getfield 9, 3) := by decide +kernel
theorem dX4_drives_4 : decode cX4_drives 4 = .ok (.iload_n 1, 1) := by decide +kernel
theorem dX4_drives_5 : decode cX4_drives 5 = .ok (.iaload, 1) := by decide +kernel
theorem dX4_drives_6 : decode cX4_drives 6 = .ok (.ifCond .eq 17, 3) := by decide +kernel
theorem dX4_drives_9 : decode cX4_drives 9 = .ok (.aload_n 0, 1) := by decide +kernel
theorem dX4_drives_10 : decode cX4_drives 10 = .ok (.getfield 15, 3) := by decide +kernel
theorem dX4_drives_13 : decode cX4_drives 13 = .ok (.iload_n 1, 1) := by decide +kernel
theorem dX4_drives_14 : decode cX4_drives 14 = .ok (.iaload, 1) := by decide +kernel
theorem dX4_drives_15 : decode cX4_drives 15 = .ok (.iload_n 1, 1) := by decide +kernel
theorem dX4_drives_16 : decode cX4_drives 16 = .ok (.if_icmp .ne 7, 3) := by decide +kernel
theorem dX4_drives_19 : decode cX4_drives 19 = .ok (.iconst 1, 1) := by decide +kernel
theorem dX4_drives_20 : decode cX4_drives 20 = .ok (.goto 4, 3) := by decide +kernel
theorem dX4_drives_23 : decode cX4_drives 23 = .ok (.iconst 0, 1) := by decide +kernel
theorem dX4_drives_24 : decode cX4_drives 24 = .ok (.ireturn, 1) := by decide +kernel
theorem dX4_poolAt_0 : decode cX4_poolAt 0 = .ok (.aload_n 0, 1) := by decide +kernel
theorem dX4_poolAt_1 : decode cX4_poolAt 1 = .ok (.getfield 9, 3) := by decide +kernel
theorem dX4_poolAt_4 : decode cX4_poolAt 4 = .ok (.iload_n 1, 1) := by decide +kernel
theorem dX4_poolAt_5 : decode cX4_poolAt 5 = .ok (.iaload, 1) := by decide +kernel
theorem dX4_poolAt_6 : decode cX4_poolAt 6 = .ok (.ireturn, 1) := by decide +kernel
theorem dX4_driverAt_0 : decode cX4_driverAt 0 = .ok (.aload_n 0, 1) := by decide +kernel
theorem dX4_driverAt_1 : decode cX4_driverAt 1 = .ok (.getfield 15, 3) := by decide +kernel
theorem dX4_driverAt_4 : decode cX4_driverAt 4 = .ok (.iload_n 1, 1) := by decide +kernel
theorem dX4_driverAt_5 : decode cX4_driverAt 5 = .ok (.iaload, 1) := by decide +kernel
theorem dX4_driverAt_6 : decode cX4_driverAt 6 = .ok (.ireturn, 1) := by decide +kernel
theorem dX4_pools_0 : decode cX4_pools 0 = .ok (.iconst 0, 1) := by decide +kernel
theorem dX4_pools_1 : decode cX4_pools 1 = .ok (.istore_n 1, 1) := by decide +kernel
theorem dX4_pools_2 : decode cX4_pools 2 = .ok (.iconst 0, 1) := by decide +kernel
theorem dX4_pools_3 : decode cX4_pools 3 = .ok (.istore_n 2, 1) := by decide +kernel
theorem dX4_pools_4 : decode cX4_pools 4 = .ok (.iload_n 2, 1) := by decide +kernel
theorem dX4_pools_5 : decode cX4_pools 5 = .ok (.bipush 9, 2) := by decide +kernel
theorem dX4_pools_7 : decode cX4_pools 7 = .ok (.if_icmp .ge 20, 3) := by decide +kernel
theorem dX4_pools_10 : decode cX4_pools 10 = .ok (.aload_n 0, 1) := by decide +kernel
theorem dX4_pools_11 : decode cX4_pools 11 = .ok (.iload_n 2, 1) := by decide +kernel
theorem dX4_pools_12 : decode cX4_pools 12 = .ok (.invokevirtual 64, 3) := by decide +kernel
theorem dX4_pools_15 : decode cX4_pools 15 = .ok (.ifCond .eq 6, 3) := by decide +kernel
theorem dX4_pools_18 : decode cX4_pools 18 = .ok (.iinc 1 1, 3) := by decide +kernel
theorem dX4_pools_21 : decode cX4_pools 21 = .ok (.iinc 2 1, 3) := by decide +kernel
theorem dX4_pools_24 : decode cX4_pools 24 = .ok (.goto (-20), 3) := by decide +kernel
theorem dX4_pools_27 : decode cX4_pools 27 = .ok (.iload_n 1, 1) := by decide +kernel
theorem dX4_pools_28 : decode cX4_pools 28 = .ok (.ireturn, 1) := by decide +kernel
theorem dX4_leftCount_0 : decode cX4_leftCount 0 = .ok (.aload_n 0, 1) := by decide +kernel
theorem dX4_leftCount_1 : decode cX4_leftCount 1 = .ok (.getfield 31, 3) := by decide +kernel
theorem dX4_leftCount_4 : decode cX4_leftCount 4 = .ok (.invokestatic 68, 3) := by decide +kernel
theorem dX4_leftCount_7 : decode cX4_leftCount 7 = .ok (.ireturn, 1) := by decide +kernel
theorem dX4_minutesTogether_0 : decode cX4_minutesTogether 0 = .ok (.iconst 0, 1) := by decide +kernel
theorem dX4_minutesTogether_1 : decode cX4_minutesTogether 1 = .ok (.istore_n 1, 1) := by decide +kernel
theorem dX4_minutesTogether_2 : decode cX4_minutesTogether 2 = .ok (.iconst 0, 1) := by decide +kernel
theorem dX4_minutesTogether_3 : decode cX4_minutesTogether 3 = .ok (.istore_n 2, 1) := by decide +kernel
theorem dX4_minutesTogether_4 : decode cX4_minutesTogether 4 = .ok (.iload_n 2, 1) := by decide +kernel
theorem dX4_minutesTogether_5 : decode cX4_minutesTogether 5 = .ok (.bipush 9, 2) := by decide +kernel
theorem dX4_minutesTogether_7 : decode cX4_minutesTogether 7 = .ok (.if_icmp .ge 26, 3) := by decide +kernel
theorem dX4_minutesTogether_10 : decode cX4_minutesTogether 10 = .ok (.aload_n 0, 1) := by decide +kernel
theorem dX4_minutesTogether_11 : decode cX4_minutesTogether 11 = .ok (.iload_n 2, 1) := by decide +kernel
theorem dX4_minutesTogether_12 : decode cX4_minutesTogether 12 = .ok (.invokevirtual 64, 3) := by decide +kernel
theorem dX4_minutesTogether_15 : decode cX4_minutesTogether 15 = .ok (.ifCond .eq 12, 3) := by decide +kernel
theorem dX4_minutesTogether_18 : decode cX4_minutesTogether 18 = .ok (.iload_n 1, 1) := by decide +kernel
theorem dX4_minutesTogether_19 : decode cX4_minutesTogether 19 = .ok (.aload_n 0, 1) := by decide +kernel
theorem dX4_minutesTogether_20 : decode cX4_minutesTogether 20 = .ok (.getfield 18, 3) := by decide +kernel
theorem dX4_minutesTogether_23 : decode cX4_minutesTogether 23 = .ok (.iload_n 2, 1) := by decide +kernel
theorem dX4_minutesTogether_24 : decode cX4_minutesTogether 24 = .ok (.iaload, 1) := by decide +kernel
theorem dX4_minutesTogether_25 : decode cX4_minutesTogether 25 = .ok (.iadd, 1) := by decide +kernel
theorem dX4_minutesTogether_26 : decode cX4_minutesTogether 26 = .ok (.istore_n 1, 1) := by decide +kernel
theorem dX4_minutesTogether_27 : decode cX4_minutesTogether 27 = .ok (.iinc 2 1, 3) := by decide +kernel
theorem dX4_minutesTogether_30 : decode cX4_minutesTogether 30 = .ok (.goto (-26), 3) := by decide +kernel
theorem dX4_minutesTogether_33 : decode cX4_minutesTogether 33 = .ok (.iload_n 1, 1) := by decide +kernel
theorem dX4_minutesTogether_34 : decode cX4_minutesTogether 34 = .ok (.ireturn, 1) := by decide +kernel
theorem dX4_personsInPools_0 : decode cX4_personsInPools 0 = .ok (.iconst 0, 1) := by decide +kernel
theorem dX4_personsInPools_1 : decode cX4_personsInPools 1 = .ok (.istore_n 1, 1) := by decide +kernel
theorem dX4_personsInPools_2 : decode cX4_personsInPools 2 = .ok (.iconst 0, 1) := by decide +kernel
theorem dX4_personsInPools_3 : decode cX4_personsInPools 3 = .ok (.istore_n 2, 1) := by decide +kernel
theorem dX4_personsInPools_4 : decode cX4_personsInPools 4 = .ok (.iload_n 2, 1) := by decide +kernel
theorem dX4_personsInPools_5 : decode cX4_personsInPools 5 = .ok (.bipush 9, 2) := by decide +kernel
theorem dX4_personsInPools_7 : decode cX4_personsInPools 7 = .ok (.if_icmp .ge 21, 3) := by decide +kernel
theorem dX4_personsInPools_10 : decode cX4_personsInPools 10 = .ok (.aload_n 0, 1) := by decide +kernel
theorem dX4_personsInPools_11 : decode cX4_personsInPools 11 = .ok (.getfield 9, 3) := by decide +kernel
theorem dX4_personsInPools_14 : decode cX4_personsInPools 14 = .ok (.iload_n 2, 1) := by decide +kernel
theorem dX4_personsInPools_15 : decode cX4_personsInPools 15 = .ok (.iaload, 1) := by decide +kernel
theorem dX4_personsInPools_16 : decode cX4_personsInPools 16 = .ok (.ifCond .eq 6, 3) := by decide +kernel
theorem dX4_personsInPools_19 : decode cX4_personsInPools 19 = .ok (.iinc 1 1, 3) := by decide +kernel
theorem dX4_personsInPools_22 : decode cX4_personsInPools 22 = .ok (.iinc 2 1, 3) := by decide +kernel
theorem dX4_personsInPools_25 : decode cX4_personsInPools 25 = .ok (.goto (-21), 3) := by decide +kernel
theorem dX4_personsInPools_28 : decode cX4_personsInPools 28 = .ok (.iload_n 1, 1) := by decide +kernel
theorem dX4_personsInPools_29 : decode cX4_personsInPools 29 = .ok (.ireturn, 1) := by decide +kernel
theorem dX4_pointsEachMorning_0 : decode cX4_pointsEachMorning 0 = .ok (.aload_n 0, 1) := by decide +kernel
theorem dX4_pointsEachMorning_1 : decode cX4_pointsEachMorning 1 = .ok (.getfield 9, 3) := by decide +kernel
theorem dX4_pointsEachMorning_4 : decode cX4_pointsEachMorning 4 = .ok (.iload_n 1, 1) := by decide +kernel
theorem dX4_pointsEachMorning_5 : decode cX4_pointsEachMorning 5 = .ok (.iaload, 1) := by decide +kernel
theorem dX4_pointsEachMorning_6 : decode cX4_pointsEachMorning 6 = .ok (.invokestatic 68, 3) := by decide +kernel
theorem dX4_pointsEachMorning_9 : decode cX4_pointsEachMorning 9 = .ok (.iconst 1, 1) := by decide +kernel
theorem dX4_pointsEachMorning_10 : decode cX4_pointsEachMorning 10 = .ok (.isub, 1) := by decide +kernel
theorem dX4_pointsEachMorning_11 : decode cX4_pointsEachMorning 11 = .ok (.istore_n 2, 1) := by decide +kernel
theorem dX4_pointsEachMorning_12 : decode cX4_pointsEachMorning 12 = .ok (.iload_n 2, 1) := by decide +kernel
theorem dX4_pointsEachMorning_13 : decode cX4_pointsEachMorning 13 = .ok (.iconst 1, 1) := by decide +kernel
theorem dX4_pointsEachMorning_14 : decode cX4_pointsEachMorning 14 = .ok (.if_icmp .ge 5, 3) := by decide +kernel
theorem dX4_pointsEachMorning_17 : decode cX4_pointsEachMorning 17 = .ok (.iconst 0, 1) := by decide +kernel
theorem dX4_pointsEachMorning_18 : decode cX4_pointsEachMorning 18 = .ok (.ireturn, 1) := by decide +kernel
theorem dX4_pointsEachMorning_19 : decode cX4_pointsEachMorning 19 = .ok (.aload_n 0, 1) := by decide +kernel
theorem dX4_pointsEachMorning_20 : decode cX4_pointsEachMorning 20 = .ok (.getfield 15, 3) := by decide +kernel
theorem dX4_pointsEachMorning_23 : decode cX4_pointsEachMorning 23 = .ok (.iload_n 1, 1) := by decide +kernel
theorem dX4_pointsEachMorning_24 : decode cX4_pointsEachMorning 24 = .ok (.iaload, 1) := by decide +kernel
theorem dX4_pointsEachMorning_25 : decode cX4_pointsEachMorning 25 = .ok (.iload_n 1, 1) := by decide +kernel
theorem dX4_pointsEachMorning_26 : decode cX4_pointsEachMorning 26 = .ok (.if_icmp .ne 7, 3) := by decide +kernel
theorem dX4_pointsEachMorning_29 : decode cX4_pointsEachMorning 29 = .ok (.iload_n 2, 1) := by decide +kernel
theorem dX4_pointsEachMorning_30 : decode cX4_pointsEachMorning 30 = .ok (.goto 4, 3) := by decide +kernel
theorem dX4_pointsEachMorning_33 : decode cX4_pointsEachMorning 33 = .ok (.iconst (-1), 1) := by decide +kernel
theorem dX4_pointsEachMorning_34 : decode cX4_pointsEachMorning 34 = .ok (.ireturn, 1) := by decide +kernel
theorem dX4_tell_0 : decode cX4_tell 0 = .ok (.iload_n 2, 1) := by decide +kernel
theorem dX4_tell_1 : decode cX4_tell 1 = .ok (.ifCond .ne 10, 3) := by decide +kernel
theorem dX4_tell_4 : decode cX4_tell 4 = .ok (.aload_n 0, 1) := by decide +kernel
theorem dX4_tell_5 : decode cX4_tell 5 = .ok (.getfield 9, 3) := by decide +kernel
theorem dX4_tell_8 : decode cX4_tell 8 = .ok (.iload_n 1, 1) := by decide +kernel
theorem dX4_tell_9 : decode cX4_tell 9 = .ok (.iaload, 1) := by decide +kernel
theorem dX4_tell_10 : decode cX4_tell 10 = .ok (.ireturn, 1) := by decide +kernel
theorem dX4_tell_11 : decode cX4_tell 11 = .ok (.aload_n 0, 1) := by decide +kernel
theorem dX4_tell_12 : decode cX4_tell 12 = .ok (.getfield 9, 3) := by decide +kernel
theorem dX4_tell_15 : decode cX4_tell 15 = .ok (.iload_n 1, 1) := by decide +kernel
theorem dX4_tell_16 : decode cX4_tell 16 = .ok (.iaload, 1) := by decide +kernel
theorem dX4_tell_17 : decode cX4_tell 17 = .ok (.ifCond .ne 6, 3) := by decide +kernel
theorem dX4_tell_20 : decode cX4_tell 20 = .ok (.bipush (-9), 2) := by decide +kernel
theorem dX4_tell_22 : decode cX4_tell 22 = .ok (.ireturn, 1) := by decide +kernel
theorem dX4_tell_23 : decode cX4_tell 23 = .ok (.iload_n 2, 1) := by decide +kernel
theorem dX4_tell_24 : decode cX4_tell 24 = .ok (.tableswitch 49 1 3 #[28, 35, 42], 28) := by decide +kernel
theorem dX4_tell_52 : decode cX4_tell 52 = .ok (.aload_n 0, 1) := by decide +kernel
theorem dX4_tell_53 : decode cX4_tell 53 = .ok (.getfield 15, 3) := by decide +kernel
theorem dX4_tell_56 : decode cX4_tell 56 = .ok (.iload_n 1, 1) := by decide +kernel
theorem dX4_tell_57 : decode cX4_tell 57 = .ok (.iaload, 1) := by decide +kernel
theorem dX4_tell_58 : decode cX4_tell 58 = .ok (.ireturn, 1) := by decide +kernel
theorem dX4_tell_59 : decode cX4_tell 59 = .ok (.aload_n 0, 1) := by decide +kernel
theorem dX4_tell_60 : decode cX4_tell 60 = .ok (.getfield 21, 3) := by decide +kernel
theorem dX4_tell_63 : decode cX4_tell 63 = .ok (.iload_n 1, 1) := by decide +kernel
theorem dX4_tell_64 : decode cX4_tell 64 = .ok (.iaload, 1) := by decide +kernel
theorem dX4_tell_65 : decode cX4_tell 65 = .ok (.ireturn, 1) := by decide +kernel
theorem dX4_tell_66 : decode cX4_tell 66 = .ok (.aload_n 0, 1) := by decide +kernel
theorem dX4_tell_67 : decode cX4_tell 67 = .ok (.getfield 24, 3) := by decide +kernel
theorem dX4_tell_70 : decode cX4_tell 70 = .ok (.iload_n 1, 1) := by decide +kernel
theorem dX4_tell_71 : decode cX4_tell 71 = .ok (.iaload, 1) := by decide +kernel
theorem dX4_tell_72 : decode cX4_tell 72 = .ok (.ireturn, 1) := by decide +kernel
theorem dX4_tell_73 : decode cX4_tell 73 = .ok (.bipush (-9), 2) := by decide +kernel
theorem dX4_tell_75 : decode cX4_tell 75 = .ok (.ireturn, 1) := by decide +kernel
theorem dX5_init_0 : decode cX5_init 0 = .ok (.aload_n 0, 1) := by decide +kernel
theorem dX5_init_1 : decode cX5_init 1 = .ok (.invokespecial 3, 3) := by decide +kernel
theorem dX5_init_4 : decode cX5_init 4 = .ok (.aload_n 0, 1) := by decide +kernel
theorem dX5_init_5 : decode cX5_init 5 = .ok (.bipush 10, 2) := by decide +kernel
theorem dX5_init_7 : decode cX5_init 7 = .ok (.bipush 10, 2) := by decide +kernel
theorem dX5_init_9 : decode cX5_init 9 = .ok (.multianewarray 9 2, 4) := by decide +kernel
theorem dX5_init_13 : decode cX5_init 13 = .ok (.putfield 11, 3) := by decide +kernel
theorem dX5_init_16 : decode cX5_init 16 = .ok (.aload_n 0, 1) := by decide +kernel
theorem dX5_init_17 : decode cX5_init 17 = .ok (.bipush 10, 2) := by decide +kernel
theorem dX5_init_19 : decode cX5_init 19 = .ok (.bipush 10, 2) := by decide +kernel
theorem dX5_init_21 : decode cX5_init 21 = .ok (.multianewarray 9 2, 4) := by decide +kernel
theorem dX5_init_25 : decode cX5_init 25 = .ok (.putfield 16, 3) := by decide +kernel
theorem dX5_init_28 : decode cX5_init 28 = .ok (.iconst 0, 1) := by decide +kernel
theorem dX5_init_29 : decode cX5_init 29 = .ok (.istore_n 1, 1) := by decide +kernel
theorem dX5_init_30 : decode cX5_init 30 = .ok (.iload_n 1, 1) := by decide +kernel
theorem dX5_init_31 : decode cX5_init 31 = .ok (.bipush 10, 2) := by decide +kernel
theorem dX5_init_33 : decode cX5_init 33 = .ok (.if_icmp .ge 30, 3) := by decide +kernel
theorem dX5_init_36 : decode cX5_init 36 = .ok (.aload_n 0, 1) := by decide +kernel
theorem dX5_init_37 : decode cX5_init 37 = .ok (.getfield 11, 3) := by decide +kernel
theorem dX5_init_40 : decode cX5_init 40 = .ok (.iload_n 1, 1) := by decide +kernel
theorem dX5_init_41 : decode cX5_init 41 = .ok (.aaload, 1) := by decide +kernel
theorem dX5_init_42 : decode cX5_init 42 = .ok (.sipush 300, 3) := by decide +kernel
theorem dX5_init_45 : decode cX5_init 45 = .ok (.invokestatic 19, 3) := by decide +kernel
theorem dX5_init_48 : decode cX5_init 48 = .ok (.aload_n 0, 1) := by decide +kernel
theorem dX5_init_49 : decode cX5_init 49 = .ok (.getfield 11, 3) := by decide +kernel
theorem dX5_init_52 : decode cX5_init 52 = .ok (.iload_n 1, 1) := by decide +kernel
theorem dX5_init_53 : decode cX5_init 53 = .ok (.aaload, 1) := by decide +kernel
theorem dX5_init_54 : decode cX5_init 54 = .ok (.iload_n 1, 1) := by decide +kernel
theorem dX5_init_55 : decode cX5_init 55 = .ok (.iconst 0, 1) := by decide +kernel
theorem dX5_init_56 : decode cX5_init 56 = .ok (.iastore, 1) := by decide +kernel
theorem dX5_init_57 : decode cX5_init 57 = .ok (.iinc 1 1, 3) := by decide +kernel
theorem dX5_init_60 : decode cX5_init 60 = .ok (.goto (-30), 3) := by decide +kernel
theorem dX5_init_63 : decode cX5_init 63 = .ok (.aload_n 0, 1) := by decide +kernel
theorem dX5_init_64 : decode cX5_init 64 = .ok (.invokevirtual 25, 3) := by decide +kernel
theorem dX5_init_67 : decode cX5_init 67 = .ok (.return_, 1) := by decide +kernel
theorem dX5_shortest_0 : decode cX5_shortest 0 = .ok (.aload_n 0, 1) := by decide +kernel
theorem dX5_shortest_1 : decode cX5_shortest 1 = .ok (.getfield 16, 3) := by decide +kernel
theorem dX5_shortest_4 : decode cX5_shortest 4 = .ok (.iload_n 1, 1) := by decide +kernel
theorem dX5_shortest_5 : decode cX5_shortest 5 = .ok (.aaload, 1) := by decide +kernel
theorem dX5_shortest_6 : decode cX5_shortest 6 = .ok (.iload_n 2, 1) := by decide +kernel
theorem dX5_shortest_7 : decode cX5_shortest 7 = .ok (.iaload, 1) := by decide +kernel
theorem dX5_shortest_8 : decode cX5_shortest 8 = .ok (.ireturn, 1) := by decide +kernel
theorem dX5_change_0 : decode cX5_change 0 = .ok (.aload_n 0, 1) := by decide +kernel
theorem dX5_change_1 : decode cX5_change 1 = .ok (.getfield 11, 3) := by decide +kernel
theorem dX5_change_4 : decode cX5_change 4 = .ok (.iload_n 1, 1) := by decide +kernel
theorem dX5_change_5 : decode cX5_change 5 = .ok (.aaload, 1) := by decide +kernel
theorem dX5_change_6 : decode cX5_change 6 = .ok (.iload_n 2, 1) := by decide +kernel
theorem dX5_change_7 : decode cX5_change 7 = .ok (.iaload, 1) := by decide +kernel
theorem dX5_change_8 : decode cX5_change 8 = .ok (.istore 4, 2) := by decide +kernel
theorem dX5_change_10 : decode cX5_change 10 = .ok (.aload_n 0, 1) := by decide +kernel
theorem dX5_change_11 : decode cX5_change 11 = .ok (.getfield 11, 3) := by decide +kernel
theorem dX5_change_14 : decode cX5_change 14 = .ok (.iload_n 1, 1) := by decide +kernel
theorem dX5_change_15 : decode cX5_change 15 = .ok (.aaload, 1) := by decide +kernel
theorem dX5_change_16 : decode cX5_change 16 = .ok (.iload_n 2, 1) := by decide +kernel
theorem dX5_change_17 : decode cX5_change 17 = .ok (.iload_n 3, 1) := by decide +kernel
theorem dX5_change_18 : decode cX5_change 18 = .ok (.iastore, 1) := by decide +kernel
theorem dX5_change_19 : decode cX5_change 19 = .ok (.iload 4, 2) := by decide +kernel
theorem dX5_change_21 : decode cX5_change 21 = .ok (.iload_n 3, 1) := by decide +kernel
theorem dX5_change_22 : decode cX5_change 22 = .ok (.if_icmp .eq 7, 3) := by decide +kernel
theorem dX5_change_25 : decode cX5_change 25 = .ok (.aload_n 0, 1) := by decide +kernel
theorem dX5_change_26 : decode cX5_change 26 = .ok (.invokevirtual 25, 3) := by decide +kernel
theorem dX5_change_29 : decode cX5_change 29 = .ok (.iload 4, 2) := by decide +kernel
theorem dX5_change_31 : decode cX5_change 31 = .ok (.ireturn, 1) := by decide +kernel
theorem dX5_renew_0 : decode cX5_renew 0 = .ok (.iconst 0, 1) := by decide +kernel
theorem dX5_renew_1 : decode cX5_renew 1 = .ok (.istore_n 1, 1) := by decide +kernel
theorem dX5_renew_2 : decode cX5_renew 2 = .ok (.iload_n 1, 1) := by decide +kernel
theorem dX5_renew_3 : decode cX5_renew 3 = .ok (.bipush 10, 2) := by decide +kernel
theorem dX5_renew_5 : decode cX5_renew 5 = .ok (.if_icmp .ge 28, 3) := by decide +kernel
theorem dX5_renew_8 : decode cX5_renew 8 = .ok (.aload_n 0, 1) := by decide +kernel
theorem dX5_renew_9 : decode cX5_renew 9 = .ok (.getfield 11, 3) := by decide +kernel
theorem dX5_renew_12 : decode cX5_renew 12 = .ok (.iload_n 1, 1) := by decide +kernel
theorem dX5_renew_13 : decode cX5_renew 13 = .ok (.aaload, 1) := by decide +kernel
theorem dX5_renew_14 : decode cX5_renew 14 = .ok (.iconst 0, 1) := by decide +kernel
theorem dX5_renew_15 : decode cX5_renew 15 = .ok (.aload_n 0, 1) := by decide +kernel
theorem dX5_renew_16 : decode cX5_renew 16 = .ok (.getfield 16, 3) := by decide +kernel
theorem dX5_renew_19 : decode cX5_renew 19 = .ok (.iload_n 1, 1) := by decide +kernel
theorem dX5_renew_20 : decode cX5_renew 20 = .ok (.aaload, 1) := by decide +kernel
theorem dX5_renew_21 : decode cX5_renew 21 = .ok (.iconst 0, 1) := by decide +kernel
theorem dX5_renew_22 : decode cX5_renew 22 = .ok (.bipush 10, 2) := by decide +kernel
theorem dX5_renew_24 : decode cX5_renew 24 = .ok (.invokestatic 28, 3) := by decide +kernel
theorem dX5_renew_27 : decode cX5_renew 27 = .ok (.iinc 1 1, 3) := by decide +kernel
theorem dX5_renew_30 : decode cX5_renew 30 = .ok (.goto (-28), 3) := by decide +kernel
theorem dX5_renew_33 : decode cX5_renew 33 = .ok (.iconst 0, 1) := by decide +kernel
theorem dX5_renew_34 : decode cX5_renew 34 = .ok (.istore_n 1, 1) := by decide +kernel
theorem dX5_renew_35 : decode cX5_renew 35 = .ok (.iload_n 1, 1) := by decide +kernel
theorem dX5_renew_36 : decode cX5_renew 36 = .ok (.bipush 10, 2) := by decide +kernel
theorem dX5_renew_38 : decode cX5_renew 38 = .ok (.if_icmp .ge 34, 3) := by decide +kernel
theorem dX5_renew_41 : decode cX5_renew 41 = .ok (.iconst 0, 1) := by decide +kernel
theorem dX5_renew_42 : decode cX5_renew 42 = .ok (.istore_n 2, 1) := by decide +kernel
theorem dX5_renew_43 : decode cX5_renew 43 = .ok (.iload_n 2, 1) := by decide +kernel
theorem dX5_renew_44 : decode cX5_renew 44 = .ok (.bipush 10, 2) := by decide +kernel
theorem dX5_renew_46 : decode cX5_renew 46 = .ok (.if_icmp .ge 20, 3) := by decide +kernel
theorem dX5_renew_49 : decode cX5_renew 49 = .ok (.aload_n 0, 1) := by decide +kernel
theorem dX5_renew_50 : decode cX5_renew 50 = .ok (.iload_n 1, 1) := by decide +kernel
theorem dX5_renew_51 : decode cX5_renew 51 = .ok (.aload_n 0, 1) := by decide +kernel
theorem dX5_renew_52 : decode cX5_renew 52 = .ok (.getfield 16, 3) := by decide +kernel
theorem dX5_renew_55 : decode cX5_renew 55 = .ok (.iload_n 2, 1) := by decide +kernel
theorem dX5_renew_56 : decode cX5_renew 56 = .ok (.aaload, 1) := by decide +kernel
theorem dX5_renew_57 : decode cX5_renew 57 = .ok (.invokevirtual 34, 3) := by decide +kernel
theorem dX5_renew_60 : decode cX5_renew 60 = .ok (.iinc 2 1, 3) := by decide +kernel
theorem dX5_renew_63 : decode cX5_renew 63 = .ok (.goto (-20), 3) := by decide +kernel
theorem dX5_renew_66 : decode cX5_renew 66 = .ok (.iinc 1 1, 3) := by decide +kernel
theorem dX5_renew_69 : decode cX5_renew 69 = .ok (.goto (-34), 3) := by decide +kernel
theorem dX5_renew_72 : decode cX5_renew 72 = .ok (.return_, 1) := by decide +kernel
theorem dX5_shortenBy_0 : decode cX5_shortenBy 0 = .ok (.iconst 0, 1) := by decide +kernel
theorem dX5_shortenBy_1 : decode cX5_shortenBy 1 = .ok (.istore_n 3, 1) := by decide +kernel
theorem dX5_shortenBy_2 : decode cX5_shortenBy 2 = .ok (.iload_n 3, 1) := by decide +kernel
theorem dX5_shortenBy_3 : decode cX5_shortenBy 3 = .ok (.bipush 10, 2) := by decide +kernel
theorem dX5_shortenBy_5 : decode cX5_shortenBy 5 = .ok (.if_icmp .ge 30, 3) := by decide +kernel
theorem dX5_shortenBy_8 : decode cX5_shortenBy 8 = .ok (.aload_n 2, 1) := by decide +kernel
theorem dX5_shortenBy_9 : decode cX5_shortenBy 9 = .ok (.iload_n 3, 1) := by decide +kernel
theorem dX5_shortenBy_10 : decode cX5_shortenBy 10 = .ok (.aload_n 2, 1) := by decide +kernel
theorem dX5_shortenBy_11 : decode cX5_shortenBy 11 = .ok (.iload_n 3, 1) := by decide +kernel
theorem dX5_shortenBy_12 : decode cX5_shortenBy 12 = .ok (.iaload, 1) := by decide +kernel
theorem dX5_shortenBy_13 : decode cX5_shortenBy 13 = .ok (.aload_n 2, 1) := by decide +kernel
theorem dX5_shortenBy_14 : decode cX5_shortenBy 14 = .ok (.iload_n 1, 1) := by decide +kernel
theorem dX5_shortenBy_15 : decode cX5_shortenBy 15 = .ok (.iaload, 1) := by decide +kernel
theorem dX5_shortenBy_16 : decode cX5_shortenBy 16 = .ok (.aload_n 0, 1) := by decide +kernel
theorem dX5_shortenBy_17 : decode cX5_shortenBy 17 = .ok (.getfield 16, 3) := by decide +kernel
theorem dX5_shortenBy_20 : decode cX5_shortenBy 20 = .ok (.iload_n 1, 1) := by decide +kernel
theorem dX5_shortenBy_21 : decode cX5_shortenBy 21 = .ok (.aaload, 1) := by decide +kernel
theorem dX5_shortenBy_22 : decode cX5_shortenBy 22 = .ok (.iload_n 3, 1) := by decide +kernel
theorem dX5_shortenBy_23 : decode cX5_shortenBy 23 = .ok (.iaload, 1) := by decide +kernel
theorem dX5_shortenBy_24 : decode cX5_shortenBy 24 = .ok (.iadd, 1) := by decide +kernel
theorem dX5_shortenBy_25 : decode cX5_shortenBy 25 = .ok (.invokestatic 38, 3) := by decide +kernel
theorem dX5_shortenBy_28 : decode cX5_shortenBy 28 = .ok (.iastore, 1) := by decide +kernel
theorem dX5_shortenBy_29 : decode cX5_shortenBy 29 = .ok (.iinc 3 1, 3) := by decide +kernel
theorem dX5_shortenBy_32 : decode cX5_shortenBy 32 = .ok (.goto (-30), 3) := by decide +kernel
theorem dX5_shortenBy_35 : decode cX5_shortenBy 35 = .ok (.return_, 1) := by decide +kernel
theorem dX6_init_0 : decode cX6_init 0 = .ok (.aload_n 0, 1) := by decide +kernel
theorem dX6_init_1 : decode cX6_init 1 = .ok (.invokespecial 3, 3) := by decide +kernel
theorem dX6_init_4 : decode cX6_init 4 = .ok (.aload_n 0, 1) := by decide +kernel
theorem dX6_init_5 : decode cX6_init 5 = .ok (.iconst 4, 1) := by decide +kernel
theorem dX6_init_6 : decode cX6_init 6 = .ok (.newarray .int, 2) := by decide +kernel
theorem dX6_init_8 : decode cX6_init 8 = .ok (.putfield 9, 3) := by decide +kernel
theorem dX6_init_11 : decode cX6_init 11 = .ok (.aload_n 0, 1) := by decide +kernel
theorem dX6_init_12 : decode cX6_init 12 = .ok (.iconst 4, 1) := by decide +kernel
theorem dX6_init_13 : decode cX6_init 13 = .ok (.newarray .int, 2) := by decide +kernel
theorem dX6_init_15 : decode cX6_init 15 = .ok (.putfield 15, 3) := by decide +kernel
theorem dX6_init_18 : decode cX6_init 18 = .ok (.aload_n 0, 1) := by decide +kernel
theorem dX6_init_19 : decode cX6_init 19 = .ok (.iconst 4, 1) := by decide +kernel
theorem dX6_init_20 : decode cX6_init 20 = .ok (.newarray .int, 2) := by decide +kernel
theorem dX6_init_22 : decode cX6_init 22 = .ok (.putfield 18, 3) := by decide +kernel
theorem dX6_init_25 : decode cX6_init 25 = .ok (.aload_n 0, 1) := by decide +kernel
theorem dX6_init_26 : decode cX6_init 26 = .ok (.iconst 4, 1) := by decide +kernel
theorem dX6_init_27 : decode cX6_init 27 = .ok (.newarray .int, 2) := by decide +kernel
theorem dX6_init_29 : decode cX6_init 29 = .ok (.putfield 21, 3) := by decide +kernel
theorem dX6_init_32 : decode cX6_init 32 = .ok (.aload_n 0, 1) := by decide +kernel
theorem dX6_init_33 : decode cX6_init 33 = .ok (.iconst 4, 1) := by decide +kernel
theorem dX6_init_34 : decode cX6_init 34 = .ok (.newarray .int, 2) := by decide +kernel
theorem dX6_init_36 : decode cX6_init 36 = .ok (.putfield 24, 3) := by decide +kernel
theorem dX6_init_39 : decode cX6_init 39 = .ok (.return_, 1) := by decide +kernel
theorem dX6_copyOf_0 : decode cX6_copyOf 0 = .ok (.aload_n 0, 1) := by decide +kernel
theorem dX6_copyOf_1 : decode cX6_copyOf 1 = .ok (.aload_n 1, 1) := by decide +kernel
theorem dX6_copyOf_2 : decode cX6_copyOf 2 = .ok (.getfield 27, 3) := by decide +kernel
theorem dX6_copyOf_5 : decode cX6_copyOf 5 = .ok (.putfield 27, 3) := by decide +kernel
theorem dX6_copyOf_8 : decode cX6_copyOf 8 = .ok (.aload_n 0, 1) := by decide +kernel
theorem dX6_copyOf_9 : decode cX6_copyOf 9 = .ok (.aload_n 1, 1) := by decide +kernel
theorem dX6_copyOf_10 : decode cX6_copyOf 10 = .ok (.getfield 31, 3) := by decide +kernel
theorem dX6_copyOf_13 : decode cX6_copyOf 13 = .ok (.putfield 31, 3) := by decide +kernel
theorem dX6_copyOf_16 : decode cX6_copyOf 16 = .ok (.aload_n 0, 1) := by decide +kernel
theorem dX6_copyOf_17 : decode cX6_copyOf 17 = .ok (.aload_n 1, 1) := by decide +kernel
theorem dX6_copyOf_18 : decode cX6_copyOf 18 = .ok (.getfield 34, 3) := by decide +kernel
theorem dX6_copyOf_21 : decode cX6_copyOf 21 = .ok (.putfield 34, 3) := by decide +kernel
theorem dX6_copyOf_24 : decode cX6_copyOf 24 = .ok (.iconst 0, 1) := by decide +kernel
theorem dX6_copyOf_25 : decode cX6_copyOf 25 = .ok (.istore_n 2, 1) := by decide +kernel
theorem dX6_copyOf_26 : decode cX6_copyOf 26 = .ok (.iload_n 2, 1) := by decide +kernel
theorem dX6_copyOf_27 : decode cX6_copyOf 27 = .ok (.iconst 4, 1) := by decide +kernel
theorem dX6_copyOf_28 : decode cX6_copyOf 28 = .ok (.if_icmp .ge 69, 3) := by decide +kernel
theorem dX6_copyOf_31 : decode cX6_copyOf 31 = .ok (.aload_n 0, 1) := by decide +kernel
theorem dX6_copyOf_32 : decode cX6_copyOf 32 = .ok (.getfield 9, 3) := by decide +kernel
theorem dX6_copyOf_35 : decode cX6_copyOf 35 = .ok (.iload_n 2, 1) := by decide +kernel
theorem dX6_copyOf_36 : decode cX6_copyOf 36 = .ok (.aload_n 1, 1) := by decide +kernel
theorem dX6_copyOf_37 : decode cX6_copyOf 37 = .ok (.getfield 9, 3) := by decide +kernel
theorem dX6_copyOf_40 : decode cX6_copyOf 40 = .ok (.iload_n 2, 1) := by decide +kernel
theorem dX6_copyOf_41 : decode cX6_copyOf 41 = .ok (.iaload, 1) := by decide +kernel
theorem dX6_copyOf_42 : decode cX6_copyOf 42 = .ok (.iastore, 1) := by decide +kernel
theorem dX6_copyOf_43 : decode cX6_copyOf 43 = .ok (.aload_n 0, 1) := by decide +kernel
theorem dX6_copyOf_44 : decode cX6_copyOf 44 = .ok (.getfield 15, 3) := by decide +kernel
theorem dX6_copyOf_47 : decode cX6_copyOf 47 = .ok (.iload_n 2, 1) := by decide +kernel
theorem dX6_copyOf_48 : decode cX6_copyOf 48 = .ok (.aload_n 1, 1) := by decide +kernel
theorem dX6_copyOf_49 : decode cX6_copyOf 49 = .ok (.getfield 15, 3) := by decide +kernel
theorem dX6_copyOf_52 : decode cX6_copyOf 52 = .ok (.iload_n 2, 1) := by decide +kernel
theorem dX6_copyOf_53 : decode cX6_copyOf 53 = .ok (.iaload, 1) := by decide +kernel
theorem dX6_copyOf_54 : decode cX6_copyOf 54 = .ok (.iastore, 1) := by decide +kernel
theorem dX6_copyOf_55 : decode cX6_copyOf 55 = .ok (.aload_n 0, 1) := by decide +kernel
theorem dX6_copyOf_56 : decode cX6_copyOf 56 = .ok (.getfield 18, 3) := by decide +kernel
theorem dX6_copyOf_59 : decode cX6_copyOf 59 = .ok (.iload_n 2, 1) := by decide +kernel
theorem dX6_copyOf_60 : decode cX6_copyOf 60 = .ok (.aload_n 1, 1) := by decide +kernel
theorem dX6_copyOf_61 : decode cX6_copyOf 61 = .ok (.getfield 18, 3) := by decide +kernel
theorem dX6_copyOf_64 : decode cX6_copyOf 64 = .ok (.iload_n 2, 1) := by decide +kernel
theorem dX6_copyOf_65 : decode cX6_copyOf 65 = .ok (.iaload, 1) := by decide +kernel
theorem dX6_copyOf_66 : decode cX6_copyOf 66 = .ok (.iastore, 1) := by decide +kernel
theorem dX6_copyOf_67 : decode cX6_copyOf 67 = .ok (.aload_n 0, 1) := by decide +kernel
theorem dX6_copyOf_68 : decode cX6_copyOf 68 = .ok (.getfield 21, 3) := by decide +kernel
theorem dX6_copyOf_71 : decode cX6_copyOf 71 = .ok (.iload_n 2, 1) := by decide +kernel
theorem dX6_copyOf_72 : decode cX6_copyOf 72 = .ok (.aload_n 1, 1) := by decide +kernel
theorem dX6_copyOf_73 : decode cX6_copyOf 73 = .ok (.getfield 21, 3) := by decide +kernel
theorem dX6_copyOf_76 : decode cX6_copyOf 76 = .ok (.iload_n 2, 1) := by decide +kernel
theorem dX6_copyOf_77 : decode cX6_copyOf 77 = .ok (.iaload, 1) := by decide +kernel
theorem dX6_copyOf_78 : decode cX6_copyOf 78 = .ok (.iastore, 1) := by decide +kernel
theorem dX6_copyOf_79 : decode cX6_copyOf 79 = .ok (.aload_n 0, 1) := by decide +kernel
theorem dX6_copyOf_80 : decode cX6_copyOf 80 = .ok (.getfield 24, 3) := by decide +kernel
theorem dX6_copyOf_83 : decode cX6_copyOf 83 = .ok (.iload_n 2, 1) := by decide +kernel
theorem dX6_copyOf_84 : decode cX6_copyOf 84 = .ok (.aload_n 1, 1) := by decide +kernel
theorem dX6_copyOf_85 : decode cX6_copyOf 85 = .ok (.getfield 24, 3) := by decide +kernel
theorem dX6_copyOf_88 : decode cX6_copyOf 88 = .ok (.iload_n 2, 1) := by decide +kernel
end
section
theorem dX6_copyOf_89 : decode cX6_copyOf 89 = .ok (.iaload, 1) := by decide +kernel
theorem dX6_copyOf_90 : decode cX6_copyOf 90 = .ok (.iastore, 1) := by decide +kernel
theorem dX6_copyOf_91 : decode cX6_copyOf 91 = .ok (.iinc 2 1, 3) := by decide +kernel
theorem dX6_copyOf_94 : decode cX6_copyOf 94 = .ok (.goto (-68), 3) := by decide +kernel
theorem dX6_copyOf_97 : decode cX6_copyOf 97 = .ok (.return_, 1) := by decide +kernel
theorem dX6_tell_0 : decode cX6_tell 0 = .ok (.iload_n 1, 1) := by decide +kernel
theorem dX6_tell_1 : decode cX6_tell 1 = .ok (.ifCond .ne 8, 3) := by decide +kernel
theorem dX6_tell_4 : decode cX6_tell 4 = .ok (.aload_n 0, 1) := by decide +kernel
theorem dX6_tell_5 : decode cX6_tell 5 = .ok (.getfield 34, 3) := by decide +kernel
theorem dX6_tell_8 : decode cX6_tell 8 = .ok (.ireturn, 1) := by decide +kernel
theorem dX6_tell_9 : decode cX6_tell 9 = .ok (.iload_n 1, 1) := by decide +kernel
theorem dX6_tell_10 : decode cX6_tell 10 = .ok (.iconst 1, 1) := by decide +kernel
theorem dX6_tell_11 : decode cX6_tell 11 = .ok (.if_icmp .ne 13, 3) := by decide +kernel
theorem dX6_tell_14 : decode cX6_tell 14 = .ok (.aload_n 0, 1) := by decide +kernel
theorem dX6_tell_15 : decode cX6_tell 15 = .ok (.getfield 34, 3) := by decide +kernel
theorem dX6_tell_18 : decode cX6_tell 18 = .ok (.aload_n 0, 1) := by decide +kernel
theorem dX6_tell_19 : decode cX6_tell 19 = .ok (.getfield 31, 3) := by decide +kernel
theorem dX6_tell_22 : decode cX6_tell 22 = .ok (.iadd, 1) := by decide +kernel
theorem dX6_tell_23 : decode cX6_tell 23 = .ok (.ireturn, 1) := by decide +kernel
theorem dX6_tell_24 : decode cX6_tell 24 = .ok (.iload_n 1, 1) := by decide +kernel
theorem dX6_tell_25 : decode cX6_tell 25 = .ok (.iconst 2, 1) := by decide +kernel
theorem dX6_tell_26 : decode cX6_tell 26 = .ok (.if_icmp .lt 27, 3) := by decide +kernel
theorem dX6_tell_29 : decode cX6_tell 29 = .ok (.iload_n 1, 1) := by decide +kernel
theorem dX6_tell_30 : decode cX6_tell 30 = .ok (.iconst 2, 1) := by decide +kernel
theorem dX6_tell_31 : decode cX6_tell 31 = .ok (.aload_n 0, 1) := by decide +kernel
theorem dX6_tell_32 : decode cX6_tell 32 = .ok (.getfield 27, 3) := by decide +kernel
theorem dX6_tell_35 : decode cX6_tell 35 = .ok (.iadd, 1) := by decide +kernel
theorem dX6_tell_36 : decode cX6_tell 36 = .ok (.if_icmp .ge 17, 3) := by decide +kernel
theorem dX6_tell_39 : decode cX6_tell 39 = .ok (.aload_n 0, 1) := by decide +kernel
theorem dX6_tell_40 : decode cX6_tell 40 = .ok (.getfield 9, 3) := by decide +kernel
theorem dX6_tell_43 : decode cX6_tell 43 = .ok (.aload_n 0, 1) := by decide +kernel
theorem dX6_tell_44 : decode cX6_tell 44 = .ok (.getfield 15, 3) := by decide +kernel
theorem dX6_tell_47 : decode cX6_tell 47 = .ok (.iload_n 1, 1) := by decide +kernel
theorem dX6_tell_48 : decode cX6_tell 48 = .ok (.iconst 2, 1) := by decide +kernel
theorem dX6_tell_49 : decode cX6_tell 49 = .ok (.isub, 1) := by decide +kernel
theorem dX6_tell_50 : decode cX6_tell 50 = .ok (.iaload, 1) := by decide +kernel
theorem dX6_tell_51 : decode cX6_tell 51 = .ok (.iaload, 1) := by decide +kernel
theorem dX6_tell_52 : decode cX6_tell 52 = .ok (.ireturn, 1) := by decide +kernel
theorem dX6_tell_53 : decode cX6_tell 53 = .ok (.iload_n 1, 1) := by decide +kernel
theorem dX6_tell_54 : decode cX6_tell 54 = .ok (.bipush 12, 2) := by decide +kernel
theorem dX6_tell_56 : decode cX6_tell 56 = .ok (.if_icmp .lt 29, 3) := by decide +kernel
theorem dX6_tell_59 : decode cX6_tell 59 = .ok (.iload_n 1, 1) := by decide +kernel
theorem dX6_tell_60 : decode cX6_tell 60 = .ok (.bipush 12, 2) := by decide +kernel
theorem dX6_tell_62 : decode cX6_tell 62 = .ok (.aload_n 0, 1) := by decide +kernel
theorem dX6_tell_63 : decode cX6_tell 63 = .ok (.getfield 27, 3) := by decide +kernel
theorem dX6_tell_66 : decode cX6_tell 66 = .ok (.iadd, 1) := by decide +kernel
theorem dX6_tell_67 : decode cX6_tell 67 = .ok (.if_icmp .ge 18, 3) := by decide +kernel
theorem dX6_tell_70 : decode cX6_tell 70 = .ok (.aload_n 0, 1) := by decide +kernel
theorem dX6_tell_71 : decode cX6_tell 71 = .ok (.getfield 9, 3) := by decide +kernel
theorem dX6_tell_74 : decode cX6_tell 74 = .ok (.aload_n 0, 1) := by decide +kernel
theorem dX6_tell_75 : decode cX6_tell 75 = .ok (.getfield 18, 3) := by decide +kernel
theorem dX6_tell_78 : decode cX6_tell 78 = .ok (.iload_n 1, 1) := by decide +kernel
theorem dX6_tell_79 : decode cX6_tell 79 = .ok (.bipush 12, 2) := by decide +kernel
theorem dX6_tell_81 : decode cX6_tell 81 = .ok (.isub, 1) := by decide +kernel
theorem dX6_tell_82 : decode cX6_tell 82 = .ok (.iaload, 1) := by decide +kernel
theorem dX6_tell_83 : decode cX6_tell 83 = .ok (.iaload, 1) := by decide +kernel
theorem dX6_tell_84 : decode cX6_tell 84 = .ok (.ireturn, 1) := by decide +kernel
theorem dX6_tell_85 : decode cX6_tell 85 = .ok (.bipush (-9), 2) := by decide +kernel
theorem dX6_tell_87 : decode cX6_tell 87 = .ok (.ireturn, 1) := by decide +kernel
theorem dX7_init_0 : decode cX7_init 0 = .ok (.aload_n 0, 1) := by decide +kernel
theorem dX7_init_1 : decode cX7_init 1 = .ok (.invokespecial 3, 3) := by decide +kernel
theorem dX7_init_4 : decode cX7_init 4 = .ok (.aload_n 0, 1) := by decide +kernel
theorem dX7_init_5 : decode cX7_init 5 = .ok (.new 9, 3) := by decide +kernel
theorem dX7_init_8 : decode cX7_init 8 = .ok (.dup, 1) := by decide +kernel
theorem dX7_init_9 : decode cX7_init 9 = .ok (.invokespecial 11, 3) := by decide +kernel
theorem dX7_init_12 : decode cX7_init 12 = .ok (.putfield 12, 3) := by decide +kernel
theorem dX7_init_15 : decode cX7_init 15 = .ok (.aload_n 0, 1) := by decide +kernel
theorem dX7_init_16 : decode cX7_init 16 = .ok (.new 9, 3) := by decide +kernel
theorem dX7_init_19 : decode cX7_init 19 = .ok (.dup, 1) := by decide +kernel
theorem dX7_init_20 : decode cX7_init 20 = .ok (.invokespecial 11, 3) := by decide +kernel
theorem dX7_init_23 : decode cX7_init 23 = .ok (.putfield 18, 3) := by decide +kernel
theorem dX7_init_26 : decode cX7_init 26 = .ok (.aload_n 0, 1) := by decide +kernel
theorem dX7_init_27 : decode cX7_init 27 = .ok (.iconst 4, 1) := by decide +kernel
theorem dX7_init_28 : decode cX7_init 28 = .ok (.newarray .int, 2) := by decide +kernel
theorem dX7_init_30 : decode cX7_init 30 = .ok (.putfield 21, 3) := by decide +kernel
theorem dX7_init_33 : decode cX7_init 33 = .ok (.aload_n 0, 1) := by decide +kernel
theorem dX7_init_34 : decode cX7_init 34 = .ok (.iconst 4, 1) := by decide +kernel
theorem dX7_init_35 : decode cX7_init 35 = .ok (.newarray .int, 2) := by decide +kernel
theorem dX7_init_37 : decode cX7_init 37 = .ok (.putfield 25, 3) := by decide +kernel
theorem dX7_init_40 : decode cX7_init 40 = .ok (.aload_n 0, 1) := by decide +kernel
theorem dX7_init_41 : decode cX7_init 41 = .ok (.iconst 4, 1) := by decide +kernel
theorem dX7_init_42 : decode cX7_init 42 = .ok (.newarray .int, 2) := by decide +kernel
theorem dX7_init_44 : decode cX7_init 44 = .ok (.putfield 28, 3) := by decide +kernel
theorem dX7_init_47 : decode cX7_init 47 = .ok (.aload_n 0, 1) := by decide +kernel
theorem dX7_init_48 : decode cX7_init 48 = .ok (.iconst 4, 1) := by decide +kernel
theorem dX7_init_49 : decode cX7_init 49 = .ok (.newarray .int, 2) := by decide +kernel
theorem dX7_init_51 : decode cX7_init 51 = .ok (.putfield 31, 3) := by decide +kernel
theorem dX7_init_54 : decode cX7_init 54 = .ok (.aload_n 0, 1) := by decide +kernel
theorem dX7_init_55 : decode cX7_init 55 = .ok (.iconst 4, 1) := by decide +kernel
theorem dX7_init_56 : decode cX7_init 56 = .ok (.newarray .int, 2) := by decide +kernel
theorem dX7_init_58 : decode cX7_init 58 = .ok (.putfield 34, 3) := by decide +kernel
theorem dX7_init_61 : decode cX7_init 61 = .ok (.aload_n 0, 1) := by decide +kernel
theorem dX7_init_62 : decode cX7_init 62 = .ok (.aload_n 1, 1) := by decide +kernel
theorem dX7_init_63 : decode cX7_init 63 = .ok (.putfield 37, 3) := by decide +kernel
theorem dX7_init_66 : decode cX7_init 66 = .ok (.aload_n 0, 1) := by decide +kernel
theorem dX7_init_67 : decode cX7_init 67 = .ok (.aload_n 2, 1) := by decide +kernel
theorem dX7_init_68 : decode cX7_init 68 = .ok (.putfield 41, 3) := by decide +kernel
theorem dX7_init_71 : decode cX7_init 71 = .ok (.aload_n 0, 1) := by decide +kernel
theorem dX7_init_72 : decode cX7_init 72 = .ok (.getfield 18, 3) := by decide +kernel
theorem dX7_init_75 : decode cX7_init 75 = .ok (.sipush 1441, 3) := by decide +kernel
theorem dX7_init_78 : decode cX7_init 78 = .ok (.putfield 45, 3) := by decide +kernel
theorem dX7_init_81 : decode cX7_init 81 = .ok (.return_, 1) := by decide +kernel
theorem dX7_reasonAgainst_0 : decode cX7_reasonAgainst 0 = .ok (.aload_n 0, 1) := by decide +kernel
theorem dX7_reasonAgainst_1 : decode cX7_reasonAgainst 1 = .ok (.getfield 41, 3) := by decide +kernel
theorem dX7_reasonAgainst_4 : decode cX7_reasonAgainst 4 = .ok (.iload_n 2, 1) := by decide +kernel
theorem dX7_reasonAgainst_5 : decode cX7_reasonAgainst 5 = .ok (.invokevirtual 49, 3) := by decide +kernel
theorem dX7_reasonAgainst_8 : decode cX7_reasonAgainst 8 = .ok (.ifCond .eq 17, 3) := by decide +kernel
theorem dX7_reasonAgainst_11 : decode cX7_reasonAgainst 11 = .ok (.aload_n 0, 1) := by decide +kernel
theorem dX7_reasonAgainst_12 : decode cX7_reasonAgainst 12 = .ok (.getfield 41, 3) := by decide +kernel
theorem dX7_reasonAgainst_15 : decode cX7_reasonAgainst 15 = .ok (.iload_n 2, 1) := by decide +kernel
theorem dX7_reasonAgainst_16 : decode cX7_reasonAgainst 16 = .ok (.invokevirtual 55, 3) := by decide +kernel
theorem dX7_reasonAgainst_19 : decode cX7_reasonAgainst 19 = .ok (.invokevirtual 59, 3) := by decide +kernel
theorem dX7_reasonAgainst_22 : decode cX7_reasonAgainst 22 = .ok (.ifCond .ne 5, 3) := by decide +kernel
theorem dX7_reasonAgainst_25 : decode cX7_reasonAgainst 25 = .ok (.iconst 1, 1) := by decide +kernel
theorem dX7_reasonAgainst_26 : decode cX7_reasonAgainst 26 = .ok (.ireturn, 1) := by decide +kernel
theorem dX7_reasonAgainst_27 : decode cX7_reasonAgainst 27 = .ok (.aload_n 0, 1) := by decide +kernel
theorem dX7_reasonAgainst_28 : decode cX7_reasonAgainst 28 = .ok (.getfield 41, 3) := by decide +kernel
theorem dX7_reasonAgainst_31 : decode cX7_reasonAgainst 31 = .ok (.iload_n 1, 1) := by decide +kernel
theorem dX7_reasonAgainst_32 : decode cX7_reasonAgainst 32 = .ok (.iload_n 2, 1) := by decide +kernel
theorem dX7_reasonAgainst_33 : decode cX7_reasonAgainst 33 = .ok (.invokevirtual 65, 3) := by decide +kernel
theorem dX7_reasonAgainst_36 : decode cX7_reasonAgainst 36 = .ok (.ifCond .ne 5, 3) := by decide +kernel
theorem dX7_reasonAgainst_39 : decode cX7_reasonAgainst 39 = .ok (.iconst 2, 1) := by decide +kernel
theorem dX7_reasonAgainst_40 : decode cX7_reasonAgainst 40 = .ok (.ireturn, 1) := by decide +kernel
theorem dX7_reasonAgainst_41 : decode cX7_reasonAgainst 41 = .ok (.aload_n 0, 1) := by decide +kernel
theorem dX7_reasonAgainst_42 : decode cX7_reasonAgainst 42 = .ok (.getfield 41, 3) := by decide +kernel
theorem dX7_reasonAgainst_45 : decode cX7_reasonAgainst 45 = .ok (.iload_n 1, 1) := by decide +kernel
theorem dX7_reasonAgainst_46 : decode cX7_reasonAgainst 46 = .ok (.invokevirtual 69, 3) := by decide +kernel
theorem dX7_reasonAgainst_49 : decode cX7_reasonAgainst 49 = .ok (.ifCond .eq 5, 3) := by decide +kernel
theorem dX7_reasonAgainst_52 : decode cX7_reasonAgainst 52 = .ok (.iconst 3, 1) := by decide +kernel
theorem dX7_reasonAgainst_53 : decode cX7_reasonAgainst 53 = .ok (.ireturn, 1) := by decide +kernel
theorem dX7_reasonAgainst_54 : decode cX7_reasonAgainst 54 = .ok (.aload_n 0, 1) := by decide +kernel
theorem dX7_reasonAgainst_55 : decode cX7_reasonAgainst 55 = .ok (.iload_n 1, 1) := by decide +kernel
theorem dX7_reasonAgainst_56 : decode cX7_reasonAgainst 56 = .ok (.invokevirtual 72, 3) := by decide +kernel
theorem dX7_reasonAgainst_59 : decode cX7_reasonAgainst 59 = .ok (.iload_n 1, 1) := by decide +kernel
theorem dX7_reasonAgainst_60 : decode cX7_reasonAgainst 60 = .ok (.iconst 1, 1) := by decide +kernel
theorem dX7_reasonAgainst_61 : decode cX7_reasonAgainst 61 = .ok (.iload_n 2, 1) := by decide +kernel
theorem dX7_reasonAgainst_62 : decode cX7_reasonAgainst 62 = .ok (.ishl, 1) := by decide +kernel
theorem dX7_reasonAgainst_63 : decode cX7_reasonAgainst 63 = .ok (.iconst 1, 1) := by decide +kernel
theorem dX7_reasonAgainst_64 : decode cX7_reasonAgainst 64 = .ok (.isub, 1) := by decide +kernel
theorem dX7_reasonAgainst_65 : decode cX7_reasonAgainst 65 = .ok (.iand, 1) := by decide +kernel
theorem dX7_reasonAgainst_66 : decode cX7_reasonAgainst 66 = .ok (.invokestatic 76, 3) := by decide +kernel
theorem dX7_reasonAgainst_69 : decode cX7_reasonAgainst 69 = .ok (.istore_n 3, 1) := by decide +kernel
theorem dX7_reasonAgainst_70 : decode cX7_reasonAgainst 70 = .ok (.aload_n 0, 1) := by decide +kernel
theorem dX7_reasonAgainst_71 : decode cX7_reasonAgainst 71 = .ok (.getfield 12, 3) := by decide +kernel
theorem dX7_reasonAgainst_74 : decode cX7_reasonAgainst 74 = .ok (.getfield 82, 3) := by decide +kernel
theorem dX7_reasonAgainst_77 : decode cX7_reasonAgainst 77 = .ok (.iconst 0, 1) := by decide +kernel
theorem dX7_reasonAgainst_78 : decode cX7_reasonAgainst 78 = .ok (.iload_n 3, 1) := by decide +kernel
theorem dX7_reasonAgainst_79 : decode cX7_reasonAgainst 79 = .ok (.iastore, 1) := by decide +kernel
theorem dX7_reasonAgainst_80 : decode cX7_reasonAgainst 80 = .ok (.aload_n 0, 1) := by decide +kernel
theorem dX7_reasonAgainst_81 : decode cX7_reasonAgainst 81 = .ok (.getfield 12, 3) := by decide +kernel
theorem dX7_reasonAgainst_84 : decode cX7_reasonAgainst 84 = .ok (.getfield 85, 3) := by decide +kernel
theorem dX7_reasonAgainst_87 : decode cX7_reasonAgainst 87 = .ok (.iload_n 3, 1) := by decide +kernel
theorem dX7_reasonAgainst_88 : decode cX7_reasonAgainst 88 = .ok (.iconst 0, 1) := by decide +kernel
theorem dX7_reasonAgainst_89 : decode cX7_reasonAgainst 89 = .ok (.iastore, 1) := by decide +kernel
theorem dX7_reasonAgainst_90 : decode cX7_reasonAgainst 90 = .ok (.aload_n 0, 1) := by decide +kernel
theorem dX7_reasonAgainst_91 : decode cX7_reasonAgainst 91 = .ok (.getfield 18, 3) := by decide +kernel
theorem dX7_reasonAgainst_94 : decode cX7_reasonAgainst 94 = .ok (.sipush 1441, 3) := by decide +kernel
theorem dX7_reasonAgainst_97 : decode cX7_reasonAgainst 97 = .ok (.putfield 45, 3) := by decide +kernel
theorem dX7_reasonAgainst_100 : decode cX7_reasonAgainst 100 = .ok (.aload_n 0, 1) := by decide +kernel
theorem dX7_reasonAgainst_101 : decode cX7_reasonAgainst 101 = .ok (.iconst 1, 1) := by decide +kernel
theorem dX7_reasonAgainst_102 : decode cX7_reasonAgainst 102 = .ok (.aload_n 0, 1) := by decide +kernel
theorem dX7_reasonAgainst_103 : decode cX7_reasonAgainst 103 = .ok (.invokevirtual 88, 3) := by decide +kernel
theorem dX7_reasonAgainst_106 : decode cX7_reasonAgainst 106 = .ok (.iconst 1, 1) := by decide +kernel
theorem dX7_reasonAgainst_107 : decode cX7_reasonAgainst 107 = .ok (.iload_n 3, 1) := by decide +kernel
theorem dX7_reasonAgainst_108 : decode cX7_reasonAgainst 108 = .ok (.ishl, 1) := by decide +kernel
theorem dX7_reasonAgainst_109 : decode cX7_reasonAgainst 109 = .ok (.iconst (-1), 1) := by decide +kernel
theorem dX7_reasonAgainst_110 : decode cX7_reasonAgainst 110 = .ok (.ixor, 1) := by decide +kernel
theorem dX7_reasonAgainst_111 : decode cX7_reasonAgainst 111 = .ok (.iand, 1) := by decide +kernel
theorem dX7_reasonAgainst_112 : decode cX7_reasonAgainst 112 = .ok (.iconst 0, 1) := by decide +kernel
theorem dX7_reasonAgainst_113 : decode cX7_reasonAgainst 113 = .ok (.aload_n 0, 1) := by decide +kernel
theorem dX7_reasonAgainst_114 : decode cX7_reasonAgainst 114 = .ok (.getfield 28, 3) := by decide +kernel
theorem dX7_reasonAgainst_117 : decode cX7_reasonAgainst 117 = .ok (.iload_n 3, 1) := by decide +kernel
theorem dX7_reasonAgainst_118 : decode cX7_reasonAgainst 118 = .ok (.iaload, 1) := by decide +kernel
theorem dX7_reasonAgainst_119 : decode cX7_reasonAgainst 119 = .ok (.invokevirtual 92, 3) := by decide +kernel
theorem dX7_reasonAgainst_122 : decode cX7_reasonAgainst 122 = .ok (.aload_n 0, 1) := by decide +kernel
theorem dX7_reasonAgainst_123 : decode cX7_reasonAgainst 123 = .ok (.getfield 18, 3) := by decide +kernel
theorem dX7_reasonAgainst_126 : decode cX7_reasonAgainst 126 = .ok (.getfield 45, 3) := by decide +kernel
theorem dX7_reasonAgainst_129 : decode cX7_reasonAgainst 129 = .ok (.sipush 1441, 3) := by decide +kernel
theorem dX7_reasonAgainst_132 : decode cX7_reasonAgainst 132 = .ok (.if_icmp .ne 7, 3) := by decide +kernel
theorem dX7_reasonAgainst_135 : decode cX7_reasonAgainst 135 = .ok (.iconst 4, 1) := by decide +kernel
theorem dX7_reasonAgainst_136 : decode cX7_reasonAgainst 136 = .ok (.goto 4, 3) := by decide +kernel
theorem dX7_reasonAgainst_139 : decode cX7_reasonAgainst 139 = .ok (.iconst 0, 1) := by decide +kernel
theorem dX7_reasonAgainst_140 : decode cX7_reasonAgainst 140 = .ok (.ireturn, 1) := by decide +kernel
theorem dX7_found_0 : decode cX7_found 0 = .ok (.aload_n 0, 1) := by decide +kernel
theorem dX7_found_1 : decode cX7_found 1 = .ok (.getfield 18, 3) := by decide +kernel
theorem dX7_found_4 : decode cX7_found 4 = .ok (.areturn, 1) := by decide +kernel
theorem dX7_load_0 : decode cX7_load 0 = .ok (.aload_n 0, 1) := by decide +kernel
theorem dX7_load_1 : decode cX7_load 1 = .ok (.getfield 12, 3) := by decide +kernel
theorem dX7_load_4 : decode cX7_load 4 = .ok (.iconst 0, 1) := by decide +kernel
theorem dX7_load_5 : decode cX7_load 5 = .ok (.putfield 96, 3) := by decide +kernel
theorem dX7_load_8 : decode cX7_load 8 = .ok (.iconst 0, 1) := by decide +kernel
theorem dX7_load_9 : decode cX7_load 9 = .ok (.istore_n 2, 1) := by decide +kernel
theorem dX7_load_10 : decode cX7_load 10 = .ok (.iload_n 2, 1) := by decide +kernel
theorem dX7_load_11 : decode cX7_load 11 = .ok (.bipush 9, 2) := by decide +kernel
theorem dX7_load_13 : decode cX7_load 13 = .ok (.if_icmp .ge 53, 3) := by decide +kernel
theorem dX7_load_16 : decode cX7_load 16 = .ok (.iload_n 1, 1) := by decide +kernel
theorem dX7_load_17 : decode cX7_load 17 = .ok (.iload_n 2, 1) := by decide +kernel
theorem dX7_load_18 : decode cX7_load 18 = .ok (.invokestatic 99, 3) := by decide +kernel
theorem dX7_load_21 : decode cX7_load 21 = .ok (.ifCond .eq 39, 3) := by decide +kernel
theorem dX7_load_24 : decode cX7_load 24 = .ok (.aload_n 0, 1) := by decide +kernel
theorem dX7_load_25 : decode cX7_load 25 = .ok (.getfield 12, 3) := by decide +kernel
theorem dX7_load_28 : decode cX7_load 28 = .ok (.getfield 96, 3) := by decide +kernel
theorem dX7_load_31 : decode cX7_load 31 = .ok (.iconst 4, 1) := by decide +kernel
theorem dX7_load_32 : decode cX7_load 32 = .ok (.if_icmp .ge 28, 3) := by decide +kernel
theorem dX7_load_35 : decode cX7_load 35 = .ok (.aload_n 0, 1) := by decide +kernel
theorem dX7_load_36 : decode cX7_load 36 = .ok (.aload_n 0, 1) := by decide +kernel
theorem dX7_load_37 : decode cX7_load 37 = .ok (.getfield 12, 3) := by decide +kernel
theorem dX7_load_40 : decode cX7_load 40 = .ok (.getfield 96, 3) := by decide +kernel
theorem dX7_load_43 : decode cX7_load 43 = .ok (.iload_n 2, 1) := by decide +kernel
theorem dX7_load_44 : decode cX7_load 44 = .ok (.invokevirtual 102, 3) := by decide +kernel
theorem dX7_load_47 : decode cX7_load 47 = .ok (.aload_n 0, 1) := by decide +kernel
theorem dX7_load_48 : decode cX7_load 48 = .ok (.getfield 12, 3) := by decide +kernel
theorem dX7_load_51 : decode cX7_load 51 = .ok (.dup, 1) := by decide +kernel
theorem dX7_load_52 : decode cX7_load 52 = .ok (.getfield 96, 3) := by decide +kernel
theorem dX7_load_55 : decode cX7_load 55 = .ok (.iconst 1, 1) := by decide +kernel
theorem dX7_load_56 : decode cX7_load 56 = .ok (.iadd, 1) := by decide +kernel
theorem dX7_load_57 : decode cX7_load 57 = .ok (.putfield 96, 3) := by decide +kernel
theorem dX7_load_60 : decode cX7_load 60 = .ok (.iinc 2 1, 3) := by decide +kernel
theorem dX7_load_63 : decode cX7_load 63 = .ok (.goto (-53), 3) := by decide +kernel
theorem dX7_load_66 : decode cX7_load 66 = .ok (.return_, 1) := by decide +kernel
theorem dX7_loadOne_0 : decode cX7_loadOne 0 = .ok (.aload_n 0, 1) := by decide +kernel
theorem dX7_loadOne_1 : decode cX7_loadOne 1 = .ok (.getfield 41, 3) := by decide +kernel
theorem dX7_loadOne_4 : decode cX7_loadOne 4 = .ok (.iload_n 2, 1) := by decide +kernel
theorem dX7_loadOne_5 : decode cX7_loadOne 5 = .ok (.invokevirtual 55, 3) := by decide +kernel
theorem dX7_loadOne_8 : decode cX7_loadOne 8 = .ok (.astore_n 3, 1) := by decide +kernel
theorem dX7_loadOne_9 : decode cX7_loadOne 9 = .ok (.aload_n 0, 1) := by decide +kernel
theorem dX7_loadOne_10 : decode cX7_loadOne 10 = .ok (.getfield 12, 3) := by decide +kernel
theorem dX7_loadOne_13 : decode cX7_loadOne 13 = .ok (.getfield 106, 3) := by decide +kernel
theorem dX7_loadOne_16 : decode cX7_loadOne 16 = .ok (.iload_n 1, 1) := by decide +kernel
theorem dX7_loadOne_17 : decode cX7_loadOne 17 = .ok (.iload_n 2, 1) := by decide +kernel
theorem dX7_loadOne_18 : decode cX7_loadOne 18 = .ok (.iastore, 1) := by decide +kernel
theorem dX7_loadOne_19 : decode cX7_loadOne 19 = .ok (.aload_n 0, 1) := by decide +kernel
theorem dX7_loadOne_20 : decode cX7_loadOne 20 = .ok (.getfield 21, 3) := by decide +kernel
theorem dX7_loadOne_23 : decode cX7_loadOne 23 = .ok (.iload_n 1, 1) := by decide +kernel
theorem dX7_loadOne_24 : decode cX7_loadOne 24 = .ok (.aload_n 3, 1) := by decide +kernel
theorem dX7_loadOne_25 : decode cX7_loadOne 25 = .ok (.getfield 109, 3) := by decide +kernel
theorem dX7_loadOne_28 : decode cX7_loadOne 28 = .ok (.iastore, 1) := by decide +kernel
theorem dX7_loadOne_29 : decode cX7_loadOne 29 = .ok (.aload_n 0, 1) := by decide +kernel
theorem dX7_loadOne_30 : decode cX7_loadOne 30 = .ok (.getfield 25, 3) := by decide +kernel
theorem dX7_loadOne_33 : decode cX7_loadOne 33 = .ok (.iload_n 1, 1) := by decide +kernel
theorem dX7_loadOne_34 : decode cX7_loadOne 34 = .ok (.aload_n 3, 1) := by decide +kernel
theorem dX7_loadOne_35 : decode cX7_loadOne 35 = .ok (.getfield 111, 3) := by decide +kernel
theorem dX7_loadOne_38 : decode cX7_loadOne 38 = .ok (.iastore, 1) := by decide +kernel
theorem dX7_loadOne_39 : decode cX7_loadOne 39 = .ok (.aload_n 0, 1) := by decide +kernel
theorem dX7_loadOne_40 : decode cX7_loadOne 40 = .ok (.getfield 28, 3) := by decide +kernel
theorem dX7_loadOne_43 : decode cX7_loadOne 43 = .ok (.iload_n 1, 1) := by decide +kernel
theorem dX7_loadOne_44 : decode cX7_loadOne 44 = .ok (.aload_n 3, 1) := by decide +kernel
theorem dX7_loadOne_45 : decode cX7_loadOne 45 = .ok (.getfield 113, 3) := by decide +kernel
theorem dX7_loadOne_48 : decode cX7_loadOne 48 = .ok (.iastore, 1) := by decide +kernel
theorem dX7_loadOne_49 : decode cX7_loadOne 49 = .ok (.aload_n 0, 1) := by decide +kernel
theorem dX7_loadOne_50 : decode cX7_loadOne 50 = .ok (.getfield 31, 3) := by decide +kernel
theorem dX7_loadOne_53 : decode cX7_loadOne 53 = .ok (.iload_n 1, 1) := by decide +kernel
theorem dX7_loadOne_54 : decode cX7_loadOne 54 = .ok (.aload_n 3, 1) := by decide +kernel
theorem dX7_loadOne_55 : decode cX7_loadOne 55 = .ok (.getfield 115, 3) := by decide +kernel
theorem dX7_loadOne_58 : decode cX7_loadOne 58 = .ok (.iastore, 1) := by decide +kernel
theorem dX7_loadOne_59 : decode cX7_loadOne 59 = .ok (.aload_n 0, 1) := by decide +kernel
theorem dX7_loadOne_60 : decode cX7_loadOne 60 = .ok (.getfield 34, 3) := by decide +kernel
theorem dX7_loadOne_63 : decode cX7_loadOne 63 = .ok (.iload_n 1, 1) := by decide +kernel
theorem dX7_loadOne_64 : decode cX7_loadOne 64 = .ok (.aload_n 0, 1) := by decide +kernel
theorem dX7_loadOne_65 : decode cX7_loadOne 65 = .ok (.getfield 37, 3) := by decide +kernel
theorem dX7_loadOne_68 : decode cX7_loadOne 68 = .ok (.aload_n 3, 1) := by decide +kernel
theorem dX7_loadOne_69 : decode cX7_loadOne 69 = .ok (.getfield 109, 3) := by decide +kernel
theorem dX7_loadOne_72 : decode cX7_loadOne 72 = .ok (.aload_n 3, 1) := by decide +kernel
theorem dX7_loadOne_73 : decode cX7_loadOne 73 = .ok (.getfield 111, 3) := by decide +kernel
theorem dX7_loadOne_76 : decode cX7_loadOne 76 = .ok (.invokevirtual 117, 3) := by decide +kernel
theorem dX7_loadOne_79 : decode cX7_loadOne 79 = .ok (.aload_n 3, 1) := by decide +kernel
theorem dX7_loadOne_80 : decode cX7_loadOne 80 = .ok (.getfield 123, 3) := by decide +kernel
theorem dX7_loadOne_83 : decode cX7_loadOne 83 = .ok (.iadd, 1) := by decide +kernel
theorem dX7_loadOne_84 : decode cX7_loadOne 84 = .ok (.iastore, 1) := by decide +kernel
theorem dX7_loadOne_85 : decode cX7_loadOne 85 = .ok (.return_, 1) := by decide +kernel
theorem dX7_allPlaces_0 : decode cX7_allPlaces 0 = .ok (.iconst 1, 1) := by decide +kernel
theorem dX7_allPlaces_1 : decode cX7_allPlaces 1 = .ok (.aload_n 0, 1) := by decide +kernel
theorem dX7_allPlaces_2 : decode cX7_allPlaces 2 = .ok (.getfield 12, 3) := by decide +kernel
theorem dX7_allPlaces_5 : decode cX7_allPlaces 5 = .ok (.getfield 96, 3) := by decide +kernel
theorem dX7_allPlaces_8 : decode cX7_allPlaces 8 = .ok (.ishl, 1) := by decide +kernel
theorem dX7_allPlaces_9 : decode cX7_allPlaces 9 = .ok (.iconst 1, 1) := by decide +kernel
theorem dX7_allPlaces_10 : decode cX7_allPlaces 10 = .ok (.isub, 1) := by decide +kernel
theorem dX7_allPlaces_11 : decode cX7_allPlaces 11 = .ok (.ireturn, 1) := by decide +kernel
theorem dX7_pickNext_0 : decode cX7_pickNext 0 = .ok (.aload_n 0, 1) := by decide +kernel
theorem dX7_pickNext_1 : decode cX7_pickNext 1 = .ok (.getfield 21, 3) := by decide +kernel
theorem dX7_pickNext_4 : decode cX7_pickNext 4 = .ok (.aload_n 0, 1) := by decide +kernel
theorem dX7_pickNext_5 : decode cX7_pickNext 5 = .ok (.getfield 12, 3) := by decide +kernel
theorem dX7_pickNext_8 : decode cX7_pickNext 8 = .ok (.getfield 82, 3) := by decide +kernel
theorem dX7_pickNext_11 : decode cX7_pickNext 11 = .ok (.iload_n 1, 1) := by decide +kernel
theorem dX7_pickNext_12 : decode cX7_pickNext 12 = .ok (.iconst 1, 1) := by decide +kernel
theorem dX7_pickNext_13 : decode cX7_pickNext 13 = .ok (.isub, 1) := by decide +kernel
theorem dX7_pickNext_14 : decode cX7_pickNext 14 = .ok (.iaload, 1) := by decide +kernel
theorem dX7_pickNext_15 : decode cX7_pickNext 15 = .ok (.iaload, 1) := by decide +kernel
theorem dX7_pickNext_16 : decode cX7_pickNext 16 = .ok (.istore 5, 2) := by decide +kernel
theorem dX7_pickNext_18 : decode cX7_pickNext 18 = .ok (.iload_n 1, 1) := by decide +kernel
theorem dX7_pickNext_19 : decode cX7_pickNext 19 = .ok (.aload_n 0, 1) := by decide +kernel
theorem dX7_pickNext_20 : decode cX7_pickNext 20 = .ok (.getfield 12, 3) := by decide +kernel
theorem dX7_pickNext_23 : decode cX7_pickNext 23 = .ok (.getfield 96, 3) := by decide +kernel
theorem dX7_pickNext_26 : decode cX7_pickNext 26 = .ok (.if_icmp .lt 21, 3) := by decide +kernel
theorem dX7_pickNext_29 : decode cX7_pickNext 29 = .ok (.aload_n 0, 1) := by decide +kernel
theorem dX7_pickNext_30 : decode cX7_pickNext 30 = .ok (.iconst 0, 1) := by decide +kernel
theorem dX7_pickNext_31 : decode cX7_pickNext 31 = .ok (.aload_n 0, 1) := by decide +kernel
theorem dX7_pickNext_32 : decode cX7_pickNext 32 = .ok (.invokevirtual 88, 3) := by decide +kernel
theorem dX7_pickNext_35 : decode cX7_pickNext 35 = .ok (.iload 5, 2) := by decide +kernel
theorem dX7_pickNext_37 : decode cX7_pickNext 37 = .ok (.iload_n 3, 1) := by decide +kernel
theorem dX7_pickNext_38 : decode cX7_pickNext 38 = .ok (.iload 4, 2) := by decide +kernel
theorem dX7_pickNext_40 : decode cX7_pickNext 40 = .ok (.sipush 1440, 3) := by decide +kernel
theorem dX7_pickNext_43 : decode cX7_pickNext 43 = .ok (.invokevirtual 126, 3) := by decide +kernel
theorem dX7_pickNext_46 : decode cX7_pickNext 46 = .ok (.return_, 1) := by decide +kernel
theorem dX7_pickNext_47 : decode cX7_pickNext 47 = .ok (.iconst 0, 1) := by decide +kernel
theorem dX7_pickNext_48 : decode cX7_pickNext 48 = .ok (.istore 6, 2) := by decide +kernel
theorem dX7_pickNext_50 : decode cX7_pickNext 50 = .ok (.iload 6, 2) := by decide +kernel
theorem dX7_pickNext_52 : decode cX7_pickNext 52 = .ok (.aload_n 0, 1) := by decide +kernel
theorem dX7_pickNext_53 : decode cX7_pickNext 53 = .ok (.getfield 12, 3) := by decide +kernel
theorem dX7_pickNext_56 : decode cX7_pickNext 56 = .ok (.getfield 96, 3) := by decide +kernel
theorem dX7_pickNext_59 : decode cX7_pickNext 59 = .ok (.if_icmp .ge 105, 3) := by decide +kernel
theorem dX7_pickNext_62 : decode cX7_pickNext 62 = .ok (.iload_n 2, 1) := by decide +kernel
theorem dX7_pickNext_63 : decode cX7_pickNext 63 = .ok (.iload 6, 2) := by decide +kernel
theorem dX7_pickNext_65 : decode cX7_pickNext 65 = .ok (.invokestatic 99, 3) := by decide +kernel
theorem dX7_pickNext_68 : decode cX7_pickNext 68 = .ok (.ifCond .eq 90, 3) := by decide +kernel
theorem dX7_pickNext_71 : decode cX7_pickNext 71 = .ok (.iload_n 3, 1) := by decide +kernel
theorem dX7_pickNext_72 : decode cX7_pickNext 72 = .ok (.aload_n 0, 1) := by decide +kernel
theorem dX7_pickNext_73 : decode cX7_pickNext 73 = .ok (.getfield 37, 3) := by decide +kernel
theorem dX7_pickNext_76 : decode cX7_pickNext 76 = .ok (.iload 5, 2) := by decide +kernel
theorem dX7_pickNext_78 : decode cX7_pickNext 78 = .ok (.aload_n 0, 1) := by decide +kernel
theorem dX7_pickNext_79 : decode cX7_pickNext 79 = .ok (.getfield 21, 3) := by decide +kernel
theorem dX7_pickNext_82 : decode cX7_pickNext 82 = .ok (.iload 6, 2) := by decide +kernel
theorem dX7_pickNext_84 : decode cX7_pickNext 84 = .ok (.iaload, 1) := by decide +kernel
theorem dX7_pickNext_85 : decode cX7_pickNext 85 = .ok (.invokevirtual 117, 3) := by decide +kernel
theorem dX7_pickNext_88 : decode cX7_pickNext 88 = .ok (.iadd, 1) := by decide +kernel
theorem dX7_pickNext_89 : decode cX7_pickNext 89 = .ok (.istore 7, 2) := by decide +kernel
theorem dX7_pickNext_91 : decode cX7_pickNext 91 = .ok (.iload 7, 2) := by decide +kernel
theorem dX7_pickNext_93 : decode cX7_pickNext 93 = .ok (.aload_n 0, 1) := by decide +kernel
theorem dX7_pickNext_94 : decode cX7_pickNext 94 = .ok (.getfield 18, 3) := by decide +kernel
theorem dX7_pickNext_97 : decode cX7_pickNext 97 = .ok (.getfield 45, 3) := by decide +kernel
theorem dX7_pickNext_100 : decode cX7_pickNext 100 = .ok (.if_icmp .ge 58, 3) := by decide +kernel
theorem dX7_pickNext_103 : decode cX7_pickNext 103 = .ok (.aload_n 0, 1) := by decide +kernel
theorem dX7_pickNext_104 : decode cX7_pickNext 104 = .ok (.getfield 12, 3) := by decide +kernel
theorem dX7_pickNext_107 : decode cX7_pickNext 107 = .ok (.getfield 82, 3) := by decide +kernel
theorem dX7_pickNext_110 : decode cX7_pickNext 110 = .ok (.iload_n 1, 1) := by decide +kernel
theorem dX7_pickNext_111 : decode cX7_pickNext 111 = .ok (.iload 6, 2) := by decide +kernel
theorem dX7_pickNext_113 : decode cX7_pickNext 113 = .ok (.iastore, 1) := by decide +kernel
theorem dX7_pickNext_114 : decode cX7_pickNext 114 = .ok (.aload_n 0, 1) := by decide +kernel
theorem dX7_pickNext_115 : decode cX7_pickNext 115 = .ok (.getfield 12, 3) := by decide +kernel
theorem dX7_pickNext_118 : decode cX7_pickNext 118 = .ok (.getfield 85, 3) := by decide +kernel
theorem dX7_pickNext_121 : decode cX7_pickNext 121 = .ok (.iload 6, 2) := by decide +kernel
theorem dX7_pickNext_123 : decode cX7_pickNext 123 = .ok (.iload 7, 2) := by decide +kernel
theorem dX7_pickNext_125 : decode cX7_pickNext 125 = .ok (.iastore, 1) := by decide +kernel
theorem dX7_pickNext_126 : decode cX7_pickNext 126 = .ok (.aload_n 0, 1) := by decide +kernel
theorem dX7_pickNext_127 : decode cX7_pickNext 127 = .ok (.iload_n 1, 1) := by decide +kernel
theorem dX7_pickNext_128 : decode cX7_pickNext 128 = .ok (.iconst 1, 1) := by decide +kernel
theorem dX7_pickNext_129 : decode cX7_pickNext 129 = .ok (.iadd, 1) := by decide +kernel
theorem dX7_pickNext_130 : decode cX7_pickNext 130 = .ok (.iload_n 2, 1) := by decide +kernel
theorem dX7_pickNext_131 : decode cX7_pickNext 131 = .ok (.iconst 1, 1) := by decide +kernel
theorem dX7_pickNext_132 : decode cX7_pickNext 132 = .ok (.iload 6, 2) := by decide +kernel
theorem dX7_pickNext_134 : decode cX7_pickNext 134 = .ok (.ishl, 1) := by decide +kernel
theorem dX7_pickNext_135 : decode cX7_pickNext 135 = .ok (.iconst (-1), 1) := by decide +kernel
theorem dX7_pickNext_136 : decode cX7_pickNext 136 = .ok (.ixor, 1) := by decide +kernel
theorem dX7_pickNext_137 : decode cX7_pickNext 137 = .ok (.iand, 1) := by decide +kernel
theorem dX7_pickNext_138 : decode cX7_pickNext 138 = .ok (.iload 7, 2) := by decide +kernel
theorem dX7_pickNext_140 : decode cX7_pickNext 140 = .ok (.iload 4, 2) := by decide +kernel
theorem dX7_pickNext_142 : decode cX7_pickNext 142 = .ok (.aload_n 0, 1) := by decide +kernel
theorem dX7_pickNext_143 : decode cX7_pickNext 143 = .ok (.getfield 28, 3) := by decide +kernel
theorem dX7_pickNext_146 : decode cX7_pickNext 146 = .ok (.iload 6, 2) := by decide +kernel
theorem dX7_pickNext_148 : decode cX7_pickNext 148 = .ok (.iaload, 1) := by decide +kernel
theorem dX7_pickNext_149 : decode cX7_pickNext 149 = .ok (.iload 7, 2) := by decide +kernel
theorem dX7_pickNext_151 : decode cX7_pickNext 151 = .ok (.isub, 1) := by decide +kernel
theorem dX7_pickNext_152 : decode cX7_pickNext 152 = .ok (.invokestatic 130, 3) := by decide +kernel
theorem dX7_pickNext_155 : decode cX7_pickNext 155 = .ok (.invokevirtual 92, 3) := by decide +kernel
theorem dX7_pickNext_158 : decode cX7_pickNext 158 = .ok (.iinc 6 1, 3) := by decide +kernel
theorem dX7_pickNext_161 : decode cX7_pickNext 161 = .ok (.goto (-111), 3) := by decide +kernel
theorem dX7_pickNext_164 : decode cX7_pickNext 164 = .ok (.return_, 1) := by decide +kernel
theorem dX7_bringNext_0 : decode cX7_bringNext 0 = .ok (.iload_n 1, 1) := by decide +kernel
theorem dX7_bringNext_1 : decode cX7_bringNext 1 = .ok (.aload_n 0, 1) := by decide +kernel
theorem dX7_bringNext_2 : decode cX7_bringNext 2 = .ok (.getfield 12, 3) := by decide +kernel
theorem dX7_bringNext_5 : decode cX7_bringNext 5 = .ok (.getfield 96, 3) := by decide +kernel
theorem dX7_bringNext_8 : decode cX7_bringNext 8 = .ok (.if_icmp .lt 33, 3) := by decide +kernel
theorem dX7_bringNext_11 : decode cX7_bringNext 11 = .ok (.aload_n 0, 1) := by decide +kernel
theorem dX7_bringNext_12 : decode cX7_bringNext 12 = .ok (.getfield 12, 3) := by decide +kernel
theorem dX7_bringNext_15 : decode cX7_bringNext 15 = .ok (.iload 4, 2) := by decide +kernel
theorem dX7_bringNext_17 : decode cX7_bringNext 17 = .ok (.putfield 45, 3) := by decide +kernel
theorem dX7_bringNext_20 : decode cX7_bringNext 20 = .ok (.aload_n 0, 1) := by decide +kernel
theorem dX7_bringNext_21 : decode cX7_bringNext 21 = .ok (.getfield 12, 3) := by decide +kernel
theorem dX7_bringNext_24 : decode cX7_bringNext 24 = .ok (.iload 6, 2) := by decide +kernel
theorem dX7_bringNext_26 : decode cX7_bringNext 26 = .ok (.putfield 135, 3) := by decide +kernel
theorem dX7_bringNext_29 : decode cX7_bringNext 29 = .ok (.aload_n 0, 1) := by decide +kernel
theorem dX7_bringNext_30 : decode cX7_bringNext 30 = .ok (.getfield 18, 3) := by decide +kernel
theorem dX7_bringNext_33 : decode cX7_bringNext 33 = .ok (.aload_n 0, 1) := by decide +kernel
theorem dX7_bringNext_34 : decode cX7_bringNext 34 = .ok (.getfield 12, 3) := by decide +kernel
theorem dX7_bringNext_37 : decode cX7_bringNext 37 = .ok (.invokevirtual 138, 3) := by decide +kernel
theorem dX7_bringNext_40 : decode cX7_bringNext 40 = .ok (.return_, 1) := by decide +kernel
theorem dX7_bringNext_41 : decode cX7_bringNext 41 = .ok (.iconst 0, 1) := by decide +kernel
theorem dX7_bringNext_42 : decode cX7_bringNext 42 = .ok (.istore 7, 2) := by decide +kernel
theorem dX7_bringNext_44 : decode cX7_bringNext 44 = .ok (.iload 7, 2) := by decide +kernel
theorem dX7_bringNext_46 : decode cX7_bringNext 46 = .ok (.aload_n 0, 1) := by decide +kernel
theorem dX7_bringNext_47 : decode cX7_bringNext 47 = .ok (.getfield 12, 3) := by decide +kernel
theorem dX7_bringNext_50 : decode cX7_bringNext 50 = .ok (.getfield 96, 3) := by decide +kernel
theorem dX7_bringNext_53 : decode cX7_bringNext 53 = .ok (.if_icmp .ge 160, 3) := by decide +kernel
theorem dX7_bringNext_56 : decode cX7_bringNext 56 = .ok (.iload_n 2, 1) := by decide +kernel
theorem dX7_bringNext_57 : decode cX7_bringNext 57 = .ok (.iload 7, 2) := by decide +kernel
theorem dX7_bringNext_59 : decode cX7_bringNext 59 = .ok (.invokestatic 99, 3) := by decide +kernel
theorem dX7_bringNext_62 : decode cX7_bringNext 62 = .ok (.ifCond .eq 145, 3) := by decide +kernel
theorem dX7_bringNext_65 : decode cX7_bringNext 65 = .ok (.iload 4, 2) := by decide +kernel
theorem dX7_bringNext_67 : decode cX7_bringNext 67 = .ok (.aload_n 0, 1) := by decide +kernel
theorem dX7_bringNext_68 : decode cX7_bringNext 68 = .ok (.getfield 37, 3) := by decide +kernel
theorem dX7_bringNext_71 : decode cX7_bringNext 71 = .ok (.iload_n 3, 1) := by decide +kernel
theorem dX7_bringNext_72 : decode cX7_bringNext 72 = .ok (.aload_n 0, 1) := by decide +kernel
theorem dX7_bringNext_73 : decode cX7_bringNext 73 = .ok (.getfield 25, 3) := by decide +kernel
theorem dX7_bringNext_76 : decode cX7_bringNext 76 = .ok (.iload 7, 2) := by decide +kernel
theorem dX7_bringNext_78 : decode cX7_bringNext 78 = .ok (.iaload, 1) := by decide +kernel
theorem dX7_bringNext_79 : decode cX7_bringNext 79 = .ok (.invokevirtual 117, 3) := by decide +kernel
theorem dX7_bringNext_82 : decode cX7_bringNext 82 = .ok (.iadd, 1) := by decide +kernel
theorem dX7_bringNext_83 : decode cX7_bringNext 83 = .ok (.istore 8, 2) := by decide +kernel
theorem dX7_bringNext_85 : decode cX7_bringNext 85 = .ok (.iload 6, 2) := by decide +kernel
theorem dX7_bringNext_87 : decode cX7_bringNext 87 = .ok (.aload_n 0, 1) := by decide +kernel
theorem dX7_bringNext_88 : decode cX7_bringNext 88 = .ok (.getfield 31, 3) := by decide +kernel
theorem dX7_bringNext_91 : decode cX7_bringNext 91 = .ok (.iload 7, 2) := by decide +kernel
theorem dX7_bringNext_93 : decode cX7_bringNext 93 = .ok (.iaload, 1) := by decide +kernel
theorem dX7_bringNext_94 : decode cX7_bringNext 94 = .ok (.iload 8, 2) := by decide +kernel
theorem dX7_bringNext_96 : decode cX7_bringNext 96 = .ok (.isub, 1) := by decide +kernel
theorem dX7_bringNext_97 : decode cX7_bringNext 97 = .ok (.invokestatic 142, 3) := by decide +kernel
theorem dX7_bringNext_100 : decode cX7_bringNext 100 = .ok (.istore 9, 2) := by decide +kernel
theorem dX7_bringNext_102 : decode cX7_bringNext 102 = .ok (.iload 8, 2) := by decide +kernel
theorem dX7_bringNext_104 : decode cX7_bringNext 104 = .ok (.aload_n 0, 1) := by decide +kernel
theorem dX7_bringNext_105 : decode cX7_bringNext 105 = .ok (.getfield 12, 3) := by decide +kernel
theorem dX7_bringNext_108 : decode cX7_bringNext 108 = .ok (.getfield 85, 3) := by decide +kernel
theorem dX7_bringNext_111 : decode cX7_bringNext 111 = .ok (.iload 7, 2) := by decide +kernel
theorem dX7_bringNext_113 : decode cX7_bringNext 113 = .ok (.iaload, 1) := by decide +kernel
theorem dX7_bringNext_114 : decode cX7_bringNext 114 = .ok (.isub, 1) := by decide +kernel
theorem dX7_bringNext_115 : decode cX7_bringNext 115 = .ok (.aload_n 0, 1) := by decide +kernel
theorem dX7_bringNext_116 : decode cX7_bringNext 116 = .ok (.getfield 34, 3) := by decide +kernel
theorem dX7_bringNext_119 : decode cX7_bringNext 119 = .ok (.iload 7, 2) := by decide +kernel
theorem dX7_bringNext_121 : decode cX7_bringNext 121 = .ok (.iaload, 1) := by decide +kernel
theorem dX7_bringNext_122 : decode cX7_bringNext 122 = .ok (.if_icmp .gt 7, 3) := by decide +kernel
theorem dX7_bringNext_125 : decode cX7_bringNext 125 = .ok (.iconst 1, 1) := by decide +kernel
theorem dX7_bringNext_126 : decode cX7_bringNext 126 = .ok (.goto 4, 3) := by decide +kernel
theorem dX7_bringNext_129 : decode cX7_bringNext 129 = .ok (.iconst 0, 1) := by decide +kernel
theorem dX7_bringNext_130 : decode cX7_bringNext 130 = .ok (.istore 10, 2) := by decide +kernel
theorem dX7_bringNext_132 : decode cX7_bringNext 132 = .ok (.iload 10, 2) := by decide +kernel
theorem dX7_bringNext_134 : decode cX7_bringNext 134 = .ok (.ifCond .eq 73, 3) := by decide +kernel
theorem dX7_bringNext_137 : decode cX7_bringNext 137 = .ok (.iload 8, 2) := by decide +kernel
theorem dX7_bringNext_139 : decode cX7_bringNext 139 = .ok (.aload_n 0, 1) := by decide +kernel
theorem dX7_bringNext_140 : decode cX7_bringNext 140 = .ok (.getfield 18, 3) := by decide +kernel
theorem dX7_bringNext_143 : decode cX7_bringNext 143 = .ok (.getfield 45, 3) := by decide +kernel
theorem dX7_bringNext_146 : decode cX7_bringNext 146 = .ok (.if_icmp .ge 61, 3) := by decide +kernel
theorem dX7_bringNext_149 : decode cX7_bringNext 149 = .ok (.iload 5, 2) := by decide +kernel
theorem dX7_bringNext_151 : decode cX7_bringNext 151 = .ok (.iload 9, 2) := by decide +kernel
theorem dX7_bringNext_153 : decode cX7_bringNext 153 = .ok (.if_icmp .gt 54, 3) := by decide +kernel
theorem dX7_bringNext_156 : decode cX7_bringNext 156 = .ok (.aload_n 0, 1) := by decide +kernel
theorem dX7_bringNext_157 : decode cX7_bringNext 157 = .ok (.getfield 12, 3) := by decide +kernel
theorem dX7_bringNext_160 : decode cX7_bringNext 160 = .ok (.getfield 145, 3) := by decide +kernel
theorem dX7_bringNext_163 : decode cX7_bringNext 163 = .ok (.iload_n 1, 1) := by decide +kernel
theorem dX7_bringNext_164 : decode cX7_bringNext 164 = .ok (.iload 7, 2) := by decide +kernel
theorem dX7_bringNext_166 : decode cX7_bringNext 166 = .ok (.iastore, 1) := by decide +kernel
theorem dX7_bringNext_167 : decode cX7_bringNext 167 = .ok (.aload_n 0, 1) := by decide +kernel
theorem dX7_bringNext_168 : decode cX7_bringNext 168 = .ok (.getfield 12, 3) := by decide +kernel
theorem dX7_bringNext_171 : decode cX7_bringNext 171 = .ok (.getfield 148, 3) := by decide +kernel
theorem dX7_bringNext_174 : decode cX7_bringNext 174 = .ok (.iload 7, 2) := by decide +kernel
theorem dX7_bringNext_176 : decode cX7_bringNext 176 = .ok (.iload 8, 2) := by decide +kernel
theorem dX7_bringNext_178 : decode cX7_bringNext 178 = .ok (.iastore, 1) := by decide +kernel
theorem dX7_bringNext_179 : decode cX7_bringNext 179 = .ok (.aload_n 0, 1) := by decide +kernel
theorem dX7_bringNext_180 : decode cX7_bringNext 180 = .ok (.iload_n 1, 1) := by decide +kernel
theorem dX7_bringNext_181 : decode cX7_bringNext 181 = .ok (.iconst 1, 1) := by decide +kernel
theorem dX7_bringNext_182 : decode cX7_bringNext 182 = .ok (.iadd, 1) := by decide +kernel
theorem dX7_bringNext_183 : decode cX7_bringNext 183 = .ok (.iload_n 2, 1) := by decide +kernel
theorem dX7_bringNext_184 : decode cX7_bringNext 184 = .ok (.iconst 1, 1) := by decide +kernel
theorem dX7_bringNext_185 : decode cX7_bringNext 185 = .ok (.iload 7, 2) := by decide +kernel
theorem dX7_bringNext_187 : decode cX7_bringNext 187 = .ok (.ishl, 1) := by decide +kernel
theorem dX7_bringNext_188 : decode cX7_bringNext 188 = .ok (.iconst (-1), 1) := by decide +kernel
theorem dX7_bringNext_189 : decode cX7_bringNext 189 = .ok (.ixor, 1) := by decide +kernel
theorem dX7_bringNext_190 : decode cX7_bringNext 190 = .ok (.iand, 1) := by decide +kernel
theorem dX7_bringNext_191 : decode cX7_bringNext 191 = .ok (.aload_n 0, 1) := by decide +kernel
theorem dX7_bringNext_192 : decode cX7_bringNext 192 = .ok (.getfield 25, 3) := by decide +kernel
theorem dX7_bringNext_195 : decode cX7_bringNext 195 = .ok (.iload 7, 2) := by decide +kernel
theorem dX7_bringNext_197 : decode cX7_bringNext 197 = .ok (.iaload, 1) := by decide +kernel
theorem dX7_bringNext_198 : decode cX7_bringNext 198 = .ok (.iload 8, 2) := by decide +kernel
theorem dX7_bringNext_200 : decode cX7_bringNext 200 = .ok (.iload 5, 2) := by decide +kernel
theorem dX7_bringNext_202 : decode cX7_bringNext 202 = .ok (.iload 9, 2) := by decide +kernel
theorem dX7_bringNext_204 : decode cX7_bringNext 204 = .ok (.invokevirtual 126, 3) := by decide +kernel
theorem dX7_bringNext_207 : decode cX7_bringNext 207 = .ok (.iinc 7 1, 3) := by decide +kernel
theorem dX7_bringNext_210 : decode cX7_bringNext 210 = .ok (.goto (-166), 3) := by decide +kernel
theorem dX7_bringNext_213 : decode cX7_bringNext 213 = .ok (.return_, 1) := by decide +kernel
theorem dX8_init_0 : decode cX8_init 0 = .ok (.aload_n 0, 1) := by decide +kernel
theorem dX8_init_1 : decode cX8_init 1 = .ok (.invokespecial 3, 3) := by decide +kernel
theorem dX8_init_4 : decode cX8_init 4 = .ok (.aload_n 0, 1) := by decide +kernel
theorem dX8_init_5 : decode cX8_init 5 = .ok (.new 9, 3) := by decide +kernel
theorem dX8_init_8 : decode cX8_init 8 = .ok (.dup, 1) := by decide +kernel
theorem dX8_init_9 : decode cX8_init 9 = .ok (.invokespecial 11, 3) := by decide +kernel
theorem dX8_init_12 : decode cX8_init 12 = .ok (.putfield 12, 3) := by decide +kernel
theorem dX8_init_15 : decode cX8_init 15 = .ok (.aload_n 0, 1) := by decide +kernel
theorem dX8_init_16 : decode cX8_init 16 = .ok (.new 16, 3) := by decide +kernel
theorem dX8_init_19 : decode cX8_init 19 = .ok (.dup, 1) := by decide +kernel
theorem dX8_init_20 : decode cX8_init 20 = .ok (.invokespecial 18, 3) := by decide +kernel
theorem dX8_init_23 : decode cX8_init 23 = .ok (.putfield 19, 3) := by decide +kernel
theorem dX8_init_26 : decode cX8_init 26 = .ok (.aload_n 0, 1) := by decide +kernel
theorem dX8_init_27 : decode cX8_init 27 = .ok (.new 23, 3) := by decide +kernel
theorem dX8_init_30 : decode cX8_init 30 = .ok (.dup, 1) := by decide +kernel
theorem dX8_init_31 : decode cX8_init 31 = .ok (.aload_n 0, 1) := by decide +kernel
theorem dX8_init_32 : decode cX8_init 32 = .ok (.getfield 12, 3) := by decide +kernel
theorem dX8_init_35 : decode cX8_init 35 = .ok (.aload_n 0, 1) := by decide +kernel
theorem dX8_init_36 : decode cX8_init 36 = .ok (.getfield 19, 3) := by decide +kernel
theorem dX8_init_39 : decode cX8_init 39 = .ok (.invokespecial 25, 3) := by decide +kernel
theorem dX8_init_42 : decode cX8_init 42 = .ok (.putfield 28, 3) := by decide +kernel
theorem dX8_init_45 : decode cX8_init 45 = .ok (.aload_n 0, 1) := by decide +kernel
theorem dX8_init_46 : decode cX8_init 46 = .ok (.new 32, 3) := by decide +kernel
theorem dX8_init_49 : decode cX8_init 49 = .ok (.dup, 1) := by decide +kernel
theorem dX8_init_50 : decode cX8_init 50 = .ok (.aload_n 0, 1) := by decide +kernel
theorem dX8_init_51 : decode cX8_init 51 = .ok (.getfield 28, 3) := by decide +kernel
theorem dX8_init_54 : decode cX8_init 54 = .ok (.invokespecial 34, 3) := by decide +kernel
theorem dX8_init_57 : decode cX8_init 57 = .ok (.putfield 37, 3) := by decide +kernel
theorem dX8_init_60 : decode cX8_init 60 = .ok (.aload_n 0, 1) := by decide +kernel
theorem dX8_init_61 : decode cX8_init 61 = .ok (.new 41, 3) := by decide +kernel
theorem dX8_init_64 : decode cX8_init 64 = .ok (.dup, 1) := by decide +kernel
theorem dX8_init_65 : decode cX8_init 65 = .ok (.aload_n 0, 1) := by decide +kernel
theorem dX8_init_66 : decode cX8_init 66 = .ok (.getfield 37, 3) := by decide +kernel
theorem dX8_init_69 : decode cX8_init 69 = .ok (.invokespecial 43, 3) := by decide +kernel
theorem dX8_init_72 : decode cX8_init 72 = .ok (.putfield 46, 3) := by decide +kernel
theorem dX8_init_75 : decode cX8_init 75 = .ok (.aload_n 0, 1) := by decide +kernel
theorem dX8_init_76 : decode cX8_init 76 = .ok (.new 50, 3) := by decide +kernel
theorem dX8_init_79 : decode cX8_init 79 = .ok (.dup, 1) := by decide +kernel
theorem dX8_init_80 : decode cX8_init 80 = .ok (.invokespecial 52, 3) := by decide +kernel
theorem dX8_init_83 : decode cX8_init 83 = .ok (.putfield 53, 3) := by decide +kernel
theorem dX8_init_86 : decode cX8_init 86 = .ok (.aload_n 0, 1) := by decide +kernel
theorem dX8_init_87 : decode cX8_init 87 = .ok (.bipush 7, 2) := by decide +kernel
theorem dX8_init_89 : decode cX8_init 89 = .ok (.newarray .int, 2) := by decide +kernel
theorem dX8_init_91 : decode cX8_init 91 = .ok (.putfield 57, 3) := by decide +kernel
theorem dX8_init_94 : decode cX8_init 94 = .ok (.aload_n 0, 1) := by decide +kernel
theorem dX8_init_95 : decode cX8_init 95 = .ok (.iconst 0, 1) := by decide +kernel
theorem dX8_init_96 : decode cX8_init 96 = .ok (.putfield 61, 3) := by decide +kernel
theorem dX8_init_99 : decode cX8_init 99 = .ok (.return_, 1) := by decide +kernel
theorem dX8_minutes_0 : decode cX8_minutes 0 = .ok (.iload_n 1, 1) := by decide +kernel
theorem dX8_minutes_1 : decode cX8_minutes 1 = .ok (.invokestatic 65, 3) := by decide +kernel
theorem dX8_minutes_4 : decode cX8_minutes 4 = .ok (.ifCond .eq 15, 3) := by decide +kernel
theorem dX8_minutes_7 : decode cX8_minutes 7 = .ok (.iload_n 2, 1) := by decide +kernel
theorem dX8_minutes_8 : decode cX8_minutes 8 = .ok (.invokestatic 65, 3) := by decide +kernel
theorem dX8_minutes_11 : decode cX8_minutes 11 = .ok (.ifCond .eq 8, 3) := by decide +kernel
theorem dX8_minutes_14 : decode cX8_minutes 14 = .ok (.iload_n 1, 1) := by decide +kernel
theorem dX8_minutes_15 : decode cX8_minutes 15 = .ok (.iload_n 2, 1) := by decide +kernel
theorem dX8_minutes_16 : decode cX8_minutes 16 = .ok (.if_icmp .ne 9, 3) := by decide +kernel
theorem dX8_minutes_19 : decode cX8_minutes 19 = .ok (.aload_n 0, 1) := by decide +kernel
theorem dX8_minutes_20 : decode cX8_minutes 20 = .ok (.iconst (-1), 1) := by decide +kernel
theorem dX8_minutes_21 : decode cX8_minutes 21 = .ok (.invokevirtual 69, 3) := by decide +kernel
theorem dX8_minutes_24 : decode cX8_minutes 24 = .ok (.ireturn, 1) := by decide +kernel
theorem dX8_minutes_25 : decode cX8_minutes 25 = .ok (.iload_n 3, 1) := by decide +kernel
theorem dX8_minutes_26 : decode cX8_minutes 26 = .ok (.ifCond .ge 10, 3) := by decide +kernel
theorem dX8_minutes_29 : decode cX8_minutes 29 = .ok (.aload_n 0, 1) := by decide +kernel
theorem dX8_minutes_30 : decode cX8_minutes 30 = .ok (.bipush (-4), 2) := by decide +kernel
theorem dX8_minutes_32 : decode cX8_minutes 32 = .ok (.invokevirtual 69, 3) := by decide +kernel
theorem dX8_minutes_35 : decode cX8_minutes 35 = .ok (.ireturn, 1) := by decide +kernel
theorem dX8_minutes_36 : decode cX8_minutes 36 = .ok (.iload_n 3, 1) := by decide +kernel
theorem dX8_minutes_37 : decode cX8_minutes 37 = .ok (.sipush 300, 3) := by decide +kernel
theorem dX8_minutes_40 : decode cX8_minutes 40 = .ok (.if_icmp .le 10, 3) := by decide +kernel
theorem dX8_minutes_43 : decode cX8_minutes 43 = .ok (.aload_n 0, 1) := by decide +kernel
theorem dX8_minutes_44 : decode cX8_minutes 44 = .ok (.bipush (-6), 2) := by decide +kernel
theorem dX8_minutes_46 : decode cX8_minutes 46 = .ok (.invokevirtual 69, 3) := by decide +kernel
theorem dX8_minutes_49 : decode cX8_minutes 49 = .ok (.ireturn, 1) := by decide +kernel
theorem dX8_minutes_50 : decode cX8_minutes 50 = .ok (.aload_n 0, 1) := by decide +kernel
theorem dX8_minutes_51 : decode cX8_minutes 51 = .ok (.getfield 12, 3) := by decide +kernel
theorem dX8_minutes_54 : decode cX8_minutes 54 = .ok (.iload_n 1, 1) := by decide +kernel
theorem dX8_minutes_55 : decode cX8_minutes 55 = .ok (.iload_n 2, 1) := by decide +kernel
theorem dX8_minutes_56 : decode cX8_minutes 56 = .ok (.iload_n 3, 1) := by decide +kernel
theorem dX8_minutes_57 : decode cX8_minutes 57 = .ok (.invokevirtual 73, 3) := by decide +kernel
theorem dX8_minutes_60 : decode cX8_minutes 60 = .ok (.istore 4, 2) := by decide +kernel
theorem dX8_minutes_62 : decode cX8_minutes 62 = .ok (.iload 4, 2) := by decide +kernel
theorem dX8_minutes_64 : decode cX8_minutes 64 = .ok (.iload_n 3, 1) := by decide +kernel
theorem dX8_minutes_65 : decode cX8_minutes 65 = .ok (.if_icmp .eq 11, 3) := by decide +kernel
theorem dX8_minutes_68 : decode cX8_minutes 68 = .ok (.aload_n 0, 1) := by decide +kernel
theorem dX8_minutes_69 : decode cX8_minutes 69 = .ok (.getfield 37, 3) := by decide +kernel
theorem dX8_minutes_72 : decode cX8_minutes 72 = .ok (.iconst 0, 1) := by decide +kernel
theorem dX8_minutes_73 : decode cX8_minutes 73 = .ok (.invokevirtual 77, 3) := by decide +kernel
theorem dX8_minutes_76 : decode cX8_minutes 76 = .ok (.iload 4, 2) := by decide +kernel
theorem dX8_minutes_78 : decode cX8_minutes 78 = .ok (.ireturn, 1) := by decide +kernel
theorem dX8_least_0 : decode cX8_least 0 = .ok (.iload_n 1, 1) := by decide +kernel
theorem dX8_least_1 : decode cX8_least 1 = .ok (.invokestatic 65, 3) := by decide +kernel
theorem dX8_least_4 : decode cX8_least 4 = .ok (.ifCond .eq 10, 3) := by decide +kernel
theorem dX8_least_7 : decode cX8_least 7 = .ok (.iload_n 2, 1) := by decide +kernel
theorem dX8_least_8 : decode cX8_least 8 = .ok (.invokestatic 65, 3) := by decide +kernel
theorem dX8_least_11 : decode cX8_least 11 = .ok (.ifCond .ne 9, 3) := by decide +kernel
theorem dX8_least_14 : decode cX8_least 14 = .ok (.aload_n 0, 1) := by decide +kernel
theorem dX8_least_15 : decode cX8_least 15 = .ok (.iconst (-1), 1) := by decide +kernel
theorem dX8_least_16 : decode cX8_least 16 = .ok (.invokevirtual 69, 3) := by decide +kernel
theorem dX8_least_19 : decode cX8_least 19 = .ok (.ireturn, 1) := by decide +kernel
theorem dX8_least_20 : decode cX8_least 20 = .ok (.aload_n 0, 1) := by decide +kernel
theorem dX8_least_21 : decode cX8_least 21 = .ok (.getfield 12, 3) := by decide +kernel
theorem dX8_least_24 : decode cX8_least 24 = .ok (.iload_n 1, 1) := by decide +kernel
theorem dX8_least_25 : decode cX8_least 25 = .ok (.iload_n 2, 1) := by decide +kernel
theorem dX8_least_26 : decode cX8_least 26 = .ok (.invokevirtual 81, 3) := by decide +kernel
theorem dX8_least_29 : decode cX8_least 29 = .ok (.ireturn, 1) := by decide +kernel
theorem dX8_person_0 : decode cX8_person 0 = .ok (.iload_n 2, 1) := by decide +kernel
theorem dX8_person_1 : decode cX8_person 1 = .ok (.invokestatic 65, 3) := by decide +kernel
theorem dX8_person_4 : decode cX8_person 4 = .ok (.ifCond .eq 15, 3) := by decide +kernel
theorem dX8_person_7 : decode cX8_person 7 = .ok (.iload_n 3, 1) := by decide +kernel
theorem dX8_person_8 : decode cX8_person 8 = .ok (.invokestatic 65, 3) := by decide +kernel
theorem dX8_person_11 : decode cX8_person 11 = .ok (.ifCond .eq 8, 3) := by decide +kernel
theorem dX8_person_14 : decode cX8_person 14 = .ok (.iload_n 2, 1) := by decide +kernel
theorem dX8_person_15 : decode cX8_person 15 = .ok (.iload_n 3, 1) := by decide +kernel
theorem dX8_person_16 : decode cX8_person 16 = .ok (.if_icmp .ne 9, 3) := by decide +kernel
theorem dX8_person_19 : decode cX8_person 19 = .ok (.aload_n 0, 1) := by decide +kernel
theorem dX8_person_20 : decode cX8_person 20 = .ok (.iconst (-1), 1) := by decide +kernel
theorem dX8_person_21 : decode cX8_person 21 = .ok (.invokevirtual 69, 3) := by decide +kernel
theorem dX8_person_24 : decode cX8_person 24 = .ok (.ireturn, 1) := by decide +kernel
theorem dX8_person_25 : decode cX8_person 25 = .ok (.iload_n 1, 1) := by decide +kernel
theorem dX8_person_26 : decode cX8_person 26 = .ok (.ifCond .eq 15, 3) := by decide +kernel
theorem dX8_person_29 : decode cX8_person 29 = .ok (.iload_n 1, 1) := by decide +kernel
theorem dX8_person_30 : decode cX8_person 30 = .ok (.iconst 1, 1) := by decide +kernel
theorem dX8_person_31 : decode cX8_person 31 = .ok (.if_icmp .eq 10, 3) := by decide +kernel
theorem dX8_person_34 : decode cX8_person 34 = .ok (.aload_n 0, 1) := by decide +kernel
theorem dX8_person_35 : decode cX8_person 35 = .ok (.bipush (-2), 2) := by decide +kernel
theorem dX8_person_37 : decode cX8_person 37 = .ok (.invokevirtual 69, 3) := by decide +kernel
theorem dX8_person_40 : decode cX8_person 40 = .ok (.ireturn, 1) := by decide +kernel
theorem dX8_person_41 : decode cX8_person 41 = .ok (.iload 4, 2) := by decide +kernel
theorem dX8_person_43 : decode cX8_person 43 = .ok (.ifCond .lt 18, 3) := by decide +kernel
theorem dX8_person_46 : decode cX8_person 46 = .ok (.iload 5, 2) := by decide +kernel
theorem dX8_person_48 : decode cX8_person 48 = .ok (.ifCond .lt 13, 3) := by decide +kernel
theorem dX8_person_51 : decode cX8_person 51 = .ok (.iload 6, 2) := by decide +kernel
theorem dX8_person_53 : decode cX8_person 53 = .ok (.ifCond .lt 8, 3) := by decide +kernel
theorem dX8_person_56 : decode cX8_person 56 = .ok (.iload 7, 2) := by decide +kernel
theorem dX8_person_58 : decode cX8_person 58 = .ok (.ifCond .ge 10, 3) := by decide +kernel
theorem dX8_person_61 : decode cX8_person 61 = .ok (.aload_n 0, 1) := by decide +kernel
theorem dX8_person_62 : decode cX8_person 62 = .ok (.bipush (-4), 2) := by decide +kernel
theorem dX8_person_64 : decode cX8_person 64 = .ok (.invokevirtual 69, 3) := by decide +kernel
theorem dX8_person_67 : decode cX8_person 67 = .ok (.ireturn, 1) := by decide +kernel
theorem dX8_person_68 : decode cX8_person 68 = .ok (.iload 4, 2) := by decide +kernel
theorem dX8_person_70 : decode cX8_person 70 = .ok (.sipush 1440, 3) := by decide +kernel
theorem dX8_person_73 : decode cX8_person 73 = .ok (.if_icmp .gt 35, 3) := by decide +kernel
theorem dX8_person_76 : decode cX8_person 76 = .ok (.iload 5, 2) := by decide +kernel
theorem dX8_person_78 : decode cX8_person 78 = .ok (.sipush 1440, 3) := by decide +kernel
theorem dX8_person_81 : decode cX8_person 81 = .ok (.if_icmp .gt 27, 3) := by decide +kernel
theorem dX8_person_84 : decode cX8_person 84 = .ok (.iload 6, 2) := by decide +kernel
theorem dX8_person_86 : decode cX8_person 86 = .ok (.sipush 300, 3) := by decide +kernel
theorem dX8_person_89 : decode cX8_person 89 = .ok (.if_icmp .gt 19, 3) := by decide +kernel
theorem dX8_person_92 : decode cX8_person 92 = .ok (.iload 7, 2) := by decide +kernel
theorem dX8_person_94 : decode cX8_person 94 = .ok (.iconst 5, 1) := by decide +kernel
theorem dX8_person_95 : decode cX8_person 95 = .ok (.if_icmp .gt 13, 3) := by decide +kernel
theorem dX8_person_98 : decode cX8_person 98 = .ok (.aload_n 0, 1) := by decide +kernel
theorem dX8_person_99 : decode cX8_person 99 = .ok (.getfield 19, 3) := by decide +kernel
theorem dX8_person_102 : decode cX8_person 102 = .ok (.invokevirtual 85, 3) := by decide +kernel
theorem dX8_person_105 : decode cX8_person 105 = .ok (.ifCond .eq 10, 3) := by decide +kernel
theorem dX8_person_108 : decode cX8_person 108 = .ok (.aload_n 0, 1) := by decide +kernel
theorem dX8_person_109 : decode cX8_person 109 = .ok (.bipush (-6), 2) := by decide +kernel
theorem dX8_person_111 : decode cX8_person 111 = .ok (.invokevirtual 69, 3) := by decide +kernel
theorem dX8_person_114 : decode cX8_person 114 = .ok (.ireturn, 1) := by decide +kernel
theorem dX8_person_115 : decode cX8_person 115 = .ok (.aload_n 0, 1) := by decide +kernel
theorem dX8_person_116 : decode cX8_person 116 = .ok (.getfield 19, 3) := by decide +kernel
theorem dX8_person_119 : decode cX8_person 119 = .ok (.invokevirtual 89, 3) := by decide +kernel
theorem dX8_person_122 : decode cX8_person 122 = .ok (.istore 8, 2) := by decide +kernel
theorem dX8_person_124 : decode cX8_person 124 = .ok (.aload_n 0, 1) := by decide +kernel
theorem dX8_person_125 : decode cX8_person 125 = .ok (.getfield 19, 3) := by decide +kernel
theorem dX8_person_128 : decode cX8_person 128 = .ok (.iload 8, 2) := by decide +kernel
theorem dX8_person_130 : decode cX8_person 130 = .ok (.invokevirtual 93, 3) := by decide +kernel
theorem dX8_person_133 : decode cX8_person 133 = .ok (.astore 9, 2) := by decide +kernel
theorem dX8_person_135 : decode cX8_person 135 = .ok (.aload 9, 2) := by decide +kernel
theorem dX8_person_137 : decode cX8_person 137 = .ok (.iload_n 1, 1) := by decide +kernel
theorem dX8_person_138 : decode cX8_person 138 = .ok (.putfield 97, 3) := by decide +kernel
theorem dX8_person_141 : decode cX8_person 141 = .ok (.aload 9, 2) := by decide +kernel
theorem dX8_person_143 : decode cX8_person 143 = .ok (.iload_n 2, 1) := by decide +kernel
theorem dX8_person_144 : decode cX8_person 144 = .ok (.putfield 102, 3) := by decide +kernel
theorem dX8_person_147 : decode cX8_person 147 = .ok (.aload 9, 2) := by decide +kernel
theorem dX8_person_149 : decode cX8_person 149 = .ok (.iload_n 3, 1) := by decide +kernel
theorem dX8_person_150 : decode cX8_person 150 = .ok (.putfield 105, 3) := by decide +kernel
theorem dX8_person_153 : decode cX8_person 153 = .ok (.aload 9, 2) := by decide +kernel
theorem dX8_person_155 : decode cX8_person 155 = .ok (.iload 4, 2) := by decide +kernel
theorem dX8_person_157 : decode cX8_person 157 = .ok (.putfield 108, 3) := by decide +kernel
theorem dX8_person_160 : decode cX8_person 160 = .ok (.aload 9, 2) := by decide +kernel
theorem dX8_person_162 : decode cX8_person 162 = .ok (.iload 5, 2) := by decide +kernel
theorem dX8_person_164 : decode cX8_person 164 = .ok (.putfield 111, 3) := by decide +kernel
theorem dX8_person_167 : decode cX8_person 167 = .ok (.aload 9, 2) := by decide +kernel
theorem dX8_person_169 : decode cX8_person 169 = .ok (.iload 6, 2) := by decide +kernel
theorem dX8_person_171 : decode cX8_person 171 = .ok (.putfield 114, 3) := by decide +kernel
theorem dX8_person_174 : decode cX8_person 174 = .ok (.aload 9, 2) := by decide +kernel
theorem dX8_person_176 : decode cX8_person 176 = .ok (.iload 7, 2) := by decide +kernel
theorem dX8_person_178 : decode cX8_person 178 = .ok (.putfield 117, 3) := by decide +kernel
theorem dX8_person_181 : decode cX8_person 181 = .ok (.iload 8, 2) := by decide +kernel
theorem dX8_person_183 : decode cX8_person 183 = .ok (.ireturn, 1) := by decide +kernel
theorem dX8_times_0 : decode cX8_times 0 = .ok (.aload_n 0, 1) := by decide +kernel
theorem dX8_times_1 : decode cX8_times 1 = .ok (.getfield 19, 3) := by decide +kernel
theorem dX8_times_4 : decode cX8_times 4 = .ok (.iload_n 1, 1) := by decide +kernel
theorem dX8_times_5 : decode cX8_times 5 = .ok (.invokevirtual 120, 3) := by decide +kernel
theorem dX8_times_8 : decode cX8_times 8 = .ok (.ifCond .ne 9, 3) := by decide +kernel
theorem dX8_times_11 : decode cX8_times 11 = .ok (.aload_n 0, 1) := by decide +kernel
theorem dX8_times_12 : decode cX8_times 12 = .ok (.iconst (-1), 1) := by decide +kernel
theorem dX8_times_13 : decode cX8_times 13 = .ok (.invokevirtual 69, 3) := by decide +kernel
theorem dX8_times_16 : decode cX8_times 16 = .ok (.ireturn, 1) := by decide +kernel
theorem dX8_times_17 : decode cX8_times 17 = .ok (.iload_n 2, 1) := by decide +kernel
theorem dX8_times_18 : decode cX8_times 18 = .ok (.ifCond .lt 7, 3) := by decide +kernel
theorem dX8_times_21 : decode cX8_times 21 = .ok (.iload_n 3, 1) := by decide +kernel
theorem dX8_times_22 : decode cX8_times 22 = .ok (.ifCond .ge 10, 3) := by decide +kernel
theorem dX8_times_25 : decode cX8_times 25 = .ok (.aload_n 0, 1) := by decide +kernel
theorem dX8_times_26 : decode cX8_times 26 = .ok (.bipush (-4), 2) := by decide +kernel
theorem dX8_times_28 : decode cX8_times 28 = .ok (.invokevirtual 69, 3) := by decide +kernel
theorem dX8_times_31 : decode cX8_times 31 = .ok (.ireturn, 1) := by decide +kernel
theorem dX8_times_32 : decode cX8_times 32 = .ok (.iload_n 2, 1) := by decide +kernel
theorem dX8_times_33 : decode cX8_times 33 = .ok (.sipush 1440, 3) := by decide +kernel
theorem dX8_times_36 : decode cX8_times 36 = .ok (.if_icmp .gt 10, 3) := by decide +kernel
theorem dX8_times_39 : decode cX8_times 39 = .ok (.iload_n 3, 1) := by decide +kernel
theorem dX8_times_40 : decode cX8_times 40 = .ok (.sipush 1440, 3) := by decide +kernel
theorem dX8_times_43 : decode cX8_times 43 = .ok (.if_icmp .le 10, 3) := by decide +kernel
theorem dX8_times_46 : decode cX8_times 46 = .ok (.aload_n 0, 1) := by decide +kernel
theorem dX8_times_47 : decode cX8_times 47 = .ok (.bipush (-6), 2) := by decide +kernel
theorem dX8_times_49 : decode cX8_times 49 = .ok (.invokevirtual 69, 3) := by decide +kernel
theorem dX8_times_52 : decode cX8_times 52 = .ok (.ireturn, 1) := by decide +kernel
theorem dX8_times_53 : decode cX8_times 53 = .ok (.aload_n 0, 1) := by decide +kernel
theorem dX8_times_54 : decode cX8_times 54 = .ok (.getfield 19, 3) := by decide +kernel
theorem dX8_times_57 : decode cX8_times 57 = .ok (.iload_n 1, 1) := by decide +kernel
theorem dX8_times_58 : decode cX8_times 58 = .ok (.invokevirtual 93, 3) := by decide +kernel
theorem dX8_times_61 : decode cX8_times 61 = .ok (.iload_n 2, 1) := by decide +kernel
theorem dX8_times_62 : decode cX8_times 62 = .ok (.putfield 108, 3) := by decide +kernel
theorem dX8_times_65 : decode cX8_times 65 = .ok (.aload_n 0, 1) := by decide +kernel
theorem dX8_times_66 : decode cX8_times 66 = .ok (.getfield 19, 3) := by decide +kernel
theorem dX8_times_69 : decode cX8_times 69 = .ok (.iload_n 1, 1) := by decide +kernel
theorem dX8_times_70 : decode cX8_times 70 = .ok (.invokevirtual 93, 3) := by decide +kernel
theorem dX8_times_73 : decode cX8_times 73 = .ok (.iload_n 3, 1) := by decide +kernel
theorem dX8_times_74 : decode cX8_times 74 = .ok (.putfield 111, 3) := by decide +kernel
theorem dX8_times_77 : decode cX8_times 77 = .ok (.aload_n 0, 1) := by decide +kernel
theorem dX8_times_78 : decode cX8_times 78 = .ok (.getfield 37, 3) := by decide +kernel
theorem dX8_times_81 : decode cX8_times 81 = .ok (.iconst 1, 1) := by decide +kernel
theorem dX8_times_82 : decode cX8_times 82 = .ok (.iload_n 1, 1) := by decide +kernel
theorem dX8_times_83 : decode cX8_times 83 = .ok (.ishl, 1) := by decide +kernel
theorem dX8_times_84 : decode cX8_times 84 = .ok (.invokevirtual 77, 3) := by decide +kernel
theorem dX8_times_87 : decode cX8_times 87 = .ok (.iconst 1, 1) := by decide +kernel
theorem dX8_times_88 : decode cX8_times 88 = .ok (.ireturn, 1) := by decide +kernel
theorem dX8_bar_0 : decode cX8_bar 0 = .ok (.aload_n 0, 1) := by decide +kernel
theorem dX8_bar_1 : decode cX8_bar 1 = .ok (.getfield 19, 3) := by decide +kernel
theorem dX8_bar_4 : decode cX8_bar 4 = .ok (.iload_n 1, 1) := by decide +kernel
theorem dX8_bar_5 : decode cX8_bar 5 = .ok (.invokevirtual 120, 3) := by decide +kernel
theorem dX8_bar_8 : decode cX8_bar 8 = .ok (.ifCond .eq 19, 3) := by decide +kernel
theorem dX8_bar_11 : decode cX8_bar 11 = .ok (.aload_n 0, 1) := by decide +kernel
theorem dX8_bar_12 : decode cX8_bar 12 = .ok (.getfield 19, 3) := by decide +kernel
theorem dX8_bar_15 : decode cX8_bar 15 = .ok (.iload_n 2, 1) := by decide +kernel
theorem dX8_bar_16 : decode cX8_bar 16 = .ok (.invokevirtual 120, 3) := by decide +kernel
theorem dX8_bar_19 : decode cX8_bar 19 = .ok (.ifCond .eq 8, 3) := by decide +kernel
theorem dX8_bar_22 : decode cX8_bar 22 = .ok (.iload_n 1, 1) := by decide +kernel
theorem dX8_bar_23 : decode cX8_bar 23 = .ok (.iload_n 2, 1) := by decide +kernel
theorem dX8_bar_24 : decode cX8_bar 24 = .ok (.if_icmp .ne 9, 3) := by decide +kernel
theorem dX8_bar_27 : decode cX8_bar 27 = .ok (.aload_n 0, 1) := by decide +kernel
theorem dX8_bar_28 : decode cX8_bar 28 = .ok (.iconst (-1), 1) := by decide +kernel
theorem dX8_bar_29 : decode cX8_bar 29 = .ok (.invokevirtual 69, 3) := by decide +kernel
theorem dX8_bar_32 : decode cX8_bar 32 = .ok (.ireturn, 1) := by decide +kernel
theorem dX8_bar_33 : decode cX8_bar 33 = .ok (.aload_n 0, 1) := by decide +kernel
theorem dX8_bar_34 : decode cX8_bar 34 = .ok (.getfield 19, 3) := by decide +kernel
theorem dX8_bar_37 : decode cX8_bar 37 = .ok (.iload_n 1, 1) := by decide +kernel
theorem dX8_bar_38 : decode cX8_bar 38 = .ok (.invokevirtual 93, 3) := by decide +kernel
theorem dX8_bar_41 : decode cX8_bar 41 = .ok (.getfield 123, 3) := by decide +kernel
theorem dX8_bar_44 : decode cX8_bar 44 = .ok (.iload_n 2, 1) := by decide +kernel
theorem dX8_bar_45 : decode cX8_bar 45 = .ok (.invokestatic 126, 3) := by decide +kernel
theorem dX8_bar_48 : decode cX8_bar 48 = .ok (.iload_n 3, 1) := by decide +kernel
theorem dX8_bar_49 : decode cX8_bar 49 = .ok (.if_icmp .ne 5, 3) := by decide +kernel
theorem dX8_bar_52 : decode cX8_bar 52 = .ok (.iconst 0, 1) := by decide +kernel
theorem dX8_bar_53 : decode cX8_bar 53 = .ok (.ireturn, 1) := by decide +kernel
theorem dX8_bar_54 : decode cX8_bar 54 = .ok (.aload_n 0, 1) := by decide +kernel
theorem dX8_bar_55 : decode cX8_bar 55 = .ok (.getfield 19, 3) := by decide +kernel
theorem dX8_bar_58 : decode cX8_bar 58 = .ok (.iload_n 1, 1) := by decide +kernel
theorem dX8_bar_59 : decode cX8_bar 59 = .ok (.invokevirtual 93, 3) := by decide +kernel
theorem dX8_bar_62 : decode cX8_bar 62 = .ok (.dup, 1) := by decide +kernel
theorem dX8_bar_63 : decode cX8_bar 63 = .ok (.getfield 123, 3) := by decide +kernel
theorem dX8_bar_66 : decode cX8_bar 66 = .ok (.iconst 1, 1) := by decide +kernel
theorem dX8_bar_67 : decode cX8_bar 67 = .ok (.iload_n 2, 1) := by decide +kernel
theorem dX8_bar_68 : decode cX8_bar 68 = .ok (.ishl, 1) := by decide +kernel
theorem dX8_bar_69 : decode cX8_bar 69 = .ok (.ixor, 1) := by decide +kernel
theorem dX8_bar_70 : decode cX8_bar 70 = .ok (.putfield 123, 3) := by decide +kernel
theorem dX8_bar_73 : decode cX8_bar 73 = .ok (.aload_n 0, 1) := by decide +kernel
theorem dX8_bar_74 : decode cX8_bar 74 = .ok (.getfield 19, 3) := by decide +kernel
theorem dX8_bar_77 : decode cX8_bar 77 = .ok (.iload_n 2, 1) := by decide +kernel
theorem dX8_bar_78 : decode cX8_bar 78 = .ok (.invokevirtual 93, 3) := by decide +kernel
theorem dX8_bar_81 : decode cX8_bar 81 = .ok (.dup, 1) := by decide +kernel
theorem dX8_bar_82 : decode cX8_bar 82 = .ok (.getfield 123, 3) := by decide +kernel
theorem dX8_bar_85 : decode cX8_bar 85 = .ok (.iconst 1, 1) := by decide +kernel
theorem dX8_bar_86 : decode cX8_bar 86 = .ok (.iload_n 1, 1) := by decide +kernel
theorem dX8_bar_87 : decode cX8_bar 87 = .ok (.ishl, 1) := by decide +kernel
theorem dX8_bar_88 : decode cX8_bar 88 = .ok (.ixor, 1) := by decide +kernel
theorem dX8_bar_89 : decode cX8_bar 89 = .ok (.putfield 123, 3) := by decide +kernel
theorem dX8_bar_92 : decode cX8_bar 92 = .ok (.aload_n 0, 1) := by decide +kernel
theorem dX8_bar_93 : decode cX8_bar 93 = .ok (.getfield 37, 3) := by decide +kernel
theorem dX8_bar_96 : decode cX8_bar 96 = .ok (.iconst 1, 1) := by decide +kernel
theorem dX8_bar_97 : decode cX8_bar 97 = .ok (.iload_n 1, 1) := by decide +kernel
theorem dX8_bar_98 : decode cX8_bar 98 = .ok (.ishl, 1) := by decide +kernel
theorem dX8_bar_99 : decode cX8_bar 99 = .ok (.iconst 1, 1) := by decide +kernel
theorem dX8_bar_100 : decode cX8_bar 100 = .ok (.iload_n 2, 1) := by decide +kernel
theorem dX8_bar_101 : decode cX8_bar 101 = .ok (.ishl, 1) := by decide +kernel
theorem dX8_bar_102 : decode cX8_bar 102 = .ok (.ior, 1) := by decide +kernel
theorem dX8_bar_103 : decode cX8_bar 103 = .ok (.invokevirtual 77, 3) := by decide +kernel
theorem dX8_bar_106 : decode cX8_bar 106 = .ok (.iconst 1, 1) := by decide +kernel
theorem dX8_bar_107 : decode cX8_bar 107 = .ok (.ireturn, 1) := by decide +kernel
theorem dX8_away_0 : decode cX8_away 0 = .ok (.aload_n 0, 1) := by decide +kernel
theorem dX8_away_1 : decode cX8_away 1 = .ok (.getfield 19, 3) := by decide +kernel
theorem dX8_away_4 : decode cX8_away 4 = .ok (.iload_n 1, 1) := by decide +kernel
theorem dX8_away_5 : decode cX8_away 5 = .ok (.invokevirtual 120, 3) := by decide +kernel
theorem dX8_away_8 : decode cX8_away 8 = .ok (.ifCond .ne 9, 3) := by decide +kernel
theorem dX8_away_11 : decode cX8_away 11 = .ok (.aload_n 0, 1) := by decide +kernel
theorem dX8_away_12 : decode cX8_away 12 = .ok (.iconst (-1), 1) := by decide +kernel
theorem dX8_away_13 : decode cX8_away 13 = .ok (.invokevirtual 69, 3) := by decide +kernel
theorem dX8_away_16 : decode cX8_away 16 = .ok (.ireturn, 1) := by decide +kernel
theorem dX8_away_17 : decode cX8_away 17 = .ok (.aload_n 0, 1) := by decide +kernel
theorem dX8_away_18 : decode cX8_away 18 = .ok (.getfield 19, 3) := by decide +kernel
theorem dX8_away_21 : decode cX8_away 21 = .ok (.iload_n 1, 1) := by decide +kernel
theorem dX8_away_22 : decode cX8_away 22 = .ok (.invokevirtual 93, 3) := by decide +kernel
theorem dX8_away_25 : decode cX8_away 25 = .ok (.getfield 130, 3) := by decide +kernel
theorem dX8_away_28 : decode cX8_away 28 = .ok (.iload_n 2, 1) := by decide +kernel
theorem dX8_away_29 : decode cX8_away 29 = .ok (.if_icmp .ne 5, 3) := by decide +kernel
theorem dX8_away_32 : decode cX8_away 32 = .ok (.iconst 0, 1) := by decide +kernel
theorem dX8_away_33 : decode cX8_away 33 = .ok (.ireturn, 1) := by decide +kernel
theorem dX8_away_34 : decode cX8_away 34 = .ok (.aload_n 0, 1) := by decide +kernel
theorem dX8_away_35 : decode cX8_away 35 = .ok (.getfield 19, 3) := by decide +kernel
theorem dX8_away_38 : decode cX8_away 38 = .ok (.iload_n 1, 1) := by decide +kernel
theorem dX8_away_39 : decode cX8_away 39 = .ok (.invokevirtual 93, 3) := by decide +kernel
theorem dX8_away_42 : decode cX8_away 42 = .ok (.iload_n 2, 1) := by decide +kernel
theorem dX8_away_43 : decode cX8_away 43 = .ok (.putfield 130, 3) := by decide +kernel
theorem dX8_away_46 : decode cX8_away 46 = .ok (.iconst 1, 1) := by decide +kernel
theorem dX8_away_47 : decode cX8_away 47 = .ok (.ireturn, 1) := by decide +kernel
theorem dX8_broken_0 : decode cX8_broken 0 = .ok (.aload_n 0, 1) := by decide +kernel
theorem dX8_broken_1 : decode cX8_broken 1 = .ok (.getfield 19, 3) := by decide +kernel
theorem dX8_broken_4 : decode cX8_broken 4 = .ok (.iload_n 1, 1) := by decide +kernel
theorem dX8_broken_5 : decode cX8_broken 5 = .ok (.invokevirtual 120, 3) := by decide +kernel
theorem dX8_broken_8 : decode cX8_broken 8 = .ok (.ifCond .ne 9, 3) := by decide +kernel
theorem dX8_broken_11 : decode cX8_broken 11 = .ok (.aload_n 0, 1) := by decide +kernel
theorem dX8_broken_12 : decode cX8_broken 12 = .ok (.iconst (-1), 1) := by decide +kernel
theorem dX8_broken_13 : decode cX8_broken 13 = .ok (.invokevirtual 69, 3) := by decide +kernel
theorem dX8_broken_16 : decode cX8_broken 16 = .ok (.ireturn, 1) := by decide +kernel
theorem dX8_broken_17 : decode cX8_broken 17 = .ok (.aload_n 0, 1) := by decide +kernel
theorem dX8_broken_18 : decode cX8_broken 18 = .ok (.iload_n 1, 1) := by decide +kernel
theorem dX8_broken_19 : decode cX8_broken 19 = .ok (.iload_n 2, 1) := by decide +kernel
theorem dX8_broken_20 : decode cX8_broken 20 = .ok (.invokevirtual 134, 3) := by decide +kernel
theorem dX8_broken_23 : decode cX8_broken 23 = .ok (.ifCond .eq 7, 3) := by decide +kernel
theorem dX8_broken_26 : decode cX8_broken 26 = .ok (.iconst 1, 1) := by decide +kernel
theorem dX8_broken_27 : decode cX8_broken 27 = .ok (.goto 4, 3) := by decide +kernel
theorem dX8_broken_30 : decode cX8_broken 30 = .ok (.iconst 0, 1) := by decide +kernel
theorem dX8_broken_31 : decode cX8_broken 31 = .ok (.ireturn, 1) := by decide +kernel
theorem dX8_fits_0 : decode cX8_fits 0 = .ok (.aload_n 0, 1) := by decide +kernel
theorem dX8_fits_1 : decode cX8_fits 1 = .ok (.iload_n 1, 1) := by decide +kernel
theorem dX8_fits_2 : decode cX8_fits 2 = .ok (.iload_n 2, 1) := by decide +kernel
theorem dX8_fits_3 : decode cX8_fits 3 = .ok (.invokevirtual 138, 3) := by decide +kernel
theorem dX8_fits_6 : decode cX8_fits 6 = .ok (.istore_n 3, 1) := by decide +kernel
theorem dX8_fits_7 : decode cX8_fits 7 = .ok (.iload_n 3, 1) := by decide +kernel
theorem dX8_fits_8 : decode cX8_fits 8 = .ok (.ifCond .eq 9, 3) := by decide +kernel
theorem dX8_fits_11 : decode cX8_fits 11 = .ok (.aload_n 0, 1) := by decide +kernel
theorem dX8_fits_12 : decode cX8_fits 12 = .ok (.iload_n 3, 1) := by decide +kernel
theorem dX8_fits_13 : decode cX8_fits 13 = .ok (.invokevirtual 69, 3) := by decide +kernel
theorem dX8_fits_16 : decode cX8_fits 16 = .ok (.ireturn, 1) := by decide +kernel
theorem dX8_fits_17 : decode cX8_fits 17 = .ok (.aload_n 0, 1) := by decide +kernel
theorem dX8_fits_18 : decode cX8_fits 18 = .ok (.getfield 28, 3) := by decide +kernel
theorem dX8_fits_21 : decode cX8_fits 21 = .ok (.iload_n 1, 1) := by decide +kernel
theorem dX8_fits_22 : decode cX8_fits 22 = .ok (.iload_n 2, 1) := by decide +kernel
theorem dX8_fits_23 : decode cX8_fits 23 = .ok (.invokevirtual 141, 3) := by decide +kernel
theorem dX8_fits_26 : decode cX8_fits 26 = .ok (.ifCond .ne 16, 3) := by decide +kernel
theorem dX8_fits_29 : decode cX8_fits 29 = .ok (.aload_n 0, 1) := by decide +kernel
theorem dX8_fits_30 : decode cX8_fits 30 = .ok (.getfield 28, 3) := by decide +kernel
theorem dX8_fits_33 : decode cX8_fits 33 = .ok (.invokevirtual 144, 3) := by decide +kernel
theorem dX8_fits_36 : decode cX8_fits 36 = .ok (.getfield 148, 3) := by decide +kernel
theorem dX8_fits_39 : decode cX8_fits 39 = .ok (.goto 5, 3) := by decide +kernel
theorem dX8_fits_42 : decode cX8_fits 42 = .ok (.bipush (-9), 2) := by decide +kernel
theorem dX8_fits_44 : decode cX8_fits 44 = .ok (.ireturn, 1) := by decide +kernel
theorem dX8_why_0 : decode cX8_why 0 = .ok (.aload_n 0, 1) := by decide +kernel
theorem dX8_why_1 : decode cX8_why 1 = .ok (.iload_n 1, 1) := by decide +kernel
theorem dX8_why_2 : decode cX8_why 2 = .ok (.iload_n 2, 1) := by decide +kernel
theorem dX8_why_3 : decode cX8_why 3 = .ok (.invokevirtual 138, 3) := by decide +kernel
theorem dX8_why_6 : decode cX8_why 6 = .ok (.istore_n 3, 1) := by decide +kernel
theorem dX8_why_7 : decode cX8_why 7 = .ok (.iload_n 3, 1) := by decide +kernel
theorem dX8_why_8 : decode cX8_why 8 = .ok (.ifCond .eq 9, 3) := by decide +kernel
theorem dX8_why_11 : decode cX8_why 11 = .ok (.aload_n 0, 1) := by decide +kernel
theorem dX8_why_12 : decode cX8_why 12 = .ok (.iload_n 3, 1) := by decide +kernel
theorem dX8_why_13 : decode cX8_why 13 = .ok (.invokevirtual 69, 3) := by decide +kernel
theorem dX8_why_16 : decode cX8_why 16 = .ok (.ireturn, 1) := by decide +kernel
theorem dX8_why_17 : decode cX8_why 17 = .ok (.aload_n 0, 1) := by decide +kernel
theorem dX8_why_18 : decode cX8_why 18 = .ok (.getfield 28, 3) := by decide +kernel
theorem dX8_why_21 : decode cX8_why 21 = .ok (.iload_n 1, 1) := by decide +kernel
theorem dX8_why_22 : decode cX8_why 22 = .ok (.iload_n 2, 1) := by decide +kernel
theorem dX8_why_23 : decode cX8_why 23 = .ok (.invokevirtual 141, 3) := by decide +kernel
theorem dX8_why_26 : decode cX8_why 26 = .ok (.ireturn, 1) := by decide +kernel
theorem dX8_way_0 : decode cX8_way 0 = .ok (.aload_n 0, 1) := by decide +kernel
theorem dX8_way_1 : decode cX8_way 1 = .ok (.iload_n 1, 1) := by decide +kernel
theorem dX8_way_2 : decode cX8_way 2 = .ok (.iload_n 2, 1) := by decide +kernel
theorem dX8_way_3 : decode cX8_way 3 = .ok (.invokevirtual 138, 3) := by decide +kernel
theorem dX8_way_6 : decode cX8_way 6 = .ok (.istore 4, 2) := by decide +kernel
theorem dX8_way_8 : decode cX8_way 8 = .ok (.iload 4, 2) := by decide +kernel
theorem dX8_way_10 : decode cX8_way 10 = .ok (.ifCond .eq 10, 3) := by decide +kernel
theorem dX8_way_13 : decode cX8_way 13 = .ok (.aload_n 0, 1) := by decide +kernel
theorem dX8_way_14 : decode cX8_way 14 = .ok (.iload 4, 2) := by decide +kernel
theorem dX8_way_16 : decode cX8_way 16 = .ok (.invokevirtual 69, 3) := by decide +kernel
theorem dX8_way_19 : decode cX8_way 19 = .ok (.ireturn, 1) := by decide +kernel
theorem dX8_way_20 : decode cX8_way 20 = .ok (.aload_n 0, 1) := by decide +kernel
theorem dX8_way_21 : decode cX8_way 21 = .ok (.getfield 28, 3) := by decide +kernel
theorem dX8_way_24 : decode cX8_way 24 = .ok (.iload_n 1, 1) := by decide +kernel
theorem dX8_way_25 : decode cX8_way 25 = .ok (.iload_n 2, 1) := by decide +kernel
theorem dX8_way_26 : decode cX8_way 26 = .ok (.invokevirtual 141, 3) := by decide +kernel
theorem dX8_way_29 : decode cX8_way 29 = .ok (.ifCond .eq 6, 3) := by decide +kernel
theorem dX8_way_32 : decode cX8_way 32 = .ok (.bipush (-9), 2) := by decide +kernel
theorem dX8_way_34 : decode cX8_way 34 = .ok (.ireturn, 1) := by decide +kernel
theorem dX8_way_35 : decode cX8_way 35 = .ok (.aload_n 0, 1) := by decide +kernel
theorem dX8_way_36 : decode cX8_way 36 = .ok (.getfield 28, 3) := by decide +kernel
theorem dX8_way_39 : decode cX8_way 39 = .ok (.invokevirtual 144, 3) := by decide +kernel
theorem dX8_way_42 : decode cX8_way 42 = .ok (.iload_n 3, 1) := by decide +kernel
theorem dX8_way_43 : decode cX8_way 43 = .ok (.invokevirtual 153, 3) := by decide +kernel
theorem dX8_way_46 : decode cX8_way 46 = .ok (.ireturn, 1) := by decide +kernel
theorem dX8_cost_0 : decode cX8_cost 0 = .ok (.aload_n 0, 1) := by decide +kernel
theorem dX8_cost_1 : decode cX8_cost 1 = .ok (.iload_n 1, 1) := by decide +kernel
theorem dX8_cost_2 : decode cX8_cost 2 = .ok (.invokevirtual 156, 3) := by decide +kernel
theorem dX8_cost_5 : decode cX8_cost 5 = .ok (.istore_n 2, 1) := by decide +kernel
theorem dX8_cost_6 : decode cX8_cost 6 = .ok (.iload_n 2, 1) := by decide +kernel
theorem dX8_cost_7 : decode cX8_cost 7 = .ok (.ifCond .eq 9, 3) := by decide +kernel
theorem dX8_cost_10 : decode cX8_cost 10 = .ok (.aload_n 0, 1) := by decide +kernel
theorem dX8_cost_11 : decode cX8_cost 11 = .ok (.iload_n 2, 1) := by decide +kernel
theorem dX8_cost_12 : decode cX8_cost 12 = .ok (.invokevirtual 69, 3) := by decide +kernel
theorem dX8_cost_15 : decode cX8_cost 15 = .ok (.ireturn, 1) := by decide +kernel
theorem dX8_cost_16 : decode cX8_cost 16 = .ok (.aload_n 0, 1) := by decide +kernel
theorem dX8_cost_17 : decode cX8_cost 17 = .ok (.getfield 37, 3) := by decide +kernel
theorem dX8_cost_20 : decode cX8_cost 20 = .ok (.iload_n 1, 1) := by decide +kernel
theorem dX8_cost_21 : decode cX8_cost 21 = .ok (.invokevirtual 159, 3) := by decide +kernel
theorem dX8_cost_24 : decode cX8_cost 24 = .ok (.aload_n 0, 1) := by decide +kernel
theorem dX8_cost_25 : decode cX8_cost 25 = .ok (.getfield 37, 3) := by decide +kernel
theorem dX8_cost_28 : decode cX8_cost 28 = .ok (.iload_n 1, 1) := by decide +kernel
theorem dX8_cost_29 : decode cX8_cost 29 = .ok (.invokevirtual 162, 3) := by decide +kernel
theorem dX8_cost_32 : decode cX8_cost 32 = .ok (.ireturn, 1) := by decide +kernel
theorem dX8_driver_0 : decode cX8_driver 0 = .ok (.aload_n 0, 1) := by decide +kernel
theorem dX8_driver_1 : decode cX8_driver 1 = .ok (.iload_n 1, 1) := by decide +kernel
theorem dX8_driver_2 : decode cX8_driver 2 = .ok (.invokevirtual 156, 3) := by decide +kernel
theorem dX8_driver_5 : decode cX8_driver 5 = .ok (.istore_n 2, 1) := by decide +kernel
theorem dX8_driver_6 : decode cX8_driver 6 = .ok (.iload_n 2, 1) := by decide +kernel
theorem dX8_driver_7 : decode cX8_driver 7 = .ok (.ifCond .eq 9, 3) := by decide +kernel
theorem dX8_driver_10 : decode cX8_driver 10 = .ok (.aload_n 0, 1) := by decide +kernel
theorem dX8_driver_11 : decode cX8_driver 11 = .ok (.iload_n 2, 1) := by decide +kernel
theorem dX8_driver_12 : decode cX8_driver 12 = .ok (.invokevirtual 69, 3) := by decide +kernel
theorem dX8_driver_15 : decode cX8_driver 15 = .ok (.ireturn, 1) := by decide +kernel
theorem dX8_driver_16 : decode cX8_driver 16 = .ok (.aload_n 0, 1) := by decide +kernel
theorem dX8_driver_17 : decode cX8_driver 17 = .ok (.getfield 37, 3) := by decide +kernel
theorem dX8_driver_20 : decode cX8_driver 20 = .ok (.iload_n 1, 1) := by decide +kernel
theorem dX8_driver_21 : decode cX8_driver 21 = .ok (.invokevirtual 159, 3) := by decide +kernel
theorem dX8_driver_24 : decode cX8_driver 24 = .ok (.aload_n 0, 1) := by decide +kernel
theorem dX8_driver_25 : decode cX8_driver 25 = .ok (.getfield 37, 3) := by decide +kernel
theorem dX8_driver_28 : decode cX8_driver 28 = .ok (.iload_n 1, 1) := by decide +kernel
theorem dX8_driver_29 : decode cX8_driver 29 = .ok (.invokevirtual 165, 3) := by decide +kernel
theorem dX8_driver_32 : decode cX8_driver 32 = .ok (.ireturn, 1) := by decide +kernel
theorem dX8_turn_0 : decode cX8_turn 0 = .ok (.aload_n 0, 1) := by decide +kernel
theorem dX8_turn_1 : decode cX8_turn 1 = .ok (.iload_n 1, 1) := by decide +kernel
theorem dX8_turn_2 : decode cX8_turn 2 = .ok (.invokevirtual 156, 3) := by decide +kernel
theorem dX8_turn_5 : decode cX8_turn 5 = .ok (.istore_n 2, 1) := by decide +kernel
theorem dX8_turn_6 : decode cX8_turn 6 = .ok (.iload_n 2, 1) := by decide +kernel
theorem dX8_turn_7 : decode cX8_turn 7 = .ok (.ifCond .eq 9, 3) := by decide +kernel
theorem dX8_turn_10 : decode cX8_turn 10 = .ok (.aload_n 0, 1) := by decide +kernel
theorem dX8_turn_11 : decode cX8_turn 11 = .ok (.iload_n 2, 1) := by decide +kernel
theorem dX8_turn_12 : decode cX8_turn 12 = .ok (.invokevirtual 69, 3) := by decide +kernel
theorem dX8_turn_15 : decode cX8_turn 15 = .ok (.ireturn, 1) := by decide +kernel
theorem dX8_turn_16 : decode cX8_turn 16 = .ok (.aload_n 0, 1) := by decide +kernel
theorem dX8_turn_17 : decode cX8_turn 17 = .ok (.iload_n 1, 1) := by decide +kernel
theorem dX8_turn_18 : decode cX8_turn 18 = .ok (.invokevirtual 168, 3) := by decide +kernel
theorem dX8_turn_21 : decode cX8_turn 21 = .ok (.ireturn, 1) := by decide +kernel
theorem dX8_plan_0 : decode cX8_plan 0 = .ok (.aload_n 0, 1) := by decide +kernel
theorem dX8_plan_1 : decode cX8_plan 1 = .ok (.getfield 19, 3) := by decide +kernel
theorem dX8_plan_4 : decode cX8_plan 4 = .ok (.invokevirtual 171, 3) := by decide +kernel
theorem dX8_plan_7 : decode cX8_plan 7 = .ok (.istore_n 1, 1) := by decide +kernel
theorem dX8_plan_8 : decode cX8_plan 8 = .ok (.aload_n 0, 1) := by decide +kernel
theorem dX8_plan_9 : decode cX8_plan 9 = .ok (.getfield 37, 3) := by decide +kernel
theorem dX8_plan_12 : decode cX8_plan 12 = .ok (.iload_n 1, 1) := by decide +kernel
theorem dX8_plan_13 : decode cX8_plan 13 = .ok (.invokevirtual 174, 3) := by decide +kernel
theorem dX8_plan_16 : decode cX8_plan 16 = .ok (.aload_n 0, 1) := by decide +kernel
theorem dX8_plan_17 : decode cX8_plan 17 = .ok (.getfield 46, 3) := by decide +kernel
theorem dX8_plan_20 : decode cX8_plan 20 = .ok (.iload_n 1, 1) := by decide +kernel
theorem dX8_plan_21 : decode cX8_plan 21 = .ok (.invokevirtual 177, 3) := by decide +kernel
theorem dX8_plan_24 : decode cX8_plan 24 = .ok (.pop, 1) := by decide +kernel
theorem dX8_plan_25 : decode cX8_plan 25 = .ok (.aload_n 0, 1) := by decide +kernel
theorem dX8_plan_26 : decode cX8_plan 26 = .ok (.getfield 53, 3) := by decide +kernel
theorem dX8_plan_29 : decode cX8_plan 29 = .ok (.invokevirtual 180, 3) := by decide +kernel
theorem dX8_plan_32 : decode cX8_plan 32 = .ok (.iload_n 1, 1) := by decide +kernel
theorem dX8_plan_33 : decode cX8_plan 33 = .ok (.istore_n 2, 1) := by decide +kernel
theorem dX8_plan_34 : decode cX8_plan 34 = .ok (.iconst 0, 1) := by decide +kernel
theorem dX8_plan_35 : decode cX8_plan 35 = .ok (.istore_n 3, 1) := by decide +kernel
theorem dX8_plan_36 : decode cX8_plan 36 = .ok (.iload_n 3, 1) := by decide +kernel
theorem dX8_plan_37 : decode cX8_plan 37 = .ok (.bipush 9, 2) := by decide +kernel
theorem dX8_plan_39 : decode cX8_plan 39 = .ok (.if_icmp .ge 45, 3) := by decide +kernel
theorem dX8_plan_42 : decode cX8_plan 42 = .ok (.iload_n 2, 1) := by decide +kernel
theorem dX8_plan_43 : decode cX8_plan 43 = .ok (.iload_n 3, 1) := by decide +kernel
theorem dX8_plan_44 : decode cX8_plan 44 = .ok (.invokestatic 126, 3) := by decide +kernel
theorem dX8_plan_47 : decode cX8_plan 47 = .ok (.ifCond .eq 31, 3) := by decide +kernel
theorem dX8_plan_50 : decode cX8_plan 50 = .ok (.aload_n 0, 1) := by decide +kernel
theorem dX8_plan_51 : decode cX8_plan 51 = .ok (.getfield 46, 3) := by decide +kernel
theorem dX8_plan_54 : decode cX8_plan 54 = .ok (.iload_n 2, 1) := by decide +kernel
theorem dX8_plan_55 : decode cX8_plan 55 = .ok (.invokevirtual 183, 3) := by decide +kernel
theorem dX8_plan_58 : decode cX8_plan 58 = .ok (.istore 4, 2) := by decide +kernel
theorem dX8_plan_60 : decode cX8_plan 60 = .ok (.aload_n 0, 1) := by decide +kernel
theorem dX8_plan_61 : decode cX8_plan 61 = .ok (.iload_n 3, 1) := by decide +kernel
theorem dX8_plan_62 : decode cX8_plan 62 = .ok (.iload 4, 2) := by decide +kernel
theorem dX8_plan_64 : decode cX8_plan 64 = .ok (.invokevirtual 186, 3) := by decide +kernel
theorem dX8_plan_67 : decode cX8_plan 67 = .ok (.iload_n 2, 1) := by decide +kernel
theorem dX8_plan_68 : decode cX8_plan 68 = .ok (.iload 4, 2) := by decide +kernel
theorem dX8_plan_70 : decode cX8_plan 70 = .ok (.iconst 1, 1) := by decide +kernel
theorem dX8_plan_71 : decode cX8_plan 71 = .ok (.iload_n 3, 1) := by decide +kernel
theorem dX8_plan_72 : decode cX8_plan 72 = .ok (.ishl, 1) := by decide +kernel
theorem dX8_plan_73 : decode cX8_plan 73 = .ok (.ior, 1) := by decide +kernel
theorem dX8_plan_74 : decode cX8_plan 74 = .ok (.iconst (-1), 1) := by decide +kernel
theorem dX8_plan_75 : decode cX8_plan 75 = .ok (.ixor, 1) := by decide +kernel
theorem dX8_plan_76 : decode cX8_plan 76 = .ok (.iand, 1) := by decide +kernel
theorem dX8_plan_77 : decode cX8_plan 77 = .ok (.istore_n 2, 1) := by decide +kernel
theorem dX8_plan_78 : decode cX8_plan 78 = .ok (.iinc 3 1, 3) := by decide +kernel
theorem dX8_plan_81 : decode cX8_plan 81 = .ok (.goto (-45), 3) := by decide +kernel
theorem dX8_plan_84 : decode cX8_plan 84 = .ok (.aload_n 0, 1) := by decide +kernel
theorem dX8_plan_85 : decode cX8_plan 85 = .ok (.getfield 53, 3) := by decide +kernel
theorem dX8_plan_88 : decode cX8_plan 88 = .ok (.invokevirtual 190, 3) := by decide +kernel
theorem dX8_plan_91 : decode cX8_plan 91 = .ok (.ireturn, 1) := by decide +kernel
theorem dX8_planOf_0 : decode cX8_planOf 0 = .ok (.aload_n 0, 1) := by decide +kernel
theorem dX8_planOf_1 : decode cX8_planOf 1 = .ok (.getfield 53, 3) := by decide +kernel
theorem dX8_planOf_4 : decode cX8_planOf 4 = .ok (.invokevirtual 193, 3) := by decide +kernel
theorem dX8_planOf_7 : decode cX8_planOf 7 = .ok (.ifCond .ne 10, 3) := by decide +kernel
theorem dX8_planOf_10 : decode cX8_planOf 10 = .ok (.aload_n 0, 1) := by decide +kernel
theorem dX8_planOf_11 : decode cX8_planOf 11 = .ok (.bipush (-3), 2) := by decide +kernel
theorem dX8_planOf_13 : decode cX8_planOf 13 = .ok (.invokevirtual 69, 3) := by decide +kernel
theorem dX8_planOf_16 : decode cX8_planOf 16 = .ok (.ireturn, 1) := by decide +kernel
end
section
theorem dX8_planOf_17 : decode cX8_planOf 17 = .ok (.iload_n 1, 1) := by decide +kernel
theorem dX8_planOf_18 : decode cX8_planOf 18 = .ok (.tableswitch 62 0 3 #[30, 38, 46, 54], 30) := by decide +kernel
theorem dX8_planOf_48 : decode cX8_planOf 48 = .ok (.aload_n 0, 1) := by decide +kernel
theorem dX8_planOf_49 : decode cX8_planOf 49 = .ok (.getfield 53, 3) := by decide +kernel
theorem dX8_planOf_52 : decode cX8_planOf 52 = .ok (.invokevirtual 190, 3) := by decide +kernel
theorem dX8_planOf_55 : decode cX8_planOf 55 = .ok (.ireturn, 1) := by decide +kernel
theorem dX8_planOf_56 : decode cX8_planOf 56 = .ok (.aload_n 0, 1) := by decide +kernel
theorem dX8_planOf_57 : decode cX8_planOf 57 = .ok (.getfield 53, 3) := by decide +kernel
theorem dX8_planOf_60 : decode cX8_planOf 60 = .ok (.invokevirtual 196, 3) := by decide +kernel
theorem dX8_planOf_63 : decode cX8_planOf 63 = .ok (.ireturn, 1) := by decide +kernel
theorem dX8_planOf_64 : decode cX8_planOf 64 = .ok (.aload_n 0, 1) := by decide +kernel
theorem dX8_planOf_65 : decode cX8_planOf 65 = .ok (.getfield 53, 3) := by decide +kernel
theorem dX8_planOf_68 : decode cX8_planOf 68 = .ok (.invokevirtual 199, 3) := by decide +kernel
theorem dX8_planOf_71 : decode cX8_planOf 71 = .ok (.ireturn, 1) := by decide +kernel
theorem dX8_planOf_72 : decode cX8_planOf 72 = .ok (.aload_n 0, 1) := by decide +kernel
theorem dX8_planOf_73 : decode cX8_planOf 73 = .ok (.getfield 53, 3) := by decide +kernel
theorem dX8_planOf_76 : decode cX8_planOf 76 = .ok (.invokevirtual 202, 3) := by decide +kernel
theorem dX8_planOf_79 : decode cX8_planOf 79 = .ok (.ireturn, 1) := by decide +kernel
theorem dX8_planOf_80 : decode cX8_planOf 80 = .ok (.aload_n 0, 1) := by decide +kernel
theorem dX8_planOf_81 : decode cX8_planOf 81 = .ok (.bipush (-2), 2) := by decide +kernel
theorem dX8_planOf_83 : decode cX8_planOf 83 = .ok (.invokevirtual 69, 3) := by decide +kernel
theorem dX8_planOf_86 : decode cX8_planOf 86 = .ok (.ireturn, 1) := by decide +kernel
theorem dX8_poolOf_0 : decode cX8_poolOf 0 = .ok (.aload_n 0, 1) := by decide +kernel
theorem dX8_poolOf_1 : decode cX8_poolOf 1 = .ok (.getfield 53, 3) := by decide +kernel
theorem dX8_poolOf_4 : decode cX8_poolOf 4 = .ok (.invokevirtual 193, 3) := by decide +kernel
theorem dX8_poolOf_7 : decode cX8_poolOf 7 = .ok (.ifCond .ne 10, 3) := by decide +kernel
theorem dX8_poolOf_10 : decode cX8_poolOf 10 = .ok (.aload_n 0, 1) := by decide +kernel
theorem dX8_poolOf_11 : decode cX8_poolOf 11 = .ok (.bipush (-3), 2) := by decide +kernel
theorem dX8_poolOf_13 : decode cX8_poolOf 13 = .ok (.invokevirtual 69, 3) := by decide +kernel
theorem dX8_poolOf_16 : decode cX8_poolOf 16 = .ok (.ireturn, 1) := by decide +kernel
theorem dX8_poolOf_17 : decode cX8_poolOf 17 = .ok (.aload_n 0, 1) := by decide +kernel
theorem dX8_poolOf_18 : decode cX8_poolOf 18 = .ok (.getfield 19, 3) := by decide +kernel
theorem dX8_poolOf_21 : decode cX8_poolOf 21 = .ok (.iload_n 1, 1) := by decide +kernel
theorem dX8_poolOf_22 : decode cX8_poolOf 22 = .ok (.invokevirtual 120, 3) := by decide +kernel
theorem dX8_poolOf_25 : decode cX8_poolOf 25 = .ok (.ifCond .ne 9, 3) := by decide +kernel
theorem dX8_poolOf_28 : decode cX8_poolOf 28 = .ok (.aload_n 0, 1) := by decide +kernel
theorem dX8_poolOf_29 : decode cX8_poolOf 29 = .ok (.iconst (-1), 1) := by decide +kernel
theorem dX8_poolOf_30 : decode cX8_poolOf 30 = .ok (.invokevirtual 69, 3) := by decide +kernel
theorem dX8_poolOf_33 : decode cX8_poolOf 33 = .ok (.ireturn, 1) := by decide +kernel
theorem dX8_poolOf_34 : decode cX8_poolOf 34 = .ok (.iload_n 2, 1) := by decide +kernel
theorem dX8_poolOf_35 : decode cX8_poolOf 35 = .ok (.ifCond .lt 8, 3) := by decide +kernel
theorem dX8_poolOf_38 : decode cX8_poolOf 38 = .ok (.iload_n 2, 1) := by decide +kernel
theorem dX8_poolOf_39 : decode cX8_poolOf 39 = .ok (.iconst 3, 1) := by decide +kernel
theorem dX8_poolOf_40 : decode cX8_poolOf 40 = .ok (.if_icmp .le 10, 3) := by decide +kernel
theorem dX8_poolOf_43 : decode cX8_poolOf 43 = .ok (.aload_n 0, 1) := by decide +kernel
theorem dX8_poolOf_44 : decode cX8_poolOf 44 = .ok (.bipush (-2), 2) := by decide +kernel
theorem dX8_poolOf_46 : decode cX8_poolOf 46 = .ok (.invokevirtual 69, 3) := by decide +kernel
theorem dX8_poolOf_49 : decode cX8_poolOf 49 = .ok (.ireturn, 1) := by decide +kernel
theorem dX8_poolOf_50 : decode cX8_poolOf 50 = .ok (.aload_n 0, 1) := by decide +kernel
theorem dX8_poolOf_51 : decode cX8_poolOf 51 = .ok (.getfield 53, 3) := by decide +kernel
theorem dX8_poolOf_54 : decode cX8_poolOf 54 = .ok (.iload_n 1, 1) := by decide +kernel
theorem dX8_poolOf_55 : decode cX8_poolOf 55 = .ok (.iload_n 2, 1) := by decide +kernel
theorem dX8_poolOf_56 : decode cX8_poolOf 56 = .ok (.invokevirtual 205, 3) := by decide +kernel
theorem dX8_poolOf_59 : decode cX8_poolOf 59 = .ok (.ireturn, 1) := by decide +kernel
theorem dX8_same_0 : decode cX8_same 0 = .ok (.aload_n 0, 1) := by decide +kernel
theorem dX8_same_1 : decode cX8_same 1 = .ok (.getfield 53, 3) := by decide +kernel
theorem dX8_same_4 : decode cX8_same 4 = .ok (.invokevirtual 193, 3) := by decide +kernel
theorem dX8_same_7 : decode cX8_same 7 = .ok (.ifCond .ne 10, 3) := by decide +kernel
theorem dX8_same_10 : decode cX8_same 10 = .ok (.aload_n 0, 1) := by decide +kernel
theorem dX8_same_11 : decode cX8_same 11 = .ok (.bipush (-3), 2) := by decide +kernel
theorem dX8_same_13 : decode cX8_same 13 = .ok (.invokevirtual 69, 3) := by decide +kernel
theorem dX8_same_16 : decode cX8_same 16 = .ok (.ireturn, 1) := by decide +kernel
theorem dX8_same_17 : decode cX8_same 17 = .ok (.aload_n 0, 1) := by decide +kernel
theorem dX8_same_18 : decode cX8_same 18 = .ok (.getfield 19, 3) := by decide +kernel
theorem dX8_same_21 : decode cX8_same 21 = .ok (.invokevirtual 171, 3) := by decide +kernel
theorem dX8_same_24 : decode cX8_same 24 = .ok (.istore_n 1, 1) := by decide +kernel
theorem dX8_same_25 : decode cX8_same 25 = .ok (.aload_n 0, 1) := by decide +kernel
theorem dX8_same_26 : decode cX8_same 26 = .ok (.getfield 37, 3) := by decide +kernel
theorem dX8_same_29 : decode cX8_same 29 = .ok (.iload_n 1, 1) := by decide +kernel
theorem dX8_same_30 : decode cX8_same 30 = .ok (.invokevirtual 174, 3) := by decide +kernel
theorem dX8_same_33 : decode cX8_same 33 = .ok (.aload_n 0, 1) := by decide +kernel
theorem dX8_same_34 : decode cX8_same 34 = .ok (.getfield 46, 3) := by decide +kernel
theorem dX8_same_37 : decode cX8_same 37 = .ok (.iload_n 1, 1) := by decide +kernel
theorem dX8_same_38 : decode cX8_same 38 = .ok (.invokevirtual 177, 3) := by decide +kernel
theorem dX8_same_41 : decode cX8_same 41 = .ok (.istore_n 2, 1) := by decide +kernel
theorem dX8_same_42 : decode cX8_same 42 = .ok (.aload_n 0, 1) := by decide +kernel
theorem dX8_same_43 : decode cX8_same 43 = .ok (.getfield 53, 3) := by decide +kernel
theorem dX8_same_46 : decode cX8_same 46 = .ok (.invokevirtual 196, 3) := by decide +kernel
theorem dX8_same_49 : decode cX8_same 49 = .ok (.aload_n 0, 1) := by decide +kernel
theorem dX8_same_50 : decode cX8_same 50 = .ok (.getfield 53, 3) := by decide +kernel
theorem dX8_same_53 : decode cX8_same 53 = .ok (.invokevirtual 199, 3) := by decide +kernel
theorem dX8_same_56 : decode cX8_same 56 = .ok (.aload_n 0, 1) := by decide +kernel
theorem dX8_same_57 : decode cX8_same 57 = .ok (.getfield 53, 3) := by decide +kernel
theorem dX8_same_60 : decode cX8_same 60 = .ok (.invokevirtual 190, 3) := by decide +kernel
theorem dX8_same_63 : decode cX8_same 63 = .ok (.invokestatic 207, 3) := by decide +kernel
theorem dX8_same_66 : decode cX8_same 66 = .ok (.istore_n 3, 1) := by decide +kernel
theorem dX8_same_67 : decode cX8_same 67 = .ok (.iload_n 2, 1) := by decide +kernel
theorem dX8_same_68 : decode cX8_same 68 = .ok (.iload_n 3, 1) := by decide +kernel
theorem dX8_same_69 : decode cX8_same 69 = .ok (.if_icmp .ne 7, 3) := by decide +kernel
theorem dX8_same_72 : decode cX8_same 72 = .ok (.iconst 1, 1) := by decide +kernel
theorem dX8_same_73 : decode cX8_same 73 = .ok (.goto 4, 3) := by decide +kernel
theorem dX8_same_76 : decode cX8_same 76 = .ok (.iconst 0, 1) := by decide +kernel
theorem dX8_same_77 : decode cX8_same 77 = .ok (.ireturn, 1) := by decide +kernel
theorem dX8_even_0 : decode cX8_even 0 = .ok (.aload_n 0, 1) := by decide +kernel
theorem dX8_even_1 : decode cX8_even 1 = .ok (.getfield 53, 3) := by decide +kernel
theorem dX8_even_4 : decode cX8_even 4 = .ok (.invokevirtual 193, 3) := by decide +kernel
theorem dX8_even_7 : decode cX8_even 7 = .ok (.ifCond .ne 10, 3) := by decide +kernel
theorem dX8_even_10 : decode cX8_even 10 = .ok (.aload_n 0, 1) := by decide +kernel
theorem dX8_even_11 : decode cX8_even 11 = .ok (.bipush (-3), 2) := by decide +kernel
theorem dX8_even_13 : decode cX8_even 13 = .ok (.invokevirtual 69, 3) := by decide +kernel
theorem dX8_even_16 : decode cX8_even 16 = .ok (.ireturn, 1) := by decide +kernel
theorem dX8_even_17 : decode cX8_even 17 = .ok (.iconst 0, 1) := by decide +kernel
theorem dX8_even_18 : decode cX8_even 18 = .ok (.istore_n 1, 1) := by decide +kernel
theorem dX8_even_19 : decode cX8_even 19 = .ok (.iconst 0, 1) := by decide +kernel
theorem dX8_even_20 : decode cX8_even 20 = .ok (.istore_n 2, 1) := by decide +kernel
theorem dX8_even_21 : decode cX8_even 21 = .ok (.iload_n 2, 1) := by decide +kernel
theorem dX8_even_22 : decode cX8_even 22 = .ok (.bipush 9, 2) := by decide +kernel
theorem dX8_even_24 : decode cX8_even 24 = .ok (.if_icmp .ge 46, 3) := by decide +kernel
theorem dX8_even_27 : decode cX8_even 27 = .ok (.aload_n 0, 1) := by decide +kernel
theorem dX8_even_28 : decode cX8_even 28 = .ok (.getfield 53, 3) := by decide +kernel
theorem dX8_even_31 : decode cX8_even 31 = .ok (.iload_n 2, 1) := by decide +kernel
theorem dX8_even_32 : decode cX8_even 32 = .ok (.invokevirtual 210, 3) := by decide +kernel
theorem dX8_even_35 : decode cX8_even 35 = .ok (.ifCond .eq 29, 3) := by decide +kernel
theorem dX8_even_38 : decode cX8_even 38 = .ok (.aload_n 0, 1) := by decide +kernel
theorem dX8_even_39 : decode cX8_even 39 = .ok (.aload_n 0, 1) := by decide +kernel
theorem dX8_even_40 : decode cX8_even 40 = .ok (.getfield 53, 3) := by decide +kernel
theorem dX8_even_43 : decode cX8_even 43 = .ok (.iload_n 2, 1) := by decide +kernel
theorem dX8_even_44 : decode cX8_even 44 = .ok (.invokevirtual 213, 3) := by decide +kernel
theorem dX8_even_47 : decode cX8_even 47 = .ok (.aload_n 0, 1) := by decide +kernel
theorem dX8_even_48 : decode cX8_even 48 = .ok (.getfield 53, 3) := by decide +kernel
theorem dX8_even_51 : decode cX8_even 51 = .ok (.iload_n 2, 1) := by decide +kernel
theorem dX8_even_52 : decode cX8_even 52 = .ok (.invokevirtual 216, 3) := by decide +kernel
theorem dX8_even_55 : decode cX8_even 55 = .ok (.invokevirtual 219, 3) := by decide +kernel
theorem dX8_even_58 : decode cX8_even 58 = .ok (.ifCond .eq 6, 3) := by decide +kernel
theorem dX8_even_61 : decode cX8_even 61 = .ok (.iinc 1 1, 3) := by decide +kernel
theorem dX8_even_64 : decode cX8_even 64 = .ok (.iinc 2 1, 3) := by decide +kernel
theorem dX8_even_67 : decode cX8_even 67 = .ok (.goto (-46), 3) := by decide +kernel
theorem dX8_even_70 : decode cX8_even 70 = .ok (.iload_n 1, 1) := by decide +kernel
theorem dX8_even_71 : decode cX8_even 71 = .ok (.ireturn, 1) := by decide +kernel
theorem dX8_mornings_0 : decode cX8_mornings 0 = .ok (.aload_n 0, 1) := by decide +kernel
theorem dX8_mornings_1 : decode cX8_mornings 1 = .ok (.getfield 53, 3) := by decide +kernel
theorem dX8_mornings_4 : decode cX8_mornings 4 = .ok (.invokevirtual 193, 3) := by decide +kernel
theorem dX8_mornings_7 : decode cX8_mornings 7 = .ok (.ifCond .ne 10, 3) := by decide +kernel
theorem dX8_mornings_10 : decode cX8_mornings 10 = .ok (.aload_n 0, 1) := by decide +kernel
theorem dX8_mornings_11 : decode cX8_mornings 11 = .ok (.bipush (-3), 2) := by decide +kernel
theorem dX8_mornings_13 : decode cX8_mornings 13 = .ok (.invokevirtual 69, 3) := by decide +kernel
theorem dX8_mornings_16 : decode cX8_mornings 16 = .ok (.ireturn, 1) := by decide +kernel
theorem dX8_mornings_17 : decode cX8_mornings 17 = .ok (.iload_n 1, 1) := by decide +kernel
theorem dX8_mornings_18 : decode cX8_mornings 18 = .ok (.iconst 1, 1) := by decide +kernel
theorem dX8_mornings_19 : decode cX8_mornings 19 = .ok (.if_icmp .ge 10, 3) := by decide +kernel
theorem dX8_mornings_22 : decode cX8_mornings 22 = .ok (.aload_n 0, 1) := by decide +kernel
theorem dX8_mornings_23 : decode cX8_mornings 23 = .ok (.bipush (-4), 2) := by decide +kernel
theorem dX8_mornings_25 : decode cX8_mornings 25 = .ok (.invokevirtual 69, 3) := by decide +kernel
theorem dX8_mornings_28 : decode cX8_mornings 28 = .ok (.ireturn, 1) := by decide +kernel
theorem dX8_mornings_29 : decode cX8_mornings 29 = .ok (.iload_n 1, 1) := by decide +kernel
theorem dX8_mornings_30 : decode cX8_mornings 30 = .ok (.sipush 1000, 3) := by decide +kernel
theorem dX8_mornings_33 : decode cX8_mornings 33 = .ok (.if_icmp .le 10, 3) := by decide +kernel
theorem dX8_mornings_36 : decode cX8_mornings 36 = .ok (.aload_n 0, 1) := by decide +kernel
theorem dX8_mornings_37 : decode cX8_mornings 37 = .ok (.bipush (-6), 2) := by decide +kernel
theorem dX8_mornings_39 : decode cX8_mornings 39 = .ok (.invokevirtual 69, 3) := by decide +kernel
theorem dX8_mornings_42 : decode cX8_mornings 42 = .ok (.ireturn, 1) := by decide +kernel
theorem dX8_mornings_43 : decode cX8_mornings 43 = .ok (.iconst 0, 1) := by decide +kernel
theorem dX8_mornings_44 : decode cX8_mornings 44 = .ok (.istore_n 2, 1) := by decide +kernel
theorem dX8_mornings_45 : decode cX8_mornings 45 = .ok (.iload_n 2, 1) := by decide +kernel
theorem dX8_mornings_46 : decode cX8_mornings 46 = .ok (.bipush 9, 2) := by decide +kernel
theorem dX8_mornings_48 : decode cX8_mornings 48 = .ok (.if_icmp .ge 35, 3) := by decide +kernel
theorem dX8_mornings_51 : decode cX8_mornings 51 = .ok (.aload_n 0, 1) := by decide +kernel
theorem dX8_mornings_52 : decode cX8_mornings 52 = .ok (.getfield 19, 3) := by decide +kernel
theorem dX8_mornings_55 : decode cX8_mornings 55 = .ok (.iload_n 2, 1) := by decide +kernel
theorem dX8_mornings_56 : decode cX8_mornings 56 = .ok (.invokevirtual 93, 3) := by decide +kernel
theorem dX8_mornings_59 : decode cX8_mornings 59 = .ok (.dup, 1) := by decide +kernel
theorem dX8_mornings_60 : decode cX8_mornings 60 = .ok (.getfield 222, 3) := by decide +kernel
theorem dX8_mornings_63 : decode cX8_mornings 63 = .ok (.iload_n 1, 1) := by decide +kernel
theorem dX8_mornings_64 : decode cX8_mornings 64 = .ok (.aload_n 0, 1) := by decide +kernel
theorem dX8_mornings_65 : decode cX8_mornings 65 = .ok (.getfield 53, 3) := by decide +kernel
theorem dX8_mornings_68 : decode cX8_mornings 68 = .ok (.iload_n 2, 1) := by decide +kernel
theorem dX8_mornings_69 : decode cX8_mornings 69 = .ok (.invokevirtual 225, 3) := by decide +kernel
theorem dX8_mornings_72 : decode cX8_mornings 72 = .ok (.imul, 1) := by decide +kernel
theorem dX8_mornings_73 : decode cX8_mornings 73 = .ok (.iadd, 1) := by decide +kernel
theorem dX8_mornings_74 : decode cX8_mornings 74 = .ok (.putfield 222, 3) := by decide +kernel
theorem dX8_mornings_77 : decode cX8_mornings 77 = .ok (.iinc 2 1, 3) := by decide +kernel
theorem dX8_mornings_80 : decode cX8_mornings 80 = .ok (.goto (-35), 3) := by decide +kernel
theorem dX8_mornings_83 : decode cX8_mornings 83 = .ok (.aload_n 0, 1) := by decide +kernel
theorem dX8_mornings_84 : decode cX8_mornings 84 = .ok (.dup, 1) := by decide +kernel
theorem dX8_mornings_85 : decode cX8_mornings 85 = .ok (.getfield 61, 3) := by decide +kernel
theorem dX8_mornings_88 : decode cX8_mornings 88 = .ok (.iload_n 1, 1) := by decide +kernel
theorem dX8_mornings_89 : decode cX8_mornings 89 = .ok (.iadd, 1) := by decide +kernel
theorem dX8_mornings_90 : decode cX8_mornings 90 = .ok (.putfield 61, 3) := by decide +kernel
theorem dX8_mornings_93 : decode cX8_mornings 93 = .ok (.iload_n 1, 1) := by decide +kernel
theorem dX8_mornings_94 : decode cX8_mornings 94 = .ok (.ireturn, 1) := by decide +kernel
theorem dX8_fail_0 : decode cX8_fail 0 = .ok (.aload_n 0, 1) := by decide +kernel
theorem dX8_fail_1 : decode cX8_fail 1 = .ok (.getfield 53, 3) := by decide +kernel
theorem dX8_fail_4 : decode cX8_fail 4 = .ok (.invokevirtual 193, 3) := by decide +kernel
theorem dX8_fail_7 : decode cX8_fail 7 = .ok (.ifCond .ne 10, 3) := by decide +kernel
theorem dX8_fail_10 : decode cX8_fail 10 = .ok (.aload_n 0, 1) := by decide +kernel
theorem dX8_fail_11 : decode cX8_fail 11 = .ok (.bipush (-3), 2) := by decide +kernel
theorem dX8_fail_13 : decode cX8_fail 13 = .ok (.invokevirtual 69, 3) := by decide +kernel
theorem dX8_fail_16 : decode cX8_fail 16 = .ok (.ireturn, 1) := by decide +kernel
theorem dX8_fail_17 : decode cX8_fail 17 = .ok (.aload_n 0, 1) := by decide +kernel
theorem dX8_fail_18 : decode cX8_fail 18 = .ok (.getfield 19, 3) := by decide +kernel
theorem dX8_fail_21 : decode cX8_fail 21 = .ok (.iload_n 1, 1) := by decide +kernel
theorem dX8_fail_22 : decode cX8_fail 22 = .ok (.invokevirtual 120, 3) := by decide +kernel
theorem dX8_fail_25 : decode cX8_fail 25 = .ok (.ifCond .ne 9, 3) := by decide +kernel
theorem dX8_fail_28 : decode cX8_fail 28 = .ok (.aload_n 0, 1) := by decide +kernel
theorem dX8_fail_29 : decode cX8_fail 29 = .ok (.iconst (-1), 1) := by decide +kernel
theorem dX8_fail_30 : decode cX8_fail 30 = .ok (.invokevirtual 69, 3) := by decide +kernel
theorem dX8_fail_33 : decode cX8_fail 33 = .ok (.ireturn, 1) := by decide +kernel
theorem dX8_fail_34 : decode cX8_fail 34 = .ok (.aload_n 0, 1) := by decide +kernel
theorem dX8_fail_35 : decode cX8_fail 35 = .ok (.iload_n 1, 1) := by decide +kernel
theorem dX8_fail_36 : decode cX8_fail 36 = .ok (.iconst 1, 1) := by decide +kernel
theorem dX8_fail_37 : decode cX8_fail 37 = .ok (.invokevirtual 134, 3) := by decide +kernel
theorem dX8_fail_40 : decode cX8_fail 40 = .ok (.pop, 1) := by decide +kernel
theorem dX8_fail_41 : decode cX8_fail 41 = .ok (.aload_n 0, 1) := by decide +kernel
theorem dX8_fail_42 : decode cX8_fail 42 = .ok (.getfield 53, 3) := by decide +kernel
theorem dX8_fail_45 : decode cX8_fail 45 = .ok (.iload_n 1, 1) := by decide +kernel
theorem dX8_fail_46 : decode cX8_fail 46 = .ok (.invokevirtual 228, 3) := by decide +kernel
theorem dX8_fail_49 : decode cX8_fail 49 = .ok (.ifCond .ne 5, 3) := by decide +kernel
theorem dX8_fail_52 : decode cX8_fail 52 = .ok (.iconst 0, 1) := by decide +kernel
theorem dX8_fail_53 : decode cX8_fail 53 = .ok (.ireturn, 1) := by decide +kernel
theorem dX8_fail_54 : decode cX8_fail 54 = .ok (.aload_n 0, 1) := by decide +kernel
theorem dX8_fail_55 : decode cX8_fail 55 = .ok (.getfield 53, 3) := by decide +kernel
theorem dX8_fail_58 : decode cX8_fail 58 = .ok (.iload_n 1, 1) := by decide +kernel
theorem dX8_fail_59 : decode cX8_fail 59 = .ok (.invokevirtual 213, 3) := by decide +kernel
theorem dX8_fail_62 : decode cX8_fail 62 = .ok (.istore_n 2, 1) := by decide +kernel
theorem dX8_fail_63 : decode cX8_fail 63 = .ok (.aload_n 0, 1) := by decide +kernel
theorem dX8_fail_64 : decode cX8_fail 64 = .ok (.getfield 53, 3) := by decide +kernel
theorem dX8_fail_67 : decode cX8_fail 67 = .ok (.iload_n 2, 1) := by decide +kernel
theorem dX8_fail_68 : decode cX8_fail 68 = .ok (.invokevirtual 231, 3) := by decide +kernel
theorem dX8_fail_71 : decode cX8_fail 71 = .ok (.iconst 0, 1) := by decide +kernel
theorem dX8_fail_72 : decode cX8_fail 72 = .ok (.istore_n 3, 1) := by decide +kernel
theorem dX8_fail_73 : decode cX8_fail 73 = .ok (.iconst 0, 1) := by decide +kernel
theorem dX8_fail_74 : decode cX8_fail 74 = .ok (.istore 4, 2) := by decide +kernel
theorem dX8_fail_76 : decode cX8_fail 76 = .ok (.iload 4, 2) := by decide +kernel
theorem dX8_fail_78 : decode cX8_fail 78 = .ok (.bipush 9, 2) := by decide +kernel
theorem dX8_fail_80 : decode cX8_fail 80 = .ok (.if_icmp .ge 39, 3) := by decide +kernel
theorem dX8_fail_83 : decode cX8_fail 83 = .ok (.iload_n 2, 1) := by decide +kernel
theorem dX8_fail_84 : decode cX8_fail 84 = .ok (.iload 4, 2) := by decide +kernel
theorem dX8_fail_86 : decode cX8_fail 86 = .ok (.invokestatic 126, 3) := by decide +kernel
theorem dX8_fail_89 : decode cX8_fail 89 = .ok (.ifCond .eq 24, 3) := by decide +kernel
theorem dX8_fail_92 : decode cX8_fail 92 = .ok (.aload_n 0, 1) := by decide +kernel
theorem dX8_fail_93 : decode cX8_fail 93 = .ok (.iload 4, 2) := by decide +kernel
theorem dX8_fail_95 : decode cX8_fail 95 = .ok (.invokevirtual 234, 3) := by decide +kernel
theorem dX8_fail_98 : decode cX8_fail 98 = .ok (.ifCond .ne 15, 3) := by decide +kernel
theorem dX8_fail_101 : decode cX8_fail 101 = .ok (.aload_n 0, 1) := by decide +kernel
theorem dX8_fail_102 : decode cX8_fail 102 = .ok (.getfield 53, 3) := by decide +kernel
theorem dX8_fail_105 : decode cX8_fail 105 = .ok (.iload 4, 2) := by decide +kernel
theorem dX8_fail_107 : decode cX8_fail 107 = .ok (.invokevirtual 237, 3) := by decide +kernel
theorem dX8_fail_110 : decode cX8_fail 110 = .ok (.iinc 3 1, 3) := by decide +kernel
theorem dX8_fail_113 : decode cX8_fail 113 = .ok (.iinc 4 1, 3) := by decide +kernel
theorem dX8_fail_116 : decode cX8_fail 116 = .ok (.goto (-40), 3) := by decide +kernel
theorem dX8_fail_119 : decode cX8_fail 119 = .ok (.iload_n 3, 1) := by decide +kernel
theorem dX8_fail_120 : decode cX8_fail 120 = .ok (.ireturn, 1) := by decide +kernel
theorem dX8_few_0 : decode cX8_few 0 = .ok (.aload_n 0, 1) := by decide +kernel
theorem dX8_few_1 : decode cX8_few 1 = .ok (.getfield 19, 3) := by decide +kernel
theorem dX8_few_4 : decode cX8_few 4 = .ok (.invokevirtual 171, 3) := by decide +kernel
theorem dX8_few_7 : decode cX8_few 7 = .ok (.istore_n 1, 1) := by decide +kernel
theorem dX8_few_8 : decode cX8_few 8 = .ok (.aload_n 0, 1) := by decide +kernel
theorem dX8_few_9 : decode cX8_few 9 = .ok (.getfield 37, 3) := by decide +kernel
theorem dX8_few_12 : decode cX8_few 12 = .ok (.iload_n 1, 1) := by decide +kernel
theorem dX8_few_13 : decode cX8_few 13 = .ok (.invokevirtual 174, 3) := by decide +kernel
theorem dX8_few_16 : decode cX8_few 16 = .ok (.aload_n 0, 1) := by decide +kernel
theorem dX8_few_17 : decode cX8_few 17 = .ok (.getfield 46, 3) := by decide +kernel
theorem dX8_few_20 : decode cX8_few 20 = .ok (.iload_n 1, 1) := by decide +kernel
theorem dX8_few_21 : decode cX8_few 21 = .ok (.invokevirtual 240, 3) := by decide +kernel
theorem dX8_few_24 : decode cX8_few 24 = .ok (.ireturn, 1) := by decide +kernel
theorem dX8_personOf_0 : decode cX8_personOf 0 = .ok (.aload_n 0, 1) := by decide +kernel
theorem dX8_personOf_1 : decode cX8_personOf 1 = .ok (.getfield 19, 3) := by decide +kernel
theorem dX8_personOf_4 : decode cX8_personOf 4 = .ok (.iload_n 1, 1) := by decide +kernel
theorem dX8_personOf_5 : decode cX8_personOf 5 = .ok (.invokevirtual 120, 3) := by decide +kernel
theorem dX8_personOf_8 : decode cX8_personOf 8 = .ok (.ifCond .ne 9, 3) := by decide +kernel
theorem dX8_personOf_11 : decode cX8_personOf 11 = .ok (.aload_n 0, 1) := by decide +kernel
theorem dX8_personOf_12 : decode cX8_personOf 12 = .ok (.iconst (-1), 1) := by decide +kernel
theorem dX8_personOf_13 : decode cX8_personOf 13 = .ok (.invokevirtual 69, 3) := by decide +kernel
theorem dX8_personOf_16 : decode cX8_personOf 16 = .ok (.ireturn, 1) := by decide +kernel
theorem dX8_personOf_17 : decode cX8_personOf 17 = .ok (.aload_n 0, 1) := by decide +kernel
theorem dX8_personOf_18 : decode cX8_personOf 18 = .ok (.getfield 19, 3) := by decide +kernel
theorem dX8_personOf_21 : decode cX8_personOf 21 = .ok (.iload_n 1, 1) := by decide +kernel
theorem dX8_personOf_22 : decode cX8_personOf 22 = .ok (.invokevirtual 93, 3) := by decide +kernel
theorem dX8_personOf_25 : decode cX8_personOf 25 = .ok (.astore_n 3, 1) := by decide +kernel
theorem dX8_personOf_26 : decode cX8_personOf 26 = .ok (.iload_n 2, 1) := by decide +kernel
theorem dX8_personOf_27 : decode cX8_personOf 27 = .ok (.tableswitch 151 0 11 #[61, 66, 71, 76, 81, 86, 91, 96, 109, 122, 127, 143], 61) := by decide +kernel
theorem dX8_personOf_88 : decode cX8_personOf 88 = .ok (.aload_n 3, 1) := by decide +kernel
theorem dX8_personOf_89 : decode cX8_personOf 89 = .ok (.getfield 97, 3) := by decide +kernel
theorem dX8_personOf_92 : decode cX8_personOf 92 = .ok (.ireturn, 1) := by decide +kernel
theorem dX8_personOf_93 : decode cX8_personOf 93 = .ok (.aload_n 3, 1) := by decide +kernel
theorem dX8_personOf_94 : decode cX8_personOf 94 = .ok (.getfield 102, 3) := by decide +kernel
theorem dX8_personOf_97 : decode cX8_personOf 97 = .ok (.ireturn, 1) := by decide +kernel
theorem dX8_personOf_98 : decode cX8_personOf 98 = .ok (.aload_n 3, 1) := by decide +kernel
theorem dX8_personOf_99 : decode cX8_personOf 99 = .ok (.getfield 105, 3) := by decide +kernel
theorem dX8_personOf_102 : decode cX8_personOf 102 = .ok (.ireturn, 1) := by decide +kernel
theorem dX8_personOf_103 : decode cX8_personOf 103 = .ok (.aload_n 3, 1) := by decide +kernel
theorem dX8_personOf_104 : decode cX8_personOf 104 = .ok (.getfield 108, 3) := by decide +kernel
theorem dX8_personOf_107 : decode cX8_personOf 107 = .ok (.ireturn, 1) := by decide +kernel
theorem dX8_personOf_108 : decode cX8_personOf 108 = .ok (.aload_n 3, 1) := by decide +kernel
theorem dX8_personOf_109 : decode cX8_personOf 109 = .ok (.getfield 111, 3) := by decide +kernel
theorem dX8_personOf_112 : decode cX8_personOf 112 = .ok (.ireturn, 1) := by decide +kernel
theorem dX8_personOf_113 : decode cX8_personOf 113 = .ok (.aload_n 3, 1) := by decide +kernel
theorem dX8_personOf_114 : decode cX8_personOf 114 = .ok (.getfield 114, 3) := by decide +kernel
theorem dX8_personOf_117 : decode cX8_personOf 117 = .ok (.ireturn, 1) := by decide +kernel
theorem dX8_personOf_118 : decode cX8_personOf 118 = .ok (.aload_n 3, 1) := by decide +kernel
theorem dX8_personOf_119 : decode cX8_personOf 119 = .ok (.getfield 117, 3) := by decide +kernel
theorem dX8_personOf_122 : decode cX8_personOf 122 = .ok (.ireturn, 1) := by decide +kernel
theorem dX8_personOf_123 : decode cX8_personOf 123 = .ok (.aload_n 3, 1) := by decide +kernel
theorem dX8_personOf_124 : decode cX8_personOf 124 = .ok (.getfield 130, 3) := by decide +kernel
theorem dX8_personOf_127 : decode cX8_personOf 127 = .ok (.ifCond .eq 7, 3) := by decide +kernel
theorem dX8_personOf_130 : decode cX8_personOf 130 = .ok (.iconst 1, 1) := by decide +kernel
theorem dX8_personOf_131 : decode cX8_personOf 131 = .ok (.goto 4, 3) := by decide +kernel
theorem dX8_personOf_134 : decode cX8_personOf 134 = .ok (.iconst 0, 1) := by decide +kernel
theorem dX8_personOf_135 : decode cX8_personOf 135 = .ok (.ireturn, 1) := by decide +kernel
theorem dX8_personOf_136 : decode cX8_personOf 136 = .ok (.aload_n 3, 1) := by decide +kernel
theorem dX8_personOf_137 : decode cX8_personOf 137 = .ok (.getfield 243, 3) := by decide +kernel
theorem dX8_personOf_140 : decode cX8_personOf 140 = .ok (.ifCond .eq 7, 3) := by decide +kernel
theorem dX8_personOf_143 : decode cX8_personOf 143 = .ok (.iconst 1, 1) := by decide +kernel
theorem dX8_personOf_144 : decode cX8_personOf 144 = .ok (.goto 4, 3) := by decide +kernel
theorem dX8_personOf_147 : decode cX8_personOf 147 = .ok (.iconst 0, 1) := by decide +kernel
theorem dX8_personOf_148 : decode cX8_personOf 148 = .ok (.ireturn, 1) := by decide +kernel
theorem dX8_personOf_149 : decode cX8_personOf 149 = .ok (.aload_n 3, 1) := by decide +kernel
theorem dX8_personOf_150 : decode cX8_personOf 150 = .ok (.getfield 123, 3) := by decide +kernel
theorem dX8_personOf_153 : decode cX8_personOf 153 = .ok (.ireturn, 1) := by decide +kernel
theorem dX8_personOf_154 : decode cX8_personOf 154 = .ok (.aload_n 0, 1) := by decide +kernel
theorem dX8_personOf_155 : decode cX8_personOf 155 = .ok (.getfield 12, 3) := by decide +kernel
theorem dX8_personOf_158 : decode cX8_personOf 158 = .ok (.aload_n 3, 1) := by decide +kernel
theorem dX8_personOf_159 : decode cX8_personOf 159 = .ok (.getfield 102, 3) := by decide +kernel
theorem dX8_personOf_162 : decode cX8_personOf 162 = .ok (.aload_n 3, 1) := by decide +kernel
theorem dX8_personOf_163 : decode cX8_personOf 163 = .ok (.getfield 105, 3) := by decide +kernel
theorem dX8_personOf_166 : decode cX8_personOf 166 = .ok (.invokevirtual 81, 3) := by decide +kernel
theorem dX8_personOf_169 : decode cX8_personOf 169 = .ok (.ireturn, 1) := by decide +kernel
theorem dX8_personOf_170 : decode cX8_personOf 170 = .ok (.ldc 246, 2) := by decide +kernel
theorem dX8_personOf_172 : decode cX8_personOf 172 = .ok (.aload_n 3, 1) := by decide +kernel
theorem dX8_personOf_173 : decode cX8_personOf 173 = .ok (.getfield 222, 3) := by decide +kernel
theorem dX8_personOf_176 : decode cX8_personOf 176 = .ok (.iadd, 1) := by decide +kernel
theorem dX8_personOf_177 : decode cX8_personOf 177 = .ok (.ireturn, 1) := by decide +kernel
theorem dX8_personOf_178 : decode cX8_personOf 178 = .ok (.aload_n 0, 1) := by decide +kernel
theorem dX8_personOf_179 : decode cX8_personOf 179 = .ok (.bipush (-2), 2) := by decide +kernel
theorem dX8_personOf_181 : decode cX8_personOf 181 = .ok (.invokevirtual 69, 3) := by decide +kernel
theorem dX8_personOf_184 : decode cX8_personOf 184 = .ok (.ireturn, 1) := by decide +kernel
theorem dX8_count_0 : decode cX8_count 0 = .ok (.iload_n 1, 1) := by decide +kernel
theorem dX8_count_1 : decode cX8_count 1 = .ok (.tableswitch 83 0 4 #[35, 43, 54, 62, 78], 35) := by decide +kernel
theorem dX8_count_36 : decode cX8_count 36 = .ok (.aload_n 0, 1) := by decide +kernel
theorem dX8_count_37 : decode cX8_count 37 = .ok (.getfield 19, 3) := by decide +kernel
theorem dX8_count_40 : decode cX8_count 40 = .ok (.invokevirtual 247, 3) := by decide +kernel
theorem dX8_count_43 : decode cX8_count 43 = .ok (.ireturn, 1) := by decide +kernel
theorem dX8_count_44 : decode cX8_count 44 = .ok (.aload_n 0, 1) := by decide +kernel
theorem dX8_count_45 : decode cX8_count 45 = .ok (.getfield 19, 3) := by decide +kernel
theorem dX8_count_48 : decode cX8_count 48 = .ok (.invokevirtual 171, 3) := by decide +kernel
theorem dX8_count_51 : decode cX8_count 51 = .ok (.invokestatic 250, 3) := by decide +kernel
theorem dX8_count_54 : decode cX8_count 54 = .ok (.ireturn, 1) := by decide +kernel
theorem dX8_count_55 : decode cX8_count 55 = .ok (.aload_n 0, 1) := by decide +kernel
theorem dX8_count_56 : decode cX8_count 56 = .ok (.getfield 19, 3) := by decide +kernel
theorem dX8_count_59 : decode cX8_count 59 = .ok (.invokevirtual 255, 3) := by decide +kernel
theorem dX8_count_62 : decode cX8_count 62 = .ok (.ireturn, 1) := by decide +kernel
theorem dX8_count_63 : decode cX8_count 63 = .ok (.aload_n 0, 1) := by decide +kernel
theorem dX8_count_64 : decode cX8_count 64 = .ok (.getfield 53, 3) := by decide +kernel
theorem dX8_count_67 : decode cX8_count 67 = .ok (.invokevirtual 193, 3) := by decide +kernel
theorem dX8_count_70 : decode cX8_count 70 = .ok (.ifCond .eq 7, 3) := by decide +kernel
theorem dX8_count_73 : decode cX8_count 73 = .ok (.iconst 1, 1) := by decide +kernel
theorem dX8_count_74 : decode cX8_count 74 = .ok (.goto 4, 3) := by decide +kernel
theorem dX8_count_77 : decode cX8_count 77 = .ok (.iconst 0, 1) := by decide +kernel
theorem dX8_count_78 : decode cX8_count 78 = .ok (.ireturn, 1) := by decide +kernel
theorem dX8_count_79 : decode cX8_count 79 = .ok (.aload_n 0, 1) := by decide +kernel
theorem dX8_count_80 : decode cX8_count 80 = .ok (.getfield 61, 3) := by decide +kernel
theorem dX8_count_83 : decode cX8_count 83 = .ok (.ireturn, 1) := by decide +kernel
theorem dX8_count_84 : decode cX8_count 84 = .ok (.iload_n 1, 1) := by decide +kernel
theorem dX8_count_85 : decode cX8_count 85 = .ok (.bipush 10, 2) := by decide +kernel
theorem dX8_count_87 : decode cX8_count 87 = .ok (.if_icmp .le 21, 3) := by decide +kernel
theorem dX8_count_90 : decode cX8_count 90 = .ok (.iload_n 1, 1) := by decide +kernel
theorem dX8_count_91 : decode cX8_count 91 = .ok (.bipush 16, 2) := by decide +kernel
theorem dX8_count_93 : decode cX8_count 93 = .ok (.if_icmp .gt 15, 3) := by decide +kernel
theorem dX8_count_96 : decode cX8_count 96 = .ok (.aload_n 0, 1) := by decide +kernel
theorem dX8_count_97 : decode cX8_count 97 = .ok (.getfield 57, 3) := by decide +kernel
theorem dX8_count_100 : decode cX8_count 100 = .ok (.iload_n 1, 1) := by decide +kernel
theorem dX8_count_101 : decode cX8_count 101 = .ok (.bipush 10, 2) := by decide +kernel
theorem dX8_count_103 : decode cX8_count 103 = .ok (.isub, 1) := by decide +kernel
theorem dX8_count_104 : decode cX8_count 104 = .ok (.iaload, 1) := by decide +kernel
theorem dX8_count_105 : decode cX8_count 105 = .ok (.goto 5, 3) := by decide +kernel
theorem dX8_count_108 : decode cX8_count 108 = .ok (.bipush (-9), 2) := by decide +kernel
theorem dX8_count_110 : decode cX8_count 110 = .ok (.ireturn, 1) := by decide +kernel
theorem dX8_refuse_0 : decode cX8_refuse 0 = .ok (.aload_n 0, 1) := by decide +kernel
theorem dX8_refuse_1 : decode cX8_refuse 1 = .ok (.getfield 57, 3) := by decide +kernel
theorem dX8_refuse_4 : decode cX8_refuse 4 = .ok (.iload_n 1, 1) := by decide +kernel
theorem dX8_refuse_5 : decode cX8_refuse 5 = .ok (.ineg, 1) := by decide +kernel
theorem dX8_refuse_6 : decode cX8_refuse 6 = .ok (.dup2, 1) := by decide +kernel
theorem dX8_refuse_7 : decode cX8_refuse 7 = .ok (.iaload, 1) := by decide +kernel
theorem dX8_refuse_8 : decode cX8_refuse 8 = .ok (.iconst 1, 1) := by decide +kernel
theorem dX8_refuse_9 : decode cX8_refuse 9 = .ok (.iadd, 1) := by decide +kernel
theorem dX8_refuse_10 : decode cX8_refuse 10 = .ok (.iastore, 1) := by decide +kernel
theorem dX8_refuse_11 : decode cX8_refuse 11 = .ok (.iload_n 1, 1) := by decide +kernel
theorem dX8_refuse_12 : decode cX8_refuse 12 = .ok (.ireturn, 1) := by decide +kernel
theorem dX8_isStop_0 : decode cX8_isStop 0 = .ok (.iload_n 0, 1) := by decide +kernel
theorem dX8_isStop_1 : decode cX8_isStop 1 = .ok (.ifCond .lt 13, 3) := by decide +kernel
theorem dX8_isStop_4 : decode cX8_isStop 4 = .ok (.iload_n 0, 1) := by decide +kernel
theorem dX8_isStop_5 : decode cX8_isStop 5 = .ok (.bipush 10, 2) := by decide +kernel
theorem dX8_isStop_7 : decode cX8_isStop 7 = .ok (.if_icmp .ge 7, 3) := by decide +kernel
theorem dX8_isStop_10 : decode cX8_isStop 10 = .ok (.iconst 1, 1) := by decide +kernel
theorem dX8_isStop_11 : decode cX8_isStop 11 = .ok (.goto 4, 3) := by decide +kernel
theorem dX8_isStop_14 : decode cX8_isStop 14 = .ok (.iconst 0, 1) := by decide +kernel
theorem dX8_isStop_15 : decode cX8_isStop 15 = .ok (.ireturn, 1) := by decide +kernel
theorem dX8_contains_0 : decode cX8_contains 0 = .ok (.iload_n 0, 1) := by decide +kernel
theorem dX8_contains_1 : decode cX8_contains 1 = .ok (.iload_n 1, 1) := by decide +kernel
theorem dX8_contains_2 : decode cX8_contains 2 = .ok (.ishr, 1) := by decide +kernel
theorem dX8_contains_3 : decode cX8_contains 3 = .ok (.iconst 1, 1) := by decide +kernel
theorem dX8_contains_4 : decode cX8_contains 4 = .ok (.iand, 1) := by decide +kernel
theorem dX8_contains_5 : decode cX8_contains 5 = .ok (.ifCond .eq 7, 3) := by decide +kernel
theorem dX8_contains_8 : decode cX8_contains 8 = .ok (.iconst 1, 1) := by decide +kernel
theorem dX8_contains_9 : decode cX8_contains 9 = .ok (.goto 4, 3) := by decide +kernel
theorem dX8_contains_12 : decode cX8_contains 12 = .ok (.iconst 0, 1) := by decide +kernel
theorem dX8_contains_13 : decode cX8_contains 13 = .ok (.ireturn, 1) := by decide +kernel
theorem dX8_wrongSet_0 : decode cX8_wrongSet 0 = .ok (.aload_n 0, 1) := by decide +kernel
theorem dX8_wrongSet_1 : decode cX8_wrongSet 1 = .ok (.getfield 19, 3) := by decide +kernel
theorem dX8_wrongSet_4 : decode cX8_wrongSet 4 = .ok (.iload_n 1, 1) := by decide +kernel
theorem dX8_wrongSet_5 : decode cX8_wrongSet 5 = .ok (.invokevirtual 258, 3) := by decide +kernel
theorem dX8_wrongSet_8 : decode cX8_wrongSet 8 = .ok (.ifCond .eq 11, 3) := by decide +kernel
theorem dX8_wrongSet_11 : decode cX8_wrongSet 11 = .ok (.iload_n 1, 1) := by decide +kernel
theorem dX8_wrongSet_12 : decode cX8_wrongSet 12 = .ok (.invokestatic 250, 3) := by decide +kernel
theorem dX8_wrongSet_15 : decode cX8_wrongSet 15 = .ok (.iconst 4, 1) := by decide +kernel
theorem dX8_wrongSet_16 : decode cX8_wrongSet 16 = .ok (.if_icmp .le 5, 3) := by decide +kernel
theorem dX8_wrongSet_19 : decode cX8_wrongSet 19 = .ok (.iconst (-1), 1) := by decide +kernel
theorem dX8_wrongSet_20 : decode cX8_wrongSet 20 = .ok (.ireturn, 1) := by decide +kernel
theorem dX8_wrongSet_21 : decode cX8_wrongSet 21 = .ok (.aload_n 0, 1) := by decide +kernel
theorem dX8_wrongSet_22 : decode cX8_wrongSet 22 = .ok (.getfield 19, 3) := by decide +kernel
theorem dX8_wrongSet_25 : decode cX8_wrongSet 25 = .ok (.iload_n 1, 1) := by decide +kernel
theorem dX8_wrongSet_26 : decode cX8_wrongSet 26 = .ok (.invokevirtual 261, 3) := by decide +kernel
theorem dX8_wrongSet_29 : decode cX8_wrongSet 29 = .ok (.ifCond .eq 8, 3) := by decide +kernel
theorem dX8_wrongSet_32 : decode cX8_wrongSet 32 = .ok (.bipush (-3), 2) := by decide +kernel
theorem dX8_wrongSet_34 : decode cX8_wrongSet 34 = .ok (.goto 4, 3) := by decide +kernel
theorem dX8_wrongSet_37 : decode cX8_wrongSet 37 = .ok (.iconst 0, 1) := by decide +kernel
theorem dX8_wrongSet_38 : decode cX8_wrongSet 38 = .ok (.ireturn, 1) := by decide +kernel
theorem dX8_wrongRide_0 : decode cX8_wrongRide 0 = .ok (.aload_n 0, 1) := by decide +kernel
theorem dX8_wrongRide_1 : decode cX8_wrongRide 1 = .ok (.getfield 19, 3) := by decide +kernel
theorem dX8_wrongRide_4 : decode cX8_wrongRide 4 = .ok (.iload_n 2, 1) := by decide +kernel
theorem dX8_wrongRide_5 : decode cX8_wrongRide 5 = .ok (.invokevirtual 120, 3) := by decide +kernel
theorem dX8_wrongRide_8 : decode cX8_wrongRide 8 = .ok (.ifCond .eq 11, 3) := by decide +kernel
theorem dX8_wrongRide_11 : decode cX8_wrongRide 11 = .ok (.iload_n 1, 1) := by decide +kernel
theorem dX8_wrongRide_12 : decode cX8_wrongRide 12 = .ok (.iload_n 2, 1) := by decide +kernel
theorem dX8_wrongRide_13 : decode cX8_wrongRide 13 = .ok (.invokestatic 126, 3) := by decide +kernel
theorem dX8_wrongRide_16 : decode cX8_wrongRide 16 = .ok (.ifCond .ne 5, 3) := by decide +kernel
theorem dX8_wrongRide_19 : decode cX8_wrongRide 19 = .ok (.iconst (-1), 1) := by decide +kernel
theorem dX8_wrongRide_20 : decode cX8_wrongRide 20 = .ok (.ireturn, 1) := by decide +kernel
theorem dX8_wrongRide_21 : decode cX8_wrongRide 21 = .ok (.aload_n 0, 1) := by decide +kernel
theorem dX8_wrongRide_22 : decode cX8_wrongRide 22 = .ok (.iload_n 1, 1) := by decide +kernel
theorem dX8_wrongRide_23 : decode cX8_wrongRide 23 = .ok (.invokevirtual 156, 3) := by decide +kernel
theorem dX8_wrongRide_26 : decode cX8_wrongRide 26 = .ok (.ireturn, 1) := by decide +kernel
theorem dX8_setBroken_0 : decode cX8_setBroken 0 = .ok (.aload_n 0, 1) := by decide +kernel
theorem dX8_setBroken_1 : decode cX8_setBroken 1 = .ok (.getfield 19, 3) := by decide +kernel
theorem dX8_setBroken_4 : decode cX8_setBroken 4 = .ok (.iload_n 1, 1) := by decide +kernel
theorem dX8_setBroken_5 : decode cX8_setBroken 5 = .ok (.invokevirtual 93, 3) := by decide +kernel
theorem dX8_setBroken_8 : decode cX8_setBroken 8 = .ok (.getfield 243, 3) := by decide +kernel
theorem dX8_setBroken_11 : decode cX8_setBroken 11 = .ok (.iload_n 2, 1) := by decide +kernel
theorem dX8_setBroken_12 : decode cX8_setBroken 12 = .ok (.if_icmp .ne 5, 3) := by decide +kernel
theorem dX8_setBroken_15 : decode cX8_setBroken 15 = .ok (.iconst 0, 1) := by decide +kernel
theorem dX8_setBroken_16 : decode cX8_setBroken 16 = .ok (.ireturn, 1) := by decide +kernel
theorem dX8_setBroken_17 : decode cX8_setBroken 17 = .ok (.aload_n 0, 1) := by decide +kernel
theorem dX8_setBroken_18 : decode cX8_setBroken 18 = .ok (.getfield 19, 3) := by decide +kernel
theorem dX8_setBroken_21 : decode cX8_setBroken 21 = .ok (.iload_n 1, 1) := by decide +kernel
theorem dX8_setBroken_22 : decode cX8_setBroken 22 = .ok (.invokevirtual 93, 3) := by decide +kernel
theorem dX8_setBroken_25 : decode cX8_setBroken 25 = .ok (.iload_n 2, 1) := by decide +kernel
theorem dX8_setBroken_26 : decode cX8_setBroken 26 = .ok (.putfield 243, 3) := by decide +kernel
theorem dX8_setBroken_29 : decode cX8_setBroken 29 = .ok (.aload_n 0, 1) := by decide +kernel
theorem dX8_setBroken_30 : decode cX8_setBroken 30 = .ok (.getfield 37, 3) := by decide +kernel
theorem dX8_setBroken_33 : decode cX8_setBroken 33 = .ok (.iconst 1, 1) := by decide +kernel
theorem dX8_setBroken_34 : decode cX8_setBroken 34 = .ok (.iload_n 1, 1) := by decide +kernel
theorem dX8_setBroken_35 : decode cX8_setBroken 35 = .ok (.ishl, 1) := by decide +kernel
theorem dX8_setBroken_36 : decode cX8_setBroken 36 = .ok (.invokevirtual 77, 3) := by decide +kernel
theorem dX8_setBroken_39 : decode cX8_setBroken 39 = .ok (.iconst 1, 1) := by decide +kernel
theorem dX8_setBroken_40 : decode cX8_setBroken 40 = .ok (.ireturn, 1) := by decide +kernel
theorem dX8_whoseTurn_0 : decode cX8_whoseTurn 0 = .ok (.bipush (-9), 2) := by decide +kernel
theorem dX8_whoseTurn_2 : decode cX8_whoseTurn 2 = .ok (.istore_n 2, 1) := by decide +kernel
theorem dX8_whoseTurn_3 : decode cX8_whoseTurn 3 = .ok (.iconst 0, 1) := by decide +kernel
theorem dX8_whoseTurn_4 : decode cX8_whoseTurn 4 = .ok (.istore_n 3, 1) := by decide +kernel
theorem dX8_whoseTurn_5 : decode cX8_whoseTurn 5 = .ok (.iload_n 3, 1) := by decide +kernel
theorem dX8_whoseTurn_6 : decode cX8_whoseTurn 6 = .ok (.bipush 9, 2) := by decide +kernel
theorem dX8_whoseTurn_8 : decode cX8_whoseTurn 8 = .ok (.if_icmp .ge 74, 3) := by decide +kernel
theorem dX8_whoseTurn_11 : decode cX8_whoseTurn 11 = .ok (.iload_n 2, 1) := by decide +kernel
theorem dX8_whoseTurn_12 : decode cX8_whoseTurn 12 = .ok (.bipush (-9), 2) := by decide +kernel
theorem dX8_whoseTurn_14 : decode cX8_whoseTurn 14 = .ok (.if_icmp .eq 28, 3) := by decide +kernel
theorem dX8_whoseTurn_17 : decode cX8_whoseTurn 17 = .ok (.aload_n 0, 1) := by decide +kernel
theorem dX8_whoseTurn_18 : decode cX8_whoseTurn 18 = .ok (.getfield 19, 3) := by decide +kernel
theorem dX8_whoseTurn_21 : decode cX8_whoseTurn 21 = .ok (.iload_n 3, 1) := by decide +kernel
theorem dX8_whoseTurn_22 : decode cX8_whoseTurn 22 = .ok (.invokevirtual 93, 3) := by decide +kernel
theorem dX8_whoseTurn_25 : decode cX8_whoseTurn 25 = .ok (.getfield 222, 3) := by decide +kernel
theorem dX8_whoseTurn_28 : decode cX8_whoseTurn 28 = .ok (.aload_n 0, 1) := by decide +kernel
theorem dX8_whoseTurn_29 : decode cX8_whoseTurn 29 = .ok (.getfield 19, 3) := by decide +kernel
theorem dX8_whoseTurn_32 : decode cX8_whoseTurn 32 = .ok (.iload_n 2, 1) := by decide +kernel
theorem dX8_whoseTurn_33 : decode cX8_whoseTurn 33 = .ok (.invokevirtual 93, 3) := by decide +kernel
theorem dX8_whoseTurn_36 : decode cX8_whoseTurn 36 = .ok (.getfield 222, 3) := by decide +kernel
theorem dX8_whoseTurn_39 : decode cX8_whoseTurn 39 = .ok (.if_icmp .ge 7, 3) := by decide +kernel
theorem dX8_whoseTurn_42 : decode cX8_whoseTurn 42 = .ok (.iconst 1, 1) := by decide +kernel
theorem dX8_whoseTurn_43 : decode cX8_whoseTurn 43 = .ok (.goto 4, 3) := by decide +kernel
theorem dX8_whoseTurn_46 : decode cX8_whoseTurn 46 = .ok (.iconst 0, 1) := by decide +kernel
theorem dX8_whoseTurn_47 : decode cX8_whoseTurn 47 = .ok (.istore 4, 2) := by decide +kernel
theorem dX8_whoseTurn_49 : decode cX8_whoseTurn 49 = .ok (.iload_n 1, 1) := by decide +kernel
theorem dX8_whoseTurn_50 : decode cX8_whoseTurn 50 = .ok (.iload_n 3, 1) := by decide +kernel
theorem dX8_whoseTurn_51 : decode cX8_whoseTurn 51 = .ok (.invokestatic 126, 3) := by decide +kernel
theorem dX8_whoseTurn_54 : decode cX8_whoseTurn 54 = .ok (.ifCond .eq 22, 3) := by decide +kernel
theorem dX8_whoseTurn_57 : decode cX8_whoseTurn 57 = .ok (.iload 4, 2) := by decide +kernel
theorem dX8_whoseTurn_59 : decode cX8_whoseTurn 59 = .ok (.ifCond .eq 17, 3) := by decide +kernel
theorem dX8_whoseTurn_62 : decode cX8_whoseTurn 62 = .ok (.aload_n 0, 1) := by decide +kernel
theorem dX8_whoseTurn_63 : decode cX8_whoseTurn 63 = .ok (.getfield 28, 3) := by decide +kernel
theorem dX8_whoseTurn_66 : decode cX8_whoseTurn 66 = .ok (.iload_n 1, 1) := by decide +kernel
theorem dX8_whoseTurn_67 : decode cX8_whoseTurn 67 = .ok (.iload_n 3, 1) := by decide +kernel
theorem dX8_whoseTurn_68 : decode cX8_whoseTurn 68 = .ok (.invokevirtual 141, 3) := by decide +kernel
theorem dX8_whoseTurn_71 : decode cX8_whoseTurn 71 = .ok (.ifCond .ne 5, 3) := by decide +kernel
theorem dX8_whoseTurn_74 : decode cX8_whoseTurn 74 = .ok (.iload_n 3, 1) := by decide +kernel
theorem dX8_whoseTurn_75 : decode cX8_whoseTurn 75 = .ok (.istore_n 2, 1) := by decide +kernel
theorem dX8_whoseTurn_76 : decode cX8_whoseTurn 76 = .ok (.iinc 3 1, 3) := by decide +kernel
theorem dX8_whoseTurn_79 : decode cX8_whoseTurn 79 = .ok (.goto (-74), 3) := by decide +kernel
theorem dX8_whoseTurn_82 : decode cX8_whoseTurn 82 = .ok (.iload_n 2, 1) := by decide +kernel
theorem dX8_whoseTurn_83 : decode cX8_whoseTurn 83 = .ok (.ireturn, 1) := by decide +kernel
theorem dX8_takeIntoPlan_0 : decode cX8_takeIntoPlan 0 = .ok (.iload_n 2, 1) := by decide +kernel
theorem dX8_takeIntoPlan_1 : decode cX8_takeIntoPlan 1 = .ok (.ifCond .ne 14, 3) := by decide +kernel
theorem dX8_takeIntoPlan_4 : decode cX8_takeIntoPlan 4 = .ok (.aload_n 0, 1) := by decide +kernel
theorem dX8_takeIntoPlan_5 : decode cX8_takeIntoPlan 5 = .ok (.getfield 53, 3) := by decide +kernel
theorem dX8_takeIntoPlan_8 : decode cX8_takeIntoPlan 8 = .ok (.iload_n 1, 1) := by decide +kernel
theorem dX8_takeIntoPlan_9 : decode cX8_takeIntoPlan 9 = .ok (.invokevirtual 237, 3) := by decide +kernel
theorem dX8_takeIntoPlan_12 : decode cX8_takeIntoPlan 12 = .ok (.goto 17, 3) := by decide +kernel
theorem dX8_takeIntoPlan_15 : decode cX8_takeIntoPlan 15 = .ok (.aload_n 0, 1) := by decide +kernel
theorem dX8_takeIntoPlan_16 : decode cX8_takeIntoPlan 16 = .ok (.iload_n 2, 1) := by decide +kernel
theorem dX8_takeIntoPlan_17 : decode cX8_takeIntoPlan 17 = .ok (.aload_n 0, 1) := by decide +kernel
theorem dX8_takeIntoPlan_18 : decode cX8_takeIntoPlan 18 = .ok (.getfield 37, 3) := by decide +kernel
theorem dX8_takeIntoPlan_21 : decode cX8_takeIntoPlan 21 = .ok (.iload_n 2, 1) := by decide +kernel
theorem dX8_takeIntoPlan_22 : decode cX8_takeIntoPlan 22 = .ok (.invokevirtual 165, 3) := by decide +kernel
theorem dX8_takeIntoPlan_25 : decode cX8_takeIntoPlan 25 = .ok (.invokevirtual 264, 3) := by decide +kernel
theorem dX8_takeIntoPlan_28 : decode cX8_takeIntoPlan 28 = .ok (.pop, 1) := by decide +kernel
theorem dX8_takeIntoPlan_29 : decode cX8_takeIntoPlan 29 = .ok (.return_, 1) := by decide +kernel
theorem dX8_putIntoPlan_0 : decode cX8_putIntoPlan 0 = .ok (.aload_n 0, 1) := by decide +kernel
theorem dX8_putIntoPlan_1 : decode cX8_putIntoPlan 1 = .ok (.getfield 28, 3) := by decide +kernel
theorem dX8_putIntoPlan_4 : decode cX8_putIntoPlan 4 = .ok (.iload_n 1, 1) := by decide +kernel
theorem dX8_putIntoPlan_5 : decode cX8_putIntoPlan 5 = .ok (.iload_n 2, 1) := by decide +kernel
theorem dX8_putIntoPlan_6 : decode cX8_putIntoPlan 6 = .ok (.invokevirtual 141, 3) := by decide +kernel
theorem dX8_putIntoPlan_9 : decode cX8_putIntoPlan 9 = .ok (.ifCond .eq 5, 3) := by decide +kernel
theorem dX8_putIntoPlan_12 : decode cX8_putIntoPlan 12 = .ok (.iconst 0, 1) := by decide +kernel
theorem dX8_putIntoPlan_13 : decode cX8_putIntoPlan 13 = .ok (.ireturn, 1) := by decide +kernel
theorem dX8_putIntoPlan_14 : decode cX8_putIntoPlan 14 = .ok (.aload_n 0, 1) := by decide +kernel
theorem dX8_putIntoPlan_15 : decode cX8_putIntoPlan 15 = .ok (.getfield 53, 3) := by decide +kernel
theorem dX8_putIntoPlan_18 : decode cX8_putIntoPlan 18 = .ok (.iload_n 1, 1) := by decide +kernel
theorem dX8_putIntoPlan_19 : decode cX8_putIntoPlan 19 = .ok (.iload_n 2, 1) := by decide +kernel
theorem dX8_putIntoPlan_20 : decode cX8_putIntoPlan 20 = .ok (.aload_n 0, 1) := by decide +kernel
theorem dX8_putIntoPlan_21 : decode cX8_putIntoPlan 21 = .ok (.getfield 28, 3) := by decide +kernel
theorem dX8_putIntoPlan_24 : decode cX8_putIntoPlan 24 = .ok (.invokevirtual 144, 3) := by decide +kernel
theorem dX8_putIntoPlan_27 : decode cX8_putIntoPlan 27 = .ok (.invokevirtual 267, 3) := by decide +kernel
theorem dX8_putIntoPlan_30 : decode cX8_putIntoPlan 30 = .ok (.iconst 1, 1) := by decide +kernel
theorem dX8_putIntoPlan_31 : decode cX8_putIntoPlan 31 = .ok (.ireturn, 1) := by decide +kernel
theorem dX8_evenOut_0 : decode cX8_evenOut 0 = .ok (.aload_n 0, 1) := by decide +kernel
theorem dX8_evenOut_1 : decode cX8_evenOut 1 = .ok (.getfield 19, 3) := by decide +kernel
theorem dX8_evenOut_4 : decode cX8_evenOut 4 = .ok (.iload_n 1, 1) := by decide +kernel
theorem dX8_evenOut_5 : decode cX8_evenOut 5 = .ok (.invokevirtual 261, 3) := by decide +kernel
theorem dX8_evenOut_8 : decode cX8_evenOut 8 = .ok (.ifCond .eq 5, 3) := by decide +kernel
theorem dX8_evenOut_11 : decode cX8_evenOut 11 = .ok (.iconst 0, 1) := by decide +kernel
theorem dX8_evenOut_12 : decode cX8_evenOut 12 = .ok (.ireturn, 1) := by decide +kernel
theorem dX8_evenOut_13 : decode cX8_evenOut 13 = .ok (.aload_n 0, 1) := by decide +kernel
theorem dX8_evenOut_14 : decode cX8_evenOut 14 = .ok (.iload_n 1, 1) := by decide +kernel
theorem dX8_evenOut_15 : decode cX8_evenOut 15 = .ok (.invokevirtual 168, 3) := by decide +kernel
theorem dX8_evenOut_18 : decode cX8_evenOut 18 = .ok (.istore_n 3, 1) := by decide +kernel
theorem dX8_evenOut_19 : decode cX8_evenOut 19 = .ok (.iload_n 3, 1) := by decide +kernel
theorem dX8_evenOut_20 : decode cX8_evenOut 20 = .ok (.bipush (-9), 2) := by decide +kernel
theorem dX8_evenOut_22 : decode cX8_evenOut 22 = .ok (.if_icmp .ne 5, 3) := by decide +kernel
theorem dX8_evenOut_25 : decode cX8_evenOut 25 = .ok (.iconst 0, 1) := by decide +kernel
theorem dX8_evenOut_26 : decode cX8_evenOut 26 = .ok (.ireturn, 1) := by decide +kernel
theorem dX8_evenOut_27 : decode cX8_evenOut 27 = .ok (.aload_n 0, 1) := by decide +kernel
theorem dX8_evenOut_28 : decode cX8_evenOut 28 = .ok (.iload_n 1, 1) := by decide +kernel
theorem dX8_evenOut_29 : decode cX8_evenOut 29 = .ok (.iload_n 3, 1) := by decide +kernel
theorem dX8_evenOut_30 : decode cX8_evenOut 30 = .ok (.invokevirtual 264, 3) := by decide +kernel
theorem dX8_evenOut_33 : decode cX8_evenOut 33 = .ok (.pop, 1) := by decide +kernel
theorem dX8_evenOut_34 : decode cX8_evenOut 34 = .ok (.iload_n 3, 1) := by decide +kernel
theorem dX8_evenOut_35 : decode cX8_evenOut 35 = .ok (.iload_n 2, 1) := by decide +kernel
theorem dX8_evenOut_36 : decode cX8_evenOut 36 = .ok (.if_icmp .eq 7, 3) := by decide +kernel
theorem dX8_evenOut_39 : decode cX8_evenOut 39 = .ok (.iconst 1, 1) := by decide +kernel
theorem dX8_evenOut_40 : decode cX8_evenOut 40 = .ok (.goto 4, 3) := by decide +kernel
theorem dX8_evenOut_43 : decode cX8_evenOut 43 = .ok (.iconst 0, 1) := by decide +kernel
theorem dX8_evenOut_44 : decode cX8_evenOut 44 = .ok (.ireturn, 1) := by decide +kernel
theorem dX8_findPlace_0 : decode cX8_findPlace 0 = .ok (.aload_n 0, 1) := by decide +kernel
theorem dX8_findPlace_1 : decode cX8_findPlace 1 = .ok (.getfield 19, 3) := by decide +kernel
theorem dX8_findPlace_4 : decode cX8_findPlace 4 = .ok (.iload_n 1, 1) := by decide +kernel
theorem dX8_findPlace_5 : decode cX8_findPlace 5 = .ok (.invokevirtual 93, 3) := by decide +kernel
theorem dX8_findPlace_8 : decode cX8_findPlace 8 = .ok (.getfield 130, 3) := by decide +kernel
theorem dX8_findPlace_11 : decode cX8_findPlace 11 = .ok (.ifCond .eq 5, 3) := by decide +kernel
theorem dX8_findPlace_14 : decode cX8_findPlace 14 = .ok (.iconst 0, 1) := by decide +kernel
theorem dX8_findPlace_15 : decode cX8_findPlace 15 = .ok (.ireturn, 1) := by decide +kernel
theorem dX8_findPlace_16 : decode cX8_findPlace 16 = .ok (.iconst 0, 1) := by decide +kernel
theorem dX8_findPlace_17 : decode cX8_findPlace 17 = .ok (.istore_n 2, 1) := by decide +kernel
theorem dX8_findPlace_18 : decode cX8_findPlace 18 = .ok (.iload_n 2, 1) := by decide +kernel
theorem dX8_findPlace_19 : decode cX8_findPlace 19 = .ok (.bipush 9, 2) := by decide +kernel
theorem dX8_findPlace_21 : decode cX8_findPlace 21 = .ok (.if_icmp .ge 46, 3) := by decide +kernel
theorem dX8_findPlace_24 : decode cX8_findPlace 24 = .ok (.aload_n 0, 1) := by decide +kernel
theorem dX8_findPlace_25 : decode cX8_findPlace 25 = .ok (.iload_n 2, 1) := by decide +kernel
theorem dX8_findPlace_26 : decode cX8_findPlace 26 = .ok (.invokevirtual 271, 3) := by decide +kernel
theorem dX8_findPlace_29 : decode cX8_findPlace 29 = .ok (.ifCond .eq 32, 3) := by decide +kernel
theorem dX8_findPlace_32 : decode cX8_findPlace 32 = .ok (.aload_n 0, 1) := by decide +kernel
theorem dX8_findPlace_33 : decode cX8_findPlace 33 = .ok (.aload_n 0, 1) := by decide +kernel
theorem dX8_findPlace_34 : decode cX8_findPlace 34 = .ok (.getfield 53, 3) := by decide +kernel
theorem dX8_findPlace_37 : decode cX8_findPlace 37 = .ok (.iload_n 2, 1) := by decide +kernel
theorem dX8_findPlace_38 : decode cX8_findPlace 38 = .ok (.invokevirtual 213, 3) := by decide +kernel
theorem dX8_findPlace_41 : decode cX8_findPlace 41 = .ok (.iconst 1, 1) := by decide +kernel
theorem dX8_findPlace_42 : decode cX8_findPlace 42 = .ok (.iload_n 1, 1) := by decide +kernel
theorem dX8_findPlace_43 : decode cX8_findPlace 43 = .ok (.ishl, 1) := by decide +kernel
theorem dX8_findPlace_44 : decode cX8_findPlace 44 = .ok (.ior, 1) := by decide +kernel
theorem dX8_findPlace_45 : decode cX8_findPlace 45 = .ok (.aload_n 0, 1) := by decide +kernel
theorem dX8_findPlace_46 : decode cX8_findPlace 46 = .ok (.getfield 53, 3) := by decide +kernel
theorem dX8_findPlace_49 : decode cX8_findPlace 49 = .ok (.iload_n 2, 1) := by decide +kernel
theorem dX8_findPlace_50 : decode cX8_findPlace 50 = .ok (.invokevirtual 216, 3) := by decide +kernel
theorem dX8_findPlace_53 : decode cX8_findPlace 53 = .ok (.invokevirtual 264, 3) := by decide +kernel
theorem dX8_findPlace_56 : decode cX8_findPlace 56 = .ok (.ifCond .eq 5, 3) := by decide +kernel
theorem dX8_findPlace_59 : decode cX8_findPlace 59 = .ok (.iconst 1, 1) := by decide +kernel
theorem dX8_findPlace_60 : decode cX8_findPlace 60 = .ok (.ireturn, 1) := by decide +kernel
theorem dX8_findPlace_61 : decode cX8_findPlace 61 = .ok (.iinc 2 1, 3) := by decide +kernel
theorem dX8_findPlace_64 : decode cX8_findPlace 64 = .ok (.goto (-46), 3) := by decide +kernel
theorem dX8_findPlace_67 : decode cX8_findPlace 67 = .ok (.aload_n 0, 1) := by decide +kernel
theorem dX8_findPlace_68 : decode cX8_findPlace 68 = .ok (.iconst 1, 1) := by decide +kernel
theorem dX8_findPlace_69 : decode cX8_findPlace 69 = .ok (.iload_n 1, 1) := by decide +kernel
theorem dX8_findPlace_70 : decode cX8_findPlace 70 = .ok (.ishl, 1) := by decide +kernel
theorem dX8_findPlace_71 : decode cX8_findPlace 71 = .ok (.iload_n 1, 1) := by decide +kernel
theorem dX8_findPlace_72 : decode cX8_findPlace 72 = .ok (.invokevirtual 264, 3) := by decide +kernel
theorem dX8_findPlace_75 : decode cX8_findPlace 75 = .ok (.ireturn, 1) := by decide +kernel
theorem dX8_isOpen_0 : decode cX8_isOpen 0 = .ok (.aload_n 0, 1) := by decide +kernel
theorem dX8_isOpen_1 : decode cX8_isOpen 1 = .ok (.getfield 53, 3) := by decide +kernel
theorem dX8_isOpen_4 : decode cX8_isOpen 4 = .ok (.iload_n 1, 1) := by decide +kernel
theorem dX8_isOpen_5 : decode cX8_isOpen 5 = .ok (.invokevirtual 213, 3) := by decide +kernel
theorem dX8_isOpen_8 : decode cX8_isOpen 8 = .ok (.istore_n 2, 1) := by decide +kernel
theorem dX8_isOpen_9 : decode cX8_isOpen 9 = .ok (.aload_n 0, 1) := by decide +kernel
theorem dX8_isOpen_10 : decode cX8_isOpen 10 = .ok (.getfield 53, 3) := by decide +kernel
theorem dX8_isOpen_13 : decode cX8_isOpen 13 = .ok (.iload_n 1, 1) := by decide +kernel
theorem dX8_isOpen_14 : decode cX8_isOpen 14 = .ok (.invokevirtual 210, 3) := by decide +kernel
theorem dX8_isOpen_17 : decode cX8_isOpen 17 = .ok (.ifCond .eq 26, 3) := by decide +kernel
theorem dX8_isOpen_20 : decode cX8_isOpen 20 = .ok (.aload_n 0, 1) := by decide +kernel
theorem dX8_isOpen_21 : decode cX8_isOpen 21 = .ok (.getfield 19, 3) := by decide +kernel
theorem dX8_isOpen_24 : decode cX8_isOpen 24 = .ok (.iload_n 2, 1) := by decide +kernel
theorem dX8_isOpen_25 : decode cX8_isOpen 25 = .ok (.invokevirtual 261, 3) := by decide +kernel
theorem dX8_isOpen_28 : decode cX8_isOpen 28 = .ok (.ifCond .ne 15, 3) := by decide +kernel
theorem dX8_isOpen_31 : decode cX8_isOpen 31 = .ok (.iload_n 2, 1) := by decide +kernel
theorem dX8_isOpen_32 : decode cX8_isOpen 32 = .ok (.invokestatic 250, 3) := by decide +kernel
theorem dX8_isOpen_35 : decode cX8_isOpen 35 = .ok (.iconst 4, 1) := by decide +kernel
theorem dX8_isOpen_36 : decode cX8_isOpen 36 = .ok (.if_icmp .ge 7, 3) := by decide +kernel
theorem dX8_isOpen_39 : decode cX8_isOpen 39 = .ok (.iconst 1, 1) := by decide +kernel
theorem dX8_isOpen_40 : decode cX8_isOpen 40 = .ok (.goto 4, 3) := by decide +kernel
theorem dX8_isOpen_43 : decode cX8_isOpen 43 = .ok (.iconst 0, 1) := by decide +kernel
theorem dX8_isOpen_44 : decode cX8_isOpen 44 = .ok (.ireturn, 1) := by decide +kernel
theorem dX9_init_0 : decode cX9_init 0 = .ok (.aload_n 0, 1) := by decide +kernel
theorem dX9_init_1 : decode cX9_init 1 = .ok (.invokespecial 1, 3) := by decide +kernel
theorem dX9_init_4 : decode cX9_init 4 = .ok (.aload_n 0, 1) := by decide +kernel
theorem dX9_init_5 : decode cX9_init 5 = .ok (.bipush 7, 2) := by decide +kernel
theorem dX9_init_7 : decode cX9_init 7 = .ok (.newarray .int, 2) := by decide +kernel
theorem dX9_init_9 : decode cX9_init 9 = .ok (.putfield 7, 3) := by decide +kernel
theorem dX9_init_12 : decode cX9_init 12 = .ok (.aload_n 0, 1) := by decide +kernel
theorem dX9_init_13 : decode cX9_init 13 = .ok (.bipush 100, 2) := by decide +kernel
theorem dX9_init_15 : decode cX9_init 15 = .ok (.newarray .int, 2) := by decide +kernel
theorem dX9_init_17 : decode cX9_init 17 = .ok (.putfield 13, 3) := by decide +kernel
theorem dX9_init_20 : decode cX9_init 20 = .ok (.aload_n 0, 1) := by decide +kernel
theorem dX9_init_21 : decode cX9_init 21 = .ok (.bipush 100, 2) := by decide +kernel
theorem dX9_init_23 : decode cX9_init 23 = .ok (.newarray .int, 2) := by decide +kernel
theorem dX9_init_25 : decode cX9_init 25 = .ok (.putfield 16, 3) := by decide +kernel
theorem dX9_init_28 : decode cX9_init 28 = .ok (.aload_n 0, 1) := by decide +kernel
theorem dX9_init_29 : decode cX9_init 29 = .ok (.bipush 9, 2) := by decide +kernel
theorem dX9_init_31 : decode cX9_init 31 = .ok (.newarray .int, 2) := by decide +kernel
theorem dX9_init_33 : decode cX9_init 33 = .ok (.putfield 19, 3) := by decide +kernel
theorem dX9_init_36 : decode cX9_init 36 = .ok (.aload_n 0, 1) := by decide +kernel
theorem dX9_init_37 : decode cX9_init 37 = .ok (.bipush 9, 2) := by decide +kernel
theorem dX9_init_39 : decode cX9_init 39 = .ok (.newarray .int, 2) := by decide +kernel
theorem dX9_init_41 : decode cX9_init 41 = .ok (.putfield 22, 3) := by decide +kernel
theorem dX9_init_44 : decode cX9_init 44 = .ok (.aload_n 0, 1) := by decide +kernel
theorem dX9_init_45 : decode cX9_init 45 = .ok (.bipush 9, 2) := by decide +kernel
theorem dX9_init_47 : decode cX9_init 47 = .ok (.newarray .int, 2) := by decide +kernel
theorem dX9_init_49 : decode cX9_init 49 = .ok (.putfield 25, 3) := by decide +kernel
theorem dX9_init_52 : decode cX9_init 52 = .ok (.aload_n 0, 1) := by decide +kernel
theorem dX9_init_53 : decode cX9_init 53 = .ok (.bipush 9, 2) := by decide +kernel
theorem dX9_init_55 : decode cX9_init 55 = .ok (.newarray .int, 2) := by decide +kernel
theorem dX9_init_57 : decode cX9_init 57 = .ok (.putfield 28, 3) := by decide +kernel
theorem dX9_init_60 : decode cX9_init 60 = .ok (.aload_n 0, 1) := by decide +kernel
theorem dX9_init_61 : decode cX9_init 61 = .ok (.bipush 9, 2) := by decide +kernel
theorem dX9_init_63 : decode cX9_init 63 = .ok (.newarray .int, 2) := by decide +kernel
theorem dX9_init_65 : decode cX9_init 65 = .ok (.putfield 31, 3) := by decide +kernel
theorem dX9_init_68 : decode cX9_init 68 = .ok (.aload_n 0, 1) := by decide +kernel
theorem dX9_init_69 : decode cX9_init 69 = .ok (.bipush 9, 2) := by decide +kernel
theorem dX9_init_71 : decode cX9_init 71 = .ok (.newarray .int, 2) := by decide +kernel
theorem dX9_init_73 : decode cX9_init 73 = .ok (.putfield 34, 3) := by decide +kernel
theorem dX9_init_76 : decode cX9_init 76 = .ok (.aload_n 0, 1) := by decide +kernel
theorem dX9_init_77 : decode cX9_init 77 = .ok (.bipush 9, 2) := by decide +kernel
theorem dX9_init_79 : decode cX9_init 79 = .ok (.newarray .int, 2) := by decide +kernel
theorem dX9_init_81 : decode cX9_init 81 = .ok (.putfield 37, 3) := by decide +kernel
theorem dX9_init_84 : decode cX9_init 84 = .ok (.aload_n 0, 1) := by decide +kernel
theorem dX9_init_85 : decode cX9_init 85 = .ok (.bipush 9, 2) := by decide +kernel
theorem dX9_init_87 : decode cX9_init 87 = .ok (.newarray .int, 2) := by decide +kernel
theorem dX9_init_89 : decode cX9_init 89 = .ok (.putfield 40, 3) := by decide +kernel
theorem dX9_init_92 : decode cX9_init 92 = .ok (.aload_n 0, 1) := by decide +kernel
theorem dX9_init_93 : decode cX9_init 93 = .ok (.bipush 9, 2) := by decide +kernel
theorem dX9_init_95 : decode cX9_init 95 = .ok (.newarray .int, 2) := by decide +kernel
theorem dX9_init_97 : decode cX9_init 97 = .ok (.putfield 43, 3) := by decide +kernel
theorem dX9_init_100 : decode cX9_init 100 = .ok (.aload_n 0, 1) := by decide +kernel
theorem dX9_init_101 : decode cX9_init 101 = .ok (.bipush 9, 2) := by decide +kernel
theorem dX9_init_103 : decode cX9_init 103 = .ok (.newarray .boolean, 2) := by decide +kernel
theorem dX9_init_105 : decode cX9_init 105 = .ok (.putfield 46, 3) := by decide +kernel
theorem dX9_init_108 : decode cX9_init 108 = .ok (.aload_n 0, 1) := by decide +kernel
theorem dX9_init_109 : decode cX9_init 109 = .ok (.bipush 9, 2) := by decide +kernel
theorem dX9_init_111 : decode cX9_init 111 = .ok (.newarray .boolean, 2) := by decide +kernel
theorem dX9_init_113 : decode cX9_init 113 = .ok (.putfield 50, 3) := by decide +kernel
theorem dX9_init_116 : decode cX9_init 116 = .ok (.aload_n 0, 1) := by decide +kernel
theorem dX9_init_117 : decode cX9_init 117 = .ok (.iconst 5, 1) := by decide +kernel
theorem dX9_init_118 : decode cX9_init 118 = .ok (.newarray .int, 2) := by decide +kernel
theorem dX9_init_120 : decode cX9_init 120 = .ok (.putfield 53, 3) := by decide +kernel
theorem dX9_init_123 : decode cX9_init 123 = .ok (.aload_n 0, 1) := by decide +kernel
theorem dX9_init_124 : decode cX9_init 124 = .ok (.iconst 5, 1) := by decide +kernel
theorem dX9_init_125 : decode cX9_init 125 = .ok (.newarray .int, 2) := by decide +kernel
theorem dX9_init_127 : decode cX9_init 127 = .ok (.putfield 56, 3) := by decide +kernel
theorem dX9_init_130 : decode cX9_init 130 = .ok (.aload_n 0, 1) := by decide +kernel
theorem dX9_init_131 : decode cX9_init 131 = .ok (.bipush 9, 2) := by decide +kernel
theorem dX9_init_133 : decode cX9_init 133 = .ok (.newarray .int, 2) := by decide +kernel
theorem dX9_init_135 : decode cX9_init 135 = .ok (.putfield 59, 3) := by decide +kernel
theorem dX9_init_138 : decode cX9_init 138 = .ok (.aload_n 0, 1) := by decide +kernel
theorem dX9_init_139 : decode cX9_init 139 = .ok (.bipush 9, 2) := by decide +kernel
theorem dX9_init_141 : decode cX9_init 141 = .ok (.newarray .int, 2) := by decide +kernel
theorem dX9_init_143 : decode cX9_init 143 = .ok (.putfield 62, 3) := by decide +kernel
theorem dX9_init_146 : decode cX9_init 146 = .ok (.aload_n 0, 1) := by decide +kernel
theorem dX9_init_147 : decode cX9_init 147 = .ok (.iconst 5, 1) := by decide +kernel
theorem dX9_init_148 : decode cX9_init 148 = .ok (.newarray .int, 2) := by decide +kernel
theorem dX9_init_150 : decode cX9_init 150 = .ok (.putfield 65, 3) := by decide +kernel
theorem dX9_init_153 : decode cX9_init 153 = .ok (.aload_n 0, 1) := by decide +kernel
theorem dX9_init_154 : decode cX9_init 154 = .ok (.iconst 5, 1) := by decide +kernel
theorem dX9_init_155 : decode cX9_init 155 = .ok (.newarray .int, 2) := by decide +kernel
theorem dX9_init_157 : decode cX9_init 157 = .ok (.putfield 68, 3) := by decide +kernel
theorem dX9_init_160 : decode cX9_init 160 = .ok (.aload_n 0, 1) := by decide +kernel
theorem dX9_init_161 : decode cX9_init 161 = .ok (.bipush 9, 2) := by decide +kernel
theorem dX9_init_163 : decode cX9_init 163 = .ok (.newarray .int, 2) := by decide +kernel
theorem dX9_init_165 : decode cX9_init 165 = .ok (.putfield 71, 3) := by decide +kernel
theorem dX9_init_168 : decode cX9_init 168 = .ok (.aload_n 0, 1) := by decide +kernel
theorem dX9_init_169 : decode cX9_init 169 = .ok (.bipush 9, 2) := by decide +kernel
theorem dX9_init_171 : decode cX9_init 171 = .ok (.newarray .int, 2) := by decide +kernel
theorem dX9_init_173 : decode cX9_init 173 = .ok (.putfield 74, 3) := by decide +kernel
theorem dX9_init_176 : decode cX9_init 176 = .ok (.aload_n 0, 1) := by decide +kernel
theorem dX9_init_177 : decode cX9_init 177 = .ok (.sipush 512, 3) := by decide +kernel
theorem dX9_init_180 : decode cX9_init 180 = .ok (.newarray .int, 2) := by decide +kernel
theorem dX9_init_182 : decode cX9_init 182 = .ok (.putfield 77, 3) := by decide +kernel
theorem dX9_init_185 : decode cX9_init 185 = .ok (.aload_n 0, 1) := by decide +kernel
theorem dX9_init_186 : decode cX9_init 186 = .ok (.sipush 512, 3) := by decide +kernel
theorem dX9_init_189 : decode cX9_init 189 = .ok (.newarray .int, 2) := by decide +kernel
theorem dX9_init_191 : decode cX9_init 191 = .ok (.putfield 80, 3) := by decide +kernel
theorem dX9_init_194 : decode cX9_init 194 = .ok (.aload_n 0, 1) := by decide +kernel
theorem dX9_init_195 : decode cX9_init 195 = .ok (.sipush 512, 3) := by decide +kernel
theorem dX9_init_198 : decode cX9_init 198 = .ok (.newarray .int, 2) := by decide +kernel
theorem dX9_init_200 : decode cX9_init 200 = .ok (.putfield 83, 3) := by decide +kernel
theorem dX9_init_203 : decode cX9_init 203 = .ok (.aload_n 0, 1) := by decide +kernel
theorem dX9_init_204 : decode cX9_init 204 = .ok (.sipush 512, 3) := by decide +kernel
theorem dX9_init_207 : decode cX9_init 207 = .ok (.newarray .int, 2) := by decide +kernel
theorem dX9_init_209 : decode cX9_init 209 = .ok (.putfield 86, 3) := by decide +kernel
theorem dX9_init_212 : decode cX9_init 212 = .ok (.aload_n 0, 1) := by decide +kernel
theorem dX9_init_213 : decode cX9_init 213 = .ok (.sipush 512, 3) := by decide +kernel
theorem dX9_init_216 : decode cX9_init 216 = .ok (.newarray .int, 2) := by decide +kernel
theorem dX9_init_218 : decode cX9_init 218 = .ok (.putfield 89, 3) := by decide +kernel
theorem dX9_init_221 : decode cX9_init 221 = .ok (.aload_n 0, 1) := by decide +kernel
theorem dX9_init_222 : decode cX9_init 222 = .ok (.sipush 512, 3) := by decide +kernel
theorem dX9_init_225 : decode cX9_init 225 = .ok (.newarray .int, 2) := by decide +kernel
theorem dX9_init_227 : decode cX9_init 227 = .ok (.putfield 92, 3) := by decide +kernel
theorem dX9_init_230 : decode cX9_init 230 = .ok (.aload_n 0, 1) := by decide +kernel
theorem dX9_init_231 : decode cX9_init 231 = .ok (.sipush 512, 3) := by decide +kernel
theorem dX9_init_234 : decode cX9_init 234 = .ok (.newarray .int, 2) := by decide +kernel
theorem dX9_init_236 : decode cX9_init 236 = .ok (.putfield 95, 3) := by decide +kernel
theorem dX9_init_239 : decode cX9_init 239 = .ok (.aload_n 0, 1) := by decide +kernel
theorem dX9_init_240 : decode cX9_init 240 = .ok (.sipush 512, 3) := by decide +kernel
theorem dX9_init_243 : decode cX9_init 243 = .ok (.newarray .int, 2) := by decide +kernel
theorem dX9_init_245 : decode cX9_init 245 = .ok (.putfield 98, 3) := by decide +kernel
theorem dX9_init_248 : decode cX9_init 248 = .ok (.aload_n 0, 1) := by decide +kernel
theorem dX9_init_249 : decode cX9_init 249 = .ok (.bipush 9, 2) := by decide +kernel
theorem dX9_init_251 : decode cX9_init 251 = .ok (.newarray .int, 2) := by decide +kernel
theorem dX9_init_253 : decode cX9_init 253 = .ok (.putfield 101, 3) := by decide +kernel
theorem dX9_init_256 : decode cX9_init 256 = .ok (.aload_n 0, 1) := by decide +kernel
theorem dX9_init_257 : decode cX9_init 257 = .ok (.bipush 9, 2) := by decide +kernel
theorem dX9_init_259 : decode cX9_init 259 = .ok (.newarray .int, 2) := by decide +kernel
theorem dX9_init_261 : decode cX9_init 261 = .ok (.putfield 104, 3) := by decide +kernel
theorem dX9_init_264 : decode cX9_init 264 = .ok (.aload_n 0, 1) := by decide +kernel
theorem dX9_init_265 : decode cX9_init 265 = .ok (.bipush 9, 2) := by decide +kernel
theorem dX9_init_267 : decode cX9_init 267 = .ok (.newarray .int, 2) := by decide +kernel
theorem dX9_init_269 : decode cX9_init 269 = .ok (.putfield 107, 3) := by decide +kernel
theorem dX9_init_272 : decode cX9_init 272 = .ok (.aload_n 0, 1) := by decide +kernel
theorem dX9_init_273 : decode cX9_init 273 = .ok (.bipush 9, 2) := by decide +kernel
theorem dX9_init_275 : decode cX9_init 275 = .ok (.newarray .int, 2) := by decide +kernel
theorem dX9_init_277 : decode cX9_init 277 = .ok (.putfield 110, 3) := by decide +kernel
theorem dX9_init_280 : decode cX9_init 280 = .ok (.aload_n 0, 1) := by decide +kernel
theorem dX9_init_281 : decode cX9_init 281 = .ok (.bipush 9, 2) := by decide +kernel
theorem dX9_init_283 : decode cX9_init 283 = .ok (.newarray .int, 2) := by decide +kernel
theorem dX9_init_285 : decode cX9_init 285 = .ok (.putfield 113, 3) := by decide +kernel
theorem dX9_init_288 : decode cX9_init 288 = .ok (.iconst 0, 1) := by decide +kernel
theorem dX9_init_289 : decode cX9_init 289 = .ok (.istore_n 1, 1) := by decide +kernel
theorem dX9_init_290 : decode cX9_init 290 = .ok (.iload_n 1, 1) := by decide +kernel
theorem dX9_init_291 : decode cX9_init 291 = .ok (.bipush 10, 2) := by decide +kernel
theorem dX9_init_293 : decode cX9_init 293 = .ok (.if_icmp .ge 46, 3) := by decide +kernel
theorem dX9_init_296 : decode cX9_init 296 = .ok (.iconst 0, 1) := by decide +kernel
theorem dX9_init_297 : decode cX9_init 297 = .ok (.istore_n 2, 1) := by decide +kernel
theorem dX9_init_298 : decode cX9_init 298 = .ok (.iload_n 2, 1) := by decide +kernel
theorem dX9_init_299 : decode cX9_init 299 = .ok (.bipush 10, 2) := by decide +kernel
theorem dX9_init_301 : decode cX9_init 301 = .ok (.if_icmp .ge 32, 3) := by decide +kernel
theorem dX9_init_304 : decode cX9_init 304 = .ok (.aload_n 0, 1) := by decide +kernel
theorem dX9_init_305 : decode cX9_init 305 = .ok (.getfield 13, 3) := by decide +kernel
theorem dX9_init_308 : decode cX9_init 308 = .ok (.bipush 10, 2) := by decide +kernel
theorem dX9_init_310 : decode cX9_init 310 = .ok (.iload_n 1, 1) := by decide +kernel
theorem dX9_init_311 : decode cX9_init 311 = .ok (.imul, 1) := by decide +kernel
theorem dX9_init_312 : decode cX9_init 312 = .ok (.iload_n 2, 1) := by decide +kernel
theorem dX9_init_313 : decode cX9_init 313 = .ok (.iadd, 1) := by decide +kernel
theorem dX9_init_314 : decode cX9_init 314 = .ok (.iload_n 1, 1) := by decide +kernel
theorem dX9_init_315 : decode cX9_init 315 = .ok (.iload_n 2, 1) := by decide +kernel
theorem dX9_init_316 : decode cX9_init 316 = .ok (.if_icmp .ne 7, 3) := by decide +kernel
theorem dX9_init_319 : decode cX9_init 319 = .ok (.iconst 0, 1) := by decide +kernel
theorem dX9_init_320 : decode cX9_init 320 = .ok (.goto 6, 3) := by decide +kernel
theorem dX9_init_323 : decode cX9_init 323 = .ok (.sipush 300, 3) := by decide +kernel
theorem dX9_init_326 : decode cX9_init 326 = .ok (.iastore, 1) := by decide +kernel
theorem dX9_init_327 : decode cX9_init 327 = .ok (.iinc 2 1, 3) := by decide +kernel
theorem dX9_init_330 : decode cX9_init 330 = .ok (.goto (-32), 3) := by decide +kernel
theorem dX9_init_333 : decode cX9_init 333 = .ok (.iinc 1 1, 3) := by decide +kernel
theorem dX9_init_336 : decode cX9_init 336 = .ok (.goto (-46), 3) := by decide +kernel
theorem dX9_init_339 : decode cX9_init 339 = .ok (.aload_n 0, 1) := by decide +kernel
theorem dX9_init_340 : decode cX9_init 340 = .ok (.invokevirtual 116, 3) := by decide +kernel
theorem dX9_init_343 : decode cX9_init 343 = .ok (.return_, 1) := by decide +kernel
theorem dX9_refuse_0 : decode cX9_refuse 0 = .ok (.aload_n 0, 1) := by decide +kernel
theorem dX9_refuse_1 : decode cX9_refuse 1 = .ok (.getfield 7, 3) := by decide +kernel
theorem dX9_refuse_4 : decode cX9_refuse 4 = .ok (.iload_n 1, 1) := by decide +kernel
theorem dX9_refuse_5 : decode cX9_refuse 5 = .ok (.ineg, 1) := by decide +kernel
theorem dX9_refuse_6 : decode cX9_refuse 6 = .ok (.dup2, 1) := by decide +kernel
theorem dX9_refuse_7 : decode cX9_refuse 7 = .ok (.iaload, 1) := by decide +kernel
theorem dX9_refuse_8 : decode cX9_refuse 8 = .ok (.iconst 1, 1) := by decide +kernel
theorem dX9_refuse_9 : decode cX9_refuse 9 = .ok (.iadd, 1) := by decide +kernel
theorem dX9_refuse_10 : decode cX9_refuse 10 = .ok (.iastore, 1) := by decide +kernel
theorem dX9_refuse_11 : decode cX9_refuse 11 = .ok (.iload_n 1, 1) := by decide +kernel
theorem dX9_refuse_12 : decode cX9_refuse 12 = .ok (.ireturn, 1) := by decide +kernel
theorem dX9_isIn_0 : decode cX9_isIn 0 = .ok (.iload_n 0, 1) := by decide +kernel
theorem dX9_isIn_1 : decode cX9_isIn 1 = .ok (.ifCond .lt 12, 3) := by decide +kernel
theorem dX9_isIn_4 : decode cX9_isIn 4 = .ok (.iload_n 0, 1) := by decide +kernel
theorem dX9_isIn_5 : decode cX9_isIn 5 = .ok (.iload_n 1, 1) := by decide +kernel
theorem dX9_isIn_6 : decode cX9_isIn 6 = .ok (.if_icmp .ge 7, 3) := by decide +kernel
theorem dX9_isIn_9 : decode cX9_isIn 9 = .ok (.iconst 1, 1) := by decide +kernel
theorem dX9_isIn_10 : decode cX9_isIn 10 = .ok (.goto 4, 3) := by decide +kernel
theorem dX9_isIn_13 : decode cX9_isIn 13 = .ok (.iconst 0, 1) := by decide +kernel
theorem dX9_isIn_14 : decode cX9_isIn 14 = .ok (.ireturn, 1) := by decide +kernel
theorem dX9_changes_0 : decode cX9_changes 0 = .ok (.aload_n 0, 1) := by decide +kernel
theorem dX9_changes_1 : decode cX9_changes 1 = .ok (.iconst 0, 1) := by decide +kernel
theorem dX9_changes_2 : decode cX9_changes 2 = .ok (.putfield 119, 3) := by decide +kernel
theorem dX9_changes_5 : decode cX9_changes 5 = .ok (.return_, 1) := by decide +kernel
theorem dX9_measure_0 : decode cX9_measure 0 = .ok (.iconst 0, 1) := by decide +kernel
theorem dX9_measure_1 : decode cX9_measure 1 = .ok (.istore_n 1, 1) := by decide +kernel
theorem dX9_measure_2 : decode cX9_measure 2 = .ok (.iload_n 1, 1) := by decide +kernel
theorem dX9_measure_3 : decode cX9_measure 3 = .ok (.bipush 100, 2) := by decide +kernel
theorem dX9_measure_5 : decode cX9_measure 5 = .ok (.if_icmp .ge 21, 3) := by decide +kernel
theorem dX9_measure_8 : decode cX9_measure 8 = .ok (.aload_n 0, 1) := by decide +kernel
theorem dX9_measure_9 : decode cX9_measure 9 = .ok (.getfield 16, 3) := by decide +kernel
theorem dX9_measure_12 : decode cX9_measure 12 = .ok (.iload_n 1, 1) := by decide +kernel
theorem dX9_measure_13 : decode cX9_measure 13 = .ok (.aload_n 0, 1) := by decide +kernel
theorem dX9_measure_14 : decode cX9_measure 14 = .ok (.getfield 13, 3) := by decide +kernel
theorem dX9_measure_17 : decode cX9_measure 17 = .ok (.iload_n 1, 1) := by decide +kernel
theorem dX9_measure_18 : decode cX9_measure 18 = .ok (.iaload, 1) := by decide +kernel
theorem dX9_measure_19 : decode cX9_measure 19 = .ok (.iastore, 1) := by decide +kernel
theorem dX9_measure_20 : decode cX9_measure 20 = .ok (.iinc 1 1, 3) := by decide +kernel
theorem dX9_measure_23 : decode cX9_measure 23 = .ok (.goto (-21), 3) := by decide +kernel
theorem dX9_measure_26 : decode cX9_measure 26 = .ok (.iconst 0, 1) := by decide +kernel
theorem dX9_measure_27 : decode cX9_measure 27 = .ok (.istore_n 1, 1) := by decide +kernel
theorem dX9_measure_28 : decode cX9_measure 28 = .ok (.iload_n 1, 1) := by decide +kernel
theorem dX9_measure_29 : decode cX9_measure 29 = .ok (.bipush 10, 2) := by decide +kernel
theorem dX9_measure_31 : decode cX9_measure 31 = .ok (.if_icmp .ge 85, 3) := by decide +kernel
theorem dX9_measure_34 : decode cX9_measure 34 = .ok (.iconst 0, 1) := by decide +kernel
theorem dX9_measure_35 : decode cX9_measure 35 = .ok (.istore_n 2, 1) := by decide +kernel
theorem dX9_measure_36 : decode cX9_measure 36 = .ok (.iload_n 2, 1) := by decide +kernel
theorem dX9_measure_37 : decode cX9_measure 37 = .ok (.bipush 10, 2) := by decide +kernel
theorem dX9_measure_39 : decode cX9_measure 39 = .ok (.if_icmp .ge 71, 3) := by decide +kernel
theorem dX9_measure_42 : decode cX9_measure 42 = .ok (.iconst 0, 1) := by decide +kernel
theorem dX9_measure_43 : decode cX9_measure 43 = .ok (.istore_n 3, 1) := by decide +kernel
theorem dX9_measure_44 : decode cX9_measure 44 = .ok (.iload_n 3, 1) := by decide +kernel
theorem dX9_measure_45 : decode cX9_measure 45 = .ok (.bipush 10, 2) := by decide +kernel
theorem dX9_measure_47 : decode cX9_measure 47 = .ok (.if_icmp .ge 57, 3) := by decide +kernel
theorem dX9_measure_50 : decode cX9_measure 50 = .ok (.aload_n 0, 1) := by decide +kernel
theorem dX9_measure_51 : decode cX9_measure 51 = .ok (.getfield 16, 3) := by decide +kernel
theorem dX9_measure_54 : decode cX9_measure 54 = .ok (.bipush 10, 2) := by decide +kernel
theorem dX9_measure_56 : decode cX9_measure 56 = .ok (.iload_n 2, 1) := by decide +kernel
theorem dX9_measure_57 : decode cX9_measure 57 = .ok (.imul, 1) := by decide +kernel
theorem dX9_measure_58 : decode cX9_measure 58 = .ok (.iload_n 3, 1) := by decide +kernel
theorem dX9_measure_59 : decode cX9_measure 59 = .ok (.iadd, 1) := by decide +kernel
theorem dX9_measure_60 : decode cX9_measure 60 = .ok (.aload_n 0, 1) := by decide +kernel
theorem dX9_measure_61 : decode cX9_measure 61 = .ok (.getfield 16, 3) := by decide +kernel
theorem dX9_measure_64 : decode cX9_measure 64 = .ok (.bipush 10, 2) := by decide +kernel
theorem dX9_measure_66 : decode cX9_measure 66 = .ok (.iload_n 2, 1) := by decide +kernel
theorem dX9_measure_67 : decode cX9_measure 67 = .ok (.imul, 1) := by decide +kernel
theorem dX9_measure_68 : decode cX9_measure 68 = .ok (.iload_n 3, 1) := by decide +kernel
theorem dX9_measure_69 : decode cX9_measure 69 = .ok (.iadd, 1) := by decide +kernel
theorem dX9_measure_70 : decode cX9_measure 70 = .ok (.iaload, 1) := by decide +kernel
theorem dX9_measure_71 : decode cX9_measure 71 = .ok (.aload_n 0, 1) := by decide +kernel
theorem dX9_measure_72 : decode cX9_measure 72 = .ok (.getfield 16, 3) := by decide +kernel
theorem dX9_measure_75 : decode cX9_measure 75 = .ok (.bipush 10, 2) := by decide +kernel
theorem dX9_measure_77 : decode cX9_measure 77 = .ok (.iload_n 2, 1) := by decide +kernel
theorem dX9_measure_78 : decode cX9_measure 78 = .ok (.imul, 1) := by decide +kernel
theorem dX9_measure_79 : decode cX9_measure 79 = .ok (.iload_n 1, 1) := by decide +kernel
theorem dX9_measure_80 : decode cX9_measure 80 = .ok (.iadd, 1) := by decide +kernel
theorem dX9_measure_81 : decode cX9_measure 81 = .ok (.iaload, 1) := by decide +kernel
theorem dX9_measure_82 : decode cX9_measure 82 = .ok (.aload_n 0, 1) := by decide +kernel
theorem dX9_measure_83 : decode cX9_measure 83 = .ok (.getfield 16, 3) := by decide +kernel
theorem dX9_measure_86 : decode cX9_measure 86 = .ok (.bipush 10, 2) := by decide +kernel
theorem dX9_measure_88 : decode cX9_measure 88 = .ok (.iload_n 1, 1) := by decide +kernel
theorem dX9_measure_89 : decode cX9_measure 89 = .ok (.imul, 1) := by decide +kernel
theorem dX9_measure_90 : decode cX9_measure 90 = .ok (.iload_n 3, 1) := by decide +kernel
theorem dX9_measure_91 : decode cX9_measure 91 = .ok (.iadd, 1) := by decide +kernel
theorem dX9_measure_92 : decode cX9_measure 92 = .ok (.iaload, 1) := by decide +kernel
theorem dX9_measure_93 : decode cX9_measure 93 = .ok (.iadd, 1) := by decide +kernel
theorem dX9_measure_94 : decode cX9_measure 94 = .ok (.invokestatic 123, 3) := by decide +kernel
theorem dX9_measure_97 : decode cX9_measure 97 = .ok (.iastore, 1) := by decide +kernel
theorem dX9_measure_98 : decode cX9_measure 98 = .ok (.iinc 3 1, 3) := by decide +kernel
theorem dX9_measure_101 : decode cX9_measure 101 = .ok (.goto (-57), 3) := by decide +kernel
theorem dX9_measure_104 : decode cX9_measure 104 = .ok (.iinc 2 1, 3) := by decide +kernel
theorem dX9_measure_107 : decode cX9_measure 107 = .ok (.goto (-71), 3) := by decide +kernel
theorem dX9_measure_110 : decode cX9_measure 110 = .ok (.iinc 1 1, 3) := by decide +kernel
theorem dX9_measure_113 : decode cX9_measure 113 = .ok (.goto (-85), 3) := by decide +kernel
theorem dX9_measure_116 : decode cX9_measure 116 = .ok (.aload_n 0, 1) := by decide +kernel
theorem dX9_measure_117 : decode cX9_measure 117 = .ok (.invokevirtual 129, 3) := by decide +kernel
theorem dX9_measure_120 : decode cX9_measure 120 = .ok (.return_, 1) := by decide +kernel
theorem dX9_leastOf_0 : decode cX9_leastOf 0 = .ok (.aload_n 0, 1) := by decide +kernel
theorem dX9_leastOf_1 : decode cX9_leastOf 1 = .ok (.getfield 16, 3) := by decide +kernel
theorem dX9_leastOf_4 : decode cX9_leastOf 4 = .ok (.bipush 10, 2) := by decide +kernel
theorem dX9_leastOf_6 : decode cX9_leastOf 6 = .ok (.iload_n 1, 1) := by decide +kernel
theorem dX9_leastOf_7 : decode cX9_leastOf 7 = .ok (.imul, 1) := by decide +kernel
theorem dX9_leastOf_8 : decode cX9_leastOf 8 = .ok (.iload_n 2, 1) := by decide +kernel
theorem dX9_leastOf_9 : decode cX9_leastOf 9 = .ok (.iadd, 1) := by decide +kernel
theorem dX9_leastOf_10 : decode cX9_leastOf 10 = .ok (.iaload, 1) := by decide +kernel
theorem dX9_leastOf_11 : decode cX9_leastOf 11 = .ok (.ireturn, 1) := by decide +kernel
theorem dX9_minutes_0 : decode cX9_minutes 0 = .ok (.iload_n 1, 1) := by decide +kernel
theorem dX9_minutes_1 : decode cX9_minutes 1 = .ok (.bipush 10, 2) := by decide +kernel
theorem dX9_minutes_3 : decode cX9_minutes 3 = .ok (.invokestatic 132, 3) := by decide +kernel
theorem dX9_minutes_6 : decode cX9_minutes 6 = .ok (.ifCond .eq 17, 3) := by decide +kernel
theorem dX9_minutes_9 : decode cX9_minutes 9 = .ok (.iload_n 2, 1) := by decide +kernel
theorem dX9_minutes_10 : decode cX9_minutes 10 = .ok (.bipush 10, 2) := by decide +kernel
theorem dX9_minutes_12 : decode cX9_minutes 12 = .ok (.invokestatic 132, 3) := by decide +kernel
theorem dX9_minutes_15 : decode cX9_minutes 15 = .ok (.ifCond .eq 8, 3) := by decide +kernel
theorem dX9_minutes_18 : decode cX9_minutes 18 = .ok (.iload_n 1, 1) := by decide +kernel
theorem dX9_minutes_19 : decode cX9_minutes 19 = .ok (.iload_n 2, 1) := by decide +kernel
theorem dX9_minutes_20 : decode cX9_minutes 20 = .ok (.if_icmp .ne 9, 3) := by decide +kernel
theorem dX9_minutes_23 : decode cX9_minutes 23 = .ok (.aload_n 0, 1) := by decide +kernel
theorem dX9_minutes_24 : decode cX9_minutes 24 = .ok (.iconst (-1), 1) := by decide +kernel
theorem dX9_minutes_25 : decode cX9_minutes 25 = .ok (.invokevirtual 136, 3) := by decide +kernel
theorem dX9_minutes_28 : decode cX9_minutes 28 = .ok (.ireturn, 1) := by decide +kernel
theorem dX9_minutes_29 : decode cX9_minutes 29 = .ok (.iload_n 3, 1) := by decide +kernel
theorem dX9_minutes_30 : decode cX9_minutes 30 = .ok (.ifCond .ge 10, 3) := by decide +kernel
theorem dX9_minutes_33 : decode cX9_minutes 33 = .ok (.aload_n 0, 1) := by decide +kernel
theorem dX9_minutes_34 : decode cX9_minutes 34 = .ok (.bipush (-4), 2) := by decide +kernel
theorem dX9_minutes_36 : decode cX9_minutes 36 = .ok (.invokevirtual 136, 3) := by decide +kernel
theorem dX9_minutes_39 : decode cX9_minutes 39 = .ok (.ireturn, 1) := by decide +kernel
theorem dX9_minutes_40 : decode cX9_minutes 40 = .ok (.iload_n 3, 1) := by decide +kernel
theorem dX9_minutes_41 : decode cX9_minutes 41 = .ok (.sipush 300, 3) := by decide +kernel
theorem dX9_minutes_44 : decode cX9_minutes 44 = .ok (.if_icmp .le 10, 3) := by decide +kernel
theorem dX9_minutes_47 : decode cX9_minutes 47 = .ok (.aload_n 0, 1) := by decide +kernel
theorem dX9_minutes_48 : decode cX9_minutes 48 = .ok (.bipush (-6), 2) := by decide +kernel
theorem dX9_minutes_50 : decode cX9_minutes 50 = .ok (.invokevirtual 136, 3) := by decide +kernel
theorem dX9_minutes_53 : decode cX9_minutes 53 = .ok (.ireturn, 1) := by decide +kernel
theorem dX9_minutes_54 : decode cX9_minutes 54 = .ok (.aload_n 0, 1) := by decide +kernel
theorem dX9_minutes_55 : decode cX9_minutes 55 = .ok (.getfield 13, 3) := by decide +kernel
theorem dX9_minutes_58 : decode cX9_minutes 58 = .ok (.bipush 10, 2) := by decide +kernel
theorem dX9_minutes_60 : decode cX9_minutes 60 = .ok (.iload_n 1, 1) := by decide +kernel
theorem dX9_minutes_61 : decode cX9_minutes 61 = .ok (.imul, 1) := by decide +kernel
theorem dX9_minutes_62 : decode cX9_minutes 62 = .ok (.iload_n 2, 1) := by decide +kernel
theorem dX9_minutes_63 : decode cX9_minutes 63 = .ok (.iadd, 1) := by decide +kernel
theorem dX9_minutes_64 : decode cX9_minutes 64 = .ok (.iaload, 1) := by decide +kernel
theorem dX9_minutes_65 : decode cX9_minutes 65 = .ok (.istore 4, 2) := by decide +kernel
theorem dX9_minutes_67 : decode cX9_minutes 67 = .ok (.aload_n 0, 1) := by decide +kernel
theorem dX9_minutes_68 : decode cX9_minutes 68 = .ok (.getfield 13, 3) := by decide +kernel
theorem dX9_minutes_71 : decode cX9_minutes 71 = .ok (.bipush 10, 2) := by decide +kernel
theorem dX9_minutes_73 : decode cX9_minutes 73 = .ok (.iload_n 1, 1) := by decide +kernel
theorem dX9_minutes_74 : decode cX9_minutes 74 = .ok (.imul, 1) := by decide +kernel
theorem dX9_minutes_75 : decode cX9_minutes 75 = .ok (.iload_n 2, 1) := by decide +kernel
theorem dX9_minutes_76 : decode cX9_minutes 76 = .ok (.iadd, 1) := by decide +kernel
theorem dX9_minutes_77 : decode cX9_minutes 77 = .ok (.iload_n 3, 1) := by decide +kernel
theorem dX9_minutes_78 : decode cX9_minutes 78 = .ok (.iastore, 1) := by decide +kernel
theorem dX9_minutes_79 : decode cX9_minutes 79 = .ok (.aload_n 0, 1) := by decide +kernel
theorem dX9_minutes_80 : decode cX9_minutes 80 = .ok (.invokevirtual 116, 3) := by decide +kernel
theorem dX9_minutes_83 : decode cX9_minutes 83 = .ok (.iload 4, 2) := by decide +kernel
theorem dX9_minutes_85 : decode cX9_minutes 85 = .ok (.ireturn, 1) := by decide +kernel
theorem dX9_least_0 : decode cX9_least 0 = .ok (.iload_n 1, 1) := by decide +kernel
theorem dX9_least_1 : decode cX9_least 1 = .ok (.bipush 10, 2) := by decide +kernel
theorem dX9_least_3 : decode cX9_least 3 = .ok (.invokestatic 132, 3) := by decide +kernel
theorem dX9_least_6 : decode cX9_least 6 = .ok (.ifCond .eq 21, 3) := by decide +kernel
theorem dX9_least_9 : decode cX9_least 9 = .ok (.iload_n 2, 1) := by decide +kernel
theorem dX9_least_10 : decode cX9_least 10 = .ok (.bipush 10, 2) := by decide +kernel
theorem dX9_least_12 : decode cX9_least 12 = .ok (.invokestatic 132, 3) := by decide +kernel
theorem dX9_least_15 : decode cX9_least 15 = .ok (.ifCond .eq 12, 3) := by decide +kernel
theorem dX9_least_18 : decode cX9_least 18 = .ok (.aload_n 0, 1) := by decide +kernel
theorem dX9_least_19 : decode cX9_least 19 = .ok (.iload_n 1, 1) := by decide +kernel
theorem dX9_least_20 : decode cX9_least 20 = .ok (.iload_n 2, 1) := by decide +kernel
theorem dX9_least_21 : decode cX9_least 21 = .ok (.invokevirtual 140, 3) := by decide +kernel
theorem dX9_least_24 : decode cX9_least 24 = .ok (.goto 8, 3) := by decide +kernel
theorem dX9_least_27 : decode cX9_least 27 = .ok (.aload_n 0, 1) := by decide +kernel
theorem dX9_least_28 : decode cX9_least 28 = .ok (.iconst (-1), 1) := by decide +kernel
theorem dX9_least_29 : decode cX9_least 29 = .ok (.invokevirtual 136, 3) := by decide +kernel
theorem dX9_least_32 : decode cX9_least 32 = .ok (.ireturn, 1) := by decide +kernel
theorem dX9_person_0 : decode cX9_person 0 = .ok (.iload_n 2, 1) := by decide +kernel
theorem dX9_person_1 : decode cX9_person 1 = .ok (.bipush 10, 2) := by decide +kernel
theorem dX9_person_3 : decode cX9_person 3 = .ok (.invokestatic 132, 3) := by decide +kernel
theorem dX9_person_6 : decode cX9_person 6 = .ok (.ifCond .eq 17, 3) := by decide +kernel
theorem dX9_person_9 : decode cX9_person 9 = .ok (.iload_n 3, 1) := by decide +kernel
theorem dX9_person_10 : decode cX9_person 10 = .ok (.bipush 10, 2) := by decide +kernel
theorem dX9_person_12 : decode cX9_person 12 = .ok (.invokestatic 132, 3) := by decide +kernel
theorem dX9_person_15 : decode cX9_person 15 = .ok (.ifCond .eq 8, 3) := by decide +kernel
theorem dX9_person_18 : decode cX9_person 18 = .ok (.iload_n 2, 1) := by decide +kernel
theorem dX9_person_19 : decode cX9_person 19 = .ok (.iload_n 3, 1) := by decide +kernel
theorem dX9_person_20 : decode cX9_person 20 = .ok (.if_icmp .ne 9, 3) := by decide +kernel
theorem dX9_person_23 : decode cX9_person 23 = .ok (.aload_n 0, 1) := by decide +kernel
theorem dX9_person_24 : decode cX9_person 24 = .ok (.iconst (-1), 1) := by decide +kernel
theorem dX9_person_25 : decode cX9_person 25 = .ok (.invokevirtual 136, 3) := by decide +kernel
theorem dX9_person_28 : decode cX9_person 28 = .ok (.ireturn, 1) := by decide +kernel
theorem dX9_person_29 : decode cX9_person 29 = .ok (.iload_n 1, 1) := by decide +kernel
theorem dX9_person_30 : decode cX9_person 30 = .ok (.iconst 2, 1) := by decide +kernel
theorem dX9_person_31 : decode cX9_person 31 = .ok (.invokestatic 132, 3) := by decide +kernel
theorem dX9_person_34 : decode cX9_person 34 = .ok (.ifCond .ne 10, 3) := by decide +kernel
theorem dX9_person_37 : decode cX9_person 37 = .ok (.aload_n 0, 1) := by decide +kernel
theorem dX9_person_38 : decode cX9_person 38 = .ok (.bipush (-2), 2) := by decide +kernel
theorem dX9_person_40 : decode cX9_person 40 = .ok (.invokevirtual 136, 3) := by decide +kernel
theorem dX9_person_43 : decode cX9_person 43 = .ok (.ireturn, 1) := by decide +kernel
theorem dX9_person_44 : decode cX9_person 44 = .ok (.iload 4, 2) := by decide +kernel
theorem dX9_person_46 : decode cX9_person 46 = .ok (.ifCond .lt 18, 3) := by decide +kernel
theorem dX9_person_49 : decode cX9_person 49 = .ok (.iload 5, 2) := by decide +kernel
theorem dX9_person_51 : decode cX9_person 51 = .ok (.ifCond .lt 13, 3) := by decide +kernel
theorem dX9_person_54 : decode cX9_person 54 = .ok (.iload 6, 2) := by decide +kernel
end
section
theorem dX9_person_56 : decode cX9_person 56 = .ok (.ifCond .lt 8, 3) := by decide +kernel
theorem dX9_person_59 : decode cX9_person 59 = .ok (.iload 7, 2) := by decide +kernel
theorem dX9_person_61 : decode cX9_person 61 = .ok (.ifCond .ge 10, 3) := by decide +kernel
theorem dX9_person_64 : decode cX9_person 64 = .ok (.aload_n 0, 1) := by decide +kernel
theorem dX9_person_65 : decode cX9_person 65 = .ok (.bipush (-4), 2) := by decide +kernel
theorem dX9_person_67 : decode cX9_person 67 = .ok (.invokevirtual 136, 3) := by decide +kernel
theorem dX9_person_70 : decode cX9_person 70 = .ok (.ireturn, 1) := by decide +kernel
theorem dX9_person_71 : decode cX9_person 71 = .ok (.iload 4, 2) := by decide +kernel
theorem dX9_person_73 : decode cX9_person 73 = .ok (.sipush 1440, 3) := by decide +kernel
theorem dX9_person_76 : decode cX9_person 76 = .ok (.if_icmp .gt 34, 3) := by decide +kernel
theorem dX9_person_79 : decode cX9_person 79 = .ok (.iload 5, 2) := by decide +kernel
theorem dX9_person_81 : decode cX9_person 81 = .ok (.sipush 1440, 3) := by decide +kernel
theorem dX9_person_84 : decode cX9_person 84 = .ok (.if_icmp .gt 26, 3) := by decide +kernel
theorem dX9_person_87 : decode cX9_person 87 = .ok (.iload 6, 2) := by decide +kernel
theorem dX9_person_89 : decode cX9_person 89 = .ok (.sipush 300, 3) := by decide +kernel
theorem dX9_person_92 : decode cX9_person 92 = .ok (.if_icmp .gt 18, 3) := by decide +kernel
theorem dX9_person_95 : decode cX9_person 95 = .ok (.iload 7, 2) := by decide +kernel
theorem dX9_person_97 : decode cX9_person 97 = .ok (.iconst 5, 1) := by decide +kernel
theorem dX9_person_98 : decode cX9_person 98 = .ok (.if_icmp .gt 12, 3) := by decide +kernel
theorem dX9_person_101 : decode cX9_person 101 = .ok (.aload_n 0, 1) := by decide +kernel
theorem dX9_person_102 : decode cX9_person 102 = .ok (.getfield 143, 3) := by decide +kernel
theorem dX9_person_105 : decode cX9_person 105 = .ok (.bipush 9, 2) := by decide +kernel
theorem dX9_person_107 : decode cX9_person 107 = .ok (.if_icmp .ne 10, 3) := by decide +kernel
theorem dX9_person_110 : decode cX9_person 110 = .ok (.aload_n 0, 1) := by decide +kernel
theorem dX9_person_111 : decode cX9_person 111 = .ok (.bipush (-6), 2) := by decide +kernel
theorem dX9_person_113 : decode cX9_person 113 = .ok (.invokevirtual 136, 3) := by decide +kernel
theorem dX9_person_116 : decode cX9_person 116 = .ok (.ireturn, 1) := by decide +kernel
theorem dX9_person_117 : decode cX9_person 117 = .ok (.aload_n 0, 1) := by decide +kernel
theorem dX9_person_118 : decode cX9_person 118 = .ok (.getfield 143, 3) := by decide +kernel
theorem dX9_person_121 : decode cX9_person 121 = .ok (.istore 8, 2) := by decide +kernel
theorem dX9_person_123 : decode cX9_person 123 = .ok (.aload_n 0, 1) := by decide +kernel
theorem dX9_person_124 : decode cX9_person 124 = .ok (.dup, 1) := by decide +kernel
theorem dX9_person_125 : decode cX9_person 125 = .ok (.getfield 143, 3) := by decide +kernel
theorem dX9_person_128 : decode cX9_person 128 = .ok (.iconst 1, 1) := by decide +kernel
theorem dX9_person_129 : decode cX9_person 129 = .ok (.iadd, 1) := by decide +kernel
theorem dX9_person_130 : decode cX9_person 130 = .ok (.putfield 143, 3) := by decide +kernel
theorem dX9_person_133 : decode cX9_person 133 = .ok (.aload_n 0, 1) := by decide +kernel
theorem dX9_person_134 : decode cX9_person 134 = .ok (.getfield 19, 3) := by decide +kernel
theorem dX9_person_137 : decode cX9_person 137 = .ok (.iload 8, 2) := by decide +kernel
theorem dX9_person_139 : decode cX9_person 139 = .ok (.iload_n 1, 1) := by decide +kernel
theorem dX9_person_140 : decode cX9_person 140 = .ok (.iastore, 1) := by decide +kernel
theorem dX9_person_141 : decode cX9_person 141 = .ok (.aload_n 0, 1) := by decide +kernel
theorem dX9_person_142 : decode cX9_person 142 = .ok (.getfield 22, 3) := by decide +kernel
theorem dX9_person_145 : decode cX9_person 145 = .ok (.iload 8, 2) := by decide +kernel
theorem dX9_person_147 : decode cX9_person 147 = .ok (.iload_n 2, 1) := by decide +kernel
theorem dX9_person_148 : decode cX9_person 148 = .ok (.iastore, 1) := by decide +kernel
theorem dX9_person_149 : decode cX9_person 149 = .ok (.aload_n 0, 1) := by decide +kernel
theorem dX9_person_150 : decode cX9_person 150 = .ok (.getfield 25, 3) := by decide +kernel
theorem dX9_person_153 : decode cX9_person 153 = .ok (.iload 8, 2) := by decide +kernel
theorem dX9_person_155 : decode cX9_person 155 = .ok (.iload_n 3, 1) := by decide +kernel
theorem dX9_person_156 : decode cX9_person 156 = .ok (.iastore, 1) := by decide +kernel
theorem dX9_person_157 : decode cX9_person 157 = .ok (.aload_n 0, 1) := by decide +kernel
theorem dX9_person_158 : decode cX9_person 158 = .ok (.getfield 28, 3) := by decide +kernel
theorem dX9_person_161 : decode cX9_person 161 = .ok (.iload 8, 2) := by decide +kernel
theorem dX9_person_163 : decode cX9_person 163 = .ok (.iload 4, 2) := by decide +kernel
theorem dX9_person_165 : decode cX9_person 165 = .ok (.iastore, 1) := by decide +kernel
theorem dX9_person_166 : decode cX9_person 166 = .ok (.aload_n 0, 1) := by decide +kernel
theorem dX9_person_167 : decode cX9_person 167 = .ok (.getfield 31, 3) := by decide +kernel
theorem dX9_person_170 : decode cX9_person 170 = .ok (.iload 8, 2) := by decide +kernel
theorem dX9_person_172 : decode cX9_person 172 = .ok (.iload 5, 2) := by decide +kernel
theorem dX9_person_174 : decode cX9_person 174 = .ok (.iastore, 1) := by decide +kernel
theorem dX9_person_175 : decode cX9_person 175 = .ok (.aload_n 0, 1) := by decide +kernel
theorem dX9_person_176 : decode cX9_person 176 = .ok (.getfield 34, 3) := by decide +kernel
theorem dX9_person_179 : decode cX9_person 179 = .ok (.iload 8, 2) := by decide +kernel
theorem dX9_person_181 : decode cX9_person 181 = .ok (.iload 6, 2) := by decide +kernel
theorem dX9_person_183 : decode cX9_person 183 = .ok (.iastore, 1) := by decide +kernel
theorem dX9_person_184 : decode cX9_person 184 = .ok (.aload_n 0, 1) := by decide +kernel
theorem dX9_person_185 : decode cX9_person 185 = .ok (.getfield 37, 3) := by decide +kernel
theorem dX9_person_188 : decode cX9_person 188 = .ok (.iload 8, 2) := by decide +kernel
theorem dX9_person_190 : decode cX9_person 190 = .ok (.iload 7, 2) := by decide +kernel
theorem dX9_person_192 : decode cX9_person 192 = .ok (.iastore, 1) := by decide +kernel
theorem dX9_person_193 : decode cX9_person 193 = .ok (.aload_n 0, 1) := by decide +kernel
theorem dX9_person_194 : decode cX9_person 194 = .ok (.invokevirtual 129, 3) := by decide +kernel
theorem dX9_person_197 : decode cX9_person 197 = .ok (.iload 8, 2) := by decide +kernel
theorem dX9_person_199 : decode cX9_person 199 = .ok (.ireturn, 1) := by decide +kernel
theorem dX9_isPerson_0 : decode cX9_isPerson 0 = .ok (.iload_n 1, 1) := by decide +kernel
theorem dX9_isPerson_1 : decode cX9_isPerson 1 = .ok (.aload_n 0, 1) := by decide +kernel
theorem dX9_isPerson_2 : decode cX9_isPerson 2 = .ok (.getfield 143, 3) := by decide +kernel
theorem dX9_isPerson_5 : decode cX9_isPerson 5 = .ok (.invokestatic 132, 3) := by decide +kernel
theorem dX9_isPerson_8 : decode cX9_isPerson 8 = .ok (.ireturn, 1) := by decide +kernel
theorem dX9_times_0 : decode cX9_times 0 = .ok (.aload_n 0, 1) := by decide +kernel
theorem dX9_times_1 : decode cX9_times 1 = .ok (.iload_n 1, 1) := by decide +kernel
theorem dX9_times_2 : decode cX9_times 2 = .ok (.invokevirtual 147, 3) := by decide +kernel
theorem dX9_times_5 : decode cX9_times 5 = .ok (.ifCond .ne 9, 3) := by decide +kernel
theorem dX9_times_8 : decode cX9_times 8 = .ok (.aload_n 0, 1) := by decide +kernel
theorem dX9_times_9 : decode cX9_times 9 = .ok (.iconst (-1), 1) := by decide +kernel
theorem dX9_times_10 : decode cX9_times 10 = .ok (.invokevirtual 136, 3) := by decide +kernel
theorem dX9_times_13 : decode cX9_times 13 = .ok (.ireturn, 1) := by decide +kernel
theorem dX9_times_14 : decode cX9_times 14 = .ok (.iload_n 2, 1) := by decide +kernel
theorem dX9_times_15 : decode cX9_times 15 = .ok (.ifCond .lt 7, 3) := by decide +kernel
theorem dX9_times_18 : decode cX9_times 18 = .ok (.iload_n 3, 1) := by decide +kernel
theorem dX9_times_19 : decode cX9_times 19 = .ok (.ifCond .ge 10, 3) := by decide +kernel
theorem dX9_times_22 : decode cX9_times 22 = .ok (.aload_n 0, 1) := by decide +kernel
theorem dX9_times_23 : decode cX9_times 23 = .ok (.bipush (-4), 2) := by decide +kernel
theorem dX9_times_25 : decode cX9_times 25 = .ok (.invokevirtual 136, 3) := by decide +kernel
theorem dX9_times_28 : decode cX9_times 28 = .ok (.ireturn, 1) := by decide +kernel
theorem dX9_times_29 : decode cX9_times 29 = .ok (.iload_n 2, 1) := by decide +kernel
theorem dX9_times_30 : decode cX9_times 30 = .ok (.sipush 1440, 3) := by decide +kernel
theorem dX9_times_33 : decode cX9_times 33 = .ok (.if_icmp .gt 10, 3) := by decide +kernel
theorem dX9_times_36 : decode cX9_times 36 = .ok (.iload_n 3, 1) := by decide +kernel
theorem dX9_times_37 : decode cX9_times 37 = .ok (.sipush 1440, 3) := by decide +kernel
theorem dX9_times_40 : decode cX9_times 40 = .ok (.if_icmp .le 10, 3) := by decide +kernel
theorem dX9_times_43 : decode cX9_times 43 = .ok (.aload_n 0, 1) := by decide +kernel
theorem dX9_times_44 : decode cX9_times 44 = .ok (.bipush (-6), 2) := by decide +kernel
theorem dX9_times_46 : decode cX9_times 46 = .ok (.invokevirtual 136, 3) := by decide +kernel
theorem dX9_times_49 : decode cX9_times 49 = .ok (.ireturn, 1) := by decide +kernel
theorem dX9_times_50 : decode cX9_times 50 = .ok (.aload_n 0, 1) := by decide +kernel
theorem dX9_times_51 : decode cX9_times 51 = .ok (.getfield 28, 3) := by decide +kernel
theorem dX9_times_54 : decode cX9_times 54 = .ok (.iload_n 1, 1) := by decide +kernel
theorem dX9_times_55 : decode cX9_times 55 = .ok (.iload_n 2, 1) := by decide +kernel
theorem dX9_times_56 : decode cX9_times 56 = .ok (.iastore, 1) := by decide +kernel
theorem dX9_times_57 : decode cX9_times 57 = .ok (.aload_n 0, 1) := by decide +kernel
theorem dX9_times_58 : decode cX9_times 58 = .ok (.getfield 31, 3) := by decide +kernel
theorem dX9_times_61 : decode cX9_times 61 = .ok (.iload_n 1, 1) := by decide +kernel
theorem dX9_times_62 : decode cX9_times 62 = .ok (.iload_n 3, 1) := by decide +kernel
theorem dX9_times_63 : decode cX9_times 63 = .ok (.iastore, 1) := by decide +kernel
theorem dX9_times_64 : decode cX9_times 64 = .ok (.aload_n 0, 1) := by decide +kernel
theorem dX9_times_65 : decode cX9_times 65 = .ok (.invokevirtual 129, 3) := by decide +kernel
theorem dX9_times_68 : decode cX9_times 68 = .ok (.iconst 1, 1) := by decide +kernel
theorem dX9_times_69 : decode cX9_times 69 = .ok (.ireturn, 1) := by decide +kernel
theorem dX9_bar_0 : decode cX9_bar 0 = .ok (.aload_n 0, 1) := by decide +kernel
theorem dX9_bar_1 : decode cX9_bar 1 = .ok (.iload_n 1, 1) := by decide +kernel
theorem dX9_bar_2 : decode cX9_bar 2 = .ok (.invokevirtual 147, 3) := by decide +kernel
theorem dX9_bar_5 : decode cX9_bar 5 = .ok (.ifCond .eq 16, 3) := by decide +kernel
theorem dX9_bar_8 : decode cX9_bar 8 = .ok (.aload_n 0, 1) := by decide +kernel
theorem dX9_bar_9 : decode cX9_bar 9 = .ok (.iload_n 2, 1) := by decide +kernel
theorem dX9_bar_10 : decode cX9_bar 10 = .ok (.invokevirtual 147, 3) := by decide +kernel
theorem dX9_bar_13 : decode cX9_bar 13 = .ok (.ifCond .eq 8, 3) := by decide +kernel
theorem dX9_bar_16 : decode cX9_bar 16 = .ok (.iload_n 1, 1) := by decide +kernel
theorem dX9_bar_17 : decode cX9_bar 17 = .ok (.iload_n 2, 1) := by decide +kernel
theorem dX9_bar_18 : decode cX9_bar 18 = .ok (.if_icmp .ne 9, 3) := by decide +kernel
theorem dX9_bar_21 : decode cX9_bar 21 = .ok (.aload_n 0, 1) := by decide +kernel
theorem dX9_bar_22 : decode cX9_bar 22 = .ok (.iconst (-1), 1) := by decide +kernel
theorem dX9_bar_23 : decode cX9_bar 23 = .ok (.invokevirtual 136, 3) := by decide +kernel
theorem dX9_bar_26 : decode cX9_bar 26 = .ok (.ireturn, 1) := by decide +kernel
theorem dX9_bar_27 : decode cX9_bar 27 = .ok (.aload_n 0, 1) := by decide +kernel
theorem dX9_bar_28 : decode cX9_bar 28 = .ok (.getfield 40, 3) := by decide +kernel
theorem dX9_bar_31 : decode cX9_bar 31 = .ok (.iload_n 1, 1) := by decide +kernel
theorem dX9_bar_32 : decode cX9_bar 32 = .ok (.iaload, 1) := by decide +kernel
theorem dX9_bar_33 : decode cX9_bar 33 = .ok (.iload_n 2, 1) := by decide +kernel
theorem dX9_bar_34 : decode cX9_bar 34 = .ok (.ishr, 1) := by decide +kernel
theorem dX9_bar_35 : decode cX9_bar 35 = .ok (.iconst 1, 1) := by decide +kernel
theorem dX9_bar_36 : decode cX9_bar 36 = .ok (.iand, 1) := by decide +kernel
theorem dX9_bar_37 : decode cX9_bar 37 = .ok (.iconst 1, 1) := by decide +kernel
theorem dX9_bar_38 : decode cX9_bar 38 = .ok (.if_icmp .ne 7, 3) := by decide +kernel
theorem dX9_bar_41 : decode cX9_bar 41 = .ok (.iconst 1, 1) := by decide +kernel
theorem dX9_bar_42 : decode cX9_bar 42 = .ok (.goto 4, 3) := by decide +kernel
theorem dX9_bar_45 : decode cX9_bar 45 = .ok (.iconst 0, 1) := by decide +kernel
theorem dX9_bar_46 : decode cX9_bar 46 = .ok (.iload_n 3, 1) := by decide +kernel
theorem dX9_bar_47 : decode cX9_bar 47 = .ok (.if_icmp .ne 5, 3) := by decide +kernel
theorem dX9_bar_50 : decode cX9_bar 50 = .ok (.iconst 0, 1) := by decide +kernel
theorem dX9_bar_51 : decode cX9_bar 51 = .ok (.ireturn, 1) := by decide +kernel
theorem dX9_bar_52 : decode cX9_bar 52 = .ok (.aload_n 0, 1) := by decide +kernel
theorem dX9_bar_53 : decode cX9_bar 53 = .ok (.getfield 40, 3) := by decide +kernel
theorem dX9_bar_56 : decode cX9_bar 56 = .ok (.iload_n 1, 1) := by decide +kernel
theorem dX9_bar_57 : decode cX9_bar 57 = .ok (.dup2, 1) := by decide +kernel
theorem dX9_bar_58 : decode cX9_bar 58 = .ok (.iaload, 1) := by decide +kernel
theorem dX9_bar_59 : decode cX9_bar 59 = .ok (.iconst 1, 1) := by decide +kernel
theorem dX9_bar_60 : decode cX9_bar 60 = .ok (.iload_n 2, 1) := by decide +kernel
theorem dX9_bar_61 : decode cX9_bar 61 = .ok (.ishl, 1) := by decide +kernel
theorem dX9_bar_62 : decode cX9_bar 62 = .ok (.ixor, 1) := by decide +kernel
theorem dX9_bar_63 : decode cX9_bar 63 = .ok (.iastore, 1) := by decide +kernel
theorem dX9_bar_64 : decode cX9_bar 64 = .ok (.aload_n 0, 1) := by decide +kernel
theorem dX9_bar_65 : decode cX9_bar 65 = .ok (.getfield 40, 3) := by decide +kernel
theorem dX9_bar_68 : decode cX9_bar 68 = .ok (.iload_n 2, 1) := by decide +kernel
theorem dX9_bar_69 : decode cX9_bar 69 = .ok (.dup2, 1) := by decide +kernel
theorem dX9_bar_70 : decode cX9_bar 70 = .ok (.iaload, 1) := by decide +kernel
theorem dX9_bar_71 : decode cX9_bar 71 = .ok (.iconst 1, 1) := by decide +kernel
theorem dX9_bar_72 : decode cX9_bar 72 = .ok (.iload_n 1, 1) := by decide +kernel
theorem dX9_bar_73 : decode cX9_bar 73 = .ok (.ishl, 1) := by decide +kernel
theorem dX9_bar_74 : decode cX9_bar 74 = .ok (.ixor, 1) := by decide +kernel
theorem dX9_bar_75 : decode cX9_bar 75 = .ok (.iastore, 1) := by decide +kernel
theorem dX9_bar_76 : decode cX9_bar 76 = .ok (.aload_n 0, 1) := by decide +kernel
theorem dX9_bar_77 : decode cX9_bar 77 = .ok (.invokevirtual 129, 3) := by decide +kernel
theorem dX9_bar_80 : decode cX9_bar 80 = .ok (.iconst 1, 1) := by decide +kernel
theorem dX9_bar_81 : decode cX9_bar 81 = .ok (.ireturn, 1) := by decide +kernel
theorem dX9_away_0 : decode cX9_away 0 = .ok (.aload_n 0, 1) := by decide +kernel
theorem dX9_away_1 : decode cX9_away 1 = .ok (.iload_n 1, 1) := by decide +kernel
theorem dX9_away_2 : decode cX9_away 2 = .ok (.invokevirtual 147, 3) := by decide +kernel
theorem dX9_away_5 : decode cX9_away 5 = .ok (.ifCond .ne 9, 3) := by decide +kernel
theorem dX9_away_8 : decode cX9_away 8 = .ok (.aload_n 0, 1) := by decide +kernel
theorem dX9_away_9 : decode cX9_away 9 = .ok (.iconst (-1), 1) := by decide +kernel
theorem dX9_away_10 : decode cX9_away 10 = .ok (.invokevirtual 136, 3) := by decide +kernel
theorem dX9_away_13 : decode cX9_away 13 = .ok (.ireturn, 1) := by decide +kernel
theorem dX9_away_14 : decode cX9_away 14 = .ok (.aload_n 0, 1) := by decide +kernel
theorem dX9_away_15 : decode cX9_away 15 = .ok (.getfield 46, 3) := by decide +kernel
theorem dX9_away_18 : decode cX9_away 18 = .ok (.iload_n 1, 1) := by decide +kernel
theorem dX9_away_19 : decode cX9_away 19 = .ok (.baload, 1) := by decide +kernel
theorem dX9_away_20 : decode cX9_away 20 = .ok (.iload_n 2, 1) := by decide +kernel
theorem dX9_away_21 : decode cX9_away 21 = .ok (.if_icmp .ne 5, 3) := by decide +kernel
theorem dX9_away_24 : decode cX9_away 24 = .ok (.iconst 0, 1) := by decide +kernel
theorem dX9_away_25 : decode cX9_away 25 = .ok (.ireturn, 1) := by decide +kernel
theorem dX9_away_26 : decode cX9_away 26 = .ok (.aload_n 0, 1) := by decide +kernel
theorem dX9_away_27 : decode cX9_away 27 = .ok (.getfield 46, 3) := by decide +kernel
theorem dX9_away_30 : decode cX9_away 30 = .ok (.iload_n 1, 1) := by decide +kernel
theorem dX9_away_31 : decode cX9_away 31 = .ok (.iload_n 2, 1) := by decide +kernel
theorem dX9_away_32 : decode cX9_away 32 = .ok (.bastore, 1) := by decide +kernel
theorem dX9_away_33 : decode cX9_away 33 = .ok (.aload_n 0, 1) := by decide +kernel
theorem dX9_away_34 : decode cX9_away 34 = .ok (.invokevirtual 129, 3) := by decide +kernel
theorem dX9_away_37 : decode cX9_away 37 = .ok (.iconst 1, 1) := by decide +kernel
theorem dX9_away_38 : decode cX9_away 38 = .ok (.ireturn, 1) := by decide +kernel
theorem dX9_broken_0 : decode cX9_broken 0 = .ok (.aload_n 0, 1) := by decide +kernel
theorem dX9_broken_1 : decode cX9_broken 1 = .ok (.iload_n 1, 1) := by decide +kernel
theorem dX9_broken_2 : decode cX9_broken 2 = .ok (.invokevirtual 147, 3) := by decide +kernel
theorem dX9_broken_5 : decode cX9_broken 5 = .ok (.ifCond .ne 9, 3) := by decide +kernel
theorem dX9_broken_8 : decode cX9_broken 8 = .ok (.aload_n 0, 1) := by decide +kernel
theorem dX9_broken_9 : decode cX9_broken 9 = .ok (.iconst (-1), 1) := by decide +kernel
theorem dX9_broken_10 : decode cX9_broken 10 = .ok (.invokevirtual 136, 3) := by decide +kernel
theorem dX9_broken_13 : decode cX9_broken 13 = .ok (.ireturn, 1) := by decide +kernel
theorem dX9_broken_14 : decode cX9_broken 14 = .ok (.aload_n 0, 1) := by decide +kernel
theorem dX9_broken_15 : decode cX9_broken 15 = .ok (.getfield 50, 3) := by decide +kernel
theorem dX9_broken_18 : decode cX9_broken 18 = .ok (.iload_n 1, 1) := by decide +kernel
theorem dX9_broken_19 : decode cX9_broken 19 = .ok (.baload, 1) := by decide +kernel
theorem dX9_broken_20 : decode cX9_broken 20 = .ok (.iload_n 2, 1) := by decide +kernel
theorem dX9_broken_21 : decode cX9_broken 21 = .ok (.if_icmp .ne 5, 3) := by decide +kernel
theorem dX9_broken_24 : decode cX9_broken 24 = .ok (.iconst 0, 1) := by decide +kernel
theorem dX9_broken_25 : decode cX9_broken 25 = .ok (.ireturn, 1) := by decide +kernel
theorem dX9_broken_26 : decode cX9_broken 26 = .ok (.aload_n 0, 1) := by decide +kernel
theorem dX9_broken_27 : decode cX9_broken 27 = .ok (.getfield 50, 3) := by decide +kernel
theorem dX9_broken_30 : decode cX9_broken 30 = .ok (.iload_n 1, 1) := by decide +kernel
theorem dX9_broken_31 : decode cX9_broken 31 = .ok (.iload_n 2, 1) := by decide +kernel
theorem dX9_broken_32 : decode cX9_broken 32 = .ok (.bastore, 1) := by decide +kernel
theorem dX9_broken_33 : decode cX9_broken 33 = .ok (.aload_n 0, 1) := by decide +kernel
theorem dX9_broken_34 : decode cX9_broken 34 = .ok (.invokevirtual 129, 3) := by decide +kernel
theorem dX9_broken_37 : decode cX9_broken 37 = .ok (.iconst 1, 1) := by decide +kernel
theorem dX9_broken_38 : decode cX9_broken 38 = .ok (.ireturn, 1) := by decide +kernel
theorem dX9_many_0 : decode cX9_many 0 = .ok (.iconst 0, 1) := by decide +kernel
theorem dX9_many_1 : decode cX9_many 1 = .ok (.istore_n 1, 1) := by decide +kernel
theorem dX9_many_2 : decode cX9_many 2 = .ok (.iload_n 0, 1) := by decide +kernel
theorem dX9_many_3 : decode cX9_many 3 = .ok (.istore_n 2, 1) := by decide +kernel
theorem dX9_many_4 : decode cX9_many 4 = .ok (.iload_n 2, 1) := by decide +kernel
theorem dX9_many_5 : decode cX9_many 5 = .ok (.ifCond .eq 15, 3) := by decide +kernel
theorem dX9_many_8 : decode cX9_many 8 = .ok (.iinc 1 1, 3) := by decide +kernel
theorem dX9_many_11 : decode cX9_many 11 = .ok (.iload_n 2, 1) := by decide +kernel
theorem dX9_many_12 : decode cX9_many 12 = .ok (.iload_n 2, 1) := by decide +kernel
theorem dX9_many_13 : decode cX9_many 13 = .ok (.iconst 1, 1) := by decide +kernel
theorem dX9_many_14 : decode cX9_many 14 = .ok (.isub, 1) := by decide +kernel
theorem dX9_many_15 : decode cX9_many 15 = .ok (.iand, 1) := by decide +kernel
theorem dX9_many_16 : decode cX9_many 16 = .ok (.istore_n 2, 1) := by decide +kernel
theorem dX9_many_17 : decode cX9_many 17 = .ok (.goto (-13), 3) := by decide +kernel
theorem dX9_many_20 : decode cX9_many 20 = .ok (.iload_n 1, 1) := by decide +kernel
theorem dX9_many_21 : decode cX9_many 21 = .ok (.ireturn, 1) := by decide +kernel
theorem dX9_whyNot_0 : decode cX9_whyNot 0 = .ok (.aload_n 0, 1) := by decide +kernel
theorem dX9_whyNot_1 : decode cX9_whyNot 1 = .ok (.ldc 151, 2) := by decide +kernel
theorem dX9_whyNot_3 : decode cX9_whyNot 3 = .ok (.putfield 152, 3) := by decide +kernel
theorem dX9_whyNot_6 : decode cX9_whyNot 6 = .ok (.aload_n 0, 1) := by decide +kernel
theorem dX9_whyNot_7 : decode cX9_whyNot 7 = .ok (.getfield 37, 3) := by decide +kernel
theorem dX9_whyNot_10 : decode cX9_whyNot 10 = .ok (.iload_n 2, 1) := by decide +kernel
theorem dX9_whyNot_11 : decode cX9_whyNot 11 = .ok (.iaload, 1) := by decide +kernel
theorem dX9_whyNot_12 : decode cX9_whyNot 12 = .ok (.ifCond .eq 12, 3) := by decide +kernel
theorem dX9_whyNot_15 : decode cX9_whyNot 15 = .ok (.aload_n 0, 1) := by decide +kernel
theorem dX9_whyNot_16 : decode cX9_whyNot 16 = .ok (.getfield 50, 3) := by decide +kernel
theorem dX9_whyNot_19 : decode cX9_whyNot 19 = .ok (.iload_n 2, 1) := by decide +kernel
theorem dX9_whyNot_20 : decode cX9_whyNot 20 = .ok (.baload, 1) := by decide +kernel
theorem dX9_whyNot_21 : decode cX9_whyNot 21 = .ok (.ifCond .eq 5, 3) := by decide +kernel
theorem dX9_whyNot_24 : decode cX9_whyNot 24 = .ok (.iconst 1, 1) := by decide +kernel
theorem dX9_whyNot_25 : decode cX9_whyNot 25 = .ok (.ireturn, 1) := by decide +kernel
theorem dX9_whyNot_26 : decode cX9_whyNot 26 = .ok (.iconst 0, 1) := by decide +kernel
theorem dX9_whyNot_27 : decode cX9_whyNot 27 = .ok (.istore_n 3, 1) := by decide +kernel
theorem dX9_whyNot_28 : decode cX9_whyNot 28 = .ok (.iconst 0, 1) := by decide +kernel
theorem dX9_whyNot_29 : decode cX9_whyNot 29 = .ok (.istore 4, 2) := by decide +kernel
theorem dX9_whyNot_31 : decode cX9_whyNot 31 = .ok (.iconst 0, 1) := by decide +kernel
theorem dX9_whyNot_32 : decode cX9_whyNot 32 = .ok (.istore 5, 2) := by decide +kernel
theorem dX9_whyNot_34 : decode cX9_whyNot 34 = .ok (.iload 5, 2) := by decide +kernel
theorem dX9_whyNot_36 : decode cX9_whyNot 36 = .ok (.aload_n 0, 1) := by decide +kernel
theorem dX9_whyNot_37 : decode cX9_whyNot 37 = .ok (.getfield 143, 3) := by decide +kernel
theorem dX9_whyNot_40 : decode cX9_whyNot 40 = .ok (.if_icmp .ge 45, 3) := by decide +kernel
theorem dX9_whyNot_43 : decode cX9_whyNot 43 = .ok (.iload_n 1, 1) := by decide +kernel
theorem dX9_whyNot_44 : decode cX9_whyNot 44 = .ok (.iload 5, 2) := by decide +kernel
theorem dX9_whyNot_46 : decode cX9_whyNot 46 = .ok (.ishr, 1) := by decide +kernel
theorem dX9_whyNot_47 : decode cX9_whyNot 47 = .ok (.iconst 1, 1) := by decide +kernel
theorem dX9_whyNot_48 : decode cX9_whyNot 48 = .ok (.iand, 1) := by decide +kernel
theorem dX9_whyNot_49 : decode cX9_whyNot 49 = .ok (.ifCond .ne 6, 3) := by decide +kernel
theorem dX9_whyNot_52 : decode cX9_whyNot 52 = .ok (.goto 27, 3) := by decide +kernel
theorem dX9_whyNot_55 : decode cX9_whyNot 55 = .ok (.iload_n 3, 1) := by decide +kernel
theorem dX9_whyNot_56 : decode cX9_whyNot 56 = .ok (.iconst 1, 1) := by decide +kernel
theorem dX9_whyNot_57 : decode cX9_whyNot 57 = .ok (.aload_n 0, 1) := by decide +kernel
theorem dX9_whyNot_58 : decode cX9_whyNot 58 = .ok (.getfield 19, 3) := by decide +kernel
theorem dX9_whyNot_61 : decode cX9_whyNot 61 = .ok (.iload 5, 2) := by decide +kernel
theorem dX9_whyNot_63 : decode cX9_whyNot 63 = .ok (.iaload, 1) := by decide +kernel
theorem dX9_whyNot_64 : decode cX9_whyNot 64 = .ok (.iadd, 1) := by decide +kernel
theorem dX9_whyNot_65 : decode cX9_whyNot 65 = .ok (.iadd, 1) := by decide +kernel
theorem dX9_whyNot_66 : decode cX9_whyNot 66 = .ok (.istore_n 3, 1) := by decide +kernel
theorem dX9_whyNot_67 : decode cX9_whyNot 67 = .ok (.iload 4, 2) := by decide +kernel
theorem dX9_whyNot_69 : decode cX9_whyNot 69 = .ok (.aload_n 0, 1) := by decide +kernel
theorem dX9_whyNot_70 : decode cX9_whyNot 70 = .ok (.getfield 40, 3) := by decide +kernel
theorem dX9_whyNot_73 : decode cX9_whyNot 73 = .ok (.iload 5, 2) := by decide +kernel
theorem dX9_whyNot_75 : decode cX9_whyNot 75 = .ok (.iaload, 1) := by decide +kernel
theorem dX9_whyNot_76 : decode cX9_whyNot 76 = .ok (.ior, 1) := by decide +kernel
theorem dX9_whyNot_77 : decode cX9_whyNot 77 = .ok (.istore 4, 2) := by decide +kernel
theorem dX9_whyNot_79 : decode cX9_whyNot 79 = .ok (.iinc 5 1, 3) := by decide +kernel
theorem dX9_whyNot_82 : decode cX9_whyNot 82 = .ok (.goto (-48), 3) := by decide +kernel
theorem dX9_whyNot_85 : decode cX9_whyNot 85 = .ok (.iload_n 3, 1) := by decide +kernel
theorem dX9_whyNot_86 : decode cX9_whyNot 86 = .ok (.aload_n 0, 1) := by decide +kernel
theorem dX9_whyNot_87 : decode cX9_whyNot 87 = .ok (.getfield 37, 3) := by decide +kernel
theorem dX9_whyNot_90 : decode cX9_whyNot 90 = .ok (.iload_n 2, 1) := by decide +kernel
theorem dX9_whyNot_91 : decode cX9_whyNot 91 = .ok (.iaload, 1) := by decide +kernel
theorem dX9_whyNot_92 : decode cX9_whyNot 92 = .ok (.if_icmp .le 5, 3) := by decide +kernel
theorem dX9_whyNot_95 : decode cX9_whyNot 95 = .ok (.iconst 2, 1) := by decide +kernel
theorem dX9_whyNot_96 : decode cX9_whyNot 96 = .ok (.ireturn, 1) := by decide +kernel
theorem dX9_whyNot_97 : decode cX9_whyNot 97 = .ok (.iload 4, 2) := by decide +kernel
theorem dX9_whyNot_99 : decode cX9_whyNot 99 = .ok (.iload_n 1, 1) := by decide +kernel
theorem dX9_whyNot_100 : decode cX9_whyNot 100 = .ok (.iand, 1) := by decide +kernel
theorem dX9_whyNot_101 : decode cX9_whyNot 101 = .ok (.ifCond .eq 5, 3) := by decide +kernel
theorem dX9_whyNot_104 : decode cX9_whyNot 104 = .ok (.iconst 3, 1) := by decide +kernel
theorem dX9_whyNot_105 : decode cX9_whyNot 105 = .ok (.ireturn, 1) := by decide +kernel
theorem dX9_whyNot_106 : decode cX9_whyNot 106 = .ok (.aload_n 0, 1) := by decide +kernel
theorem dX9_whyNot_107 : decode cX9_whyNot 107 = .ok (.iload_n 1, 1) := by decide +kernel
theorem dX9_whyNot_108 : decode cX9_whyNot 108 = .ok (.invokestatic 155, 3) := by decide +kernel
theorem dX9_whyNot_111 : decode cX9_whyNot 111 = .ok (.putfield 158, 3) := by decide +kernel
theorem dX9_whyNot_114 : decode cX9_whyNot 114 = .ok (.aload_n 0, 1) := by decide +kernel
theorem dX9_whyNot_115 : decode cX9_whyNot 115 = .ok (.getfield 53, 3) := by decide +kernel
theorem dX9_whyNot_118 : decode cX9_whyNot 118 = .ok (.iconst 0, 1) := by decide +kernel
theorem dX9_whyNot_119 : decode cX9_whyNot 119 = .ok (.iload_n 2, 1) := by decide +kernel
theorem dX9_whyNot_120 : decode cX9_whyNot 120 = .ok (.iastore, 1) := by decide +kernel
theorem dX9_whyNot_121 : decode cX9_whyNot 121 = .ok (.aload_n 0, 1) := by decide +kernel
theorem dX9_whyNot_122 : decode cX9_whyNot 122 = .ok (.getfield 59, 3) := by decide +kernel
theorem dX9_whyNot_125 : decode cX9_whyNot 125 = .ok (.iload_n 2, 1) := by decide +kernel
theorem dX9_whyNot_126 : decode cX9_whyNot 126 = .ok (.iconst 0, 1) := by decide +kernel
theorem dX9_whyNot_127 : decode cX9_whyNot 127 = .ok (.iastore, 1) := by decide +kernel
theorem dX9_whyNot_128 : decode cX9_whyNot 128 = .ok (.aload_n 0, 1) := by decide +kernel
theorem dX9_whyNot_129 : decode cX9_whyNot 129 = .ok (.iload_n 1, 1) := by decide +kernel
theorem dX9_whyNot_130 : decode cX9_whyNot 130 = .ok (.iload_n 1, 1) := by decide +kernel
theorem dX9_whyNot_131 : decode cX9_whyNot 131 = .ok (.iconst 1, 1) := by decide +kernel
theorem dX9_whyNot_132 : decode cX9_whyNot 132 = .ok (.iload_n 2, 1) := by decide +kernel
theorem dX9_whyNot_133 : decode cX9_whyNot 133 = .ok (.ishl, 1) := by decide +kernel
theorem dX9_whyNot_134 : decode cX9_whyNot 134 = .ok (.iconst (-1), 1) := by decide +kernel
theorem dX9_whyNot_135 : decode cX9_whyNot 135 = .ok (.ixor, 1) := by decide +kernel
theorem dX9_whyNot_136 : decode cX9_whyNot 136 = .ok (.iand, 1) := by decide +kernel
theorem dX9_whyNot_137 : decode cX9_whyNot 137 = .ok (.iconst 1, 1) := by decide +kernel
theorem dX9_whyNot_138 : decode cX9_whyNot 138 = .ok (.iconst 0, 1) := by decide +kernel
theorem dX9_whyNot_139 : decode cX9_whyNot 139 = .ok (.invokevirtual 161, 3) := by decide +kernel
theorem dX9_whyNot_142 : decode cX9_whyNot 142 = .ok (.aload_n 0, 1) := by decide +kernel
theorem dX9_whyNot_143 : decode cX9_whyNot 143 = .ok (.getfield 152, 3) := by decide +kernel
theorem dX9_whyNot_146 : decode cX9_whyNot 146 = .ok (.ldc 151, 2) := by decide +kernel
theorem dX9_whyNot_148 : decode cX9_whyNot 148 = .ok (.if_icmp .ne 7, 3) := by decide +kernel
theorem dX9_whyNot_151 : decode cX9_whyNot 151 = .ok (.iconst 4, 1) := by decide +kernel
theorem dX9_whyNot_152 : decode cX9_whyNot 152 = .ok (.goto 4, 3) := by decide +kernel
theorem dX9_whyNot_155 : decode cX9_whyNot 155 = .ok (.iconst 0, 1) := by decide +kernel
theorem dX9_whyNot_156 : decode cX9_whyNot 156 = .ok (.ireturn, 1) := by decide +kernel
theorem dX9_picks_0 : decode cX9_picks 0 = .ok (.iload_n 2, 1) := by decide +kernel
theorem dX9_picks_1 : decode cX9_picks 1 = .ok (.ifCond .ne 25, 3) := by decide +kernel
theorem dX9_picks_4 : decode cX9_picks 4 = .ok (.aload_n 0, 1) := by decide +kernel
theorem dX9_picks_5 : decode cX9_picks 5 = .ok (.iload_n 1, 1) := by decide +kernel
theorem dX9_picks_6 : decode cX9_picks 6 = .ok (.iconst 0, 1) := by decide +kernel
theorem dX9_picks_7 : decode cX9_picks 7 = .ok (.iload 4, 2) := by decide +kernel
theorem dX9_picks_9 : decode cX9_picks 9 = .ok (.aload_n 0, 1) := by decide +kernel
theorem dX9_picks_10 : decode cX9_picks 10 = .ok (.getfield 22, 3) := by decide +kernel
theorem dX9_picks_13 : decode cX9_picks 13 = .ok (.aload_n 0, 1) := by decide +kernel
theorem dX9_picks_14 : decode cX9_picks 14 = .ok (.getfield 53, 3) := by decide +kernel
theorem dX9_picks_17 : decode cX9_picks 17 = .ok (.iload_n 3, 1) := by decide +kernel
theorem dX9_picks_18 : decode cX9_picks 18 = .ok (.iconst 1, 1) := by decide +kernel
theorem dX9_picks_19 : decode cX9_picks 19 = .ok (.isub, 1) := by decide +kernel
theorem dX9_picks_20 : decode cX9_picks 20 = .ok (.iaload, 1) := by decide +kernel
theorem dX9_picks_21 : decode cX9_picks 21 = .ok (.iaload, 1) := by decide +kernel
theorem dX9_picks_22 : decode cX9_picks 22 = .ok (.invokevirtual 165, 3) := by decide +kernel
theorem dX9_picks_25 : decode cX9_picks 25 = .ok (.return_, 1) := by decide +kernel
theorem dX9_picks_26 : decode cX9_picks 26 = .ok (.iconst 0, 1) := by decide +kernel
theorem dX9_picks_27 : decode cX9_picks 27 = .ok (.istore 5, 2) := by decide +kernel
theorem dX9_picks_29 : decode cX9_picks 29 = .ok (.iload 5, 2) := by decide +kernel
theorem dX9_picks_31 : decode cX9_picks 31 = .ok (.aload_n 0, 1) := by decide +kernel
theorem dX9_picks_32 : decode cX9_picks 32 = .ok (.getfield 143, 3) := by decide +kernel
theorem dX9_picks_35 : decode cX9_picks 35 = .ok (.if_icmp .ge 86, 3) := by decide +kernel
theorem dX9_picks_38 : decode cX9_picks 38 = .ok (.iload_n 2, 1) := by decide +kernel
theorem dX9_picks_39 : decode cX9_picks 39 = .ok (.iload 5, 2) := by decide +kernel
theorem dX9_picks_41 : decode cX9_picks 41 = .ok (.ishr, 1) := by decide +kernel
theorem dX9_picks_42 : decode cX9_picks 42 = .ok (.iconst 1, 1) := by decide +kernel
theorem dX9_picks_43 : decode cX9_picks 43 = .ok (.iand, 1) := by decide +kernel
theorem dX9_picks_44 : decode cX9_picks 44 = .ok (.ifCond .ne 6, 3) := by decide +kernel
theorem dX9_picks_47 : decode cX9_picks 47 = .ok (.goto 68, 3) := by decide +kernel
theorem dX9_picks_50 : decode cX9_picks 50 = .ok (.aload_n 0, 1) := by decide +kernel
theorem dX9_picks_51 : decode cX9_picks 51 = .ok (.getfield 53, 3) := by decide +kernel
theorem dX9_picks_54 : decode cX9_picks 54 = .ok (.iload_n 3, 1) := by decide +kernel
theorem dX9_picks_55 : decode cX9_picks 55 = .ok (.iload 5, 2) := by decide +kernel
theorem dX9_picks_57 : decode cX9_picks 57 = .ok (.iastore, 1) := by decide +kernel
theorem dX9_picks_58 : decode cX9_picks 58 = .ok (.aload_n 0, 1) := by decide +kernel
theorem dX9_picks_59 : decode cX9_picks 59 = .ok (.getfield 59, 3) := by decide +kernel
theorem dX9_picks_62 : decode cX9_picks 62 = .ok (.iload 5, 2) := by decide +kernel
theorem dX9_picks_64 : decode cX9_picks 64 = .ok (.iload 4, 2) := by decide +kernel
theorem dX9_picks_66 : decode cX9_picks 66 = .ok (.aload_n 0, 1) := by decide +kernel
theorem dX9_picks_67 : decode cX9_picks 67 = .ok (.aload_n 0, 1) := by decide +kernel
theorem dX9_picks_68 : decode cX9_picks 68 = .ok (.getfield 22, 3) := by decide +kernel
theorem dX9_picks_71 : decode cX9_picks 71 = .ok (.aload_n 0, 1) := by decide +kernel
theorem dX9_picks_72 : decode cX9_picks 72 = .ok (.getfield 53, 3) := by decide +kernel
theorem dX9_picks_75 : decode cX9_picks 75 = .ok (.iload_n 3, 1) := by decide +kernel
theorem dX9_picks_76 : decode cX9_picks 76 = .ok (.iconst 1, 1) := by decide +kernel
theorem dX9_picks_77 : decode cX9_picks 77 = .ok (.isub, 1) := by decide +kernel
theorem dX9_picks_78 : decode cX9_picks 78 = .ok (.iaload, 1) := by decide +kernel
theorem dX9_picks_79 : decode cX9_picks 79 = .ok (.iaload, 1) := by decide +kernel
theorem dX9_picks_80 : decode cX9_picks 80 = .ok (.aload_n 0, 1) := by decide +kernel
theorem dX9_picks_81 : decode cX9_picks 81 = .ok (.getfield 22, 3) := by decide +kernel
theorem dX9_picks_84 : decode cX9_picks 84 = .ok (.iload 5, 2) := by decide +kernel
theorem dX9_picks_86 : decode cX9_picks 86 = .ok (.iaload, 1) := by decide +kernel
theorem dX9_picks_87 : decode cX9_picks 87 = .ok (.invokevirtual 140, 3) := by decide +kernel
theorem dX9_picks_90 : decode cX9_picks 90 = .ok (.iadd, 1) := by decide +kernel
theorem dX9_picks_91 : decode cX9_picks 91 = .ok (.iastore, 1) := by decide +kernel
theorem dX9_picks_92 : decode cX9_picks 92 = .ok (.aload_n 0, 1) := by decide +kernel
theorem dX9_picks_93 : decode cX9_picks 93 = .ok (.iload_n 1, 1) := by decide +kernel
theorem dX9_picks_94 : decode cX9_picks 94 = .ok (.iload_n 2, 1) := by decide +kernel
theorem dX9_picks_95 : decode cX9_picks 95 = .ok (.iconst 1, 1) := by decide +kernel
theorem dX9_picks_96 : decode cX9_picks 96 = .ok (.iload 5, 2) := by decide +kernel
theorem dX9_picks_98 : decode cX9_picks 98 = .ok (.ishl, 1) := by decide +kernel
theorem dX9_picks_99 : decode cX9_picks 99 = .ok (.iconst (-1), 1) := by decide +kernel
theorem dX9_picks_100 : decode cX9_picks 100 = .ok (.ixor, 1) := by decide +kernel
theorem dX9_picks_101 : decode cX9_picks 101 = .ok (.iand, 1) := by decide +kernel
theorem dX9_picks_102 : decode cX9_picks 102 = .ok (.iload_n 3, 1) := by decide +kernel
theorem dX9_picks_103 : decode cX9_picks 103 = .ok (.iconst 1, 1) := by decide +kernel
theorem dX9_picks_104 : decode cX9_picks 104 = .ok (.iadd, 1) := by decide +kernel
theorem dX9_picks_105 : decode cX9_picks 105 = .ok (.aload_n 0, 1) := by decide +kernel
theorem dX9_picks_106 : decode cX9_picks 106 = .ok (.getfield 59, 3) := by decide +kernel
theorem dX9_picks_109 : decode cX9_picks 109 = .ok (.iload 5, 2) := by decide +kernel
theorem dX9_picks_111 : decode cX9_picks 111 = .ok (.iaload, 1) := by decide +kernel
theorem dX9_picks_112 : decode cX9_picks 112 = .ok (.invokevirtual 161, 3) := by decide +kernel
theorem dX9_picks_115 : decode cX9_picks 115 = .ok (.iinc 5 1, 3) := by decide +kernel
theorem dX9_picks_118 : decode cX9_picks 118 = .ok (.goto (-89), 3) := by decide +kernel
theorem dX9_picks_121 : decode cX9_picks 121 = .ok (.return_, 1) := by decide +kernel
theorem dX9_drops_0 : decode cX9_drops 0 = .ok (.iload_n 1, 1) := by decide +kernel
theorem dX9_drops_1 : decode cX9_drops 1 = .ok (.ifCond .ne 9, 3) := by decide +kernel
theorem dX9_drops_4 : decode cX9_drops 4 = .ok (.aload_n 0, 1) := by decide +kernel
theorem dX9_drops_5 : decode cX9_drops 5 = .ok (.iload_n 3, 1) := by decide +kernel
theorem dX9_drops_6 : decode cX9_drops 6 = .ok (.invokevirtual 168, 3) := by decide +kernel
theorem dX9_drops_9 : decode cX9_drops 9 = .ok (.return_, 1) := by decide +kernel
theorem dX9_drops_10 : decode cX9_drops 10 = .ok (.iconst 0, 1) := by decide +kernel
theorem dX9_drops_11 : decode cX9_drops 11 = .ok (.istore 5, 2) := by decide +kernel
theorem dX9_drops_13 : decode cX9_drops 13 = .ok (.iload 5, 2) := by decide +kernel
theorem dX9_drops_15 : decode cX9_drops 15 = .ok (.aload_n 0, 1) := by decide +kernel
theorem dX9_drops_16 : decode cX9_drops 16 = .ok (.getfield 143, 3) := by decide +kernel
theorem dX9_drops_19 : decode cX9_drops 19 = .ok (.if_icmp .ge 80, 3) := by decide +kernel
theorem dX9_drops_22 : decode cX9_drops 22 = .ok (.iload_n 1, 1) := by decide +kernel
theorem dX9_drops_23 : decode cX9_drops 23 = .ok (.iload 5, 2) := by decide +kernel
theorem dX9_drops_25 : decode cX9_drops 25 = .ok (.ishr, 1) := by decide +kernel
theorem dX9_drops_26 : decode cX9_drops 26 = .ok (.iconst 1, 1) := by decide +kernel
theorem dX9_drops_27 : decode cX9_drops 27 = .ok (.iand, 1) := by decide +kernel
theorem dX9_drops_28 : decode cX9_drops 28 = .ok (.ifCond .ne 6, 3) := by decide +kernel
theorem dX9_drops_31 : decode cX9_drops 31 = .ok (.goto 62, 3) := by decide +kernel
theorem dX9_drops_34 : decode cX9_drops 34 = .ok (.aload_n 0, 1) := by decide +kernel
theorem dX9_drops_35 : decode cX9_drops 35 = .ok (.getfield 56, 3) := by decide +kernel
theorem dX9_drops_38 : decode cX9_drops 38 = .ok (.iload_n 2, 1) := by decide +kernel
theorem dX9_drops_39 : decode cX9_drops 39 = .ok (.iload 5, 2) := by decide +kernel
theorem dX9_drops_41 : decode cX9_drops 41 = .ok (.iastore, 1) := by decide +kernel
theorem dX9_drops_42 : decode cX9_drops 42 = .ok (.aload_n 0, 1) := by decide +kernel
theorem dX9_drops_43 : decode cX9_drops 43 = .ok (.getfield 62, 3) := by decide +kernel
theorem dX9_drops_46 : decode cX9_drops 46 = .ok (.iload 5, 2) := by decide +kernel
theorem dX9_drops_48 : decode cX9_drops 48 = .ok (.iload_n 3, 1) := by decide +kernel
theorem dX9_drops_49 : decode cX9_drops 49 = .ok (.aload_n 0, 1) := by decide +kernel
theorem dX9_drops_50 : decode cX9_drops 50 = .ok (.iload 4, 2) := by decide +kernel
theorem dX9_drops_52 : decode cX9_drops 52 = .ok (.aload_n 0, 1) := by decide +kernel
theorem dX9_drops_53 : decode cX9_drops 53 = .ok (.getfield 25, 3) := by decide +kernel
theorem dX9_drops_56 : decode cX9_drops 56 = .ok (.iload 5, 2) := by decide +kernel
theorem dX9_drops_58 : decode cX9_drops 58 = .ok (.iaload, 1) := by decide +kernel
theorem dX9_drops_59 : decode cX9_drops 59 = .ok (.invokevirtual 140, 3) := by decide +kernel
theorem dX9_drops_62 : decode cX9_drops 62 = .ok (.iadd, 1) := by decide +kernel
theorem dX9_drops_63 : decode cX9_drops 63 = .ok (.iastore, 1) := by decide +kernel
theorem dX9_drops_64 : decode cX9_drops 64 = .ok (.aload_n 0, 1) := by decide +kernel
theorem dX9_drops_65 : decode cX9_drops 65 = .ok (.iload_n 1, 1) := by decide +kernel
theorem dX9_drops_66 : decode cX9_drops 66 = .ok (.iconst 1, 1) := by decide +kernel
theorem dX9_drops_67 : decode cX9_drops 67 = .ok (.iload 5, 2) := by decide +kernel
theorem dX9_drops_69 : decode cX9_drops 69 = .ok (.ishl, 1) := by decide +kernel
theorem dX9_drops_70 : decode cX9_drops 70 = .ok (.iconst (-1), 1) := by decide +kernel
theorem dX9_drops_71 : decode cX9_drops 71 = .ok (.ixor, 1) := by decide +kernel
theorem dX9_drops_72 : decode cX9_drops 72 = .ok (.iand, 1) := by decide +kernel
theorem dX9_drops_73 : decode cX9_drops 73 = .ok (.iload_n 2, 1) := by decide +kernel
theorem dX9_drops_74 : decode cX9_drops 74 = .ok (.iconst 1, 1) := by decide +kernel
theorem dX9_drops_75 : decode cX9_drops 75 = .ok (.iadd, 1) := by decide +kernel
theorem dX9_drops_76 : decode cX9_drops 76 = .ok (.aload_n 0, 1) := by decide +kernel
theorem dX9_drops_77 : decode cX9_drops 77 = .ok (.getfield 62, 3) := by decide +kernel
theorem dX9_drops_80 : decode cX9_drops 80 = .ok (.iload 5, 2) := by decide +kernel
theorem dX9_drops_82 : decode cX9_drops 82 = .ok (.iaload, 1) := by decide +kernel
theorem dX9_drops_83 : decode cX9_drops 83 = .ok (.aload_n 0, 1) := by decide +kernel
theorem dX9_drops_84 : decode cX9_drops 84 = .ok (.getfield 25, 3) := by decide +kernel
theorem dX9_drops_87 : decode cX9_drops 87 = .ok (.iload 5, 2) := by decide +kernel
theorem dX9_drops_89 : decode cX9_drops 89 = .ok (.iaload, 1) := by decide +kernel
theorem dX9_drops_90 : decode cX9_drops 90 = .ok (.invokevirtual 165, 3) := by decide +kernel
theorem dX9_drops_93 : decode cX9_drops 93 = .ok (.iinc 5 1, 3) := by decide +kernel
theorem dX9_drops_96 : decode cX9_drops 96 = .ok (.goto (-83), 3) := by decide +kernel
theorem dX9_drops_99 : decode cX9_drops 99 = .ok (.return_, 1) := by decide +kernel
theorem dX9_looks_0 : decode cX9_looks 0 = .ok (.iload_n 1, 1) := by decide +kernel
theorem dX9_looks_1 : decode cX9_looks 1 = .ok (.aload_n 0, 1) := by decide +kernel
theorem dX9_looks_2 : decode cX9_looks 2 = .ok (.getfield 152, 3) := by decide +kernel
theorem dX9_looks_5 : decode cX9_looks 5 = .ok (.if_icmp .lt 4, 3) := by decide +kernel
theorem dX9_looks_8 : decode cX9_looks 8 = .ok (.return_, 1) := by decide +kernel
theorem dX9_looks_9 : decode cX9_looks 9 = .ok (.iconst 0, 1) := by decide +kernel
theorem dX9_looks_10 : decode cX9_looks 10 = .ok (.istore_n 2, 1) := by decide +kernel
theorem dX9_looks_11 : decode cX9_looks 11 = .ok (.sipush 1440, 3) := by decide +kernel
theorem dX9_looks_14 : decode cX9_looks 14 = .ok (.iload_n 1, 1) := by decide +kernel
theorem dX9_looks_15 : decode cX9_looks 15 = .ok (.isub, 1) := by decide +kernel
theorem dX9_looks_16 : decode cX9_looks 16 = .ok (.istore_n 3, 1) := by decide +kernel
theorem dX9_looks_17 : decode cX9_looks 17 = .ok (.iconst 0, 1) := by decide +kernel
theorem dX9_looks_18 : decode cX9_looks 18 = .ok (.istore 4, 2) := by decide +kernel
theorem dX9_looks_20 : decode cX9_looks 20 = .ok (.iload 4, 2) := by decide +kernel
theorem dX9_looks_22 : decode cX9_looks 22 = .ok (.aload_n 0, 1) := by decide +kernel
theorem dX9_looks_23 : decode cX9_looks 23 = .ok (.getfield 158, 3) := by decide +kernel
theorem dX9_looks_26 : decode cX9_looks 26 = .ok (.if_icmp .ge 103, 3) := by decide +kernel
theorem dX9_looks_29 : decode cX9_looks 29 = .ok (.aload_n 0, 1) := by decide +kernel
theorem dX9_looks_30 : decode cX9_looks 30 = .ok (.getfield 53, 3) := by decide +kernel
theorem dX9_looks_33 : decode cX9_looks 33 = .ok (.iload 4, 2) := by decide +kernel
theorem dX9_looks_35 : decode cX9_looks 35 = .ok (.iaload, 1) := by decide +kernel
theorem dX9_looks_36 : decode cX9_looks 36 = .ok (.istore 5, 2) := by decide +kernel
theorem dX9_looks_38 : decode cX9_looks 38 = .ok (.aload_n 0, 1) := by decide +kernel
theorem dX9_looks_39 : decode cX9_looks 39 = .ok (.getfield 62, 3) := by decide +kernel
theorem dX9_looks_42 : decode cX9_looks 42 = .ok (.iload 5, 2) := by decide +kernel
theorem dX9_looks_44 : decode cX9_looks 44 = .ok (.iaload, 1) := by decide +kernel
theorem dX9_looks_45 : decode cX9_looks 45 = .ok (.aload_n 0, 1) := by decide +kernel
theorem dX9_looks_46 : decode cX9_looks 46 = .ok (.getfield 59, 3) := by decide +kernel
theorem dX9_looks_49 : decode cX9_looks 49 = .ok (.iload 5, 2) := by decide +kernel
theorem dX9_looks_51 : decode cX9_looks 51 = .ok (.iaload, 1) := by decide +kernel
theorem dX9_looks_52 : decode cX9_looks 52 = .ok (.isub, 1) := by decide +kernel
theorem dX9_looks_53 : decode cX9_looks 53 = .ok (.aload_n 0, 1) := by decide +kernel
theorem dX9_looks_54 : decode cX9_looks 54 = .ok (.aload_n 0, 1) := by decide +kernel
theorem dX9_looks_55 : decode cX9_looks 55 = .ok (.getfield 22, 3) := by decide +kernel
theorem dX9_looks_58 : decode cX9_looks 58 = .ok (.iload 5, 2) := by decide +kernel
theorem dX9_looks_60 : decode cX9_looks 60 = .ok (.iaload, 1) := by decide +kernel
theorem dX9_looks_61 : decode cX9_looks 61 = .ok (.aload_n 0, 1) := by decide +kernel
theorem dX9_looks_62 : decode cX9_looks 62 = .ok (.getfield 25, 3) := by decide +kernel
theorem dX9_looks_65 : decode cX9_looks 65 = .ok (.iload 5, 2) := by decide +kernel
theorem dX9_looks_67 : decode cX9_looks 67 = .ok (.iaload, 1) := by decide +kernel
theorem dX9_looks_68 : decode cX9_looks 68 = .ok (.invokevirtual 140, 3) := by decide +kernel
theorem dX9_looks_71 : decode cX9_looks 71 = .ok (.aload_n 0, 1) := by decide +kernel
theorem dX9_looks_72 : decode cX9_looks 72 = .ok (.getfield 34, 3) := by decide +kernel
theorem dX9_looks_75 : decode cX9_looks 75 = .ok (.iload 5, 2) := by decide +kernel
theorem dX9_looks_77 : decode cX9_looks 77 = .ok (.iaload, 1) := by decide +kernel
theorem dX9_looks_78 : decode cX9_looks 78 = .ok (.iadd, 1) := by decide +kernel
theorem dX9_looks_79 : decode cX9_looks 79 = .ok (.if_icmp .le 4, 3) := by decide +kernel
theorem dX9_looks_82 : decode cX9_looks 82 = .ok (.return_, 1) := by decide +kernel
theorem dX9_looks_83 : decode cX9_looks 83 = .ok (.iload_n 2, 1) := by decide +kernel
theorem dX9_looks_84 : decode cX9_looks 84 = .ok (.aload_n 0, 1) := by decide +kernel
theorem dX9_looks_85 : decode cX9_looks 85 = .ok (.getfield 28, 3) := by decide +kernel
theorem dX9_looks_88 : decode cX9_looks 88 = .ok (.iload 5, 2) := by decide +kernel
theorem dX9_looks_90 : decode cX9_looks 90 = .ok (.iaload, 1) := by decide +kernel
theorem dX9_looks_91 : decode cX9_looks 91 = .ok (.aload_n 0, 1) := by decide +kernel
theorem dX9_looks_92 : decode cX9_looks 92 = .ok (.getfield 59, 3) := by decide +kernel
theorem dX9_looks_95 : decode cX9_looks 95 = .ok (.iload 5, 2) := by decide +kernel
theorem dX9_looks_97 : decode cX9_looks 97 = .ok (.iaload, 1) := by decide +kernel
theorem dX9_looks_98 : decode cX9_looks 98 = .ok (.isub, 1) := by decide +kernel
theorem dX9_looks_99 : decode cX9_looks 99 = .ok (.invokestatic 172, 3) := by decide +kernel
theorem dX9_looks_102 : decode cX9_looks 102 = .ok (.istore_n 2, 1) := by decide +kernel
theorem dX9_looks_103 : decode cX9_looks 103 = .ok (.iload_n 3, 1) := by decide +kernel
theorem dX9_looks_104 : decode cX9_looks 104 = .ok (.aload_n 0, 1) := by decide +kernel
theorem dX9_looks_105 : decode cX9_looks 105 = .ok (.getfield 31, 3) := by decide +kernel
theorem dX9_looks_108 : decode cX9_looks 108 = .ok (.iload 5, 2) := by decide +kernel
theorem dX9_looks_110 : decode cX9_looks 110 = .ok (.iaload, 1) := by decide +kernel
theorem dX9_looks_111 : decode cX9_looks 111 = .ok (.aload_n 0, 1) := by decide +kernel
theorem dX9_looks_112 : decode cX9_looks 112 = .ok (.getfield 62, 3) := by decide +kernel
theorem dX9_looks_115 : decode cX9_looks 115 = .ok (.iload 5, 2) := by decide +kernel
theorem dX9_looks_117 : decode cX9_looks 117 = .ok (.iaload, 1) := by decide +kernel
theorem dX9_looks_118 : decode cX9_looks 118 = .ok (.isub, 1) := by decide +kernel
theorem dX9_looks_119 : decode cX9_looks 119 = .ok (.invokestatic 123, 3) := by decide +kernel
theorem dX9_looks_122 : decode cX9_looks 122 = .ok (.istore_n 3, 1) := by decide +kernel
theorem dX9_looks_123 : decode cX9_looks 123 = .ok (.iinc 4 1, 3) := by decide +kernel
theorem dX9_looks_126 : decode cX9_looks 126 = .ok (.goto (-106), 3) := by decide +kernel
theorem dX9_looks_129 : decode cX9_looks 129 = .ok (.iload_n 2, 1) := by decide +kernel
theorem dX9_looks_130 : decode cX9_looks 130 = .ok (.iload_n 3, 1) := by decide +kernel
theorem dX9_looks_131 : decode cX9_looks 131 = .ok (.if_icmp .le 4, 3) := by decide +kernel
theorem dX9_looks_134 : decode cX9_looks 134 = .ok (.return_, 1) := by decide +kernel
theorem dX9_looks_135 : decode cX9_looks 135 = .ok (.aload_n 0, 1) := by decide +kernel
theorem dX9_looks_136 : decode cX9_looks 136 = .ok (.iload_n 1, 1) := by decide +kernel
theorem dX9_looks_137 : decode cX9_looks 137 = .ok (.putfield 152, 3) := by decide +kernel
theorem dX9_looks_140 : decode cX9_looks 140 = .ok (.aload_n 0, 1) := by decide +kernel
theorem dX9_looks_141 : decode cX9_looks 141 = .ok (.iload_n 3, 1) := by decide +kernel
theorem dX9_looks_142 : decode cX9_looks 142 = .ok (.putfield 175, 3) := by decide +kernel
theorem dX9_looks_145 : decode cX9_looks 145 = .ok (.iconst 0, 1) := by decide +kernel
theorem dX9_looks_146 : decode cX9_looks 146 = .ok (.istore 4, 2) := by decide +kernel
theorem dX9_looks_148 : decode cX9_looks 148 = .ok (.iload 4, 2) := by decide +kernel
theorem dX9_looks_150 : decode cX9_looks 150 = .ok (.aload_n 0, 1) := by decide +kernel
theorem dX9_looks_151 : decode cX9_looks 151 = .ok (.getfield 158, 3) := by decide +kernel
theorem dX9_looks_154 : decode cX9_looks 154 = .ok (.if_icmp .ge 85, 3) := by decide +kernel
theorem dX9_looks_157 : decode cX9_looks 157 = .ok (.aload_n 0, 1) := by decide +kernel
theorem dX9_looks_158 : decode cX9_looks 158 = .ok (.getfield 65, 3) := by decide +kernel
theorem dX9_looks_161 : decode cX9_looks 161 = .ok (.iload 4, 2) := by decide +kernel
theorem dX9_looks_163 : decode cX9_looks 163 = .ok (.aload_n 0, 1) := by decide +kernel
theorem dX9_looks_164 : decode cX9_looks 164 = .ok (.getfield 53, 3) := by decide +kernel
theorem dX9_looks_167 : decode cX9_looks 167 = .ok (.iload 4, 2) := by decide +kernel
theorem dX9_looks_169 : decode cX9_looks 169 = .ok (.iaload, 1) := by decide +kernel
theorem dX9_looks_170 : decode cX9_looks 170 = .ok (.iastore, 1) := by decide +kernel
theorem dX9_looks_171 : decode cX9_looks 171 = .ok (.aload_n 0, 1) := by decide +kernel
theorem dX9_looks_172 : decode cX9_looks 172 = .ok (.getfield 68, 3) := by decide +kernel
theorem dX9_looks_175 : decode cX9_looks 175 = .ok (.iload 4, 2) := by decide +kernel
theorem dX9_looks_177 : decode cX9_looks 177 = .ok (.aload_n 0, 1) := by decide +kernel
theorem dX9_looks_178 : decode cX9_looks 178 = .ok (.getfield 56, 3) := by decide +kernel
theorem dX9_looks_181 : decode cX9_looks 181 = .ok (.iload 4, 2) := by decide +kernel
theorem dX9_looks_183 : decode cX9_looks 183 = .ok (.iaload, 1) := by decide +kernel
theorem dX9_looks_184 : decode cX9_looks 184 = .ok (.iastore, 1) := by decide +kernel
theorem dX9_looks_185 : decode cX9_looks 185 = .ok (.aload_n 0, 1) := by decide +kernel
theorem dX9_looks_186 : decode cX9_looks 186 = .ok (.getfield 71, 3) := by decide +kernel
theorem dX9_looks_189 : decode cX9_looks 189 = .ok (.aload_n 0, 1) := by decide +kernel
theorem dX9_looks_190 : decode cX9_looks 190 = .ok (.getfield 53, 3) := by decide +kernel
theorem dX9_looks_193 : decode cX9_looks 193 = .ok (.iload 4, 2) := by decide +kernel
theorem dX9_looks_195 : decode cX9_looks 195 = .ok (.iaload, 1) := by decide +kernel
theorem dX9_looks_196 : decode cX9_looks 196 = .ok (.aload_n 0, 1) := by decide +kernel
theorem dX9_looks_197 : decode cX9_looks 197 = .ok (.getfield 59, 3) := by decide +kernel
theorem dX9_looks_200 : decode cX9_looks 200 = .ok (.aload_n 0, 1) := by decide +kernel
theorem dX9_looks_201 : decode cX9_looks 201 = .ok (.getfield 53, 3) := by decide +kernel
theorem dX9_looks_204 : decode cX9_looks 204 = .ok (.iload 4, 2) := by decide +kernel
theorem dX9_looks_206 : decode cX9_looks 206 = .ok (.iaload, 1) := by decide +kernel
theorem dX9_looks_207 : decode cX9_looks 207 = .ok (.iaload, 1) := by decide +kernel
theorem dX9_looks_208 : decode cX9_looks 208 = .ok (.iastore, 1) := by decide +kernel
theorem dX9_looks_209 : decode cX9_looks 209 = .ok (.aload_n 0, 1) := by decide +kernel
theorem dX9_looks_210 : decode cX9_looks 210 = .ok (.getfield 74, 3) := by decide +kernel
theorem dX9_looks_213 : decode cX9_looks 213 = .ok (.aload_n 0, 1) := by decide +kernel
theorem dX9_looks_214 : decode cX9_looks 214 = .ok (.getfield 53, 3) := by decide +kernel
theorem dX9_looks_217 : decode cX9_looks 217 = .ok (.iload 4, 2) := by decide +kernel
theorem dX9_looks_219 : decode cX9_looks 219 = .ok (.iaload, 1) := by decide +kernel
theorem dX9_looks_220 : decode cX9_looks 220 = .ok (.aload_n 0, 1) := by decide +kernel
theorem dX9_looks_221 : decode cX9_looks 221 = .ok (.getfield 62, 3) := by decide +kernel
theorem dX9_looks_224 : decode cX9_looks 224 = .ok (.aload_n 0, 1) := by decide +kernel
theorem dX9_looks_225 : decode cX9_looks 225 = .ok (.getfield 53, 3) := by decide +kernel
theorem dX9_looks_228 : decode cX9_looks 228 = .ok (.iload 4, 2) := by decide +kernel
theorem dX9_looks_230 : decode cX9_looks 230 = .ok (.iaload, 1) := by decide +kernel
theorem dX9_looks_231 : decode cX9_looks 231 = .ok (.iaload, 1) := by decide +kernel
theorem dX9_looks_232 : decode cX9_looks 232 = .ok (.iastore, 1) := by decide +kernel
theorem dX9_looks_233 : decode cX9_looks 233 = .ok (.iinc 4 1, 3) := by decide +kernel
theorem dX9_looks_236 : decode cX9_looks 236 = .ok (.goto (-88), 3) := by decide +kernel
theorem dX9_looks_239 : decode cX9_looks 239 = .ok (.return_, 1) := by decide +kernel
theorem dX9_isSet_0 : decode cX9_isSet 0 = .ok (.iload_n 1, 1) := by decide +kernel
theorem dX9_isSet_1 : decode cX9_isSet 1 = .ok (.ifCond .le 25, 3) := by decide +kernel
theorem dX9_isSet_4 : decode cX9_isSet 4 = .ok (.iload_n 1, 1) := by decide +kernel
theorem dX9_isSet_5 : decode cX9_isSet 5 = .ok (.iconst 1, 1) := by decide +kernel
theorem dX9_isSet_6 : decode cX9_isSet 6 = .ok (.aload_n 0, 1) := by decide +kernel
theorem dX9_isSet_7 : decode cX9_isSet 7 = .ok (.getfield 143, 3) := by decide +kernel
theorem dX9_isSet_10 : decode cX9_isSet 10 = .ok (.ishl, 1) := by decide +kernel
theorem dX9_isSet_11 : decode cX9_isSet 11 = .ok (.if_icmp .ge 15, 3) := by decide +kernel
theorem dX9_isSet_14 : decode cX9_isSet 14 = .ok (.iload_n 1, 1) := by decide +kernel
theorem dX9_isSet_15 : decode cX9_isSet 15 = .ok (.invokestatic 155, 3) := by decide +kernel
theorem dX9_isSet_18 : decode cX9_isSet 18 = .ok (.iconst 4, 1) := by decide +kernel
theorem dX9_isSet_19 : decode cX9_isSet 19 = .ok (.if_icmp .gt 7, 3) := by decide +kernel
theorem dX9_isSet_22 : decode cX9_isSet 22 = .ok (.iconst 1, 1) := by decide +kernel
theorem dX9_isSet_23 : decode cX9_isSet 23 = .ok (.goto 4, 3) := by decide +kernel
theorem dX9_isSet_26 : decode cX9_isSet 26 = .ok (.iconst 0, 1) := by decide +kernel
theorem dX9_isSet_27 : decode cX9_isSet 27 = .ok (.ireturn, 1) := by decide +kernel
theorem dX9_hasAway_0 : decode cX9_hasAway 0 = .ok (.iconst 0, 1) := by decide +kernel
theorem dX9_hasAway_1 : decode cX9_hasAway 1 = .ok (.istore_n 2, 1) := by decide +kernel
theorem dX9_hasAway_2 : decode cX9_hasAway 2 = .ok (.iconst 0, 1) := by decide +kernel
theorem dX9_hasAway_3 : decode cX9_hasAway 3 = .ok (.istore_n 3, 1) := by decide +kernel
theorem dX9_hasAway_4 : decode cX9_hasAway 4 = .ok (.iload_n 3, 1) := by decide +kernel
theorem dX9_hasAway_5 : decode cX9_hasAway 5 = .ok (.aload_n 0, 1) := by decide +kernel
theorem dX9_hasAway_6 : decode cX9_hasAway 6 = .ok (.getfield 143, 3) := by decide +kernel
theorem dX9_hasAway_9 : decode cX9_hasAway 9 = .ok (.if_icmp .ge 37, 3) := by decide +kernel
theorem dX9_hasAway_12 : decode cX9_hasAway 12 = .ok (.iload_n 2, 1) := by decide +kernel
theorem dX9_hasAway_13 : decode cX9_hasAway 13 = .ok (.ifCond .ne 33, 3) := by decide +kernel
theorem dX9_hasAway_16 : decode cX9_hasAway 16 = .ok (.iload_n 1, 1) := by decide +kernel
theorem dX9_hasAway_17 : decode cX9_hasAway 17 = .ok (.iload_n 3, 1) := by decide +kernel
theorem dX9_hasAway_18 : decode cX9_hasAway 18 = .ok (.ishr, 1) := by decide +kernel
theorem dX9_hasAway_19 : decode cX9_hasAway 19 = .ok (.iconst 1, 1) := by decide +kernel
theorem dX9_hasAway_20 : decode cX9_hasAway 20 = .ok (.iand, 1) := by decide +kernel
theorem dX9_hasAway_21 : decode cX9_hasAway 21 = .ok (.iconst 1, 1) := by decide +kernel
theorem dX9_hasAway_22 : decode cX9_hasAway 22 = .ok (.if_icmp .ne 16, 3) := by decide +kernel
theorem dX9_hasAway_25 : decode cX9_hasAway 25 = .ok (.aload_n 0, 1) := by decide +kernel
theorem dX9_hasAway_26 : decode cX9_hasAway 26 = .ok (.getfield 46, 3) := by decide +kernel
theorem dX9_hasAway_29 : decode cX9_hasAway 29 = .ok (.iload_n 3, 1) := by decide +kernel
theorem dX9_hasAway_30 : decode cX9_hasAway 30 = .ok (.baload, 1) := by decide +kernel
theorem dX9_hasAway_31 : decode cX9_hasAway 31 = .ok (.ifCond .eq 7, 3) := by decide +kernel
theorem dX9_hasAway_34 : decode cX9_hasAway 34 = .ok (.iconst 1, 1) := by decide +kernel
theorem dX9_hasAway_35 : decode cX9_hasAway 35 = .ok (.goto 4, 3) := by decide +kernel
theorem dX9_hasAway_38 : decode cX9_hasAway 38 = .ok (.iconst 0, 1) := by decide +kernel
theorem dX9_hasAway_39 : decode cX9_hasAway 39 = .ok (.istore_n 2, 1) := by decide +kernel
theorem dX9_hasAway_40 : decode cX9_hasAway 40 = .ok (.iinc 3 1, 3) := by decide +kernel
theorem dX9_hasAway_43 : decode cX9_hasAway 43 = .ok (.goto (-39), 3) := by decide +kernel
theorem dX9_hasAway_46 : decode cX9_hasAway 46 = .ok (.iload_n 2, 1) := by decide +kernel
theorem dX9_hasAway_47 : decode cX9_hasAway 47 = .ok (.ireturn, 1) := by decide +kernel
theorem dX9_wrong_0 : decode cX9_wrong 0 = .ok (.aload_n 0, 1) := by decide +kernel
theorem dX9_wrong_1 : decode cX9_wrong 1 = .ok (.iload_n 1, 1) := by decide +kernel
theorem dX9_wrong_2 : decode cX9_wrong 2 = .ok (.invokevirtual 178, 3) := by decide +kernel
theorem dX9_wrong_5 : decode cX9_wrong 5 = .ok (.ifCond .eq 19, 3) := by decide +kernel
theorem dX9_wrong_8 : decode cX9_wrong 8 = .ok (.aload_n 0, 1) := by decide +kernel
theorem dX9_wrong_9 : decode cX9_wrong 9 = .ok (.iload_n 2, 1) := by decide +kernel
theorem dX9_wrong_10 : decode cX9_wrong 10 = .ok (.invokevirtual 147, 3) := by decide +kernel
theorem dX9_wrong_13 : decode cX9_wrong 13 = .ok (.ifCond .eq 11, 3) := by decide +kernel
theorem dX9_wrong_16 : decode cX9_wrong 16 = .ok (.iload_n 1, 1) := by decide +kernel
theorem dX9_wrong_17 : decode cX9_wrong 17 = .ok (.iload_n 2, 1) := by decide +kernel
theorem dX9_wrong_18 : decode cX9_wrong 18 = .ok (.ishr, 1) := by decide +kernel
theorem dX9_wrong_19 : decode cX9_wrong 19 = .ok (.iconst 1, 1) := by decide +kernel
theorem dX9_wrong_20 : decode cX9_wrong 20 = .ok (.iand, 1) := by decide +kernel
theorem dX9_wrong_21 : decode cX9_wrong 21 = .ok (.ifCond .ne 5, 3) := by decide +kernel
theorem dX9_wrong_24 : decode cX9_wrong 24 = .ok (.iconst (-1), 1) := by decide +kernel
theorem dX9_wrong_25 : decode cX9_wrong 25 = .ok (.ireturn, 1) := by decide +kernel
theorem dX9_wrong_26 : decode cX9_wrong 26 = .ok (.aload_n 0, 1) := by decide +kernel
theorem dX9_wrong_27 : decode cX9_wrong 27 = .ok (.iload_n 1, 1) := by decide +kernel
theorem dX9_wrong_28 : decode cX9_wrong 28 = .ok (.invokevirtual 181, 3) := by decide +kernel
theorem dX9_wrong_31 : decode cX9_wrong 31 = .ok (.ifCond .eq 8, 3) := by decide +kernel
theorem dX9_wrong_34 : decode cX9_wrong 34 = .ok (.bipush (-3), 2) := by decide +kernel
theorem dX9_wrong_36 : decode cX9_wrong 36 = .ok (.goto 4, 3) := by decide +kernel
theorem dX9_wrong_39 : decode cX9_wrong 39 = .ok (.iconst 0, 1) := by decide +kernel
theorem dX9_wrong_40 : decode cX9_wrong 40 = .ok (.ireturn, 1) := by decide +kernel
theorem dX9_fits_0 : decode cX9_fits 0 = .ok (.aload_n 0, 1) := by decide +kernel
theorem dX9_fits_1 : decode cX9_fits 1 = .ok (.iload_n 1, 1) := by decide +kernel
theorem dX9_fits_2 : decode cX9_fits 2 = .ok (.iload_n 2, 1) := by decide +kernel
theorem dX9_fits_3 : decode cX9_fits 3 = .ok (.invokevirtual 184, 3) := by decide +kernel
theorem dX9_fits_6 : decode cX9_fits 6 = .ok (.istore_n 3, 1) := by decide +kernel
theorem dX9_fits_7 : decode cX9_fits 7 = .ok (.iload_n 3, 1) := by decide +kernel
theorem dX9_fits_8 : decode cX9_fits 8 = .ok (.ifCond .eq 9, 3) := by decide +kernel
theorem dX9_fits_11 : decode cX9_fits 11 = .ok (.aload_n 0, 1) := by decide +kernel
theorem dX9_fits_12 : decode cX9_fits 12 = .ok (.iload_n 3, 1) := by decide +kernel
theorem dX9_fits_13 : decode cX9_fits 13 = .ok (.invokevirtual 136, 3) := by decide +kernel
theorem dX9_fits_16 : decode cX9_fits 16 = .ok (.ireturn, 1) := by decide +kernel
theorem dX9_fits_17 : decode cX9_fits 17 = .ok (.aload_n 0, 1) := by decide +kernel
theorem dX9_fits_18 : decode cX9_fits 18 = .ok (.iload_n 1, 1) := by decide +kernel
theorem dX9_fits_19 : decode cX9_fits 19 = .ok (.iload_n 2, 1) := by decide +kernel
theorem dX9_fits_20 : decode cX9_fits 20 = .ok (.invokevirtual 187, 3) := by decide +kernel
theorem dX9_fits_23 : decode cX9_fits 23 = .ok (.ifCond .ne 10, 3) := by decide +kernel
theorem dX9_fits_26 : decode cX9_fits 26 = .ok (.aload_n 0, 1) := by decide +kernel
theorem dX9_fits_27 : decode cX9_fits 27 = .ok (.getfield 152, 3) := by decide +kernel
theorem dX9_fits_30 : decode cX9_fits 30 = .ok (.goto 5, 3) := by decide +kernel
theorem dX9_fits_33 : decode cX9_fits 33 = .ok (.bipush (-9), 2) := by decide +kernel
theorem dX9_fits_35 : decode cX9_fits 35 = .ok (.ireturn, 1) := by decide +kernel
theorem dX9_why_0 : decode cX9_why 0 = .ok (.aload_n 0, 1) := by decide +kernel
theorem dX9_why_1 : decode cX9_why 1 = .ok (.iload_n 1, 1) := by decide +kernel
theorem dX9_why_2 : decode cX9_why 2 = .ok (.iload_n 2, 1) := by decide +kernel
theorem dX9_why_3 : decode cX9_why 3 = .ok (.invokevirtual 184, 3) := by decide +kernel
theorem dX9_why_6 : decode cX9_why 6 = .ok (.istore_n 3, 1) := by decide +kernel
theorem dX9_why_7 : decode cX9_why 7 = .ok (.iload_n 3, 1) := by decide +kernel
theorem dX9_why_8 : decode cX9_why 8 = .ok (.ifCond .eq 11, 3) := by decide +kernel
theorem dX9_why_11 : decode cX9_why 11 = .ok (.aload_n 0, 1) := by decide +kernel
theorem dX9_why_12 : decode cX9_why 12 = .ok (.iload_n 3, 1) := by decide +kernel
theorem dX9_why_13 : decode cX9_why 13 = .ok (.invokevirtual 136, 3) := by decide +kernel
theorem dX9_why_16 : decode cX9_why 16 = .ok (.goto 9, 3) := by decide +kernel
theorem dX9_why_19 : decode cX9_why 19 = .ok (.aload_n 0, 1) := by decide +kernel
theorem dX9_why_20 : decode cX9_why 20 = .ok (.iload_n 1, 1) := by decide +kernel
theorem dX9_why_21 : decode cX9_why 21 = .ok (.iload_n 2, 1) := by decide +kernel
theorem dX9_why_22 : decode cX9_why 22 = .ok (.invokevirtual 187, 3) := by decide +kernel
theorem dX9_why_25 : decode cX9_why 25 = .ok (.ireturn, 1) := by decide +kernel
theorem dX9_way_0 : decode cX9_way 0 = .ok (.aload_n 0, 1) := by decide +kernel
theorem dX9_way_1 : decode cX9_way 1 = .ok (.iload_n 1, 1) := by decide +kernel
theorem dX9_way_2 : decode cX9_way 2 = .ok (.iload_n 2, 1) := by decide +kernel
theorem dX9_way_3 : decode cX9_way 3 = .ok (.invokevirtual 184, 3) := by decide +kernel
theorem dX9_way_6 : decode cX9_way 6 = .ok (.istore 4, 2) := by decide +kernel
theorem dX9_way_8 : decode cX9_way 8 = .ok (.iload 4, 2) := by decide +kernel
theorem dX9_way_10 : decode cX9_way 10 = .ok (.ifCond .eq 10, 3) := by decide +kernel
theorem dX9_way_13 : decode cX9_way 13 = .ok (.aload_n 0, 1) := by decide +kernel
theorem dX9_way_14 : decode cX9_way 14 = .ok (.iload 4, 2) := by decide +kernel
theorem dX9_way_16 : decode cX9_way 16 = .ok (.invokevirtual 136, 3) := by decide +kernel
theorem dX9_way_19 : decode cX9_way 19 = .ok (.ireturn, 1) := by decide +kernel
theorem dX9_way_20 : decode cX9_way 20 = .ok (.aload_n 0, 1) := by decide +kernel
theorem dX9_way_21 : decode cX9_way 21 = .ok (.iload_n 1, 1) := by decide +kernel
theorem dX9_way_22 : decode cX9_way 22 = .ok (.iload_n 2, 1) := by decide +kernel
theorem dX9_way_23 : decode cX9_way 23 = .ok (.invokevirtual 187, 3) := by decide +kernel
theorem dX9_way_26 : decode cX9_way 26 = .ok (.ifCond .eq 6, 3) := by decide +kernel
theorem dX9_way_29 : decode cX9_way 29 = .ok (.bipush (-9), 2) := by decide +kernel
theorem dX9_way_31 : decode cX9_way 31 = .ok (.ireturn, 1) := by decide +kernel
theorem dX9_way_32 : decode cX9_way 32 = .ok (.iload_n 3, 1) := by decide +kernel
theorem dX9_way_33 : decode cX9_way 33 = .ok (.ifCond .ne 8, 3) := by decide +kernel
theorem dX9_way_36 : decode cX9_way 36 = .ok (.aload_n 0, 1) := by decide +kernel
theorem dX9_way_37 : decode cX9_way 37 = .ok (.getfield 175, 3) := by decide +kernel
theorem dX9_way_40 : decode cX9_way 40 = .ok (.ireturn, 1) := by decide +kernel
theorem dX9_way_41 : decode cX9_way 41 = .ok (.iload_n 3, 1) := by decide +kernel
theorem dX9_way_42 : decode cX9_way 42 = .ok (.iconst 1, 1) := by decide +kernel
theorem dX9_way_43 : decode cX9_way 43 = .ok (.if_icmp .ne 13, 3) := by decide +kernel
theorem dX9_way_46 : decode cX9_way 46 = .ok (.aload_n 0, 1) := by decide +kernel
theorem dX9_way_47 : decode cX9_way 47 = .ok (.getfield 175, 3) := by decide +kernel
theorem dX9_way_50 : decode cX9_way 50 = .ok (.aload_n 0, 1) := by decide +kernel
theorem dX9_way_51 : decode cX9_way 51 = .ok (.getfield 152, 3) := by decide +kernel
theorem dX9_way_54 : decode cX9_way 54 = .ok (.iadd, 1) := by decide +kernel
theorem dX9_way_55 : decode cX9_way 55 = .ok (.ireturn, 1) := by decide +kernel
theorem dX9_way_56 : decode cX9_way 56 = .ok (.iload_n 3, 1) := by decide +kernel
theorem dX9_way_57 : decode cX9_way 57 = .ok (.iconst 2, 1) := by decide +kernel
theorem dX9_way_58 : decode cX9_way 58 = .ok (.isub, 1) := by decide +kernel
theorem dX9_way_59 : decode cX9_way 59 = .ok (.aload_n 0, 1) := by decide +kernel
theorem dX9_way_60 : decode cX9_way 60 = .ok (.getfield 158, 3) := by decide +kernel
theorem dX9_way_63 : decode cX9_way 63 = .ok (.invokestatic 132, 3) := by decide +kernel
theorem dX9_way_66 : decode cX9_way 66 = .ok (.ifCond .eq 12, 3) := by decide +kernel
theorem dX9_way_69 : decode cX9_way 69 = .ok (.aload_n 0, 1) := by decide +kernel
theorem dX9_way_70 : decode cX9_way 70 = .ok (.getfield 65, 3) := by decide +kernel
theorem dX9_way_73 : decode cX9_way 73 = .ok (.iload_n 3, 1) := by decide +kernel
theorem dX9_way_74 : decode cX9_way 74 = .ok (.iconst 2, 1) := by decide +kernel
theorem dX9_way_75 : decode cX9_way 75 = .ok (.isub, 1) := by decide +kernel
theorem dX9_way_76 : decode cX9_way 76 = .ok (.iaload, 1) := by decide +kernel
theorem dX9_way_77 : decode cX9_way 77 = .ok (.ireturn, 1) := by decide +kernel
theorem dX9_way_78 : decode cX9_way 78 = .ok (.iload_n 3, 1) := by decide +kernel
theorem dX9_way_79 : decode cX9_way 79 = .ok (.bipush 11, 2) := by decide +kernel
theorem dX9_way_81 : decode cX9_way 81 = .ok (.if_icmp .le 29, 3) := by decide +kernel
theorem dX9_way_84 : decode cX9_way 84 = .ok (.iload_n 3, 1) := by decide +kernel
theorem dX9_way_85 : decode cX9_way 85 = .ok (.bipush 12, 2) := by decide +kernel
theorem dX9_way_87 : decode cX9_way 87 = .ok (.isub, 1) := by decide +kernel
theorem dX9_way_88 : decode cX9_way 88 = .ok (.aload_n 0, 1) := by decide +kernel
theorem dX9_way_89 : decode cX9_way 89 = .ok (.getfield 158, 3) := by decide +kernel
theorem dX9_way_92 : decode cX9_way 92 = .ok (.invokestatic 132, 3) := by decide +kernel
theorem dX9_way_95 : decode cX9_way 95 = .ok (.ifCond .eq 15, 3) := by decide +kernel
theorem dX9_way_98 : decode cX9_way 98 = .ok (.aload_n 0, 1) := by decide +kernel
theorem dX9_way_99 : decode cX9_way 99 = .ok (.getfield 68, 3) := by decide +kernel
theorem dX9_way_102 : decode cX9_way 102 = .ok (.iload_n 3, 1) := by decide +kernel
theorem dX9_way_103 : decode cX9_way 103 = .ok (.bipush 12, 2) := by decide +kernel
theorem dX9_way_105 : decode cX9_way 105 = .ok (.isub, 1) := by decide +kernel
theorem dX9_way_106 : decode cX9_way 106 = .ok (.iaload, 1) := by decide +kernel
theorem dX9_way_107 : decode cX9_way 107 = .ok (.goto 5, 3) := by decide +kernel
theorem dX9_way_110 : decode cX9_way 110 = .ok (.bipush (-9), 2) := by decide +kernel
theorem dX9_way_112 : decode cX9_way 112 = .ok (.ireturn, 1) := by decide +kernel
theorem dX9_know_0 : decode cX9_know 0 = .ok (.aload_n 0, 1) := by decide +kernel
theorem dX9_know_1 : decode cX9_know 1 = .ok (.getfield 119, 3) := by decide +kernel
theorem dX9_know_4 : decode cX9_know 4 = .ok (.ifCond .eq 4, 3) := by decide +kernel
theorem dX9_know_7 : decode cX9_know 7 = .ok (.return_, 1) := by decide +kernel
theorem dX9_know_8 : decode cX9_know 8 = .ok (.aload_n 0, 1) := by decide +kernel
theorem dX9_know_9 : decode cX9_know 9 = .ok (.iconst 1, 1) := by decide +kernel
theorem dX9_know_10 : decode cX9_know 10 = .ok (.putfield 119, 3) := by decide +kernel
theorem dX9_know_13 : decode cX9_know 13 = .ok (.iconst 1, 1) := by decide +kernel
theorem dX9_know_14 : decode cX9_know 14 = .ok (.istore_n 1, 1) := by decide +kernel
theorem dX9_know_15 : decode cX9_know 15 = .ok (.iload_n 1, 1) := by decide +kernel
theorem dX9_know_16 : decode cX9_know 16 = .ok (.iconst 1, 1) := by decide +kernel
theorem dX9_know_17 : decode cX9_know 17 = .ok (.aload_n 0, 1) := by decide +kernel
theorem dX9_know_18 : decode cX9_know 18 = .ok (.getfield 143, 3) := by decide +kernel
theorem dX9_know_21 : decode cX9_know 21 = .ok (.ishl, 1) := by decide +kernel
theorem dX9_know_22 : decode cX9_know 22 = .ok (.if_icmp .ge 132, 3) := by decide +kernel
theorem dX9_know_25 : decode cX9_know 25 = .ok (.aload_n 0, 1) := by decide +kernel
theorem dX9_know_26 : decode cX9_know 26 = .ok (.getfield 77, 3) := by decide +kernel
theorem dX9_know_29 : decode cX9_know 29 = .ok (.iload_n 1, 1) := by decide +kernel
theorem dX9_know_30 : decode cX9_know 30 = .ok (.ldc 151, 2) := by decide +kernel
theorem dX9_know_32 : decode cX9_know 32 = .ok (.iastore, 1) := by decide +kernel
theorem dX9_know_33 : decode cX9_know 33 = .ok (.aload_n 0, 1) := by decide +kernel
theorem dX9_know_34 : decode cX9_know 34 = .ok (.getfield 80, 3) := by decide +kernel
theorem dX9_know_37 : decode cX9_know 37 = .ok (.iload_n 1, 1) := by decide +kernel
theorem dX9_know_38 : decode cX9_know 38 = .ok (.bipush (-9), 2) := by decide +kernel
theorem dX9_know_40 : decode cX9_know 40 = .ok (.iastore, 1) := by decide +kernel
theorem dX9_know_41 : decode cX9_know 41 = .ok (.aload_n 0, 1) := by decide +kernel
theorem dX9_know_42 : decode cX9_know 42 = .ok (.getfield 83, 3) := by decide +kernel
theorem dX9_know_45 : decode cX9_know 45 = .ok (.iload_n 1, 1) := by decide +kernel
theorem dX9_know_46 : decode cX9_know 46 = .ok (.iconst 0, 1) := by decide +kernel
theorem dX9_know_47 : decode cX9_know 47 = .ok (.iastore, 1) := by decide +kernel
theorem dX9_know_48 : decode cX9_know 48 = .ok (.aload_n 0, 1) := by decide +kernel
theorem dX9_know_49 : decode cX9_know 49 = .ok (.iload_n 1, 1) := by decide +kernel
theorem dX9_know_50 : decode cX9_know 50 = .ok (.invokevirtual 178, 3) := by decide +kernel
theorem dX9_know_53 : decode cX9_know 53 = .ok (.ifCond .eq 95, 3) := by decide +kernel
theorem dX9_know_56 : decode cX9_know 56 = .ok (.aload_n 0, 1) := by decide +kernel
theorem dX9_know_57 : decode cX9_know 57 = .ok (.iload_n 1, 1) := by decide +kernel
theorem dX9_know_58 : decode cX9_know 58 = .ok (.invokevirtual 181, 3) := by decide +kernel
theorem dX9_know_61 : decode cX9_know 61 = .ok (.ifCond .eq 6, 3) := by decide +kernel
theorem dX9_know_64 : decode cX9_know 64 = .ok (.goto 84, 3) := by decide +kernel
theorem dX9_know_67 : decode cX9_know 67 = .ok (.iconst 0, 1) := by decide +kernel
theorem dX9_know_68 : decode cX9_know 68 = .ok (.istore_n 2, 1) := by decide +kernel
theorem dX9_know_69 : decode cX9_know 69 = .ok (.iload_n 2, 1) := by decide +kernel
theorem dX9_know_70 : decode cX9_know 70 = .ok (.aload_n 0, 1) := by decide +kernel
theorem dX9_know_71 : decode cX9_know 71 = .ok (.getfield 143, 3) := by decide +kernel
theorem dX9_know_74 : decode cX9_know 74 = .ok (.if_icmp .ge 74, 3) := by decide +kernel
theorem dX9_know_77 : decode cX9_know 77 = .ok (.iload_n 1, 1) := by decide +kernel
theorem dX9_know_78 : decode cX9_know 78 = .ok (.iload_n 2, 1) := by decide +kernel
theorem dX9_know_79 : decode cX9_know 79 = .ok (.ishr, 1) := by decide +kernel
theorem dX9_know_80 : decode cX9_know 80 = .ok (.iconst 1, 1) := by decide +kernel
theorem dX9_know_81 : decode cX9_know 81 = .ok (.iand, 1) := by decide +kernel
theorem dX9_know_82 : decode cX9_know 82 = .ok (.ifCond .eq 60, 3) := by decide +kernel
theorem dX9_know_85 : decode cX9_know 85 = .ok (.aload_n 0, 1) := by decide +kernel
theorem dX9_know_86 : decode cX9_know 86 = .ok (.iload_n 1, 1) := by decide +kernel
theorem dX9_know_87 : decode cX9_know 87 = .ok (.iload_n 2, 1) := by decide +kernel
theorem dX9_know_88 : decode cX9_know 88 = .ok (.invokevirtual 187, 3) := by decide +kernel
theorem dX9_know_91 : decode cX9_know 91 = .ok (.ifCond .eq 6, 3) := by decide +kernel
theorem dX9_know_94 : decode cX9_know 94 = .ok (.goto 48, 3) := by decide +kernel
theorem dX9_know_97 : decode cX9_know 97 = .ok (.aload_n 0, 1) := by decide +kernel
theorem dX9_know_98 : decode cX9_know 98 = .ok (.getfield 83, 3) := by decide +kernel
theorem dX9_know_101 : decode cX9_know 101 = .ok (.iload_n 1, 1) := by decide +kernel
theorem dX9_know_102 : decode cX9_know 102 = .ok (.dup2, 1) := by decide +kernel
theorem dX9_know_103 : decode cX9_know 103 = .ok (.iaload, 1) := by decide +kernel
theorem dX9_know_104 : decode cX9_know 104 = .ok (.iconst 1, 1) := by decide +kernel
theorem dX9_know_105 : decode cX9_know 105 = .ok (.iload_n 2, 1) := by decide +kernel
theorem dX9_know_106 : decode cX9_know 106 = .ok (.ishl, 1) := by decide +kernel
theorem dX9_know_107 : decode cX9_know 107 = .ok (.ior, 1) := by decide +kernel
theorem dX9_know_108 : decode cX9_know 108 = .ok (.iastore, 1) := by decide +kernel
theorem dX9_know_109 : decode cX9_know 109 = .ok (.aload_n 0, 1) := by decide +kernel
theorem dX9_know_110 : decode cX9_know 110 = .ok (.getfield 152, 3) := by decide +kernel
theorem dX9_know_113 : decode cX9_know 113 = .ok (.aload_n 0, 1) := by decide +kernel
theorem dX9_know_114 : decode cX9_know 114 = .ok (.getfield 77, 3) := by decide +kernel
theorem dX9_know_117 : decode cX9_know 117 = .ok (.iload_n 1, 1) := by decide +kernel
theorem dX9_know_118 : decode cX9_know 118 = .ok (.iaload, 1) := by decide +kernel
theorem dX9_know_119 : decode cX9_know 119 = .ok (.if_icmp .lt 6, 3) := by decide +kernel
theorem dX9_know_122 : decode cX9_know 122 = .ok (.goto 20, 3) := by decide +kernel
theorem dX9_know_125 : decode cX9_know 125 = .ok (.aload_n 0, 1) := by decide +kernel
theorem dX9_know_126 : decode cX9_know 126 = .ok (.getfield 77, 3) := by decide +kernel
theorem dX9_know_129 : decode cX9_know 129 = .ok (.iload_n 1, 1) := by decide +kernel
theorem dX9_know_130 : decode cX9_know 130 = .ok (.aload_n 0, 1) := by decide +kernel
theorem dX9_know_131 : decode cX9_know 131 = .ok (.getfield 152, 3) := by decide +kernel
theorem dX9_know_134 : decode cX9_know 134 = .ok (.iastore, 1) := by decide +kernel
theorem dX9_know_135 : decode cX9_know 135 = .ok (.aload_n 0, 1) := by decide +kernel
theorem dX9_know_136 : decode cX9_know 136 = .ok (.getfield 80, 3) := by decide +kernel
theorem dX9_know_139 : decode cX9_know 139 = .ok (.iload_n 1, 1) := by decide +kernel
theorem dX9_know_140 : decode cX9_know 140 = .ok (.iload_n 2, 1) := by decide +kernel
theorem dX9_know_141 : decode cX9_know 141 = .ok (.iastore, 1) := by decide +kernel
theorem dX9_know_142 : decode cX9_know 142 = .ok (.iinc 2 1, 3) := by decide +kernel
theorem dX9_know_145 : decode cX9_know 145 = .ok (.goto (-76), 3) := by decide +kernel
theorem dX9_know_148 : decode cX9_know 148 = .ok (.iinc 1 1, 3) := by decide +kernel
theorem dX9_know_151 : decode cX9_know 151 = .ok (.goto (-136), 3) := by decide +kernel
theorem dX9_know_154 : decode cX9_know 154 = .ok (.return_, 1) := by decide +kernel
theorem dX9_wrongSet_0 : decode cX9_wrongSet 0 = .ok (.aload_n 0, 1) := by decide +kernel
theorem dX9_wrongSet_1 : decode cX9_wrongSet 1 = .ok (.iload_n 1, 1) := by decide +kernel
theorem dX9_wrongSet_2 : decode cX9_wrongSet 2 = .ok (.invokevirtual 178, 3) := by decide +kernel
theorem dX9_wrongSet_5 : decode cX9_wrongSet 5 = .ok (.ifCond .ne 7, 3) := by decide +kernel
theorem dX9_wrongSet_8 : decode cX9_wrongSet 8 = .ok (.iconst (-1), 1) := by decide +kernel
theorem dX9_wrongSet_9 : decode cX9_wrongSet 9 = .ok (.goto 17, 3) := by decide +kernel
theorem dX9_wrongSet_12 : decode cX9_wrongSet 12 = .ok (.aload_n 0, 1) := by decide +kernel
theorem dX9_wrongSet_13 : decode cX9_wrongSet 13 = .ok (.iload_n 1, 1) := by decide +kernel
theorem dX9_wrongSet_14 : decode cX9_wrongSet 14 = .ok (.invokevirtual 181, 3) := by decide +kernel
theorem dX9_wrongSet_17 : decode cX9_wrongSet 17 = .ok (.ifCond .eq 8, 3) := by decide +kernel
theorem dX9_wrongSet_20 : decode cX9_wrongSet 20 = .ok (.bipush (-3), 2) := by decide +kernel
theorem dX9_wrongSet_22 : decode cX9_wrongSet 22 = .ok (.goto 4, 3) := by decide +kernel
theorem dX9_wrongSet_25 : decode cX9_wrongSet 25 = .ok (.iconst 0, 1) := by decide +kernel
theorem dX9_wrongSet_26 : decode cX9_wrongSet 26 = .ok (.ireturn, 1) := by decide +kernel
theorem dX9_cost_0 : decode cX9_cost 0 = .ok (.aload_n 0, 1) := by decide +kernel
theorem dX9_cost_1 : decode cX9_cost 1 = .ok (.iload_n 1, 1) := by decide +kernel
theorem dX9_cost_2 : decode cX9_cost 2 = .ok (.invokevirtual 190, 3) := by decide +kernel
theorem dX9_cost_5 : decode cX9_cost 5 = .ok (.istore_n 2, 1) := by decide +kernel
theorem dX9_cost_6 : decode cX9_cost 6 = .ok (.iload_n 2, 1) := by decide +kernel
theorem dX9_cost_7 : decode cX9_cost 7 = .ok (.ifCond .eq 9, 3) := by decide +kernel
theorem dX9_cost_10 : decode cX9_cost 10 = .ok (.aload_n 0, 1) := by decide +kernel
theorem dX9_cost_11 : decode cX9_cost 11 = .ok (.iload_n 2, 1) := by decide +kernel
theorem dX9_cost_12 : decode cX9_cost 12 = .ok (.invokevirtual 136, 3) := by decide +kernel
theorem dX9_cost_15 : decode cX9_cost 15 = .ok (.ireturn, 1) := by decide +kernel
theorem dX9_cost_16 : decode cX9_cost 16 = .ok (.aload_n 0, 1) := by decide +kernel
theorem dX9_cost_17 : decode cX9_cost 17 = .ok (.invokevirtual 193, 3) := by decide +kernel
theorem dX9_cost_20 : decode cX9_cost 20 = .ok (.aload_n 0, 1) := by decide +kernel
theorem dX9_cost_21 : decode cX9_cost 21 = .ok (.getfield 80, 3) := by decide +kernel
theorem dX9_cost_24 : decode cX9_cost 24 = .ok (.iload_n 1, 1) := by decide +kernel
theorem dX9_cost_25 : decode cX9_cost 25 = .ok (.iaload, 1) := by decide +kernel
theorem dX9_cost_26 : decode cX9_cost 26 = .ok (.ifCond .ge 8, 3) := by decide +kernel
theorem dX9_cost_29 : decode cX9_cost 29 = .ok (.bipush (-9), 2) := by decide +kernel
theorem dX9_cost_31 : decode cX9_cost 31 = .ok (.goto 9, 3) := by decide +kernel
theorem dX9_cost_34 : decode cX9_cost 34 = .ok (.aload_n 0, 1) := by decide +kernel
theorem dX9_cost_35 : decode cX9_cost 35 = .ok (.getfield 77, 3) := by decide +kernel
theorem dX9_cost_38 : decode cX9_cost 38 = .ok (.iload_n 1, 1) := by decide +kernel
theorem dX9_cost_39 : decode cX9_cost 39 = .ok (.iaload, 1) := by decide +kernel
theorem dX9_cost_40 : decode cX9_cost 40 = .ok (.ireturn, 1) := by decide +kernel
theorem dX9_driver_0 : decode cX9_driver 0 = .ok (.aload_n 0, 1) := by decide +kernel
theorem dX9_driver_1 : decode cX9_driver 1 = .ok (.iload_n 1, 1) := by decide +kernel
theorem dX9_driver_2 : decode cX9_driver 2 = .ok (.invokevirtual 190, 3) := by decide +kernel
theorem dX9_driver_5 : decode cX9_driver 5 = .ok (.istore_n 2, 1) := by decide +kernel
theorem dX9_driver_6 : decode cX9_driver 6 = .ok (.iload_n 2, 1) := by decide +kernel
theorem dX9_driver_7 : decode cX9_driver 7 = .ok (.ifCond .eq 9, 3) := by decide +kernel
theorem dX9_driver_10 : decode cX9_driver 10 = .ok (.aload_n 0, 1) := by decide +kernel
theorem dX9_driver_11 : decode cX9_driver 11 = .ok (.iload_n 2, 1) := by decide +kernel
theorem dX9_driver_12 : decode cX9_driver 12 = .ok (.invokevirtual 136, 3) := by decide +kernel
theorem dX9_driver_15 : decode cX9_driver 15 = .ok (.ireturn, 1) := by decide +kernel
theorem dX9_driver_16 : decode cX9_driver 16 = .ok (.aload_n 0, 1) := by decide +kernel
theorem dX9_driver_17 : decode cX9_driver 17 = .ok (.invokevirtual 193, 3) := by decide +kernel
theorem dX9_driver_20 : decode cX9_driver 20 = .ok (.aload_n 0, 1) := by decide +kernel
theorem dX9_driver_21 : decode cX9_driver 21 = .ok (.getfield 80, 3) := by decide +kernel
theorem dX9_driver_24 : decode cX9_driver 24 = .ok (.iload_n 1, 1) := by decide +kernel
theorem dX9_driver_25 : decode cX9_driver 25 = .ok (.iaload, 1) := by decide +kernel
theorem dX9_driver_26 : decode cX9_driver 26 = .ok (.ireturn, 1) := by decide +kernel
theorem dX9_turnOf_0 : decode cX9_turnOf 0 = .ok (.aload_n 0, 1) := by decide +kernel
theorem dX9_turnOf_1 : decode cX9_turnOf 1 = .ok (.invokevirtual 193, 3) := by decide +kernel
theorem dX9_turnOf_4 : decode cX9_turnOf 4 = .ok (.bipush (-9), 2) := by decide +kernel
theorem dX9_turnOf_6 : decode cX9_turnOf 6 = .ok (.istore_n 2, 1) := by decide +kernel
theorem dX9_turnOf_7 : decode cX9_turnOf 7 = .ok (.iconst 0, 1) := by decide +kernel
theorem dX9_turnOf_8 : decode cX9_turnOf 8 = .ok (.istore_n 3, 1) := by decide +kernel
theorem dX9_turnOf_9 : decode cX9_turnOf 9 = .ok (.iload_n 3, 1) := by decide +kernel
theorem dX9_turnOf_10 : decode cX9_turnOf 10 = .ok (.aload_n 0, 1) := by decide +kernel
theorem dX9_turnOf_11 : decode cX9_turnOf 11 = .ok (.getfield 143, 3) := by decide +kernel
theorem dX9_turnOf_14 : decode cX9_turnOf 14 = .ok (.if_icmp .ge 44, 3) := by decide +kernel
theorem dX9_turnOf_17 : decode cX9_turnOf 17 = .ok (.aload_n 0, 1) := by decide +kernel
theorem dX9_turnOf_18 : decode cX9_turnOf 18 = .ok (.getfield 83, 3) := by decide +kernel
theorem dX9_turnOf_21 : decode cX9_turnOf 21 = .ok (.iload_n 1, 1) := by decide +kernel
theorem dX9_turnOf_22 : decode cX9_turnOf 22 = .ok (.iaload, 1) := by decide +kernel
theorem dX9_turnOf_23 : decode cX9_turnOf 23 = .ok (.iload_n 3, 1) := by decide +kernel
theorem dX9_turnOf_24 : decode cX9_turnOf 24 = .ok (.ishr, 1) := by decide +kernel
theorem dX9_turnOf_25 : decode cX9_turnOf 25 = .ok (.iconst 1, 1) := by decide +kernel
theorem dX9_turnOf_26 : decode cX9_turnOf 26 = .ok (.iand, 1) := by decide +kernel
theorem dX9_turnOf_27 : decode cX9_turnOf 27 = .ok (.iconst 1, 1) := by decide +kernel
theorem dX9_turnOf_28 : decode cX9_turnOf 28 = .ok (.if_icmp .ne 24, 3) := by decide +kernel
theorem dX9_turnOf_31 : decode cX9_turnOf 31 = .ok (.iload_n 2, 1) := by decide +kernel
theorem dX9_turnOf_32 : decode cX9_turnOf 32 = .ok (.ifCond .lt 18, 3) := by decide +kernel
theorem dX9_turnOf_35 : decode cX9_turnOf 35 = .ok (.aload_n 0, 1) := by decide +kernel
theorem dX9_turnOf_36 : decode cX9_turnOf 36 = .ok (.getfield 43, 3) := by decide +kernel
theorem dX9_turnOf_39 : decode cX9_turnOf 39 = .ok (.iload_n 3, 1) := by decide +kernel
theorem dX9_turnOf_40 : decode cX9_turnOf 40 = .ok (.iaload, 1) := by decide +kernel
theorem dX9_turnOf_41 : decode cX9_turnOf 41 = .ok (.aload_n 0, 1) := by decide +kernel
theorem dX9_turnOf_42 : decode cX9_turnOf 42 = .ok (.getfield 43, 3) := by decide +kernel
theorem dX9_turnOf_45 : decode cX9_turnOf 45 = .ok (.iload_n 2, 1) := by decide +kernel
theorem dX9_turnOf_46 : decode cX9_turnOf 46 = .ok (.iaload, 1) := by decide +kernel
theorem dX9_turnOf_47 : decode cX9_turnOf 47 = .ok (.if_icmp .ge 5, 3) := by decide +kernel
theorem dX9_turnOf_50 : decode cX9_turnOf 50 = .ok (.iload_n 3, 1) := by decide +kernel
theorem dX9_turnOf_51 : decode cX9_turnOf 51 = .ok (.istore_n 2, 1) := by decide +kernel
theorem dX9_turnOf_52 : decode cX9_turnOf 52 = .ok (.iinc 3 1, 3) := by decide +kernel
theorem dX9_turnOf_55 : decode cX9_turnOf 55 = .ok (.goto (-46), 3) := by decide +kernel
theorem dX9_turnOf_58 : decode cX9_turnOf 58 = .ok (.iload_n 2, 1) := by decide +kernel
theorem dX9_turnOf_59 : decode cX9_turnOf 59 = .ok (.ireturn, 1) := by decide +kernel
theorem dX9_turn_0 : decode cX9_turn 0 = .ok (.aload_n 0, 1) := by decide +kernel
theorem dX9_turn_1 : decode cX9_turn 1 = .ok (.iload_n 1, 1) := by decide +kernel
theorem dX9_turn_2 : decode cX9_turn 2 = .ok (.invokevirtual 190, 3) := by decide +kernel
theorem dX9_turn_5 : decode cX9_turn 5 = .ok (.istore_n 2, 1) := by decide +kernel
theorem dX9_turn_6 : decode cX9_turn 6 = .ok (.iload_n 2, 1) := by decide +kernel
theorem dX9_turn_7 : decode cX9_turn 7 = .ok (.ifCond .eq 11, 3) := by decide +kernel
theorem dX9_turn_10 : decode cX9_turn 10 = .ok (.aload_n 0, 1) := by decide +kernel
theorem dX9_turn_11 : decode cX9_turn 11 = .ok (.iload_n 2, 1) := by decide +kernel
theorem dX9_turn_12 : decode cX9_turn 12 = .ok (.invokevirtual 136, 3) := by decide +kernel
theorem dX9_turn_15 : decode cX9_turn 15 = .ok (.goto 8, 3) := by decide +kernel
theorem dX9_turn_18 : decode cX9_turn 18 = .ok (.aload_n 0, 1) := by decide +kernel
theorem dX9_turn_19 : decode cX9_turn 19 = .ok (.iload_n 1, 1) := by decide +kernel
theorem dX9_turn_20 : decode cX9_turn 20 = .ok (.invokevirtual 196, 3) := by decide +kernel
theorem dX9_turn_23 : decode cX9_turn 23 = .ok (.ireturn, 1) := by decide +kernel
theorem dX9_present_0 : decode cX9_present 0 = .ok (.iconst 0, 1) := by decide +kernel
theorem dX9_present_1 : decode cX9_present 1 = .ok (.istore_n 1, 1) := by decide +kernel
theorem dX9_present_2 : decode cX9_present 2 = .ok (.iconst 0, 1) := by decide +kernel
theorem dX9_present_3 : decode cX9_present 3 = .ok (.istore_n 2, 1) := by decide +kernel
theorem dX9_present_4 : decode cX9_present 4 = .ok (.iload_n 2, 1) := by decide +kernel
theorem dX9_present_5 : decode cX9_present 5 = .ok (.aload_n 0, 1) := by decide +kernel
theorem dX9_present_6 : decode cX9_present 6 = .ok (.getfield 143, 3) := by decide +kernel
theorem dX9_present_9 : decode cX9_present 9 = .ok (.if_icmp .ge 28, 3) := by decide +kernel
theorem dX9_present_12 : decode cX9_present 12 = .ok (.iload_n 1, 1) := by decide +kernel
theorem dX9_present_13 : decode cX9_present 13 = .ok (.aload_n 0, 1) := by decide +kernel
theorem dX9_present_14 : decode cX9_present 14 = .ok (.getfield 46, 3) := by decide +kernel
theorem dX9_present_17 : decode cX9_present 17 = .ok (.iload_n 2, 1) := by decide +kernel
theorem dX9_present_18 : decode cX9_present 18 = .ok (.baload, 1) := by decide +kernel
theorem dX9_present_19 : decode cX9_present 19 = .ok (.ifCond .eq 7, 3) := by decide +kernel
theorem dX9_present_22 : decode cX9_present 22 = .ok (.iconst 0, 1) := by decide +kernel
theorem dX9_present_23 : decode cX9_present 23 = .ok (.goto 6, 3) := by decide +kernel
theorem dX9_present_26 : decode cX9_present 26 = .ok (.iconst 1, 1) := by decide +kernel
theorem dX9_present_27 : decode cX9_present 27 = .ok (.iload_n 2, 1) := by decide +kernel
end
section
theorem dX9_present_28 : decode cX9_present 28 = .ok (.ishl, 1) := by decide +kernel
theorem dX9_present_29 : decode cX9_present 29 = .ok (.ior, 1) := by decide +kernel
theorem dX9_present_30 : decode cX9_present 30 = .ok (.istore_n 1, 1) := by decide +kernel
theorem dX9_present_31 : decode cX9_present 31 = .ok (.iinc 2 1, 3) := by decide +kernel
theorem dX9_present_34 : decode cX9_present 34 = .ok (.goto (-30), 3) := by decide +kernel
theorem dX9_present_37 : decode cX9_present 37 = .ok (.iload_n 1, 1) := by decide +kernel
theorem dX9_present_38 : decode cX9_present 38 = .ok (.ireturn, 1) := by decide +kernel
theorem dX9_best_0 : decode cX9_best 0 = .ok (.aload_n 0, 1) := by decide +kernel
theorem dX9_best_1 : decode cX9_best 1 = .ok (.invokevirtual 193, 3) := by decide +kernel
theorem dX9_best_4 : decode cX9_best 4 = .ok (.aload_n 0, 1) := by decide +kernel
theorem dX9_best_5 : decode cX9_best 5 = .ok (.getfield 86, 3) := by decide +kernel
theorem dX9_best_8 : decode cX9_best 8 = .ok (.iconst 0, 1) := by decide +kernel
theorem dX9_best_9 : decode cX9_best 9 = .ok (.iconst 0, 1) := by decide +kernel
theorem dX9_best_10 : decode cX9_best 10 = .ok (.iastore, 1) := by decide +kernel
theorem dX9_best_11 : decode cX9_best 11 = .ok (.aload_n 0, 1) := by decide +kernel
theorem dX9_best_12 : decode cX9_best 12 = .ok (.getfield 89, 3) := by decide +kernel
theorem dX9_best_15 : decode cX9_best 15 = .ok (.iconst 0, 1) := by decide +kernel
theorem dX9_best_16 : decode cX9_best 16 = .ok (.iconst 0, 1) := by decide +kernel
theorem dX9_best_17 : decode cX9_best 17 = .ok (.iastore, 1) := by decide +kernel
theorem dX9_best_18 : decode cX9_best 18 = .ok (.aload_n 0, 1) := by decide +kernel
theorem dX9_best_19 : decode cX9_best 19 = .ok (.getfield 92, 3) := by decide +kernel
theorem dX9_best_22 : decode cX9_best 22 = .ok (.iconst 0, 1) := by decide +kernel
theorem dX9_best_23 : decode cX9_best 23 = .ok (.iconst 0, 1) := by decide +kernel
theorem dX9_best_24 : decode cX9_best 24 = .ok (.iastore, 1) := by decide +kernel
theorem dX9_best_25 : decode cX9_best 25 = .ok (.aload_n 0, 1) := by decide +kernel
theorem dX9_best_26 : decode cX9_best 26 = .ok (.getfield 98, 3) := by decide +kernel
theorem dX9_best_29 : decode cX9_best 29 = .ok (.iconst 0, 1) := by decide +kernel
theorem dX9_best_30 : decode cX9_best 30 = .ok (.iconst 0, 1) := by decide +kernel
theorem dX9_best_31 : decode cX9_best 31 = .ok (.iastore, 1) := by decide +kernel
theorem dX9_best_32 : decode cX9_best 32 = .ok (.aload_n 0, 1) := by decide +kernel
theorem dX9_best_33 : decode cX9_best 33 = .ok (.invokevirtual 199, 3) := by decide +kernel
theorem dX9_best_36 : decode cX9_best 36 = .ok (.istore_n 1, 1) := by decide +kernel
theorem dX9_best_37 : decode cX9_best 37 = .ok (.iconst 1, 1) := by decide +kernel
theorem dX9_best_38 : decode cX9_best 38 = .ok (.istore_n 2, 1) := by decide +kernel
theorem dX9_best_39 : decode cX9_best 39 = .ok (.iload_n 2, 1) := by decide +kernel
theorem dX9_best_40 : decode cX9_best 40 = .ok (.iconst 1, 1) := by decide +kernel
theorem dX9_best_41 : decode cX9_best 41 = .ok (.aload_n 0, 1) := by decide +kernel
theorem dX9_best_42 : decode cX9_best 42 = .ok (.getfield 143, 3) := by decide +kernel
theorem dX9_best_45 : decode cX9_best 45 = .ok (.ishl, 1) := by decide +kernel
theorem dX9_best_46 : decode cX9_best 46 = .ok (.if_icmp .ge 22, 3) := by decide +kernel
theorem dX9_best_49 : decode cX9_best 49 = .ok (.iload_n 2, 1) := by decide +kernel
theorem dX9_best_50 : decode cX9_best 50 = .ok (.iload_n 1, 1) := by decide +kernel
theorem dX9_best_51 : decode cX9_best 51 = .ok (.iconst (-1), 1) := by decide +kernel
theorem dX9_best_52 : decode cX9_best 52 = .ok (.ixor, 1) := by decide +kernel
theorem dX9_best_53 : decode cX9_best 53 = .ok (.iand, 1) := by decide +kernel
theorem dX9_best_54 : decode cX9_best 54 = .ok (.ifCond .ne 8, 3) := by decide +kernel
theorem dX9_best_57 : decode cX9_best 57 = .ok (.aload_n 0, 1) := by decide +kernel
theorem dX9_best_58 : decode cX9_best 58 = .ok (.iload_n 2, 1) := by decide +kernel
theorem dX9_best_59 : decode cX9_best 59 = .ok (.invokevirtual 203, 3) := by decide +kernel
theorem dX9_best_62 : decode cX9_best 62 = .ok (.iinc 2 1, 3) := by decide +kernel
theorem dX9_best_65 : decode cX9_best 65 = .ok (.goto (-26), 3) := by decide +kernel
theorem dX9_best_68 : decode cX9_best 68 = .ok (.return_, 1) := by decide +kernel
theorem dX9_bestOf_0 : decode cX9_bestOf 0 = .ok (.iload_n 1, 1) := by decide +kernel
theorem dX9_bestOf_1 : decode cX9_bestOf 1 = .ok (.iload_n 1, 1) := by decide +kernel
theorem dX9_bestOf_2 : decode cX9_bestOf 2 = .ok (.ineg, 1) := by decide +kernel
theorem dX9_bestOf_3 : decode cX9_bestOf 3 = .ok (.iand, 1) := by decide +kernel
theorem dX9_bestOf_4 : decode cX9_bestOf 4 = .ok (.istore_n 2, 1) := by decide +kernel
theorem dX9_bestOf_5 : decode cX9_bestOf 5 = .ok (.iload_n 1, 1) := by decide +kernel
theorem dX9_bestOf_6 : decode cX9_bestOf 6 = .ok (.iload_n 2, 1) := by decide +kernel
theorem dX9_bestOf_7 : decode cX9_bestOf 7 = .ok (.iconst (-1), 1) := by decide +kernel
theorem dX9_bestOf_8 : decode cX9_bestOf 8 = .ok (.ixor, 1) := by decide +kernel
theorem dX9_bestOf_9 : decode cX9_bestOf 9 = .ok (.iand, 1) := by decide +kernel
theorem dX9_bestOf_10 : decode cX9_bestOf 10 = .ok (.istore_n 3, 1) := by decide +kernel
theorem dX9_bestOf_11 : decode cX9_bestOf 11 = .ok (.aload_n 0, 1) := by decide +kernel
theorem dX9_bestOf_12 : decode cX9_bestOf 12 = .ok (.getfield 86, 3) := by decide +kernel
theorem dX9_bestOf_15 : decode cX9_bestOf 15 = .ok (.iload_n 1, 1) := by decide +kernel
theorem dX9_bestOf_16 : decode cX9_bestOf 16 = .ok (.aload_n 0, 1) := by decide +kernel
theorem dX9_bestOf_17 : decode cX9_bestOf 17 = .ok (.getfield 86, 3) := by decide +kernel
theorem dX9_bestOf_20 : decode cX9_bestOf 20 = .ok (.iload_n 3, 1) := by decide +kernel
theorem dX9_bestOf_21 : decode cX9_bestOf 21 = .ok (.iaload, 1) := by decide +kernel
theorem dX9_bestOf_22 : decode cX9_bestOf 22 = .ok (.iconst 1, 1) := by decide +kernel
theorem dX9_bestOf_23 : decode cX9_bestOf 23 = .ok (.iadd, 1) := by decide +kernel
theorem dX9_bestOf_24 : decode cX9_bestOf 24 = .ok (.iastore, 1) := by decide +kernel
theorem dX9_bestOf_25 : decode cX9_bestOf 25 = .ok (.aload_n 0, 1) := by decide +kernel
theorem dX9_bestOf_26 : decode cX9_bestOf 26 = .ok (.getfield 89, 3) := by decide +kernel
theorem dX9_bestOf_29 : decode cX9_bestOf 29 = .ok (.iload_n 1, 1) := by decide +kernel
theorem dX9_bestOf_30 : decode cX9_bestOf 30 = .ok (.aload_n 0, 1) := by decide +kernel
theorem dX9_bestOf_31 : decode cX9_bestOf 31 = .ok (.getfield 89, 3) := by decide +kernel
theorem dX9_bestOf_34 : decode cX9_bestOf 34 = .ok (.iload_n 3, 1) := by decide +kernel
theorem dX9_bestOf_35 : decode cX9_bestOf 35 = .ok (.iaload, 1) := by decide +kernel
theorem dX9_bestOf_36 : decode cX9_bestOf 36 = .ok (.iastore, 1) := by decide +kernel
theorem dX9_bestOf_37 : decode cX9_bestOf 37 = .ok (.aload_n 0, 1) := by decide +kernel
theorem dX9_bestOf_38 : decode cX9_bestOf 38 = .ok (.getfield 92, 3) := by decide +kernel
theorem dX9_bestOf_41 : decode cX9_bestOf 41 = .ok (.iload_n 1, 1) := by decide +kernel
theorem dX9_bestOf_42 : decode cX9_bestOf 42 = .ok (.aload_n 0, 1) := by decide +kernel
theorem dX9_bestOf_43 : decode cX9_bestOf 43 = .ok (.getfield 92, 3) := by decide +kernel
theorem dX9_bestOf_46 : decode cX9_bestOf 46 = .ok (.iload_n 3, 1) := by decide +kernel
theorem dX9_bestOf_47 : decode cX9_bestOf 47 = .ok (.iaload, 1) := by decide +kernel
theorem dX9_bestOf_48 : decode cX9_bestOf 48 = .ok (.iastore, 1) := by decide +kernel
theorem dX9_bestOf_49 : decode cX9_bestOf 49 = .ok (.aload_n 0, 1) := by decide +kernel
theorem dX9_bestOf_50 : decode cX9_bestOf 50 = .ok (.getfield 95, 3) := by decide +kernel
theorem dX9_bestOf_53 : decode cX9_bestOf 53 = .ok (.iload_n 1, 1) := by decide +kernel
theorem dX9_bestOf_54 : decode cX9_bestOf 54 = .ok (.iconst 0, 1) := by decide +kernel
theorem dX9_bestOf_55 : decode cX9_bestOf 55 = .ok (.iastore, 1) := by decide +kernel
theorem dX9_bestOf_56 : decode cX9_bestOf 56 = .ok (.aload_n 0, 1) := by decide +kernel
theorem dX9_bestOf_57 : decode cX9_bestOf 57 = .ok (.getfield 98, 3) := by decide +kernel
theorem dX9_bestOf_60 : decode cX9_bestOf 60 = .ok (.iload_n 1, 1) := by decide +kernel
theorem dX9_bestOf_61 : decode cX9_bestOf 61 = .ok (.ldc 151, 2) := by decide +kernel
theorem dX9_bestOf_63 : decode cX9_bestOf 63 = .ok (.iastore, 1) := by decide +kernel
theorem dX9_bestOf_64 : decode cX9_bestOf 64 = .ok (.iload_n 2, 1) := by decide +kernel
theorem dX9_bestOf_65 : decode cX9_bestOf 65 = .ok (.istore 4, 2) := by decide +kernel
theorem dX9_bestOf_67 : decode cX9_bestOf 67 = .ok (.iload 4, 2) := by decide +kernel
theorem dX9_bestOf_69 : decode cX9_bestOf 69 = .ok (.iload_n 1, 1) := by decide +kernel
theorem dX9_bestOf_70 : decode cX9_bestOf 70 = .ok (.if_icmp .gt 197, 3) := by decide +kernel
theorem dX9_bestOf_73 : decode cX9_bestOf 73 = .ok (.iload 4, 2) := by decide +kernel
theorem dX9_bestOf_75 : decode cX9_bestOf 75 = .ok (.iload_n 2, 1) := by decide +kernel
theorem dX9_bestOf_76 : decode cX9_bestOf 76 = .ok (.iand, 1) := by decide +kernel
theorem dX9_bestOf_77 : decode cX9_bestOf 77 = .ok (.ifCond .eq 184, 3) := by decide +kernel
theorem dX9_bestOf_80 : decode cX9_bestOf 80 = .ok (.iload 4, 2) := by decide +kernel
theorem dX9_bestOf_82 : decode cX9_bestOf 82 = .ok (.iload_n 1, 1) := by decide +kernel
theorem dX9_bestOf_83 : decode cX9_bestOf 83 = .ok (.iconst (-1), 1) := by decide +kernel
theorem dX9_bestOf_84 : decode cX9_bestOf 84 = .ok (.ixor, 1) := by decide +kernel
theorem dX9_bestOf_85 : decode cX9_bestOf 85 = .ok (.iand, 1) := by decide +kernel
theorem dX9_bestOf_86 : decode cX9_bestOf 86 = .ok (.ifCond .ne 175, 3) := by decide +kernel
theorem dX9_bestOf_89 : decode cX9_bestOf 89 = .ok (.aload_n 0, 1) := by decide +kernel
theorem dX9_bestOf_90 : decode cX9_bestOf 90 = .ok (.getfield 80, 3) := by decide +kernel
theorem dX9_bestOf_93 : decode cX9_bestOf 93 = .ok (.iload 4, 2) := by decide +kernel
theorem dX9_bestOf_95 : decode cX9_bestOf 95 = .ok (.iaload, 1) := by decide +kernel
theorem dX9_bestOf_96 : decode cX9_bestOf 96 = .ok (.ifCond .ge 6, 3) := by decide +kernel
theorem dX9_bestOf_99 : decode cX9_bestOf 99 = .ok (.goto 162, 3) := by decide +kernel
theorem dX9_bestOf_102 : decode cX9_bestOf 102 = .ok (.iload_n 1, 1) := by decide +kernel
theorem dX9_bestOf_103 : decode cX9_bestOf 103 = .ok (.iload 4, 2) := by decide +kernel
theorem dX9_bestOf_105 : decode cX9_bestOf 105 = .ok (.iconst (-1), 1) := by decide +kernel
theorem dX9_bestOf_106 : decode cX9_bestOf 106 = .ok (.ixor, 1) := by decide +kernel
theorem dX9_bestOf_107 : decode cX9_bestOf 107 = .ok (.iand, 1) := by decide +kernel
theorem dX9_bestOf_108 : decode cX9_bestOf 108 = .ok (.istore 5, 2) := by decide +kernel
theorem dX9_bestOf_110 : decode cX9_bestOf 110 = .ok (.aload_n 0, 1) := by decide +kernel
theorem dX9_bestOf_111 : decode cX9_bestOf 111 = .ok (.getfield 98, 3) := by decide +kernel
theorem dX9_bestOf_114 : decode cX9_bestOf 114 = .ok (.iload_n 1, 1) := by decide +kernel
theorem dX9_bestOf_115 : decode cX9_bestOf 115 = .ok (.aload_n 0, 1) := by decide +kernel
theorem dX9_bestOf_116 : decode cX9_bestOf 116 = .ok (.getfield 98, 3) := by decide +kernel
theorem dX9_bestOf_119 : decode cX9_bestOf 119 = .ok (.iload_n 1, 1) := by decide +kernel
theorem dX9_bestOf_120 : decode cX9_bestOf 120 = .ok (.iaload, 1) := by decide +kernel
theorem dX9_bestOf_121 : decode cX9_bestOf 121 = .ok (.aload_n 0, 1) := by decide +kernel
theorem dX9_bestOf_122 : decode cX9_bestOf 122 = .ok (.getfield 98, 3) := by decide +kernel
theorem dX9_bestOf_125 : decode cX9_bestOf 125 = .ok (.iload 5, 2) := by decide +kernel
theorem dX9_bestOf_127 : decode cX9_bestOf 127 = .ok (.iaload, 1) := by decide +kernel
theorem dX9_bestOf_128 : decode cX9_bestOf 128 = .ok (.iconst 1, 1) := by decide +kernel
theorem dX9_bestOf_129 : decode cX9_bestOf 129 = .ok (.iadd, 1) := by decide +kernel
theorem dX9_bestOf_130 : decode cX9_bestOf 130 = .ok (.invokestatic 123, 3) := by decide +kernel
theorem dX9_bestOf_133 : decode cX9_bestOf 133 = .ok (.iastore, 1) := by decide +kernel
theorem dX9_bestOf_134 : decode cX9_bestOf 134 = .ok (.aload_n 0, 1) := by decide +kernel
theorem dX9_bestOf_135 : decode cX9_bestOf 135 = .ok (.getfield 86, 3) := by decide +kernel
theorem dX9_bestOf_138 : decode cX9_bestOf 138 = .ok (.iload 5, 2) := by decide +kernel
theorem dX9_bestOf_140 : decode cX9_bestOf 140 = .ok (.iaload, 1) := by decide +kernel
theorem dX9_bestOf_141 : decode cX9_bestOf 141 = .ok (.istore 6, 2) := by decide +kernel
theorem dX9_bestOf_143 : decode cX9_bestOf 143 = .ok (.aload_n 0, 1) := by decide +kernel
theorem dX9_bestOf_144 : decode cX9_bestOf 144 = .ok (.getfield 89, 3) := by decide +kernel
theorem dX9_bestOf_147 : decode cX9_bestOf 147 = .ok (.iload 5, 2) := by decide +kernel
theorem dX9_bestOf_149 : decode cX9_bestOf 149 = .ok (.iaload, 1) := by decide +kernel
theorem dX9_bestOf_150 : decode cX9_bestOf 150 = .ok (.aload_n 0, 1) := by decide +kernel
theorem dX9_bestOf_151 : decode cX9_bestOf 151 = .ok (.getfield 77, 3) := by decide +kernel
theorem dX9_bestOf_154 : decode cX9_bestOf 154 = .ok (.iload 4, 2) := by decide +kernel
theorem dX9_bestOf_156 : decode cX9_bestOf 156 = .ok (.iaload, 1) := by decide +kernel
theorem dX9_bestOf_157 : decode cX9_bestOf 157 = .ok (.iadd, 1) := by decide +kernel
theorem dX9_bestOf_158 : decode cX9_bestOf 158 = .ok (.istore 7, 2) := by decide +kernel
theorem dX9_bestOf_160 : decode cX9_bestOf 160 = .ok (.aload_n 0, 1) := by decide +kernel
theorem dX9_bestOf_161 : decode cX9_bestOf 161 = .ok (.getfield 92, 3) := by decide +kernel
theorem dX9_bestOf_164 : decode cX9_bestOf 164 = .ok (.iload 5, 2) := by decide +kernel
theorem dX9_bestOf_166 : decode cX9_bestOf 166 = .ok (.iaload, 1) := by decide +kernel
theorem dX9_bestOf_167 : decode cX9_bestOf 167 = .ok (.iconst 1, 1) := by decide +kernel
theorem dX9_bestOf_168 : decode cX9_bestOf 168 = .ok (.iadd, 1) := by decide +kernel
theorem dX9_bestOf_169 : decode cX9_bestOf 169 = .ok (.istore 8, 2) := by decide +kernel
theorem dX9_bestOf_171 : decode cX9_bestOf 171 = .ok (.iload 6, 2) := by decide +kernel
theorem dX9_bestOf_173 : decode cX9_bestOf 173 = .ok (.aload_n 0, 1) := by decide +kernel
theorem dX9_bestOf_174 : decode cX9_bestOf 174 = .ok (.getfield 86, 3) := by decide +kernel
theorem dX9_bestOf_177 : decode cX9_bestOf 177 = .ok (.iload_n 1, 1) := by decide +kernel
theorem dX9_bestOf_178 : decode cX9_bestOf 178 = .ok (.iaload, 1) := by decide +kernel
theorem dX9_bestOf_179 : decode cX9_bestOf 179 = .ok (.if_icmp .gt 82, 3) := by decide +kernel
theorem dX9_bestOf_182 : decode cX9_bestOf 182 = .ok (.iload 6, 2) := by decide +kernel
theorem dX9_bestOf_184 : decode cX9_bestOf 184 = .ok (.aload_n 0, 1) := by decide +kernel
theorem dX9_bestOf_185 : decode cX9_bestOf 185 = .ok (.getfield 86, 3) := by decide +kernel
theorem dX9_bestOf_188 : decode cX9_bestOf 188 = .ok (.iload_n 1, 1) := by decide +kernel
theorem dX9_bestOf_189 : decode cX9_bestOf 189 = .ok (.iaload, 1) := by decide +kernel
theorem dX9_bestOf_190 : decode cX9_bestOf 190 = .ok (.if_icmp .ne 39, 3) := by decide +kernel
theorem dX9_bestOf_193 : decode cX9_bestOf 193 = .ok (.iload 7, 2) := by decide +kernel
theorem dX9_bestOf_195 : decode cX9_bestOf 195 = .ok (.aload_n 0, 1) := by decide +kernel
theorem dX9_bestOf_196 : decode cX9_bestOf 196 = .ok (.getfield 89, 3) := by decide +kernel
theorem dX9_bestOf_199 : decode cX9_bestOf 199 = .ok (.iload_n 1, 1) := by decide +kernel
theorem dX9_bestOf_200 : decode cX9_bestOf 200 = .ok (.iaload, 1) := by decide +kernel
theorem dX9_bestOf_201 : decode cX9_bestOf 201 = .ok (.if_icmp .gt 60, 3) := by decide +kernel
theorem dX9_bestOf_204 : decode cX9_bestOf 204 = .ok (.iload 7, 2) := by decide +kernel
theorem dX9_bestOf_206 : decode cX9_bestOf 206 = .ok (.aload_n 0, 1) := by decide +kernel
theorem dX9_bestOf_207 : decode cX9_bestOf 207 = .ok (.getfield 89, 3) := by decide +kernel
theorem dX9_bestOf_210 : decode cX9_bestOf 210 = .ok (.iload_n 1, 1) := by decide +kernel
theorem dX9_bestOf_211 : decode cX9_bestOf 211 = .ok (.iaload, 1) := by decide +kernel
theorem dX9_bestOf_212 : decode cX9_bestOf 212 = .ok (.if_icmp .ne 17, 3) := by decide +kernel
theorem dX9_bestOf_215 : decode cX9_bestOf 215 = .ok (.iload 8, 2) := by decide +kernel
theorem dX9_bestOf_217 : decode cX9_bestOf 217 = .ok (.aload_n 0, 1) := by decide +kernel
theorem dX9_bestOf_218 : decode cX9_bestOf 218 = .ok (.getfield 92, 3) := by decide +kernel
theorem dX9_bestOf_221 : decode cX9_bestOf 221 = .ok (.iload_n 1, 1) := by decide +kernel
theorem dX9_bestOf_222 : decode cX9_bestOf 222 = .ok (.iaload, 1) := by decide +kernel
theorem dX9_bestOf_223 : decode cX9_bestOf 223 = .ok (.if_icmp .lt 6, 3) := by decide +kernel
theorem dX9_bestOf_226 : decode cX9_bestOf 226 = .ok (.goto 35, 3) := by decide +kernel
theorem dX9_bestOf_229 : decode cX9_bestOf 229 = .ok (.aload_n 0, 1) := by decide +kernel
theorem dX9_bestOf_230 : decode cX9_bestOf 230 = .ok (.getfield 86, 3) := by decide +kernel
theorem dX9_bestOf_233 : decode cX9_bestOf 233 = .ok (.iload_n 1, 1) := by decide +kernel
theorem dX9_bestOf_234 : decode cX9_bestOf 234 = .ok (.iload 6, 2) := by decide +kernel
theorem dX9_bestOf_236 : decode cX9_bestOf 236 = .ok (.iastore, 1) := by decide +kernel
theorem dX9_bestOf_237 : decode cX9_bestOf 237 = .ok (.aload_n 0, 1) := by decide +kernel
theorem dX9_bestOf_238 : decode cX9_bestOf 238 = .ok (.getfield 89, 3) := by decide +kernel
theorem dX9_bestOf_241 : decode cX9_bestOf 241 = .ok (.iload_n 1, 1) := by decide +kernel
theorem dX9_bestOf_242 : decode cX9_bestOf 242 = .ok (.iload 7, 2) := by decide +kernel
theorem dX9_bestOf_244 : decode cX9_bestOf 244 = .ok (.iastore, 1) := by decide +kernel
theorem dX9_bestOf_245 : decode cX9_bestOf 245 = .ok (.aload_n 0, 1) := by decide +kernel
theorem dX9_bestOf_246 : decode cX9_bestOf 246 = .ok (.getfield 92, 3) := by decide +kernel
theorem dX9_bestOf_249 : decode cX9_bestOf 249 = .ok (.iload_n 1, 1) := by decide +kernel
theorem dX9_bestOf_250 : decode cX9_bestOf 250 = .ok (.iload 8, 2) := by decide +kernel
theorem dX9_bestOf_252 : decode cX9_bestOf 252 = .ok (.iastore, 1) := by decide +kernel
theorem dX9_bestOf_253 : decode cX9_bestOf 253 = .ok (.aload_n 0, 1) := by decide +kernel
theorem dX9_bestOf_254 : decode cX9_bestOf 254 = .ok (.getfield 95, 3) := by decide +kernel
theorem dX9_bestOf_257 : decode cX9_bestOf 257 = .ok (.iload_n 1, 1) := by decide +kernel
theorem dX9_bestOf_258 : decode cX9_bestOf 258 = .ok (.iload 4, 2) := by decide +kernel
theorem dX9_bestOf_260 : decode cX9_bestOf 260 = .ok (.iastore, 1) := by decide +kernel
theorem dX9_bestOf_261 : decode cX9_bestOf 261 = .ok (.iinc 4 1, 3) := by decide +kernel
theorem dX9_bestOf_264 : decode cX9_bestOf 264 = .ok (.goto (-197), 3) := by decide +kernel
theorem dX9_bestOf_267 : decode cX9_bestOf 267 = .ok (.return_, 1) := by decide +kernel
theorem dX9_leaves_0 : decode cX9_leaves 0 = .ok (.aload_n 0, 1) := by decide +kernel
theorem dX9_leaves_1 : decode cX9_leaves 1 = .ok (.getfield 101, 3) := by decide +kernel
theorem dX9_leaves_4 : decode cX9_leaves 4 = .ok (.iload_n 1, 1) := by decide +kernel
theorem dX9_leaves_5 : decode cX9_leaves 5 = .ok (.iconst 0, 1) := by decide +kernel
theorem dX9_leaves_6 : decode cX9_leaves 6 = .ok (.iastore, 1) := by decide +kernel
theorem dX9_leaves_7 : decode cX9_leaves 7 = .ok (.aload_n 0, 1) := by decide +kernel
theorem dX9_leaves_8 : decode cX9_leaves 8 = .ok (.getfield 104, 3) := by decide +kernel
theorem dX9_leaves_11 : decode cX9_leaves 11 = .ok (.iload_n 1, 1) := by decide +kernel
theorem dX9_leaves_12 : decode cX9_leaves 12 = .ok (.bipush (-9), 2) := by decide +kernel
theorem dX9_leaves_14 : decode cX9_leaves 14 = .ok (.iastore, 1) := by decide +kernel
theorem dX9_leaves_15 : decode cX9_leaves 15 = .ok (.aload_n 0, 1) := by decide +kernel
theorem dX9_leaves_16 : decode cX9_leaves 16 = .ok (.getfield 107, 3) := by decide +kernel
theorem dX9_leaves_19 : decode cX9_leaves 19 = .ok (.iload_n 1, 1) := by decide +kernel
theorem dX9_leaves_20 : decode cX9_leaves 20 = .ok (.bipush (-9), 2) := by decide +kernel
theorem dX9_leaves_22 : decode cX9_leaves 22 = .ok (.iastore, 1) := by decide +kernel
theorem dX9_leaves_23 : decode cX9_leaves 23 = .ok (.aload_n 0, 1) := by decide +kernel
theorem dX9_leaves_24 : decode cX9_leaves 24 = .ok (.getfield 110, 3) := by decide +kernel
theorem dX9_leaves_27 : decode cX9_leaves 27 = .ok (.iload_n 1, 1) := by decide +kernel
theorem dX9_leaves_28 : decode cX9_leaves 28 = .ok (.bipush (-9), 2) := by decide +kernel
theorem dX9_leaves_30 : decode cX9_leaves 30 = .ok (.iastore, 1) := by decide +kernel
theorem dX9_leaves_31 : decode cX9_leaves 31 = .ok (.return_, 1) := by decide +kernel
theorem dX9_lays_0 : decode cX9_lays 0 = .ok (.aload_n 0, 1) := by decide +kernel
theorem dX9_lays_1 : decode cX9_lays 1 = .ok (.iload_n 1, 1) := by decide +kernel
theorem dX9_lays_2 : decode cX9_lays 2 = .ok (.iload_n 2, 1) := by decide +kernel
theorem dX9_lays_3 : decode cX9_lays 3 = .ok (.invokevirtual 187, 3) := by decide +kernel
theorem dX9_lays_6 : decode cX9_lays 6 = .ok (.istore_n 3, 1) := by decide +kernel
theorem dX9_lays_7 : decode cX9_lays 7 = .ok (.iconst 0, 1) := by decide +kernel
theorem dX9_lays_8 : decode cX9_lays 8 = .ok (.istore 4, 2) := by decide +kernel
theorem dX9_lays_10 : decode cX9_lays 10 = .ok (.iload 4, 2) := by decide +kernel
theorem dX9_lays_12 : decode cX9_lays 12 = .ok (.aload_n 0, 1) := by decide +kernel
theorem dX9_lays_13 : decode cX9_lays 13 = .ok (.getfield 143, 3) := by decide +kernel
theorem dX9_lays_16 : decode cX9_lays 16 = .ok (.if_icmp .ge 86, 3) := by decide +kernel
theorem dX9_lays_19 : decode cX9_lays 19 = .ok (.iload_n 1, 1) := by decide +kernel
theorem dX9_lays_20 : decode cX9_lays 20 = .ok (.iload 4, 2) := by decide +kernel
theorem dX9_lays_22 : decode cX9_lays 22 = .ok (.ishr, 1) := by decide +kernel
theorem dX9_lays_23 : decode cX9_lays 23 = .ok (.iconst 1, 1) := by decide +kernel
theorem dX9_lays_24 : decode cX9_lays 24 = .ok (.iand, 1) := by decide +kernel
theorem dX9_lays_25 : decode cX9_lays 25 = .ok (.ifCond .ne 6, 3) := by decide +kernel
theorem dX9_lays_28 : decode cX9_lays 28 = .ok (.goto 68, 3) := by decide +kernel
theorem dX9_lays_31 : decode cX9_lays 31 = .ok (.aload_n 0, 1) := by decide +kernel
theorem dX9_lays_32 : decode cX9_lays 32 = .ok (.getfield 101, 3) := by decide +kernel
theorem dX9_lays_35 : decode cX9_lays 35 = .ok (.iload 4, 2) := by decide +kernel
theorem dX9_lays_37 : decode cX9_lays 37 = .ok (.iload_n 1, 1) := by decide +kernel
theorem dX9_lays_38 : decode cX9_lays 38 = .ok (.iastore, 1) := by decide +kernel
theorem dX9_lays_39 : decode cX9_lays 39 = .ok (.aload_n 0, 1) := by decide +kernel
theorem dX9_lays_40 : decode cX9_lays 40 = .ok (.getfield 104, 3) := by decide +kernel
theorem dX9_lays_43 : decode cX9_lays 43 = .ok (.iload 4, 2) := by decide +kernel
theorem dX9_lays_45 : decode cX9_lays 45 = .ok (.iload_n 2, 1) := by decide +kernel
theorem dX9_lays_46 : decode cX9_lays 46 = .ok (.iastore, 1) := by decide +kernel
theorem dX9_lays_47 : decode cX9_lays 47 = .ok (.aload_n 0, 1) := by decide +kernel
theorem dX9_lays_48 : decode cX9_lays 48 = .ok (.getfield 107, 3) := by decide +kernel
theorem dX9_lays_51 : decode cX9_lays 51 = .ok (.iload 4, 2) := by decide +kernel
theorem dX9_lays_53 : decode cX9_lays 53 = .ok (.aload_n 0, 1) := by decide +kernel
theorem dX9_lays_54 : decode cX9_lays 54 = .ok (.getfield 175, 3) := by decide +kernel
theorem dX9_lays_57 : decode cX9_lays 57 = .ok (.aload_n 0, 1) := by decide +kernel
theorem dX9_lays_58 : decode cX9_lays 58 = .ok (.getfield 71, 3) := by decide +kernel
theorem dX9_lays_61 : decode cX9_lays 61 = .ok (.iload 4, 2) := by decide +kernel
theorem dX9_lays_63 : decode cX9_lays 63 = .ok (.iaload, 1) := by decide +kernel
theorem dX9_lays_64 : decode cX9_lays 64 = .ok (.iadd, 1) := by decide +kernel
theorem dX9_lays_65 : decode cX9_lays 65 = .ok (.iastore, 1) := by decide +kernel
theorem dX9_lays_66 : decode cX9_lays 66 = .ok (.aload_n 0, 1) := by decide +kernel
theorem dX9_lays_67 : decode cX9_lays 67 = .ok (.getfield 110, 3) := by decide +kernel
theorem dX9_lays_70 : decode cX9_lays 70 = .ok (.iload 4, 2) := by decide +kernel
theorem dX9_lays_72 : decode cX9_lays 72 = .ok (.aload_n 0, 1) := by decide +kernel
theorem dX9_lays_73 : decode cX9_lays 73 = .ok (.getfield 175, 3) := by decide +kernel
theorem dX9_lays_76 : decode cX9_lays 76 = .ok (.aload_n 0, 1) := by decide +kernel
theorem dX9_lays_77 : decode cX9_lays 77 = .ok (.getfield 74, 3) := by decide +kernel
theorem dX9_lays_80 : decode cX9_lays 80 = .ok (.iload 4, 2) := by decide +kernel
theorem dX9_lays_82 : decode cX9_lays 82 = .ok (.iaload, 1) := by decide +kernel
theorem dX9_lays_83 : decode cX9_lays 83 = .ok (.iadd, 1) := by decide +kernel
theorem dX9_lays_84 : decode cX9_lays 84 = .ok (.iastore, 1) := by decide +kernel
theorem dX9_lays_85 : decode cX9_lays 85 = .ok (.aload_n 0, 1) := by decide +kernel
theorem dX9_lays_86 : decode cX9_lays 86 = .ok (.getfield 113, 3) := by decide +kernel
theorem dX9_lays_89 : decode cX9_lays 89 = .ok (.iload 4, 2) := by decide +kernel
theorem dX9_lays_91 : decode cX9_lays 91 = .ok (.aload_n 0, 1) := by decide +kernel
theorem dX9_lays_92 : decode cX9_lays 92 = .ok (.getfield 152, 3) := by decide +kernel
theorem dX9_lays_95 : decode cX9_lays 95 = .ok (.iastore, 1) := by decide +kernel
theorem dX9_lays_96 : decode cX9_lays 96 = .ok (.iinc 4 1, 3) := by decide +kernel
theorem dX9_lays_99 : decode cX9_lays 99 = .ok (.goto (-89), 3) := by decide +kernel
theorem dX9_lays_102 : decode cX9_lays 102 = .ok (.return_, 1) := by decide +kernel
theorem dX9_plan_0 : decode cX9_plan 0 = .ok (.aload_n 0, 1) := by decide +kernel
theorem dX9_plan_1 : decode cX9_plan 1 = .ok (.invokevirtual 206, 3) := by decide +kernel
theorem dX9_plan_4 : decode cX9_plan 4 = .ok (.iconst 0, 1) := by decide +kernel
theorem dX9_plan_5 : decode cX9_plan 5 = .ok (.istore_n 1, 1) := by decide +kernel
theorem dX9_plan_6 : decode cX9_plan 6 = .ok (.iload_n 1, 1) := by decide +kernel
theorem dX9_plan_7 : decode cX9_plan 7 = .ok (.bipush 9, 2) := by decide +kernel
theorem dX9_plan_9 : decode cX9_plan 9 = .ok (.if_icmp .ge 14, 3) := by decide +kernel
theorem dX9_plan_12 : decode cX9_plan 12 = .ok (.aload_n 0, 1) := by decide +kernel
theorem dX9_plan_13 : decode cX9_plan 13 = .ok (.iload_n 1, 1) := by decide +kernel
theorem dX9_plan_14 : decode cX9_plan 14 = .ok (.invokevirtual 209, 3) := by decide +kernel
theorem dX9_plan_17 : decode cX9_plan 17 = .ok (.iinc 1 1, 3) := by decide +kernel
theorem dX9_plan_20 : decode cX9_plan 20 = .ok (.goto (-14), 3) := by decide +kernel
theorem dX9_plan_23 : decode cX9_plan 23 = .ok (.aload_n 0, 1) := by decide +kernel
theorem dX9_plan_24 : decode cX9_plan 24 = .ok (.invokevirtual 199, 3) := by decide +kernel
theorem dX9_plan_27 : decode cX9_plan 27 = .ok (.istore_n 1, 1) := by decide +kernel
theorem dX9_plan_28 : decode cX9_plan 28 = .ok (.aload_n 0, 1) := by decide +kernel
theorem dX9_plan_29 : decode cX9_plan 29 = .ok (.aload_n 0, 1) := by decide +kernel
theorem dX9_plan_30 : decode cX9_plan 30 = .ok (.getfield 86, 3) := by decide +kernel
theorem dX9_plan_33 : decode cX9_plan 33 = .ok (.iload_n 1, 1) := by decide +kernel
theorem dX9_plan_34 : decode cX9_plan 34 = .ok (.iaload, 1) := by decide +kernel
theorem dX9_plan_35 : decode cX9_plan 35 = .ok (.putfield 212, 3) := by decide +kernel
theorem dX9_plan_38 : decode cX9_plan 38 = .ok (.aload_n 0, 1) := by decide +kernel
theorem dX9_plan_39 : decode cX9_plan 39 = .ok (.getfield 92, 3) := by decide +kernel
theorem dX9_plan_42 : decode cX9_plan 42 = .ok (.iload_n 1, 1) := by decide +kernel
theorem dX9_plan_43 : decode cX9_plan 43 = .ok (.iaload, 1) := by decide +kernel
theorem dX9_plan_44 : decode cX9_plan 44 = .ok (.istore_n 2, 1) := by decide +kernel
theorem dX9_plan_45 : decode cX9_plan 45 = .ok (.iload_n 1, 1) := by decide +kernel
theorem dX9_plan_46 : decode cX9_plan 46 = .ok (.ifCond .eq 43, 3) := by decide +kernel
theorem dX9_plan_49 : decode cX9_plan 49 = .ok (.aload_n 0, 1) := by decide +kernel
theorem dX9_plan_50 : decode cX9_plan 50 = .ok (.getfield 95, 3) := by decide +kernel
theorem dX9_plan_53 : decode cX9_plan 53 = .ok (.iload_n 1, 1) := by decide +kernel
theorem dX9_plan_54 : decode cX9_plan 54 = .ok (.iaload, 1) := by decide +kernel
theorem dX9_plan_55 : decode cX9_plan 55 = .ok (.istore_n 3, 1) := by decide +kernel
theorem dX9_plan_56 : decode cX9_plan 56 = .ok (.iload_n 3, 1) := by decide +kernel
theorem dX9_plan_57 : decode cX9_plan 57 = .ok (.ifCond .ne 12, 3) := by decide +kernel
theorem dX9_plan_60 : decode cX9_plan 60 = .ok (.iload_n 1, 1) := by decide +kernel
theorem dX9_plan_61 : decode cX9_plan 61 = .ok (.iload_n 1, 1) := by decide +kernel
theorem dX9_plan_62 : decode cX9_plan 62 = .ok (.iconst 1, 1) := by decide +kernel
theorem dX9_plan_63 : decode cX9_plan 63 = .ok (.isub, 1) := by decide +kernel
theorem dX9_plan_64 : decode cX9_plan 64 = .ok (.iand, 1) := by decide +kernel
theorem dX9_plan_65 : decode cX9_plan 65 = .ok (.istore_n 1, 1) := by decide +kernel
theorem dX9_plan_66 : decode cX9_plan 66 = .ok (.goto 20, 3) := by decide +kernel
theorem dX9_plan_69 : decode cX9_plan 69 = .ok (.aload_n 0, 1) := by decide +kernel
theorem dX9_plan_70 : decode cX9_plan 70 = .ok (.iload_n 3, 1) := by decide +kernel
theorem dX9_plan_71 : decode cX9_plan 71 = .ok (.aload_n 0, 1) := by decide +kernel
theorem dX9_plan_72 : decode cX9_plan 72 = .ok (.getfield 80, 3) := by decide +kernel
theorem dX9_plan_75 : decode cX9_plan 75 = .ok (.iload_n 3, 1) := by decide +kernel
theorem dX9_plan_76 : decode cX9_plan 76 = .ok (.iaload, 1) := by decide +kernel
theorem dX9_plan_77 : decode cX9_plan 77 = .ok (.invokevirtual 215, 3) := by decide +kernel
theorem dX9_plan_80 : decode cX9_plan 80 = .ok (.iload_n 1, 1) := by decide +kernel
theorem dX9_plan_81 : decode cX9_plan 81 = .ok (.iload_n 3, 1) := by decide +kernel
theorem dX9_plan_82 : decode cX9_plan 82 = .ok (.iconst (-1), 1) := by decide +kernel
theorem dX9_plan_83 : decode cX9_plan 83 = .ok (.ixor, 1) := by decide +kernel
theorem dX9_plan_84 : decode cX9_plan 84 = .ok (.iand, 1) := by decide +kernel
theorem dX9_plan_85 : decode cX9_plan 85 = .ok (.istore_n 1, 1) := by decide +kernel
theorem dX9_plan_86 : decode cX9_plan 86 = .ok (.goto (-41), 3) := by decide +kernel
theorem dX9_plan_89 : decode cX9_plan 89 = .ok (.aload_n 0, 1) := by decide +kernel
theorem dX9_plan_90 : decode cX9_plan 90 = .ok (.iconst 1, 1) := by decide +kernel
theorem dX9_plan_91 : decode cX9_plan 91 = .ok (.putfield 219, 3) := by decide +kernel
theorem dX9_plan_94 : decode cX9_plan 94 = .ok (.iload_n 2, 1) := by decide +kernel
theorem dX9_plan_95 : decode cX9_plan 95 = .ok (.ireturn, 1) := by decide +kernel
theorem dX9_isFirst_0 : decode cX9_isFirst 0 = .ok (.aload_n 0, 1) := by decide +kernel
theorem dX9_isFirst_1 : decode cX9_isFirst 1 = .ok (.getfield 101, 3) := by decide +kernel
theorem dX9_isFirst_4 : decode cX9_isFirst 4 = .ok (.iload_n 1, 1) := by decide +kernel
theorem dX9_isFirst_5 : decode cX9_isFirst 5 = .ok (.iaload, 1) := by decide +kernel
theorem dX9_isFirst_6 : decode cX9_isFirst 6 = .ok (.ifCond .eq 27, 3) := by decide +kernel
theorem dX9_isFirst_9 : decode cX9_isFirst 9 = .ok (.aload_n 0, 1) := by decide +kernel
theorem dX9_isFirst_10 : decode cX9_isFirst 10 = .ok (.getfield 101, 3) := by decide +kernel
theorem dX9_isFirst_13 : decode cX9_isFirst 13 = .ok (.iload_n 1, 1) := by decide +kernel
theorem dX9_isFirst_14 : decode cX9_isFirst 14 = .ok (.iaload, 1) := by decide +kernel
theorem dX9_isFirst_15 : decode cX9_isFirst 15 = .ok (.aload_n 0, 1) := by decide +kernel
theorem dX9_isFirst_16 : decode cX9_isFirst 16 = .ok (.getfield 101, 3) := by decide +kernel
theorem dX9_isFirst_19 : decode cX9_isFirst 19 = .ok (.iload_n 1, 1) := by decide +kernel
theorem dX9_isFirst_20 : decode cX9_isFirst 20 = .ok (.iaload, 1) := by decide +kernel
theorem dX9_isFirst_21 : decode cX9_isFirst 21 = .ok (.ineg, 1) := by decide +kernel
theorem dX9_isFirst_22 : decode cX9_isFirst 22 = .ok (.iand, 1) := by decide +kernel
theorem dX9_isFirst_23 : decode cX9_isFirst 23 = .ok (.iconst 1, 1) := by decide +kernel
theorem dX9_isFirst_24 : decode cX9_isFirst 24 = .ok (.iload_n 1, 1) := by decide +kernel
theorem dX9_isFirst_25 : decode cX9_isFirst 25 = .ok (.ishl, 1) := by decide +kernel
theorem dX9_isFirst_26 : decode cX9_isFirst 26 = .ok (.if_icmp .ne 7, 3) := by decide +kernel
theorem dX9_isFirst_29 : decode cX9_isFirst 29 = .ok (.iconst 1, 1) := by decide +kernel
theorem dX9_isFirst_30 : decode cX9_isFirst 30 = .ok (.goto 4, 3) := by decide +kernel
theorem dX9_isFirst_33 : decode cX9_isFirst 33 = .ok (.iconst 0, 1) := by decide +kernel
theorem dX9_isFirst_34 : decode cX9_isFirst 34 = .ok (.ireturn, 1) := by decide +kernel
theorem dX9_planned_0 : decode cX9_planned 0 = .ok (.iconst 0, 1) := by decide +kernel
theorem dX9_planned_1 : decode cX9_planned 1 = .ok (.istore_n 2, 1) := by decide +kernel
theorem dX9_planned_2 : decode cX9_planned 2 = .ok (.iconst 0, 1) := by decide +kernel
theorem dX9_planned_3 : decode cX9_planned 3 = .ok (.istore_n 3, 1) := by decide +kernel
theorem dX9_planned_4 : decode cX9_planned 4 = .ok (.iload_n 3, 1) := by decide +kernel
theorem dX9_planned_5 : decode cX9_planned 5 = .ok (.aload_n 0, 1) := by decide +kernel
theorem dX9_planned_6 : decode cX9_planned 6 = .ok (.getfield 143, 3) := by decide +kernel
theorem dX9_planned_9 : decode cX9_planned 9 = .ok (.if_icmp .ge 59, 3) := by decide +kernel
theorem dX9_planned_12 : decode cX9_planned 12 = .ok (.iload_n 1, 1) := by decide +kernel
theorem dX9_planned_13 : decode cX9_planned 13 = .ok (.iconst 3, 1) := by decide +kernel
theorem dX9_planned_14 : decode cX9_planned 14 = .ok (.if_icmp .ne 23, 3) := by decide +kernel
theorem dX9_planned_17 : decode cX9_planned 17 = .ok (.iload_n 2, 1) := by decide +kernel
theorem dX9_planned_18 : decode cX9_planned 18 = .ok (.aload_n 0, 1) := by decide +kernel
theorem dX9_planned_19 : decode cX9_planned 19 = .ok (.getfield 101, 3) := by decide +kernel
theorem dX9_planned_22 : decode cX9_planned 22 = .ok (.iload_n 3, 1) := by decide +kernel
theorem dX9_planned_23 : decode cX9_planned 23 = .ok (.iaload, 1) := by decide +kernel
theorem dX9_planned_24 : decode cX9_planned 24 = .ok (.ifCond .eq 7, 3) := by decide +kernel
theorem dX9_planned_27 : decode cX9_planned 27 = .ok (.iconst 1, 1) := by decide +kernel
theorem dX9_planned_28 : decode cX9_planned 28 = .ok (.goto 4, 3) := by decide +kernel
theorem dX9_planned_31 : decode cX9_planned 31 = .ok (.iconst 0, 1) := by decide +kernel
theorem dX9_planned_32 : decode cX9_planned 32 = .ok (.iadd, 1) := by decide +kernel
theorem dX9_planned_33 : decode cX9_planned 33 = .ok (.istore_n 2, 1) := by decide +kernel
theorem dX9_planned_34 : decode cX9_planned 34 = .ok (.goto 28, 3) := by decide +kernel
theorem dX9_planned_37 : decode cX9_planned 37 = .ok (.aload_n 0, 1) := by decide +kernel
theorem dX9_planned_38 : decode cX9_planned 38 = .ok (.iload_n 3, 1) := by decide +kernel
theorem dX9_planned_39 : decode cX9_planned 39 = .ok (.invokevirtual 222, 3) := by decide +kernel
theorem dX9_planned_42 : decode cX9_planned 42 = .ok (.ifCond .eq 20, 3) := by decide +kernel
theorem dX9_planned_45 : decode cX9_planned 45 = .ok (.iload_n 2, 1) := by decide +kernel
theorem dX9_planned_46 : decode cX9_planned 46 = .ok (.iload_n 1, 1) := by decide +kernel
theorem dX9_planned_47 : decode cX9_planned 47 = .ok (.ifCond .ne 7, 3) := by decide +kernel
theorem dX9_planned_50 : decode cX9_planned 50 = .ok (.iconst 1, 1) := by decide +kernel
theorem dX9_planned_51 : decode cX9_planned 51 = .ok (.goto 9, 3) := by decide +kernel
theorem dX9_planned_54 : decode cX9_planned 54 = .ok (.aload_n 0, 1) := by decide +kernel
theorem dX9_planned_55 : decode cX9_planned 55 = .ok (.getfield 113, 3) := by decide +kernel
theorem dX9_planned_58 : decode cX9_planned 58 = .ok (.iload_n 3, 1) := by decide +kernel
theorem dX9_planned_59 : decode cX9_planned 59 = .ok (.iaload, 1) := by decide +kernel
theorem dX9_planned_60 : decode cX9_planned 60 = .ok (.iadd, 1) := by decide +kernel
theorem dX9_planned_61 : decode cX9_planned 61 = .ok (.istore_n 2, 1) := by decide +kernel
theorem dX9_planned_62 : decode cX9_planned 62 = .ok (.iinc 3 1, 3) := by decide +kernel
theorem dX9_planned_65 : decode cX9_planned 65 = .ok (.goto (-61), 3) := by decide +kernel
theorem dX9_planned_68 : decode cX9_planned 68 = .ok (.iload_n 2, 1) := by decide +kernel
theorem dX9_planned_69 : decode cX9_planned 69 = .ok (.ireturn, 1) := by decide +kernel
theorem dX9_planOf_0 : decode cX9_planOf 0 = .ok (.aload_n 0, 1) := by decide +kernel
theorem dX9_planOf_1 : decode cX9_planOf 1 = .ok (.getfield 219, 3) := by decide +kernel
theorem dX9_planOf_4 : decode cX9_planOf 4 = .ok (.ifCond .ne 10, 3) := by decide +kernel
theorem dX9_planOf_7 : decode cX9_planOf 7 = .ok (.aload_n 0, 1) := by decide +kernel
theorem dX9_planOf_8 : decode cX9_planOf 8 = .ok (.bipush (-3), 2) := by decide +kernel
theorem dX9_planOf_10 : decode cX9_planOf 10 = .ok (.invokevirtual 136, 3) := by decide +kernel
theorem dX9_planOf_13 : decode cX9_planOf 13 = .ok (.ireturn, 1) := by decide +kernel
theorem dX9_planOf_14 : decode cX9_planOf 14 = .ok (.iload_n 1, 1) := by decide +kernel
theorem dX9_planOf_15 : decode cX9_planOf 15 = .ok (.iconst 4, 1) := by decide +kernel
theorem dX9_planOf_16 : decode cX9_planOf 16 = .ok (.invokestatic 132, 3) := by decide +kernel
theorem dX9_planOf_19 : decode cX9_planOf 19 = .ok (.ifCond .ne 10, 3) := by decide +kernel
theorem dX9_planOf_22 : decode cX9_planOf 22 = .ok (.aload_n 0, 1) := by decide +kernel
theorem dX9_planOf_23 : decode cX9_planOf 23 = .ok (.bipush (-2), 2) := by decide +kernel
theorem dX9_planOf_25 : decode cX9_planOf 25 = .ok (.invokevirtual 136, 3) := by decide +kernel
theorem dX9_planOf_28 : decode cX9_planOf 28 = .ok (.ireturn, 1) := by decide +kernel
theorem dX9_planOf_29 : decode cX9_planOf 29 = .ok (.iload_n 1, 1) := by decide +kernel
theorem dX9_planOf_30 : decode cX9_planOf 30 = .ok (.iconst 1, 1) := by decide +kernel
theorem dX9_planOf_31 : decode cX9_planOf 31 = .ok (.if_icmp .ne 10, 3) := by decide +kernel
theorem dX9_planOf_34 : decode cX9_planOf 34 = .ok (.aload_n 0, 1) := by decide +kernel
theorem dX9_planOf_35 : decode cX9_planOf 35 = .ok (.getfield 212, 3) := by decide +kernel
theorem dX9_planOf_38 : decode cX9_planOf 38 = .ok (.goto 8, 3) := by decide +kernel
theorem dX9_planOf_41 : decode cX9_planOf 41 = .ok (.aload_n 0, 1) := by decide +kernel
theorem dX9_planOf_42 : decode cX9_planOf 42 = .ok (.iload_n 1, 1) := by decide +kernel
theorem dX9_planOf_43 : decode cX9_planOf 43 = .ok (.invokevirtual 225, 3) := by decide +kernel
theorem dX9_planOf_46 : decode cX9_planOf 46 = .ok (.ireturn, 1) := by decide +kernel
theorem dX9_poolOf_0 : decode cX9_poolOf 0 = .ok (.aload_n 0, 1) := by decide +kernel
theorem dX9_poolOf_1 : decode cX9_poolOf 1 = .ok (.getfield 219, 3) := by decide +kernel
theorem dX9_poolOf_4 : decode cX9_poolOf 4 = .ok (.ifCond .ne 10, 3) := by decide +kernel
theorem dX9_poolOf_7 : decode cX9_poolOf 7 = .ok (.aload_n 0, 1) := by decide +kernel
theorem dX9_poolOf_8 : decode cX9_poolOf 8 = .ok (.bipush (-3), 2) := by decide +kernel
theorem dX9_poolOf_10 : decode cX9_poolOf 10 = .ok (.invokevirtual 136, 3) := by decide +kernel
theorem dX9_poolOf_13 : decode cX9_poolOf 13 = .ok (.ireturn, 1) := by decide +kernel
theorem dX9_poolOf_14 : decode cX9_poolOf 14 = .ok (.aload_n 0, 1) := by decide +kernel
theorem dX9_poolOf_15 : decode cX9_poolOf 15 = .ok (.iload_n 1, 1) := by decide +kernel
theorem dX9_poolOf_16 : decode cX9_poolOf 16 = .ok (.invokevirtual 147, 3) := by decide +kernel
theorem dX9_poolOf_19 : decode cX9_poolOf 19 = .ok (.ifCond .ne 9, 3) := by decide +kernel
theorem dX9_poolOf_22 : decode cX9_poolOf 22 = .ok (.aload_n 0, 1) := by decide +kernel
theorem dX9_poolOf_23 : decode cX9_poolOf 23 = .ok (.iconst (-1), 1) := by decide +kernel
theorem dX9_poolOf_24 : decode cX9_poolOf 24 = .ok (.invokevirtual 136, 3) := by decide +kernel
theorem dX9_poolOf_27 : decode cX9_poolOf 27 = .ok (.ireturn, 1) := by decide +kernel
theorem dX9_poolOf_28 : decode cX9_poolOf 28 = .ok (.iload_n 2, 1) := by decide +kernel
theorem dX9_poolOf_29 : decode cX9_poolOf 29 = .ok (.tableswitch 101 0 3 #[31, 38, 59, 80], 31) := by decide +kernel
theorem dX9_poolOf_60 : decode cX9_poolOf 60 = .ok (.aload_n 0, 1) := by decide +kernel
theorem dX9_poolOf_61 : decode cX9_poolOf 61 = .ok (.getfield 101, 3) := by decide +kernel
theorem dX9_poolOf_64 : decode cX9_poolOf 64 = .ok (.iload_n 1, 1) := by decide +kernel
theorem dX9_poolOf_65 : decode cX9_poolOf 65 = .ok (.iaload, 1) := by decide +kernel
theorem dX9_poolOf_66 : decode cX9_poolOf 66 = .ok (.ireturn, 1) := by decide +kernel
theorem dX9_poolOf_67 : decode cX9_poolOf 67 = .ok (.aload_n 0, 1) := by decide +kernel
theorem dX9_poolOf_68 : decode cX9_poolOf 68 = .ok (.getfield 101, 3) := by decide +kernel
theorem dX9_poolOf_71 : decode cX9_poolOf 71 = .ok (.iload_n 1, 1) := by decide +kernel
theorem dX9_poolOf_72 : decode cX9_poolOf 72 = .ok (.iaload, 1) := by decide +kernel
theorem dX9_poolOf_73 : decode cX9_poolOf 73 = .ok (.ifCond .ne 8, 3) := by decide +kernel
theorem dX9_poolOf_76 : decode cX9_poolOf 76 = .ok (.bipush (-9), 2) := by decide +kernel
theorem dX9_poolOf_78 : decode cX9_poolOf 78 = .ok (.goto 9, 3) := by decide +kernel
theorem dX9_poolOf_81 : decode cX9_poolOf 81 = .ok (.aload_n 0, 1) := by decide +kernel
theorem dX9_poolOf_82 : decode cX9_poolOf 82 = .ok (.getfield 104, 3) := by decide +kernel
theorem dX9_poolOf_85 : decode cX9_poolOf 85 = .ok (.iload_n 1, 1) := by decide +kernel
theorem dX9_poolOf_86 : decode cX9_poolOf 86 = .ok (.iaload, 1) := by decide +kernel
theorem dX9_poolOf_87 : decode cX9_poolOf 87 = .ok (.ireturn, 1) := by decide +kernel
theorem dX9_poolOf_88 : decode cX9_poolOf 88 = .ok (.aload_n 0, 1) := by decide +kernel
theorem dX9_poolOf_89 : decode cX9_poolOf 89 = .ok (.getfield 101, 3) := by decide +kernel
theorem dX9_poolOf_92 : decode cX9_poolOf 92 = .ok (.iload_n 1, 1) := by decide +kernel
theorem dX9_poolOf_93 : decode cX9_poolOf 93 = .ok (.iaload, 1) := by decide +kernel
theorem dX9_poolOf_94 : decode cX9_poolOf 94 = .ok (.ifCond .ne 8, 3) := by decide +kernel
theorem dX9_poolOf_97 : decode cX9_poolOf 97 = .ok (.bipush (-9), 2) := by decide +kernel
theorem dX9_poolOf_99 : decode cX9_poolOf 99 = .ok (.goto 9, 3) := by decide +kernel
theorem dX9_poolOf_102 : decode cX9_poolOf 102 = .ok (.aload_n 0, 1) := by decide +kernel
theorem dX9_poolOf_103 : decode cX9_poolOf 103 = .ok (.getfield 107, 3) := by decide +kernel
theorem dX9_poolOf_106 : decode cX9_poolOf 106 = .ok (.iload_n 1, 1) := by decide +kernel
theorem dX9_poolOf_107 : decode cX9_poolOf 107 = .ok (.iaload, 1) := by decide +kernel
theorem dX9_poolOf_108 : decode cX9_poolOf 108 = .ok (.ireturn, 1) := by decide +kernel
theorem dX9_poolOf_109 : decode cX9_poolOf 109 = .ok (.aload_n 0, 1) := by decide +kernel
theorem dX9_poolOf_110 : decode cX9_poolOf 110 = .ok (.getfield 101, 3) := by decide +kernel
theorem dX9_poolOf_113 : decode cX9_poolOf 113 = .ok (.iload_n 1, 1) := by decide +kernel
theorem dX9_poolOf_114 : decode cX9_poolOf 114 = .ok (.iaload, 1) := by decide +kernel
theorem dX9_poolOf_115 : decode cX9_poolOf 115 = .ok (.ifCond .ne 8, 3) := by decide +kernel
theorem dX9_poolOf_118 : decode cX9_poolOf 118 = .ok (.bipush (-9), 2) := by decide +kernel
theorem dX9_poolOf_120 : decode cX9_poolOf 120 = .ok (.goto 9, 3) := by decide +kernel
theorem dX9_poolOf_123 : decode cX9_poolOf 123 = .ok (.aload_n 0, 1) := by decide +kernel
theorem dX9_poolOf_124 : decode cX9_poolOf 124 = .ok (.getfield 110, 3) := by decide +kernel
theorem dX9_poolOf_127 : decode cX9_poolOf 127 = .ok (.iload_n 1, 1) := by decide +kernel
theorem dX9_poolOf_128 : decode cX9_poolOf 128 = .ok (.iaload, 1) := by decide +kernel
theorem dX9_poolOf_129 : decode cX9_poolOf 129 = .ok (.ireturn, 1) := by decide +kernel
theorem dX9_poolOf_130 : decode cX9_poolOf 130 = .ok (.aload_n 0, 1) := by decide +kernel
theorem dX9_poolOf_131 : decode cX9_poolOf 131 = .ok (.bipush (-2), 2) := by decide +kernel
theorem dX9_poolOf_133 : decode cX9_poolOf 133 = .ok (.invokevirtual 136, 3) := by decide +kernel
theorem dX9_poolOf_136 : decode cX9_poolOf 136 = .ok (.ireturn, 1) := by decide +kernel
theorem dX9_same_0 : decode cX9_same 0 = .ok (.aload_n 0, 1) := by decide +kernel
theorem dX9_same_1 : decode cX9_same 1 = .ok (.getfield 219, 3) := by decide +kernel
theorem dX9_same_4 : decode cX9_same 4 = .ok (.ifCond .ne 10, 3) := by decide +kernel
theorem dX9_same_7 : decode cX9_same 7 = .ok (.aload_n 0, 1) := by decide +kernel
theorem dX9_same_8 : decode cX9_same 8 = .ok (.bipush (-3), 2) := by decide +kernel
theorem dX9_same_10 : decode cX9_same 10 = .ok (.invokevirtual 136, 3) := by decide +kernel
theorem dX9_same_13 : decode cX9_same 13 = .ok (.ireturn, 1) := by decide +kernel
theorem dX9_same_14 : decode cX9_same 14 = .ok (.aload_n 0, 1) := by decide +kernel
theorem dX9_same_15 : decode cX9_same 15 = .ok (.invokevirtual 206, 3) := by decide +kernel
theorem dX9_same_18 : decode cX9_same 18 = .ok (.aload_n 0, 1) := by decide +kernel
theorem dX9_same_19 : decode cX9_same 19 = .ok (.invokevirtual 199, 3) := by decide +kernel
theorem dX9_same_22 : decode cX9_same 22 = .ok (.istore_n 1, 1) := by decide +kernel
theorem dX9_same_23 : decode cX9_same 23 = .ok (.aload_n 0, 1) := by decide +kernel
theorem dX9_same_24 : decode cX9_same 24 = .ok (.getfield 212, 3) := by decide +kernel
theorem dX9_same_27 : decode cX9_same 27 = .ok (.aload_n 0, 1) := by decide +kernel
theorem dX9_same_28 : decode cX9_same 28 = .ok (.getfield 86, 3) := by decide +kernel
theorem dX9_same_31 : decode cX9_same 31 = .ok (.iload_n 1, 1) := by decide +kernel
theorem dX9_same_32 : decode cX9_same 32 = .ok (.iaload, 1) := by decide +kernel
theorem dX9_same_33 : decode cX9_same 33 = .ok (.if_icmp .ne 35, 3) := by decide +kernel
theorem dX9_same_36 : decode cX9_same 36 = .ok (.aload_n 0, 1) := by decide +kernel
theorem dX9_same_37 : decode cX9_same 37 = .ok (.iconst 2, 1) := by decide +kernel
theorem dX9_same_38 : decode cX9_same 38 = .ok (.invokevirtual 225, 3) := by decide +kernel
theorem dX9_same_41 : decode cX9_same 41 = .ok (.aload_n 0, 1) := by decide +kernel
theorem dX9_same_42 : decode cX9_same 42 = .ok (.getfield 89, 3) := by decide +kernel
theorem dX9_same_45 : decode cX9_same 45 = .ok (.iload_n 1, 1) := by decide +kernel
theorem dX9_same_46 : decode cX9_same 46 = .ok (.iaload, 1) := by decide +kernel
theorem dX9_same_47 : decode cX9_same 47 = .ok (.if_icmp .ne 21, 3) := by decide +kernel
theorem dX9_same_50 : decode cX9_same 50 = .ok (.aload_n 0, 1) := by decide +kernel
theorem dX9_same_51 : decode cX9_same 51 = .ok (.iconst 0, 1) := by decide +kernel
theorem dX9_same_52 : decode cX9_same 52 = .ok (.invokevirtual 225, 3) := by decide +kernel
theorem dX9_same_55 : decode cX9_same 55 = .ok (.aload_n 0, 1) := by decide +kernel
theorem dX9_same_56 : decode cX9_same 56 = .ok (.getfield 92, 3) := by decide +kernel
theorem dX9_same_59 : decode cX9_same 59 = .ok (.iload_n 1, 1) := by decide +kernel
theorem dX9_same_60 : decode cX9_same 60 = .ok (.iaload, 1) := by decide +kernel
theorem dX9_same_61 : decode cX9_same 61 = .ok (.if_icmp .ne 7, 3) := by decide +kernel
theorem dX9_same_64 : decode cX9_same 64 = .ok (.iconst 1, 1) := by decide +kernel
theorem dX9_same_65 : decode cX9_same 65 = .ok (.goto 4, 3) := by decide +kernel
theorem dX9_same_68 : decode cX9_same 68 = .ok (.iconst 0, 1) := by decide +kernel
theorem dX9_same_69 : decode cX9_same 69 = .ok (.ireturn, 1) := by decide +kernel
theorem dX9_even_0 : decode cX9_even 0 = .ok (.aload_n 0, 1) := by decide +kernel
theorem dX9_even_1 : decode cX9_even 1 = .ok (.getfield 219, 3) := by decide +kernel
theorem dX9_even_4 : decode cX9_even 4 = .ok (.ifCond .ne 10, 3) := by decide +kernel
theorem dX9_even_7 : decode cX9_even 7 = .ok (.aload_n 0, 1) := by decide +kernel
theorem dX9_even_8 : decode cX9_even 8 = .ok (.bipush (-3), 2) := by decide +kernel
theorem dX9_even_10 : decode cX9_even 10 = .ok (.invokevirtual 136, 3) := by decide +kernel
theorem dX9_even_13 : decode cX9_even 13 = .ok (.ireturn, 1) := by decide +kernel
theorem dX9_even_14 : decode cX9_even 14 = .ok (.iconst 0, 1) := by decide +kernel
theorem dX9_even_15 : decode cX9_even 15 = .ok (.istore_n 1, 1) := by decide +kernel
theorem dX9_even_16 : decode cX9_even 16 = .ok (.iconst 0, 1) := by decide +kernel
theorem dX9_even_17 : decode cX9_even 17 = .ok (.istore_n 2, 1) := by decide +kernel
theorem dX9_even_18 : decode cX9_even 18 = .ok (.iload_n 2, 1) := by decide +kernel
theorem dX9_even_19 : decode cX9_even 19 = .ok (.aload_n 0, 1) := by decide +kernel
theorem dX9_even_20 : decode cX9_even 20 = .ok (.getfield 143, 3) := by decide +kernel
theorem dX9_even_23 : decode cX9_even 23 = .ok (.if_icmp .ge 80, 3) := by decide +kernel
theorem dX9_even_26 : decode cX9_even 26 = .ok (.aload_n 0, 1) := by decide +kernel
theorem dX9_even_27 : decode cX9_even 27 = .ok (.iload_n 2, 1) := by decide +kernel
theorem dX9_even_28 : decode cX9_even 28 = .ok (.invokevirtual 222, 3) := by decide +kernel
theorem dX9_even_31 : decode cX9_even 31 = .ok (.ifCond .eq 66, 3) := by decide +kernel
theorem dX9_even_34 : decode cX9_even 34 = .ok (.aload_n 0, 1) := by decide +kernel
theorem dX9_even_35 : decode cX9_even 35 = .ok (.aload_n 0, 1) := by decide +kernel
theorem dX9_even_36 : decode cX9_even 36 = .ok (.getfield 101, 3) := by decide +kernel
theorem dX9_even_39 : decode cX9_even 39 = .ok (.iload_n 2, 1) := by decide +kernel
theorem dX9_even_40 : decode cX9_even 40 = .ok (.iaload, 1) := by decide +kernel
theorem dX9_even_41 : decode cX9_even 41 = .ok (.invokevirtual 181, 3) := by decide +kernel
theorem dX9_even_44 : decode cX9_even 44 = .ok (.ifCond .eq 6, 3) := by decide +kernel
theorem dX9_even_47 : decode cX9_even 47 = .ok (.goto 50, 3) := by decide +kernel
theorem dX9_even_50 : decode cX9_even 50 = .ok (.aload_n 0, 1) := by decide +kernel
theorem dX9_even_51 : decode cX9_even 51 = .ok (.aload_n 0, 1) := by decide +kernel
theorem dX9_even_52 : decode cX9_even 52 = .ok (.getfield 101, 3) := by decide +kernel
theorem dX9_even_55 : decode cX9_even 55 = .ok (.iload_n 2, 1) := by decide +kernel
theorem dX9_even_56 : decode cX9_even 56 = .ok (.iaload, 1) := by decide +kernel
theorem dX9_even_57 : decode cX9_even 57 = .ok (.invokevirtual 196, 3) := by decide +kernel
theorem dX9_even_60 : decode cX9_even 60 = .ok (.istore_n 3, 1) := by decide +kernel
theorem dX9_even_61 : decode cX9_even 61 = .ok (.iload_n 3, 1) := by decide +kernel
theorem dX9_even_62 : decode cX9_even 62 = .ok (.ifCond .ge 6, 3) := by decide +kernel
theorem dX9_even_65 : decode cX9_even 65 = .ok (.goto 32, 3) := by decide +kernel
theorem dX9_even_68 : decode cX9_even 68 = .ok (.iload_n 1, 1) := by decide +kernel
theorem dX9_even_69 : decode cX9_even 69 = .ok (.iload_n 3, 1) := by decide +kernel
theorem dX9_even_70 : decode cX9_even 70 = .ok (.aload_n 0, 1) := by decide +kernel
theorem dX9_even_71 : decode cX9_even 71 = .ok (.getfield 104, 3) := by decide +kernel
theorem dX9_even_74 : decode cX9_even 74 = .ok (.iload_n 2, 1) := by decide +kernel
theorem dX9_even_75 : decode cX9_even 75 = .ok (.iaload, 1) := by decide +kernel
theorem dX9_even_76 : decode cX9_even 76 = .ok (.if_icmp .eq 7, 3) := by decide +kernel
theorem dX9_even_79 : decode cX9_even 79 = .ok (.iconst 1, 1) := by decide +kernel
theorem dX9_even_80 : decode cX9_even 80 = .ok (.goto 4, 3) := by decide +kernel
theorem dX9_even_83 : decode cX9_even 83 = .ok (.iconst 0, 1) := by decide +kernel
theorem dX9_even_84 : decode cX9_even 84 = .ok (.iadd, 1) := by decide +kernel
theorem dX9_even_85 : decode cX9_even 85 = .ok (.istore_n 1, 1) := by decide +kernel
theorem dX9_even_86 : decode cX9_even 86 = .ok (.aload_n 0, 1) := by decide +kernel
theorem dX9_even_87 : decode cX9_even 87 = .ok (.aload_n 0, 1) := by decide +kernel
theorem dX9_even_88 : decode cX9_even 88 = .ok (.getfield 101, 3) := by decide +kernel
theorem dX9_even_91 : decode cX9_even 91 = .ok (.iload_n 2, 1) := by decide +kernel
theorem dX9_even_92 : decode cX9_even 92 = .ok (.iaload, 1) := by decide +kernel
theorem dX9_even_93 : decode cX9_even 93 = .ok (.iload_n 3, 1) := by decide +kernel
theorem dX9_even_94 : decode cX9_even 94 = .ok (.invokevirtual 215, 3) := by decide +kernel
theorem dX9_even_97 : decode cX9_even 97 = .ok (.iinc 2 1, 3) := by decide +kernel
theorem dX9_even_100 : decode cX9_even 100 = .ok (.goto (-82), 3) := by decide +kernel
theorem dX9_even_103 : decode cX9_even 103 = .ok (.iload_n 1, 1) := by decide +kernel
theorem dX9_even_104 : decode cX9_even 104 = .ok (.ireturn, 1) := by decide +kernel
theorem dX9_mornings_0 : decode cX9_mornings 0 = .ok (.aload_n 0, 1) := by decide +kernel
theorem dX9_mornings_1 : decode cX9_mornings 1 = .ok (.getfield 219, 3) := by decide +kernel
theorem dX9_mornings_4 : decode cX9_mornings 4 = .ok (.ifCond .ne 10, 3) := by decide +kernel
theorem dX9_mornings_7 : decode cX9_mornings 7 = .ok (.aload_n 0, 1) := by decide +kernel
theorem dX9_mornings_8 : decode cX9_mornings 8 = .ok (.bipush (-3), 2) := by decide +kernel
theorem dX9_mornings_10 : decode cX9_mornings 10 = .ok (.invokevirtual 136, 3) := by decide +kernel
theorem dX9_mornings_13 : decode cX9_mornings 13 = .ok (.ireturn, 1) := by decide +kernel
theorem dX9_mornings_14 : decode cX9_mornings 14 = .ok (.iload_n 1, 1) := by decide +kernel
theorem dX9_mornings_15 : decode cX9_mornings 15 = .ok (.iconst 1, 1) := by decide +kernel
theorem dX9_mornings_16 : decode cX9_mornings 16 = .ok (.if_icmp .ge 10, 3) := by decide +kernel
theorem dX9_mornings_19 : decode cX9_mornings 19 = .ok (.aload_n 0, 1) := by decide +kernel
theorem dX9_mornings_20 : decode cX9_mornings 20 = .ok (.bipush (-4), 2) := by decide +kernel
theorem dX9_mornings_22 : decode cX9_mornings 22 = .ok (.invokevirtual 136, 3) := by decide +kernel
theorem dX9_mornings_25 : decode cX9_mornings 25 = .ok (.ireturn, 1) := by decide +kernel
theorem dX9_mornings_26 : decode cX9_mornings 26 = .ok (.iload_n 1, 1) := by decide +kernel
theorem dX9_mornings_27 : decode cX9_mornings 27 = .ok (.sipush 1000, 3) := by decide +kernel
theorem dX9_mornings_30 : decode cX9_mornings 30 = .ok (.if_icmp .le 10, 3) := by decide +kernel
theorem dX9_mornings_33 : decode cX9_mornings 33 = .ok (.aload_n 0, 1) := by decide +kernel
theorem dX9_mornings_34 : decode cX9_mornings 34 = .ok (.bipush (-6), 2) := by decide +kernel
theorem dX9_mornings_36 : decode cX9_mornings 36 = .ok (.invokevirtual 136, 3) := by decide +kernel
theorem dX9_mornings_39 : decode cX9_mornings 39 = .ok (.ireturn, 1) := by decide +kernel
theorem dX9_mornings_40 : decode cX9_mornings 40 = .ok (.iconst 0, 1) := by decide +kernel
theorem dX9_mornings_41 : decode cX9_mornings 41 = .ok (.istore_n 2, 1) := by decide +kernel
theorem dX9_mornings_42 : decode cX9_mornings 42 = .ok (.iload_n 2, 1) := by decide +kernel
theorem dX9_mornings_43 : decode cX9_mornings 43 = .ok (.aload_n 0, 1) := by decide +kernel
theorem dX9_mornings_44 : decode cX9_mornings 44 = .ok (.getfield 143, 3) := by decide +kernel
theorem dX9_mornings_47 : decode cX9_mornings 47 = .ok (.if_icmp .ge 52, 3) := by decide +kernel
theorem dX9_mornings_50 : decode cX9_mornings 50 = .ok (.aload_n 0, 1) := by decide +kernel
theorem dX9_mornings_51 : decode cX9_mornings 51 = .ok (.getfield 101, 3) := by decide +kernel
theorem dX9_mornings_54 : decode cX9_mornings 54 = .ok (.iload_n 2, 1) := by decide +kernel
theorem dX9_mornings_55 : decode cX9_mornings 55 = .ok (.iaload, 1) := by decide +kernel
theorem dX9_mornings_56 : decode cX9_mornings 56 = .ok (.invokestatic 155, 3) := by decide +kernel
theorem dX9_mornings_59 : decode cX9_mornings 59 = .ok (.iconst 1, 1) := by decide +kernel
theorem dX9_mornings_60 : decode cX9_mornings 60 = .ok (.isub, 1) := by decide +kernel
theorem dX9_mornings_61 : decode cX9_mornings 61 = .ok (.istore_n 3, 1) := by decide +kernel
theorem dX9_mornings_62 : decode cX9_mornings 62 = .ok (.iload_n 3, 1) := by decide +kernel
theorem dX9_mornings_63 : decode cX9_mornings 63 = .ok (.ifCond .le 30, 3) := by decide +kernel
theorem dX9_mornings_66 : decode cX9_mornings 66 = .ok (.aload_n 0, 1) := by decide +kernel
theorem dX9_mornings_67 : decode cX9_mornings 67 = .ok (.getfield 43, 3) := by decide +kernel
theorem dX9_mornings_70 : decode cX9_mornings 70 = .ok (.iload_n 2, 1) := by decide +kernel
theorem dX9_mornings_71 : decode cX9_mornings 71 = .ok (.dup2, 1) := by decide +kernel
theorem dX9_mornings_72 : decode cX9_mornings 72 = .ok (.iaload, 1) := by decide +kernel
theorem dX9_mornings_73 : decode cX9_mornings 73 = .ok (.aload_n 0, 1) := by decide +kernel
theorem dX9_mornings_74 : decode cX9_mornings 74 = .ok (.getfield 104, 3) := by decide +kernel
theorem dX9_mornings_77 : decode cX9_mornings 77 = .ok (.iload_n 2, 1) := by decide +kernel
theorem dX9_mornings_78 : decode cX9_mornings 78 = .ok (.iaload, 1) := by decide +kernel
theorem dX9_mornings_79 : decode cX9_mornings 79 = .ok (.iload_n 2, 1) := by decide +kernel
theorem dX9_mornings_80 : decode cX9_mornings 80 = .ok (.if_icmp .ne 9, 3) := by decide +kernel
theorem dX9_mornings_83 : decode cX9_mornings 83 = .ok (.iload_n 1, 1) := by decide +kernel
theorem dX9_mornings_84 : decode cX9_mornings 84 = .ok (.iload_n 3, 1) := by decide +kernel
theorem dX9_mornings_85 : decode cX9_mornings 85 = .ok (.imul, 1) := by decide +kernel
theorem dX9_mornings_86 : decode cX9_mornings 86 = .ok (.goto 5, 3) := by decide +kernel
theorem dX9_mornings_89 : decode cX9_mornings 89 = .ok (.iload_n 1, 1) := by decide +kernel
theorem dX9_mornings_90 : decode cX9_mornings 90 = .ok (.ineg, 1) := by decide +kernel
theorem dX9_mornings_91 : decode cX9_mornings 91 = .ok (.iadd, 1) := by decide +kernel
theorem dX9_mornings_92 : decode cX9_mornings 92 = .ok (.iastore, 1) := by decide +kernel
theorem dX9_mornings_93 : decode cX9_mornings 93 = .ok (.iinc 2 1, 3) := by decide +kernel
theorem dX9_mornings_96 : decode cX9_mornings 96 = .ok (.goto (-54), 3) := by decide +kernel
theorem dX9_mornings_99 : decode cX9_mornings 99 = .ok (.aload_n 0, 1) := by decide +kernel
theorem dX9_mornings_100 : decode cX9_mornings 100 = .ok (.dup, 1) := by decide +kernel
theorem dX9_mornings_101 : decode cX9_mornings 101 = .ok (.getfield 228, 3) := by decide +kernel
theorem dX9_mornings_104 : decode cX9_mornings 104 = .ok (.iload_n 1, 1) := by decide +kernel
theorem dX9_mornings_105 : decode cX9_mornings 105 = .ok (.iadd, 1) := by decide +kernel
theorem dX9_mornings_106 : decode cX9_mornings 106 = .ok (.putfield 228, 3) := by decide +kernel
theorem dX9_mornings_109 : decode cX9_mornings 109 = .ok (.iload_n 1, 1) := by decide +kernel
theorem dX9_mornings_110 : decode cX9_mornings 110 = .ok (.ireturn, 1) := by decide +kernel
theorem dX9_joins_0 : decode cX9_joins 0 = .ok (.aload_n 0, 1) := by decide +kernel
theorem dX9_joins_1 : decode cX9_joins 1 = .ok (.getfield 46, 3) := by decide +kernel
theorem dX9_joins_4 : decode cX9_joins 4 = .ok (.iload_n 1, 1) := by decide +kernel
theorem dX9_joins_5 : decode cX9_joins 5 = .ok (.baload, 1) := by decide +kernel
theorem dX9_joins_6 : decode cX9_joins 6 = .ok (.ifCond .eq 5, 3) := by decide +kernel
theorem dX9_joins_9 : decode cX9_joins 9 = .ok (.iconst 0, 1) := by decide +kernel
theorem dX9_joins_10 : decode cX9_joins 10 = .ok (.ireturn, 1) := by decide +kernel
theorem dX9_joins_11 : decode cX9_joins 11 = .ok (.iconst 0, 1) := by decide +kernel
theorem dX9_joins_12 : decode cX9_joins 12 = .ok (.istore_n 2, 1) := by decide +kernel
theorem dX9_joins_13 : decode cX9_joins 13 = .ok (.iload_n 2, 1) := by decide +kernel
theorem dX9_joins_14 : decode cX9_joins 14 = .ok (.aload_n 0, 1) := by decide +kernel
theorem dX9_joins_15 : decode cX9_joins 15 = .ok (.getfield 143, 3) := by decide +kernel
theorem dX9_joins_18 : decode cX9_joins 18 = .ok (.if_icmp .ge 77, 3) := by decide +kernel
theorem dX9_joins_21 : decode cX9_joins 21 = .ok (.aload_n 0, 1) := by decide +kernel
theorem dX9_joins_22 : decode cX9_joins 22 = .ok (.iload_n 2, 1) := by decide +kernel
theorem dX9_joins_23 : decode cX9_joins 23 = .ok (.invokevirtual 222, 3) := by decide +kernel
theorem dX9_joins_26 : decode cX9_joins 26 = .ok (.ifCond .ne 6, 3) := by decide +kernel
theorem dX9_joins_29 : decode cX9_joins 29 = .ok (.goto 60, 3) := by decide +kernel
theorem dX9_joins_32 : decode cX9_joins 32 = .ok (.aload_n 0, 1) := by decide +kernel
theorem dX9_joins_33 : decode cX9_joins 33 = .ok (.getfield 101, 3) := by decide +kernel
theorem dX9_joins_36 : decode cX9_joins 36 = .ok (.iload_n 2, 1) := by decide +kernel
theorem dX9_joins_37 : decode cX9_joins 37 = .ok (.iaload, 1) := by decide +kernel
theorem dX9_joins_38 : decode cX9_joins 38 = .ok (.iconst 1, 1) := by decide +kernel
theorem dX9_joins_39 : decode cX9_joins 39 = .ok (.iload_n 1, 1) := by decide +kernel
theorem dX9_joins_40 : decode cX9_joins 40 = .ok (.ishl, 1) := by decide +kernel
theorem dX9_joins_41 : decode cX9_joins 41 = .ok (.ior, 1) := by decide +kernel
theorem dX9_joins_42 : decode cX9_joins 42 = .ok (.istore_n 3, 1) := by decide +kernel
theorem dX9_joins_43 : decode cX9_joins 43 = .ok (.aload_n 0, 1) := by decide +kernel
theorem dX9_joins_44 : decode cX9_joins 44 = .ok (.iload_n 3, 1) := by decide +kernel
theorem dX9_joins_45 : decode cX9_joins 45 = .ok (.invokevirtual 178, 3) := by decide +kernel
theorem dX9_joins_48 : decode cX9_joins 48 = .ok (.ifCond .eq 41, 3) := by decide +kernel
theorem dX9_joins_51 : decode cX9_joins 51 = .ok (.aload_n 0, 1) := by decide +kernel
theorem dX9_joins_52 : decode cX9_joins 52 = .ok (.iload_n 3, 1) := by decide +kernel
theorem dX9_joins_53 : decode cX9_joins 53 = .ok (.invokevirtual 181, 3) := by decide +kernel
theorem dX9_joins_56 : decode cX9_joins 56 = .ok (.ifCond .ne 33, 3) := by decide +kernel
theorem dX9_joins_59 : decode cX9_joins 59 = .ok (.aload_n 0, 1) := by decide +kernel
theorem dX9_joins_60 : decode cX9_joins 60 = .ok (.iload_n 3, 1) := by decide +kernel
theorem dX9_joins_61 : decode cX9_joins 61 = .ok (.aload_n 0, 1) := by decide +kernel
theorem dX9_joins_62 : decode cX9_joins 62 = .ok (.getfield 104, 3) := by decide +kernel
theorem dX9_joins_65 : decode cX9_joins 65 = .ok (.iload_n 2, 1) := by decide +kernel
theorem dX9_joins_66 : decode cX9_joins 66 = .ok (.iaload, 1) := by decide +kernel
theorem dX9_joins_67 : decode cX9_joins 67 = .ok (.invokevirtual 187, 3) := by decide +kernel
theorem dX9_joins_70 : decode cX9_joins 70 = .ok (.ifCond .eq 6, 3) := by decide +kernel
theorem dX9_joins_73 : decode cX9_joins 73 = .ok (.goto 16, 3) := by decide +kernel
theorem dX9_joins_76 : decode cX9_joins 76 = .ok (.aload_n 0, 1) := by decide +kernel
theorem dX9_joins_77 : decode cX9_joins 77 = .ok (.iload_n 3, 1) := by decide +kernel
theorem dX9_joins_78 : decode cX9_joins 78 = .ok (.aload_n 0, 1) := by decide +kernel
theorem dX9_joins_79 : decode cX9_joins 79 = .ok (.getfield 104, 3) := by decide +kernel
theorem dX9_joins_82 : decode cX9_joins 82 = .ok (.iload_n 2, 1) := by decide +kernel
theorem dX9_joins_83 : decode cX9_joins 83 = .ok (.iaload, 1) := by decide +kernel
theorem dX9_joins_84 : decode cX9_joins 84 = .ok (.invokevirtual 215, 3) := by decide +kernel
theorem dX9_joins_87 : decode cX9_joins 87 = .ok (.iconst 1, 1) := by decide +kernel
theorem dX9_joins_88 : decode cX9_joins 88 = .ok (.ireturn, 1) := by decide +kernel
theorem dX9_joins_89 : decode cX9_joins 89 = .ok (.iinc 2 1, 3) := by decide +kernel
theorem dX9_joins_92 : decode cX9_joins 92 = .ok (.goto (-79), 3) := by decide +kernel
theorem dX9_joins_95 : decode cX9_joins 95 = .ok (.aload_n 0, 1) := by decide +kernel
theorem dX9_joins_96 : decode cX9_joins 96 = .ok (.iconst 1, 1) := by decide +kernel
theorem dX9_joins_97 : decode cX9_joins 97 = .ok (.iload_n 1, 1) := by decide +kernel
theorem dX9_joins_98 : decode cX9_joins 98 = .ok (.ishl, 1) := by decide +kernel
theorem dX9_joins_99 : decode cX9_joins 99 = .ok (.iload_n 1, 1) := by decide +kernel
theorem dX9_joins_100 : decode cX9_joins 100 = .ok (.invokevirtual 187, 3) := by decide +kernel
theorem dX9_joins_103 : decode cX9_joins 103 = .ok (.ifCond .eq 5, 3) := by decide +kernel
theorem dX9_joins_106 : decode cX9_joins 106 = .ok (.iconst 0, 1) := by decide +kernel
theorem dX9_joins_107 : decode cX9_joins 107 = .ok (.ireturn, 1) := by decide +kernel
theorem dX9_joins_108 : decode cX9_joins 108 = .ok (.aload_n 0, 1) := by decide +kernel
theorem dX9_joins_109 : decode cX9_joins 109 = .ok (.iconst 1, 1) := by decide +kernel
theorem dX9_joins_110 : decode cX9_joins 110 = .ok (.iload_n 1, 1) := by decide +kernel
theorem dX9_joins_111 : decode cX9_joins 111 = .ok (.ishl, 1) := by decide +kernel
theorem dX9_joins_112 : decode cX9_joins 112 = .ok (.iload_n 1, 1) := by decide +kernel
theorem dX9_joins_113 : decode cX9_joins 113 = .ok (.invokevirtual 215, 3) := by decide +kernel
theorem dX9_joins_116 : decode cX9_joins 116 = .ok (.iconst 1, 1) := by decide +kernel
theorem dX9_joins_117 : decode cX9_joins 117 = .ok (.ireturn, 1) := by decide +kernel
theorem dX9_fail_0 : decode cX9_fail 0 = .ok (.aload_n 0, 1) := by decide +kernel
theorem dX9_fail_1 : decode cX9_fail 1 = .ok (.getfield 219, 3) := by decide +kernel
theorem dX9_fail_4 : decode cX9_fail 4 = .ok (.ifCond .ne 10, 3) := by decide +kernel
theorem dX9_fail_7 : decode cX9_fail 7 = .ok (.aload_n 0, 1) := by decide +kernel
theorem dX9_fail_8 : decode cX9_fail 8 = .ok (.bipush (-3), 2) := by decide +kernel
theorem dX9_fail_10 : decode cX9_fail 10 = .ok (.invokevirtual 136, 3) := by decide +kernel
theorem dX9_fail_13 : decode cX9_fail 13 = .ok (.ireturn, 1) := by decide +kernel
theorem dX9_fail_14 : decode cX9_fail 14 = .ok (.aload_n 0, 1) := by decide +kernel
theorem dX9_fail_15 : decode cX9_fail 15 = .ok (.iload_n 1, 1) := by decide +kernel
theorem dX9_fail_16 : decode cX9_fail 16 = .ok (.invokevirtual 147, 3) := by decide +kernel
theorem dX9_fail_19 : decode cX9_fail 19 = .ok (.ifCond .ne 9, 3) := by decide +kernel
theorem dX9_fail_22 : decode cX9_fail 22 = .ok (.aload_n 0, 1) := by decide +kernel
theorem dX9_fail_23 : decode cX9_fail 23 = .ok (.iconst (-1), 1) := by decide +kernel
theorem dX9_fail_24 : decode cX9_fail 24 = .ok (.invokevirtual 136, 3) := by decide +kernel
theorem dX9_fail_27 : decode cX9_fail 27 = .ok (.ireturn, 1) := by decide +kernel
theorem dX9_fail_28 : decode cX9_fail 28 = .ok (.aload_n 0, 1) := by decide +kernel
theorem dX9_fail_29 : decode cX9_fail 29 = .ok (.getfield 50, 3) := by decide +kernel
theorem dX9_fail_32 : decode cX9_fail 32 = .ok (.iload_n 1, 1) := by decide +kernel
theorem dX9_fail_33 : decode cX9_fail 33 = .ok (.iconst 1, 1) := by decide +kernel
theorem dX9_fail_34 : decode cX9_fail 34 = .ok (.bastore, 1) := by decide +kernel
theorem dX9_fail_35 : decode cX9_fail 35 = .ok (.aload_n 0, 1) := by decide +kernel
theorem dX9_fail_36 : decode cX9_fail 36 = .ok (.invokevirtual 129, 3) := by decide +kernel
theorem dX9_fail_39 : decode cX9_fail 39 = .ok (.aload_n 0, 1) := by decide +kernel
theorem dX9_fail_40 : decode cX9_fail 40 = .ok (.getfield 101, 3) := by decide +kernel
theorem dX9_fail_43 : decode cX9_fail 43 = .ok (.iload_n 1, 1) := by decide +kernel
theorem dX9_fail_44 : decode cX9_fail 44 = .ok (.iaload, 1) := by decide +kernel
theorem dX9_fail_45 : decode cX9_fail 45 = .ok (.istore_n 2, 1) := by decide +kernel
theorem dX9_fail_46 : decode cX9_fail 46 = .ok (.iload_n 2, 1) := by decide +kernel
theorem dX9_fail_47 : decode cX9_fail 47 = .ok (.ifCond .eq 13, 3) := by decide +kernel
theorem dX9_fail_50 : decode cX9_fail 50 = .ok (.aload_n 0, 1) := by decide +kernel
theorem dX9_fail_51 : decode cX9_fail 51 = .ok (.getfield 104, 3) := by decide +kernel
theorem dX9_fail_54 : decode cX9_fail 54 = .ok (.iload_n 1, 1) := by decide +kernel
theorem dX9_fail_55 : decode cX9_fail 55 = .ok (.iaload, 1) := by decide +kernel
theorem dX9_fail_56 : decode cX9_fail 56 = .ok (.iload_n 1, 1) := by decide +kernel
theorem dX9_fail_57 : decode cX9_fail 57 = .ok (.if_icmp .eq 5, 3) := by decide +kernel
theorem dX9_fail_60 : decode cX9_fail 60 = .ok (.iconst 0, 1) := by decide +kernel
theorem dX9_fail_61 : decode cX9_fail 61 = .ok (.ireturn, 1) := by decide +kernel
theorem dX9_fail_62 : decode cX9_fail 62 = .ok (.iconst 0, 1) := by decide +kernel
theorem dX9_fail_63 : decode cX9_fail 63 = .ok (.istore_n 3, 1) := by decide +kernel
theorem dX9_fail_64 : decode cX9_fail 64 = .ok (.iload_n 3, 1) := by decide +kernel
theorem dX9_fail_65 : decode cX9_fail 65 = .ok (.aload_n 0, 1) := by decide +kernel
theorem dX9_fail_66 : decode cX9_fail 66 = .ok (.getfield 143, 3) := by decide +kernel
theorem dX9_fail_69 : decode cX9_fail 69 = .ok (.if_icmp .ge 23, 3) := by decide +kernel
theorem dX9_fail_72 : decode cX9_fail 72 = .ok (.iload_n 2, 1) := by decide +kernel
theorem dX9_fail_73 : decode cX9_fail 73 = .ok (.iload_n 3, 1) := by decide +kernel
theorem dX9_fail_74 : decode cX9_fail 74 = .ok (.ishr, 1) := by decide +kernel
theorem dX9_fail_75 : decode cX9_fail 75 = .ok (.iconst 1, 1) := by decide +kernel
theorem dX9_fail_76 : decode cX9_fail 76 = .ok (.iand, 1) := by decide +kernel
theorem dX9_fail_77 : decode cX9_fail 77 = .ok (.iconst 1, 1) := by decide +kernel
theorem dX9_fail_78 : decode cX9_fail 78 = .ok (.if_icmp .ne 8, 3) := by decide +kernel
theorem dX9_fail_81 : decode cX9_fail 81 = .ok (.aload_n 0, 1) := by decide +kernel
theorem dX9_fail_82 : decode cX9_fail 82 = .ok (.iload_n 3, 1) := by decide +kernel
theorem dX9_fail_83 : decode cX9_fail 83 = .ok (.invokevirtual 209, 3) := by decide +kernel
theorem dX9_fail_86 : decode cX9_fail 86 = .ok (.iinc 3 1, 3) := by decide +kernel
theorem dX9_fail_89 : decode cX9_fail 89 = .ok (.goto (-25), 3) := by decide +kernel
theorem dX9_fail_92 : decode cX9_fail 92 = .ok (.iconst 0, 1) := by decide +kernel
theorem dX9_fail_93 : decode cX9_fail 93 = .ok (.istore_n 3, 1) := by decide +kernel
theorem dX9_fail_94 : decode cX9_fail 94 = .ok (.iconst 0, 1) := by decide +kernel
theorem dX9_fail_95 : decode cX9_fail 95 = .ok (.istore 4, 2) := by decide +kernel
theorem dX9_fail_97 : decode cX9_fail 97 = .ok (.iload 4, 2) := by decide +kernel
theorem dX9_fail_99 : decode cX9_fail 99 = .ok (.aload_n 0, 1) := by decide +kernel
theorem dX9_fail_100 : decode cX9_fail 100 = .ok (.getfield 143, 3) := by decide +kernel
theorem dX9_fail_103 : decode cX9_fail 103 = .ok (.if_icmp .ge 31, 3) := by decide +kernel
theorem dX9_fail_106 : decode cX9_fail 106 = .ok (.iload_n 2, 1) := by decide +kernel
theorem dX9_fail_107 : decode cX9_fail 107 = .ok (.iload 4, 2) := by decide +kernel
theorem dX9_fail_109 : decode cX9_fail 109 = .ok (.ishr, 1) := by decide +kernel
theorem dX9_fail_110 : decode cX9_fail 110 = .ok (.iconst 1, 1) := by decide +kernel
theorem dX9_fail_111 : decode cX9_fail 111 = .ok (.iand, 1) := by decide +kernel
theorem dX9_fail_112 : decode cX9_fail 112 = .ok (.iconst 1, 1) := by decide +kernel
theorem dX9_fail_113 : decode cX9_fail 113 = .ok (.if_icmp .ne 15, 3) := by decide +kernel
theorem dX9_fail_116 : decode cX9_fail 116 = .ok (.aload_n 0, 1) := by decide +kernel
theorem dX9_fail_117 : decode cX9_fail 117 = .ok (.iload 4, 2) := by decide +kernel
theorem dX9_fail_119 : decode cX9_fail 119 = .ok (.invokevirtual 231, 3) := by decide +kernel
theorem dX9_fail_122 : decode cX9_fail 122 = .ok (.ifCond .ne 6, 3) := by decide +kernel
theorem dX9_fail_125 : decode cX9_fail 125 = .ok (.iinc 3 1, 3) := by decide +kernel
theorem dX9_fail_128 : decode cX9_fail 128 = .ok (.iinc 4 1, 3) := by decide +kernel
theorem dX9_fail_131 : decode cX9_fail 131 = .ok (.goto (-34), 3) := by decide +kernel
theorem dX9_fail_134 : decode cX9_fail 134 = .ok (.aload_n 0, 1) := by decide +kernel
theorem dX9_fail_135 : decode cX9_fail 135 = .ok (.dup, 1) := by decide +kernel
theorem dX9_fail_136 : decode cX9_fail 136 = .ok (.getfield 212, 3) := by decide +kernel
theorem dX9_fail_139 : decode cX9_fail 139 = .ok (.iload_n 3, 1) := by decide +kernel
theorem dX9_fail_140 : decode cX9_fail 140 = .ok (.iadd, 1) := by decide +kernel
theorem dX9_fail_141 : decode cX9_fail 141 = .ok (.putfield 212, 3) := by decide +kernel
theorem dX9_fail_144 : decode cX9_fail 144 = .ok (.iload_n 3, 1) := by decide +kernel
theorem dX9_fail_145 : decode cX9_fail 145 = .ok (.ireturn, 1) := by decide +kernel
theorem dX9_few_0 : decode cX9_few 0 = .ok (.aload_n 0, 1) := by decide +kernel
theorem dX9_few_1 : decode cX9_few 1 = .ok (.invokevirtual 206, 3) := by decide +kernel
theorem dX9_few_4 : decode cX9_few 4 = .ok (.aload_n 0, 1) := by decide +kernel
theorem dX9_few_5 : decode cX9_few 5 = .ok (.getfield 98, 3) := by decide +kernel
theorem dX9_few_8 : decode cX9_few 8 = .ok (.aload_n 0, 1) := by decide +kernel
theorem dX9_few_9 : decode cX9_few 9 = .ok (.invokevirtual 199, 3) := by decide +kernel
theorem dX9_few_12 : decode cX9_few 12 = .ok (.iaload, 1) := by decide +kernel
theorem dX9_few_13 : decode cX9_few 13 = .ok (.istore_n 1, 1) := by decide +kernel
theorem dX9_few_14 : decode cX9_few 14 = .ok (.iload_n 1, 1) := by decide +kernel
theorem dX9_few_15 : decode cX9_few 15 = .ok (.ldc 151, 2) := by decide +kernel
theorem dX9_few_17 : decode cX9_few 17 = .ok (.if_icmp .lt 8, 3) := by decide +kernel
theorem dX9_few_20 : decode cX9_few 20 = .ok (.bipush (-9), 2) := by decide +kernel
theorem dX9_few_22 : decode cX9_few 22 = .ok (.goto 4, 3) := by decide +kernel
theorem dX9_few_25 : decode cX9_few 25 = .ok (.iload_n 1, 1) := by decide +kernel
theorem dX9_few_26 : decode cX9_few 26 = .ok (.ireturn, 1) := by decide +kernel
theorem dX9_personOf_0 : decode cX9_personOf 0 = .ok (.aload_n 0, 1) := by decide +kernel
theorem dX9_personOf_1 : decode cX9_personOf 1 = .ok (.iload_n 1, 1) := by decide +kernel
theorem dX9_personOf_2 : decode cX9_personOf 2 = .ok (.invokevirtual 147, 3) := by decide +kernel
theorem dX9_personOf_5 : decode cX9_personOf 5 = .ok (.ifCond .ne 9, 3) := by decide +kernel
theorem dX9_personOf_8 : decode cX9_personOf 8 = .ok (.aload_n 0, 1) := by decide +kernel
theorem dX9_personOf_9 : decode cX9_personOf 9 = .ok (.iconst (-1), 1) := by decide +kernel
theorem dX9_personOf_10 : decode cX9_personOf 10 = .ok (.invokevirtual 136, 3) := by decide +kernel
theorem dX9_personOf_13 : decode cX9_personOf 13 = .ok (.ireturn, 1) := by decide +kernel
theorem dX9_personOf_14 : decode cX9_personOf 14 = .ok (.iload_n 2, 1) := by decide +kernel
theorem dX9_personOf_15 : decode cX9_personOf 15 = .ok (.tableswitch 174 0 11 #[61, 68, 75, 82, 89, 96, 103, 110, 125, 140, 147, 164], 61) := by decide +kernel
theorem dX9_personOf_76 : decode cX9_personOf 76 = .ok (.aload_n 0, 1) := by decide +kernel
theorem dX9_personOf_77 : decode cX9_personOf 77 = .ok (.getfield 19, 3) := by decide +kernel
theorem dX9_personOf_80 : decode cX9_personOf 80 = .ok (.iload_n 1, 1) := by decide +kernel
theorem dX9_personOf_81 : decode cX9_personOf 81 = .ok (.iaload, 1) := by decide +kernel
theorem dX9_personOf_82 : decode cX9_personOf 82 = .ok (.ireturn, 1) := by decide +kernel
theorem dX9_personOf_83 : decode cX9_personOf 83 = .ok (.aload_n 0, 1) := by decide +kernel
theorem dX9_personOf_84 : decode cX9_personOf 84 = .ok (.getfield 22, 3) := by decide +kernel
theorem dX9_personOf_87 : decode cX9_personOf 87 = .ok (.iload_n 1, 1) := by decide +kernel
theorem dX9_personOf_88 : decode cX9_personOf 88 = .ok (.iaload, 1) := by decide +kernel
theorem dX9_personOf_89 : decode cX9_personOf 89 = .ok (.ireturn, 1) := by decide +kernel
theorem dX9_personOf_90 : decode cX9_personOf 90 = .ok (.aload_n 0, 1) := by decide +kernel
theorem dX9_personOf_91 : decode cX9_personOf 91 = .ok (.getfield 25, 3) := by decide +kernel
theorem dX9_personOf_94 : decode cX9_personOf 94 = .ok (.iload_n 1, 1) := by decide +kernel
theorem dX9_personOf_95 : decode cX9_personOf 95 = .ok (.iaload, 1) := by decide +kernel
theorem dX9_personOf_96 : decode cX9_personOf 96 = .ok (.ireturn, 1) := by decide +kernel
theorem dX9_personOf_97 : decode cX9_personOf 97 = .ok (.aload_n 0, 1) := by decide +kernel
theorem dX9_personOf_98 : decode cX9_personOf 98 = .ok (.getfield 28, 3) := by decide +kernel
theorem dX9_personOf_101 : decode cX9_personOf 101 = .ok (.iload_n 1, 1) := by decide +kernel
theorem dX9_personOf_102 : decode cX9_personOf 102 = .ok (.iaload, 1) := by decide +kernel
theorem dX9_personOf_103 : decode cX9_personOf 103 = .ok (.ireturn, 1) := by decide +kernel
theorem dX9_personOf_104 : decode cX9_personOf 104 = .ok (.aload_n 0, 1) := by decide +kernel
theorem dX9_personOf_105 : decode cX9_personOf 105 = .ok (.getfield 31, 3) := by decide +kernel
theorem dX9_personOf_108 : decode cX9_personOf 108 = .ok (.iload_n 1, 1) := by decide +kernel
theorem dX9_personOf_109 : decode cX9_personOf 109 = .ok (.iaload, 1) := by decide +kernel
theorem dX9_personOf_110 : decode cX9_personOf 110 = .ok (.ireturn, 1) := by decide +kernel
theorem dX9_personOf_111 : decode cX9_personOf 111 = .ok (.aload_n 0, 1) := by decide +kernel
theorem dX9_personOf_112 : decode cX9_personOf 112 = .ok (.getfield 34, 3) := by decide +kernel
theorem dX9_personOf_115 : decode cX9_personOf 115 = .ok (.iload_n 1, 1) := by decide +kernel
theorem dX9_personOf_116 : decode cX9_personOf 116 = .ok (.iaload, 1) := by decide +kernel
theorem dX9_personOf_117 : decode cX9_personOf 117 = .ok (.ireturn, 1) := by decide +kernel
theorem dX9_personOf_118 : decode cX9_personOf 118 = .ok (.aload_n 0, 1) := by decide +kernel
theorem dX9_personOf_119 : decode cX9_personOf 119 = .ok (.getfield 37, 3) := by decide +kernel
theorem dX9_personOf_122 : decode cX9_personOf 122 = .ok (.iload_n 1, 1) := by decide +kernel
theorem dX9_personOf_123 : decode cX9_personOf 123 = .ok (.iaload, 1) := by decide +kernel
theorem dX9_personOf_124 : decode cX9_personOf 124 = .ok (.ireturn, 1) := by decide +kernel
theorem dX9_personOf_125 : decode cX9_personOf 125 = .ok (.aload_n 0, 1) := by decide +kernel
theorem dX9_personOf_126 : decode cX9_personOf 126 = .ok (.getfield 46, 3) := by decide +kernel
theorem dX9_personOf_129 : decode cX9_personOf 129 = .ok (.iload_n 1, 1) := by decide +kernel
theorem dX9_personOf_130 : decode cX9_personOf 130 = .ok (.baload, 1) := by decide +kernel
theorem dX9_personOf_131 : decode cX9_personOf 131 = .ok (.ifCond .eq 7, 3) := by decide +kernel
theorem dX9_personOf_134 : decode cX9_personOf 134 = .ok (.iconst 1, 1) := by decide +kernel
theorem dX9_personOf_135 : decode cX9_personOf 135 = .ok (.goto 4, 3) := by decide +kernel
theorem dX9_personOf_138 : decode cX9_personOf 138 = .ok (.iconst 0, 1) := by decide +kernel
theorem dX9_personOf_139 : decode cX9_personOf 139 = .ok (.ireturn, 1) := by decide +kernel
theorem dX9_personOf_140 : decode cX9_personOf 140 = .ok (.aload_n 0, 1) := by decide +kernel
theorem dX9_personOf_141 : decode cX9_personOf 141 = .ok (.getfield 50, 3) := by decide +kernel
theorem dX9_personOf_144 : decode cX9_personOf 144 = .ok (.iload_n 1, 1) := by decide +kernel
theorem dX9_personOf_145 : decode cX9_personOf 145 = .ok (.baload, 1) := by decide +kernel
theorem dX9_personOf_146 : decode cX9_personOf 146 = .ok (.ifCond .eq 7, 3) := by decide +kernel
theorem dX9_personOf_149 : decode cX9_personOf 149 = .ok (.iconst 1, 1) := by decide +kernel
theorem dX9_personOf_150 : decode cX9_personOf 150 = .ok (.goto 4, 3) := by decide +kernel
theorem dX9_personOf_153 : decode cX9_personOf 153 = .ok (.iconst 0, 1) := by decide +kernel
theorem dX9_personOf_154 : decode cX9_personOf 154 = .ok (.ireturn, 1) := by decide +kernel
theorem dX9_personOf_155 : decode cX9_personOf 155 = .ok (.aload_n 0, 1) := by decide +kernel
theorem dX9_personOf_156 : decode cX9_personOf 156 = .ok (.getfield 40, 3) := by decide +kernel
theorem dX9_personOf_159 : decode cX9_personOf 159 = .ok (.iload_n 1, 1) := by decide +kernel
theorem dX9_personOf_160 : decode cX9_personOf 160 = .ok (.iaload, 1) := by decide +kernel
theorem dX9_personOf_161 : decode cX9_personOf 161 = .ok (.ireturn, 1) := by decide +kernel
theorem dX9_personOf_162 : decode cX9_personOf 162 = .ok (.aload_n 0, 1) := by decide +kernel
theorem dX9_personOf_163 : decode cX9_personOf 163 = .ok (.aload_n 0, 1) := by decide +kernel
theorem dX9_personOf_164 : decode cX9_personOf 164 = .ok (.getfield 22, 3) := by decide +kernel
theorem dX9_personOf_167 : decode cX9_personOf 167 = .ok (.iload_n 1, 1) := by decide +kernel
theorem dX9_personOf_168 : decode cX9_personOf 168 = .ok (.iaload, 1) := by decide +kernel
theorem dX9_personOf_169 : decode cX9_personOf 169 = .ok (.aload_n 0, 1) := by decide +kernel
theorem dX9_personOf_170 : decode cX9_personOf 170 = .ok (.getfield 25, 3) := by decide +kernel
theorem dX9_personOf_173 : decode cX9_personOf 173 = .ok (.iload_n 1, 1) := by decide +kernel
theorem dX9_personOf_174 : decode cX9_personOf 174 = .ok (.iaload, 1) := by decide +kernel
theorem dX9_personOf_175 : decode cX9_personOf 175 = .ok (.invokevirtual 140, 3) := by decide +kernel
theorem dX9_personOf_178 : decode cX9_personOf 178 = .ok (.ireturn, 1) := by decide +kernel
theorem dX9_personOf_179 : decode cX9_personOf 179 = .ok (.aload_n 0, 1) := by decide +kernel
theorem dX9_personOf_180 : decode cX9_personOf 180 = .ok (.getfield 43, 3) := by decide +kernel
theorem dX9_personOf_183 : decode cX9_personOf 183 = .ok (.iload_n 1, 1) := by decide +kernel
theorem dX9_personOf_184 : decode cX9_personOf 184 = .ok (.iaload, 1) := by decide +kernel
theorem dX9_personOf_185 : decode cX9_personOf 185 = .ok (.ldc 234, 2) := by decide +kernel
theorem dX9_personOf_187 : decode cX9_personOf 187 = .ok (.iadd, 1) := by decide +kernel
theorem dX9_personOf_188 : decode cX9_personOf 188 = .ok (.ireturn, 1) := by decide +kernel
theorem dX9_personOf_189 : decode cX9_personOf 189 = .ok (.aload_n 0, 1) := by decide +kernel
theorem dX9_personOf_190 : decode cX9_personOf 190 = .ok (.bipush (-2), 2) := by decide +kernel
theorem dX9_personOf_192 : decode cX9_personOf 192 = .ok (.invokevirtual 136, 3) := by decide +kernel
theorem dX9_personOf_195 : decode cX9_personOf 195 = .ok (.ireturn, 1) := by decide +kernel
theorem dX9_count_0 : decode cX9_count 0 = .ok (.iload_n 1, 1) := by decide +kernel
theorem dX9_count_1 : decode cX9_count 1 = .ok (.bipush 10, 2) := by decide +kernel
theorem dX9_count_3 : decode cX9_count 3 = .ok (.if_icmp .le 19, 3) := by decide +kernel
theorem dX9_count_6 : decode cX9_count 6 = .ok (.iload_n 1, 1) := by decide +kernel
theorem dX9_count_7 : decode cX9_count 7 = .ok (.bipush 17, 2) := by decide +kernel
theorem dX9_count_9 : decode cX9_count 9 = .ok (.if_icmp .ge 13, 3) := by decide +kernel
theorem dX9_count_12 : decode cX9_count 12 = .ok (.aload_n 0, 1) := by decide +kernel
theorem dX9_count_13 : decode cX9_count 13 = .ok (.getfield 7, 3) := by decide +kernel
theorem dX9_count_16 : decode cX9_count 16 = .ok (.iload_n 1, 1) := by decide +kernel
theorem dX9_count_17 : decode cX9_count 17 = .ok (.bipush 10, 2) := by decide +kernel
theorem dX9_count_19 : decode cX9_count 19 = .ok (.isub, 1) := by decide +kernel
theorem dX9_count_20 : decode cX9_count 20 = .ok (.iaload, 1) := by decide +kernel
theorem dX9_count_21 : decode cX9_count 21 = .ok (.ireturn, 1) := by decide +kernel
theorem dX9_count_22 : decode cX9_count 22 = .ok (.iconst 0, 1) := by decide +kernel
theorem dX9_count_23 : decode cX9_count 23 = .ok (.istore_n 2, 1) := by decide +kernel
theorem dX9_count_24 : decode cX9_count 24 = .ok (.iload_n 1, 1) := by decide +kernel
theorem dX9_count_25 : decode cX9_count 25 = .ok (.tableswitch 110 0 4 #[35, 40, 48, 92, 105], 35) := by decide +kernel
theorem dX9_count_60 : decode cX9_count 60 = .ok (.aload_n 0, 1) := by decide +kernel
theorem dX9_count_61 : decode cX9_count 61 = .ok (.getfield 143, 3) := by decide +kernel
theorem dX9_count_64 : decode cX9_count 64 = .ok (.ireturn, 1) := by decide +kernel
theorem dX9_count_65 : decode cX9_count 65 = .ok (.aload_n 0, 1) := by decide +kernel
theorem dX9_count_66 : decode cX9_count 66 = .ok (.invokevirtual 199, 3) := by decide +kernel
theorem dX9_count_69 : decode cX9_count 69 = .ok (.invokestatic 155, 3) := by decide +kernel
theorem dX9_count_72 : decode cX9_count 72 = .ok (.ireturn, 1) := by decide +kernel
theorem dX9_count_73 : decode cX9_count 73 = .ok (.iconst 0, 1) := by decide +kernel
theorem dX9_count_74 : decode cX9_count 74 = .ok (.istore_n 3, 1) := by decide +kernel
theorem dX9_count_75 : decode cX9_count 75 = .ok (.iload_n 3, 1) := by decide +kernel
theorem dX9_count_76 : decode cX9_count 76 = .ok (.aload_n 0, 1) := by decide +kernel
theorem dX9_count_77 : decode cX9_count 77 = .ok (.getfield 143, 3) := by decide +kernel
theorem dX9_count_80 : decode cX9_count 80 = .ok (.if_icmp .ge 35, 3) := by decide +kernel
theorem dX9_count_83 : decode cX9_count 83 = .ok (.iload_n 2, 1) := by decide +kernel
theorem dX9_count_84 : decode cX9_count 84 = .ok (.aload_n 0, 1) := by decide +kernel
theorem dX9_count_85 : decode cX9_count 85 = .ok (.getfield 37, 3) := by decide +kernel
theorem dX9_count_88 : decode cX9_count 88 = .ok (.iload_n 3, 1) := by decide +kernel
theorem dX9_count_89 : decode cX9_count 89 = .ok (.iaload, 1) := by decide +kernel
theorem dX9_count_90 : decode cX9_count 90 = .ok (.ifCond .le 16, 3) := by decide +kernel
theorem dX9_count_93 : decode cX9_count 93 = .ok (.aload_n 0, 1) := by decide +kernel
theorem dX9_count_94 : decode cX9_count 94 = .ok (.getfield 50, 3) := by decide +kernel
theorem dX9_count_97 : decode cX9_count 97 = .ok (.iload_n 3, 1) := by decide +kernel
theorem dX9_count_98 : decode cX9_count 98 = .ok (.baload, 1) := by decide +kernel
theorem dX9_count_99 : decode cX9_count 99 = .ok (.ifCond .ne 7, 3) := by decide +kernel
theorem dX9_count_102 : decode cX9_count 102 = .ok (.iconst 1, 1) := by decide +kernel
theorem dX9_count_103 : decode cX9_count 103 = .ok (.goto 4, 3) := by decide +kernel
theorem dX9_count_106 : decode cX9_count 106 = .ok (.iconst 0, 1) := by decide +kernel
theorem dX9_count_107 : decode cX9_count 107 = .ok (.iadd, 1) := by decide +kernel
theorem dX9_count_108 : decode cX9_count 108 = .ok (.istore_n 2, 1) := by decide +kernel
theorem dX9_count_109 : decode cX9_count 109 = .ok (.iinc 3 1, 3) := by decide +kernel
theorem dX9_count_112 : decode cX9_count 112 = .ok (.goto (-37), 3) := by decide +kernel
theorem dX9_count_115 : decode cX9_count 115 = .ok (.iload_n 2, 1) := by decide +kernel
theorem dX9_count_116 : decode cX9_count 116 = .ok (.ireturn, 1) := by decide +kernel
theorem dX9_count_117 : decode cX9_count 117 = .ok (.aload_n 0, 1) := by decide +kernel
theorem dX9_count_118 : decode cX9_count 118 = .ok (.getfield 219, 3) := by decide +kernel
theorem dX9_count_121 : decode cX9_count 121 = .ok (.ifCond .eq 7, 3) := by decide +kernel
theorem dX9_count_124 : decode cX9_count 124 = .ok (.iconst 1, 1) := by decide +kernel
theorem dX9_count_125 : decode cX9_count 125 = .ok (.goto 4, 3) := by decide +kernel
theorem dX9_count_128 : decode cX9_count 128 = .ok (.iconst 0, 1) := by decide +kernel
theorem dX9_count_129 : decode cX9_count 129 = .ok (.ireturn, 1) := by decide +kernel
theorem dX9_count_130 : decode cX9_count 130 = .ok (.aload_n 0, 1) := by decide +kernel
theorem dX9_count_131 : decode cX9_count 131 = .ok (.getfield 228, 3) := by decide +kernel
theorem dX9_count_134 : decode cX9_count 134 = .ok (.ireturn, 1) := by decide +kernel
theorem dX9_count_135 : decode cX9_count 135 = .ok (.bipush (-9), 2) := by decide +kernel
theorem dX9_count_137 : decode cX9_count 137 = .ok (.ireturn, 1) := by decide +kernel
theorem dJ6_bitCount_0f7a4_0 : decode cJ6_bitCount_0f7a4 0 = .ok (.iload_n 0, 1) := by decide +kernel
end
section
theorem dJ6_bitCount_0f7a4_1 : decode cJ6_bitCount_0f7a4 1 = .ok (.iload_n 0, 1) := by decide +kernel
theorem dJ6_bitCount_0f7a4_2 : decode cJ6_bitCount_0f7a4 2 = .ok (.iconst 1, 1) := by decide +kernel
theorem dJ6_bitCount_0f7a4_3 : decode cJ6_bitCount_0f7a4 3 = .ok (.iushr, 1) := by decide +kernel
theorem dJ6_bitCount_0f7a4_4 : decode cJ6_bitCount_0f7a4 4 = .ok (.ldc_w 265, 3) := by decide +kernel
theorem dJ6_bitCount_0f7a4_7 : decode cJ6_bitCount_0f7a4 7 = .ok (.iand, 1) := by decide +kernel
theorem dJ6_bitCount_0f7a4_8 : decode cJ6_bitCount_0f7a4 8 = .ok (.isub, 1) := by decide +kernel
theorem dJ6_bitCount_0f7a4_9 : decode cJ6_bitCount_0f7a4 9 = .ok (.istore_n 0, 1) := by decide +kernel
theorem dJ6_bitCount_0f7a4_10 : decode cJ6_bitCount_0f7a4 10 = .ok (.iload_n 0, 1) := by decide +kernel
theorem dJ6_bitCount_0f7a4_11 : decode cJ6_bitCount_0f7a4 11 = .ok (.ldc_w 266, 3) := by decide +kernel
theorem dJ6_bitCount_0f7a4_14 : decode cJ6_bitCount_0f7a4 14 = .ok (.iand, 1) := by decide +kernel
theorem dJ6_bitCount_0f7a4_15 : decode cJ6_bitCount_0f7a4 15 = .ok (.iload_n 0, 1) := by decide +kernel
theorem dJ6_bitCount_0f7a4_16 : decode cJ6_bitCount_0f7a4 16 = .ok (.iconst 2, 1) := by decide +kernel
theorem dJ6_bitCount_0f7a4_17 : decode cJ6_bitCount_0f7a4 17 = .ok (.iushr, 1) := by decide +kernel
theorem dJ6_bitCount_0f7a4_18 : decode cJ6_bitCount_0f7a4 18 = .ok (.ldc_w 266, 3) := by decide +kernel
theorem dJ6_bitCount_0f7a4_21 : decode cJ6_bitCount_0f7a4 21 = .ok (.iand, 1) := by decide +kernel
theorem dJ6_bitCount_0f7a4_22 : decode cJ6_bitCount_0f7a4 22 = .ok (.iadd, 1) := by decide +kernel
theorem dJ6_bitCount_0f7a4_23 : decode cJ6_bitCount_0f7a4 23 = .ok (.istore_n 0, 1) := by decide +kernel
theorem dJ6_bitCount_0f7a4_24 : decode cJ6_bitCount_0f7a4 24 = .ok (.iload_n 0, 1) := by decide +kernel
theorem dJ6_bitCount_0f7a4_25 : decode cJ6_bitCount_0f7a4 25 = .ok (.iload_n 0, 1) := by decide +kernel
theorem dJ6_bitCount_0f7a4_26 : decode cJ6_bitCount_0f7a4 26 = .ok (.iconst 4, 1) := by decide +kernel
theorem dJ6_bitCount_0f7a4_27 : decode cJ6_bitCount_0f7a4 27 = .ok (.iushr, 1) := by decide +kernel
theorem dJ6_bitCount_0f7a4_28 : decode cJ6_bitCount_0f7a4 28 = .ok (.iadd, 1) := by decide +kernel
theorem dJ6_bitCount_0f7a4_29 : decode cJ6_bitCount_0f7a4 29 = .ok (.ldc_w 267, 3) := by decide +kernel
theorem dJ6_bitCount_0f7a4_32 : decode cJ6_bitCount_0f7a4 32 = .ok (.iand, 1) := by decide +kernel
theorem dJ6_bitCount_0f7a4_33 : decode cJ6_bitCount_0f7a4 33 = .ok (.istore_n 0, 1) := by decide +kernel
theorem dJ6_bitCount_0f7a4_34 : decode cJ6_bitCount_0f7a4 34 = .ok (.iload_n 0, 1) := by decide +kernel
theorem dJ6_bitCount_0f7a4_35 : decode cJ6_bitCount_0f7a4 35 = .ok (.iload_n 0, 1) := by decide +kernel
theorem dJ6_bitCount_0f7a4_36 : decode cJ6_bitCount_0f7a4 36 = .ok (.bipush 8, 2) := by decide +kernel
theorem dJ6_bitCount_0f7a4_38 : decode cJ6_bitCount_0f7a4 38 = .ok (.iushr, 1) := by decide +kernel
theorem dJ6_bitCount_0f7a4_39 : decode cJ6_bitCount_0f7a4 39 = .ok (.iadd, 1) := by decide +kernel
theorem dJ6_bitCount_0f7a4_40 : decode cJ6_bitCount_0f7a4 40 = .ok (.istore_n 0, 1) := by decide +kernel
theorem dJ6_bitCount_0f7a4_41 : decode cJ6_bitCount_0f7a4 41 = .ok (.iload_n 0, 1) := by decide +kernel
theorem dJ6_bitCount_0f7a4_42 : decode cJ6_bitCount_0f7a4 42 = .ok (.iload_n 0, 1) := by decide +kernel
theorem dJ6_bitCount_0f7a4_43 : decode cJ6_bitCount_0f7a4 43 = .ok (.bipush 16, 2) := by decide +kernel
theorem dJ6_bitCount_0f7a4_45 : decode cJ6_bitCount_0f7a4 45 = .ok (.iushr, 1) := by decide +kernel
theorem dJ6_bitCount_0f7a4_46 : decode cJ6_bitCount_0f7a4 46 = .ok (.iadd, 1) := by decide +kernel
theorem dJ6_bitCount_0f7a4_47 : decode cJ6_bitCount_0f7a4 47 = .ok (.istore_n 0, 1) := by decide +kernel
theorem dJ6_bitCount_0f7a4_48 : decode cJ6_bitCount_0f7a4 48 = .ok (.iload_n 0, 1) := by decide +kernel
theorem dJ6_bitCount_0f7a4_49 : decode cJ6_bitCount_0f7a4 49 = .ok (.bipush 63, 2) := by decide +kernel
theorem dJ6_bitCount_0f7a4_51 : decode cJ6_bitCount_0f7a4 51 = .ok (.iand, 1) := by decide +kernel
theorem dJ6_bitCount_0f7a4_52 : decode cJ6_bitCount_0f7a4 52 = .ok (.ireturn, 1) := by decide +kernel
theorem dJ9_max_7cf53_0 : decode cJ9_max_7cf53 0 = .ok (.iload_n 0, 1) := by decide +kernel
theorem dJ9_max_7cf53_1 : decode cJ9_max_7cf53 1 = .ok (.iload_n 1, 1) := by decide +kernel
theorem dJ9_max_7cf53_2 : decode cJ9_max_7cf53 2 = .ok (.if_icmp .lt 7, 3) := by decide +kernel
theorem dJ9_max_7cf53_5 : decode cJ9_max_7cf53 5 = .ok (.iload_n 0, 1) := by decide +kernel
theorem dJ9_max_7cf53_6 : decode cJ9_max_7cf53 6 = .ok (.goto 4, 3) := by decide +kernel
theorem dJ9_max_7cf53_9 : decode cJ9_max_7cf53 9 = .ok (.iload_n 1, 1) := by decide +kernel
theorem dJ9_max_7cf53_10 : decode cJ9_max_7cf53 10 = .ok (.ireturn, 1) := by decide +kernel
theorem dJ9_min_7cf53_0 : decode cJ9_min_7cf53 0 = .ok (.iload_n 0, 1) := by decide +kernel
theorem dJ9_min_7cf53_1 : decode cJ9_min_7cf53 1 = .ok (.iload_n 1, 1) := by decide +kernel
theorem dJ9_min_7cf53_2 : decode cJ9_min_7cf53 2 = .ok (.if_icmp .gt 7, 3) := by decide +kernel
theorem dJ9_min_7cf53_5 : decode cJ9_min_7cf53 5 = .ok (.iload_n 0, 1) := by decide +kernel
theorem dJ9_min_7cf53_6 : decode cJ9_min_7cf53 6 = .ok (.goto 4, 3) := by decide +kernel
theorem dJ9_min_7cf53_9 : decode cJ9_min_7cf53 9 = .ok (.iload_n 1, 1) := by decide +kernel
theorem dJ9_min_7cf53_10 : decode cJ9_min_7cf53 10 = .ok (.ireturn, 1) := by decide +kernel
theorem dJ7_fill_53178_0 : decode cJ7_fill_53178 0 = .ok (.iconst 0, 1) := by decide +kernel
theorem dJ7_fill_53178_1 : decode cJ7_fill_53178 1 = .ok (.istore_n 2, 1) := by decide +kernel
theorem dJ7_fill_53178_2 : decode cJ7_fill_53178 2 = .ok (.aload_n 0, 1) := by decide +kernel
theorem dJ7_fill_53178_3 : decode cJ7_fill_53178 3 = .ok (.arraylength, 1) := by decide +kernel
theorem dJ7_fill_53178_4 : decode cJ7_fill_53178 4 = .ok (.istore_n 3, 1) := by decide +kernel
theorem dJ7_fill_53178_5 : decode cJ7_fill_53178 5 = .ok (.iload_n 2, 1) := by decide +kernel
theorem dJ7_fill_53178_6 : decode cJ7_fill_53178 6 = .ok (.iload_n 3, 1) := by decide +kernel
theorem dJ7_fill_53178_7 : decode cJ7_fill_53178 7 = .ok (.if_icmp .ge 13, 3) := by decide +kernel
theorem dJ7_fill_53178_10 : decode cJ7_fill_53178 10 = .ok (.aload_n 0, 1) := by decide +kernel
theorem dJ7_fill_53178_11 : decode cJ7_fill_53178 11 = .ok (.iload_n 2, 1) := by decide +kernel
theorem dJ7_fill_53178_12 : decode cJ7_fill_53178 12 = .ok (.iload_n 1, 1) := by decide +kernel
theorem dJ7_fill_53178_13 : decode cJ7_fill_53178 13 = .ok (.iastore, 1) := by decide +kernel
theorem dJ7_fill_53178_14 : decode cJ7_fill_53178 14 = .ok (.iinc 2 1, 3) := by decide +kernel
theorem dJ7_fill_53178_17 : decode cJ7_fill_53178 17 = .ok (.goto (-12), 3) := by decide +kernel
theorem dJ7_fill_53178_20 : decode cJ7_fill_53178 20 = .ok (.return_, 1) := by decide +kernel
theorem dL_law_0 : decode cL_law 0 = .ok (.new 7, 3) := by decide +kernel
theorem dL_law_3 : decode cL_law 3 = .ok (.dup, 1) := by decide +kernel
theorem dL_law_4 : decode cL_law 4 = .ok (.invokespecial 9, 3) := by decide +kernel
theorem dL_law_7 : decode cL_law 7 = .ok (.astore_n 1, 1) := by decide +kernel
theorem dL_law_8 : decode cL_law 8 = .ok (.new 10, 3) := by decide +kernel
theorem dL_law_11 : decode cL_law 11 = .ok (.dup, 1) := by decide +kernel
theorem dL_law_12 : decode cL_law 12 = .ok (.invokespecial 12, 3) := by decide +kernel
theorem dL_law_15 : decode cL_law 15 = .ok (.astore_n 2, 1) := by decide +kernel
theorem dL_law_16 : decode cL_law 16 = .ok (.iconst 0, 1) := by decide +kernel
theorem dL_law_17 : decode cL_law 17 = .ok (.istore_n 3, 1) := by decide +kernel
theorem dL_law_18 : decode cL_law 18 = .ok (.iload_n 3, 1) := by decide +kernel
theorem dL_law_19 : decode cL_law 19 = .ok (.aload_n 0, 1) := by decide +kernel
theorem dL_law_20 : decode cL_law 20 = .ok (.arraylength, 1) := by decide +kernel
theorem dL_law_21 : decode cL_law 21 = .ok (.bipush 8, 2) := by decide +kernel
theorem dL_law_23 : decode cL_law 23 = .ok (.isub, 1) := by decide +kernel
theorem dL_law_24 : decode cL_law 24 = .ok (.if_icmp .gt 873, 3) := by decide +kernel
theorem dL_law_27 : decode cL_law 27 = .ok (.aload_n 0, 1) := by decide +kernel
theorem dL_law_28 : decode cL_law 28 = .ok (.iload_n 3, 1) := by decide +kernel
theorem dL_law_29 : decode cL_law 29 = .ok (.iaload, 1) := by decide +kernel
theorem dL_law_30 : decode cL_law 30 = .ok (.bipush 31, 2) := by decide +kernel
theorem dL_law_32 : decode cL_law 32 = .ok (.iand, 1) := by decide +kernel
theorem dL_law_33 : decode cL_law 33 = .ok (.tableswitch 858 0 22 #[107, 150, 183, 270, 313, 372, 421, 470, 503, 536, 579, 602, 625, 648, 661, 684, 717, 730, 743, 766, 789, 802, 835], 107) := by decide +kernel
theorem dL_law_140 : decode cL_law 140 = .ok (.aload_n 1, 1) := by decide +kernel
theorem dL_law_141 : decode cL_law 141 = .ok (.aload_n 0, 1) := by decide +kernel
theorem dL_law_142 : decode cL_law 142 = .ok (.iload_n 3, 1) := by decide +kernel
theorem dL_law_143 : decode cL_law 143 = .ok (.iconst 1, 1) := by decide +kernel
theorem dL_law_144 : decode cL_law 144 = .ok (.iadd, 1) := by decide +kernel
theorem dL_law_145 : decode cL_law 145 = .ok (.iaload, 1) := by decide +kernel
theorem dL_law_146 : decode cL_law 146 = .ok (.aload_n 0, 1) := by decide +kernel
theorem dL_law_147 : decode cL_law 147 = .ok (.iload_n 3, 1) := by decide +kernel
theorem dL_law_148 : decode cL_law 148 = .ok (.iconst 2, 1) := by decide +kernel
theorem dL_law_149 : decode cL_law 149 = .ok (.iadd, 1) := by decide +kernel
theorem dL_law_150 : decode cL_law 150 = .ok (.iaload, 1) := by decide +kernel
theorem dL_law_151 : decode cL_law 151 = .ok (.aload_n 0, 1) := by decide +kernel
theorem dL_law_152 : decode cL_law 152 = .ok (.iload_n 3, 1) := by decide +kernel
theorem dL_law_153 : decode cL_law 153 = .ok (.iconst 3, 1) := by decide +kernel
theorem dL_law_154 : decode cL_law 154 = .ok (.iadd, 1) := by decide +kernel
theorem dL_law_155 : decode cL_law 155 = .ok (.iaload, 1) := by decide +kernel
theorem dL_law_156 : decode cL_law 156 = .ok (.invokevirtual 13, 3) := by decide +kernel
theorem dL_law_159 : decode cL_law 159 = .ok (.aload_n 2, 1) := by decide +kernel
theorem dL_law_160 : decode cL_law 160 = .ok (.aload_n 0, 1) := by decide +kernel
theorem dL_law_161 : decode cL_law 161 = .ok (.iload_n 3, 1) := by decide +kernel
theorem dL_law_162 : decode cL_law 162 = .ok (.iconst 1, 1) := by decide +kernel
theorem dL_law_163 : decode cL_law 163 = .ok (.iadd, 1) := by decide +kernel
theorem dL_law_164 : decode cL_law 164 = .ok (.iaload, 1) := by decide +kernel
theorem dL_law_165 : decode cL_law 165 = .ok (.aload_n 0, 1) := by decide +kernel
theorem dL_law_166 : decode cL_law 166 = .ok (.iload_n 3, 1) := by decide +kernel
theorem dL_law_167 : decode cL_law 167 = .ok (.iconst 2, 1) := by decide +kernel
theorem dL_law_168 : decode cL_law 168 = .ok (.iadd, 1) := by decide +kernel
theorem dL_law_169 : decode cL_law 169 = .ok (.iaload, 1) := by decide +kernel
theorem dL_law_170 : decode cL_law 170 = .ok (.aload_n 0, 1) := by decide +kernel
theorem dL_law_171 : decode cL_law 171 = .ok (.iload_n 3, 1) := by decide +kernel
theorem dL_law_172 : decode cL_law 172 = .ok (.iconst 3, 1) := by decide +kernel
theorem dL_law_173 : decode cL_law 173 = .ok (.iadd, 1) := by decide +kernel
theorem dL_law_174 : decode cL_law 174 = .ok (.iaload, 1) := by decide +kernel
theorem dL_law_175 : decode cL_law 175 = .ok (.invokevirtual 17, 3) := by decide +kernel
theorem dL_law_178 : decode cL_law 178 = .ok (.if_icmp .eq 713, 3) := by decide +kernel
theorem dL_law_181 : decode cL_law 181 = .ok (.iconst 0, 1) := by decide +kernel
theorem dL_law_182 : decode cL_law 182 = .ok (.ireturn, 1) := by decide +kernel
theorem dL_law_183 : decode cL_law 183 = .ok (.aload_n 1, 1) := by decide +kernel
theorem dL_law_184 : decode cL_law 184 = .ok (.aload_n 0, 1) := by decide +kernel
theorem dL_law_185 : decode cL_law 185 = .ok (.iload_n 3, 1) := by decide +kernel
theorem dL_law_186 : decode cL_law 186 = .ok (.iconst 1, 1) := by decide +kernel
theorem dL_law_187 : decode cL_law 187 = .ok (.iadd, 1) := by decide +kernel
theorem dL_law_188 : decode cL_law 188 = .ok (.iaload, 1) := by decide +kernel
theorem dL_law_189 : decode cL_law 189 = .ok (.aload_n 0, 1) := by decide +kernel
theorem dL_law_190 : decode cL_law 190 = .ok (.iload_n 3, 1) := by decide +kernel
theorem dL_law_191 : decode cL_law 191 = .ok (.iconst 2, 1) := by decide +kernel
theorem dL_law_192 : decode cL_law 192 = .ok (.iadd, 1) := by decide +kernel
theorem dL_law_193 : decode cL_law 193 = .ok (.iaload, 1) := by decide +kernel
theorem dL_law_194 : decode cL_law 194 = .ok (.invokevirtual 18, 3) := by decide +kernel
theorem dL_law_197 : decode cL_law 197 = .ok (.aload_n 2, 1) := by decide +kernel
theorem dL_law_198 : decode cL_law 198 = .ok (.aload_n 0, 1) := by decide +kernel
theorem dL_law_199 : decode cL_law 199 = .ok (.iload_n 3, 1) := by decide +kernel
theorem dL_law_200 : decode cL_law 200 = .ok (.iconst 1, 1) := by decide +kernel
theorem dL_law_201 : decode cL_law 201 = .ok (.iadd, 1) := by decide +kernel
theorem dL_law_202 : decode cL_law 202 = .ok (.iaload, 1) := by decide +kernel
theorem dL_law_203 : decode cL_law 203 = .ok (.aload_n 0, 1) := by decide +kernel
theorem dL_law_204 : decode cL_law 204 = .ok (.iload_n 3, 1) := by decide +kernel
theorem dL_law_205 : decode cL_law 205 = .ok (.iconst 2, 1) := by decide +kernel
theorem dL_law_206 : decode cL_law 206 = .ok (.iadd, 1) := by decide +kernel
theorem dL_law_207 : decode cL_law 207 = .ok (.iaload, 1) := by decide +kernel
theorem dL_law_208 : decode cL_law 208 = .ok (.invokevirtual 22, 3) := by decide +kernel
theorem dL_law_211 : decode cL_law 211 = .ok (.if_icmp .eq 680, 3) := by decide +kernel
theorem dL_law_214 : decode cL_law 214 = .ok (.iconst 0, 1) := by decide +kernel
theorem dL_law_215 : decode cL_law 215 = .ok (.ireturn, 1) := by decide +kernel
theorem dL_law_216 : decode cL_law 216 = .ok (.aload_n 1, 1) := by decide +kernel
theorem dL_law_217 : decode cL_law 217 = .ok (.aload_n 0, 1) := by decide +kernel
theorem dL_law_218 : decode cL_law 218 = .ok (.iload_n 3, 1) := by decide +kernel
theorem dL_law_219 : decode cL_law 219 = .ok (.iconst 1, 1) := by decide +kernel
theorem dL_law_220 : decode cL_law 220 = .ok (.iadd, 1) := by decide +kernel
theorem dL_law_221 : decode cL_law 221 = .ok (.iaload, 1) := by decide +kernel
theorem dL_law_222 : decode cL_law 222 = .ok (.aload_n 0, 1) := by decide +kernel
theorem dL_law_223 : decode cL_law 223 = .ok (.iload_n 3, 1) := by decide +kernel
theorem dL_law_224 : decode cL_law 224 = .ok (.iconst 2, 1) := by decide +kernel
theorem dL_law_225 : decode cL_law 225 = .ok (.iadd, 1) := by decide +kernel
theorem dL_law_226 : decode cL_law 226 = .ok (.iaload, 1) := by decide +kernel
theorem dL_law_227 : decode cL_law 227 = .ok (.aload_n 0, 1) := by decide +kernel
theorem dL_law_228 : decode cL_law 228 = .ok (.iload_n 3, 1) := by decide +kernel
theorem dL_law_229 : decode cL_law 229 = .ok (.iconst 3, 1) := by decide +kernel
theorem dL_law_230 : decode cL_law 230 = .ok (.iadd, 1) := by decide +kernel
theorem dL_law_231 : decode cL_law 231 = .ok (.iaload, 1) := by decide +kernel
theorem dL_law_232 : decode cL_law 232 = .ok (.aload_n 0, 1) := by decide +kernel
theorem dL_law_233 : decode cL_law 233 = .ok (.iload_n 3, 1) := by decide +kernel
theorem dL_law_234 : decode cL_law 234 = .ok (.iconst 4, 1) := by decide +kernel
theorem dL_law_235 : decode cL_law 235 = .ok (.iadd, 1) := by decide +kernel
theorem dL_law_236 : decode cL_law 236 = .ok (.iaload, 1) := by decide +kernel
theorem dL_law_237 : decode cL_law 237 = .ok (.aload_n 0, 1) := by decide +kernel
theorem dL_law_238 : decode cL_law 238 = .ok (.iload_n 3, 1) := by decide +kernel
theorem dL_law_239 : decode cL_law 239 = .ok (.iconst 5, 1) := by decide +kernel
theorem dL_law_240 : decode cL_law 240 = .ok (.iadd, 1) := by decide +kernel
theorem dL_law_241 : decode cL_law 241 = .ok (.iaload, 1) := by decide +kernel
theorem dL_law_242 : decode cL_law 242 = .ok (.aload_n 0, 1) := by decide +kernel
theorem dL_law_243 : decode cL_law 243 = .ok (.iload_n 3, 1) := by decide +kernel
theorem dL_law_244 : decode cL_law 244 = .ok (.bipush 6, 2) := by decide +kernel
theorem dL_law_246 : decode cL_law 246 = .ok (.iadd, 1) := by decide +kernel
theorem dL_law_247 : decode cL_law 247 = .ok (.iaload, 1) := by decide +kernel
theorem dL_law_248 : decode cL_law 248 = .ok (.aload_n 0, 1) := by decide +kernel
theorem dL_law_249 : decode cL_law 249 = .ok (.iload_n 3, 1) := by decide +kernel
theorem dL_law_250 : decode cL_law 250 = .ok (.bipush 7, 2) := by decide +kernel
theorem dL_law_252 : decode cL_law 252 = .ok (.iadd, 1) := by decide +kernel
theorem dL_law_253 : decode cL_law 253 = .ok (.iaload, 1) := by decide +kernel
theorem dL_law_254 : decode cL_law 254 = .ok (.invokevirtual 23, 3) := by decide +kernel
theorem dL_law_257 : decode cL_law 257 = .ok (.aload_n 2, 1) := by decide +kernel
theorem dL_law_258 : decode cL_law 258 = .ok (.aload_n 0, 1) := by decide +kernel
theorem dL_law_259 : decode cL_law 259 = .ok (.iload_n 3, 1) := by decide +kernel
theorem dL_law_260 : decode cL_law 260 = .ok (.iconst 1, 1) := by decide +kernel
theorem dL_law_261 : decode cL_law 261 = .ok (.iadd, 1) := by decide +kernel
theorem dL_law_262 : decode cL_law 262 = .ok (.iaload, 1) := by decide +kernel
theorem dL_law_263 : decode cL_law 263 = .ok (.aload_n 0, 1) := by decide +kernel
theorem dL_law_264 : decode cL_law 264 = .ok (.iload_n 3, 1) := by decide +kernel
theorem dL_law_265 : decode cL_law 265 = .ok (.iconst 2, 1) := by decide +kernel
theorem dL_law_266 : decode cL_law 266 = .ok (.iadd, 1) := by decide +kernel
theorem dL_law_267 : decode cL_law 267 = .ok (.iaload, 1) := by decide +kernel
theorem dL_law_268 : decode cL_law 268 = .ok (.aload_n 0, 1) := by decide +kernel
theorem dL_law_269 : decode cL_law 269 = .ok (.iload_n 3, 1) := by decide +kernel
theorem dL_law_270 : decode cL_law 270 = .ok (.iconst 3, 1) := by decide +kernel
theorem dL_law_271 : decode cL_law 271 = .ok (.iadd, 1) := by decide +kernel
theorem dL_law_272 : decode cL_law 272 = .ok (.iaload, 1) := by decide +kernel
theorem dL_law_273 : decode cL_law 273 = .ok (.aload_n 0, 1) := by decide +kernel
theorem dL_law_274 : decode cL_law 274 = .ok (.iload_n 3, 1) := by decide +kernel
theorem dL_law_275 : decode cL_law 275 = .ok (.iconst 4, 1) := by decide +kernel
theorem dL_law_276 : decode cL_law 276 = .ok (.iadd, 1) := by decide +kernel
theorem dL_law_277 : decode cL_law 277 = .ok (.iaload, 1) := by decide +kernel
theorem dL_law_278 : decode cL_law 278 = .ok (.aload_n 0, 1) := by decide +kernel
theorem dL_law_279 : decode cL_law 279 = .ok (.iload_n 3, 1) := by decide +kernel
theorem dL_law_280 : decode cL_law 280 = .ok (.iconst 5, 1) := by decide +kernel
theorem dL_law_281 : decode cL_law 281 = .ok (.iadd, 1) := by decide +kernel
theorem dL_law_282 : decode cL_law 282 = .ok (.iaload, 1) := by decide +kernel
theorem dL_law_283 : decode cL_law 283 = .ok (.aload_n 0, 1) := by decide +kernel
theorem dL_law_284 : decode cL_law 284 = .ok (.iload_n 3, 1) := by decide +kernel
theorem dL_law_285 : decode cL_law 285 = .ok (.bipush 6, 2) := by decide +kernel
theorem dL_law_287 : decode cL_law 287 = .ok (.iadd, 1) := by decide +kernel
theorem dL_law_288 : decode cL_law 288 = .ok (.iaload, 1) := by decide +kernel
theorem dL_law_289 : decode cL_law 289 = .ok (.aload_n 0, 1) := by decide +kernel
theorem dL_law_290 : decode cL_law 290 = .ok (.iload_n 3, 1) := by decide +kernel
theorem dL_law_291 : decode cL_law 291 = .ok (.bipush 7, 2) := by decide +kernel
theorem dL_law_293 : decode cL_law 293 = .ok (.iadd, 1) := by decide +kernel
theorem dL_law_294 : decode cL_law 294 = .ok (.iaload, 1) := by decide +kernel
theorem dL_law_295 : decode cL_law 295 = .ok (.invokevirtual 27, 3) := by decide +kernel
theorem dL_law_298 : decode cL_law 298 = .ok (.if_icmp .eq 593, 3) := by decide +kernel
theorem dL_law_301 : decode cL_law 301 = .ok (.iconst 0, 1) := by decide +kernel
theorem dL_law_302 : decode cL_law 302 = .ok (.ireturn, 1) := by decide +kernel
theorem dL_law_303 : decode cL_law 303 = .ok (.aload_n 1, 1) := by decide +kernel
theorem dL_law_304 : decode cL_law 304 = .ok (.aload_n 0, 1) := by decide +kernel
theorem dL_law_305 : decode cL_law 305 = .ok (.iload_n 3, 1) := by decide +kernel
theorem dL_law_306 : decode cL_law 306 = .ok (.iconst 1, 1) := by decide +kernel
theorem dL_law_307 : decode cL_law 307 = .ok (.iadd, 1) := by decide +kernel
theorem dL_law_308 : decode cL_law 308 = .ok (.iaload, 1) := by decide +kernel
theorem dL_law_309 : decode cL_law 309 = .ok (.aload_n 0, 1) := by decide +kernel
theorem dL_law_310 : decode cL_law 310 = .ok (.iload_n 3, 1) := by decide +kernel
theorem dL_law_311 : decode cL_law 311 = .ok (.iconst 2, 1) := by decide +kernel
theorem dL_law_312 : decode cL_law 312 = .ok (.iadd, 1) := by decide +kernel
theorem dL_law_313 : decode cL_law 313 = .ok (.iaload, 1) := by decide +kernel
theorem dL_law_314 : decode cL_law 314 = .ok (.aload_n 0, 1) := by decide +kernel
theorem dL_law_315 : decode cL_law 315 = .ok (.iload_n 3, 1) := by decide +kernel
theorem dL_law_316 : decode cL_law 316 = .ok (.iconst 3, 1) := by decide +kernel
theorem dL_law_317 : decode cL_law 317 = .ok (.iadd, 1) := by decide +kernel
theorem dL_law_318 : decode cL_law 318 = .ok (.iaload, 1) := by decide +kernel
theorem dL_law_319 : decode cL_law 319 = .ok (.invokevirtual 28, 3) := by decide +kernel
theorem dL_law_322 : decode cL_law 322 = .ok (.aload_n 2, 1) := by decide +kernel
theorem dL_law_323 : decode cL_law 323 = .ok (.aload_n 0, 1) := by decide +kernel
theorem dL_law_324 : decode cL_law 324 = .ok (.iload_n 3, 1) := by decide +kernel
theorem dL_law_325 : decode cL_law 325 = .ok (.iconst 1, 1) := by decide +kernel
theorem dL_law_326 : decode cL_law 326 = .ok (.iadd, 1) := by decide +kernel
theorem dL_law_327 : decode cL_law 327 = .ok (.iaload, 1) := by decide +kernel
theorem dL_law_328 : decode cL_law 328 = .ok (.aload_n 0, 1) := by decide +kernel
theorem dL_law_329 : decode cL_law 329 = .ok (.iload_n 3, 1) := by decide +kernel
theorem dL_law_330 : decode cL_law 330 = .ok (.iconst 2, 1) := by decide +kernel
theorem dL_law_331 : decode cL_law 331 = .ok (.iadd, 1) := by decide +kernel
theorem dL_law_332 : decode cL_law 332 = .ok (.iaload, 1) := by decide +kernel
theorem dL_law_333 : decode cL_law 333 = .ok (.aload_n 0, 1) := by decide +kernel
theorem dL_law_334 : decode cL_law 334 = .ok (.iload_n 3, 1) := by decide +kernel
theorem dL_law_335 : decode cL_law 335 = .ok (.iconst 3, 1) := by decide +kernel
theorem dL_law_336 : decode cL_law 336 = .ok (.iadd, 1) := by decide +kernel
theorem dL_law_337 : decode cL_law 337 = .ok (.iaload, 1) := by decide +kernel
theorem dL_law_338 : decode cL_law 338 = .ok (.invokevirtual 31, 3) := by decide +kernel
theorem dL_law_341 : decode cL_law 341 = .ok (.if_icmp .eq 550, 3) := by decide +kernel
theorem dL_law_344 : decode cL_law 344 = .ok (.iconst 0, 1) := by decide +kernel
theorem dL_law_345 : decode cL_law 345 = .ok (.ireturn, 1) := by decide +kernel
theorem dL_law_346 : decode cL_law 346 = .ok (.aload_n 1, 1) := by decide +kernel
theorem dL_law_347 : decode cL_law 347 = .ok (.aload_n 0, 1) := by decide +kernel
theorem dL_law_348 : decode cL_law 348 = .ok (.iload_n 3, 1) := by decide +kernel
theorem dL_law_349 : decode cL_law 349 = .ok (.iconst 1, 1) := by decide +kernel
theorem dL_law_350 : decode cL_law 350 = .ok (.iadd, 1) := by decide +kernel
theorem dL_law_351 : decode cL_law 351 = .ok (.iaload, 1) := by decide +kernel
theorem dL_law_352 : decode cL_law 352 = .ok (.aload_n 0, 1) := by decide +kernel
theorem dL_law_353 : decode cL_law 353 = .ok (.iload_n 3, 1) := by decide +kernel
theorem dL_law_354 : decode cL_law 354 = .ok (.iconst 2, 1) := by decide +kernel
theorem dL_law_355 : decode cL_law 355 = .ok (.iadd, 1) := by decide +kernel
theorem dL_law_356 : decode cL_law 356 = .ok (.iaload, 1) := by decide +kernel
theorem dL_law_357 : decode cL_law 357 = .ok (.aload_n 0, 1) := by decide +kernel
theorem dL_law_358 : decode cL_law 358 = .ok (.iload_n 3, 1) := by decide +kernel
theorem dL_law_359 : decode cL_law 359 = .ok (.iconst 3, 1) := by decide +kernel
theorem dL_law_360 : decode cL_law 360 = .ok (.iadd, 1) := by decide +kernel
theorem dL_law_361 : decode cL_law 361 = .ok (.iaload, 1) := by decide +kernel
theorem dL_law_362 : decode cL_law 362 = .ok (.ifCond .eq 7, 3) := by decide +kernel
theorem dL_law_365 : decode cL_law 365 = .ok (.iconst 1, 1) := by decide +kernel
theorem dL_law_366 : decode cL_law 366 = .ok (.goto 4, 3) := by decide +kernel
theorem dL_law_369 : decode cL_law 369 = .ok (.iconst 0, 1) := by decide +kernel
theorem dL_law_370 : decode cL_law 370 = .ok (.invokevirtual 32, 3) := by decide +kernel
theorem dL_law_373 : decode cL_law 373 = .ok (.aload_n 2, 1) := by decide +kernel
theorem dL_law_374 : decode cL_law 374 = .ok (.aload_n 0, 1) := by decide +kernel
theorem dL_law_375 : decode cL_law 375 = .ok (.iload_n 3, 1) := by decide +kernel
theorem dL_law_376 : decode cL_law 376 = .ok (.iconst 1, 1) := by decide +kernel
theorem dL_law_377 : decode cL_law 377 = .ok (.iadd, 1) := by decide +kernel
theorem dL_law_378 : decode cL_law 378 = .ok (.iaload, 1) := by decide +kernel
theorem dL_law_379 : decode cL_law 379 = .ok (.aload_n 0, 1) := by decide +kernel
theorem dL_law_380 : decode cL_law 380 = .ok (.iload_n 3, 1) := by decide +kernel
theorem dL_law_381 : decode cL_law 381 = .ok (.iconst 2, 1) := by decide +kernel
theorem dL_law_382 : decode cL_law 382 = .ok (.iadd, 1) := by decide +kernel
theorem dL_law_383 : decode cL_law 383 = .ok (.iaload, 1) := by decide +kernel
theorem dL_law_384 : decode cL_law 384 = .ok (.aload_n 0, 1) := by decide +kernel
theorem dL_law_385 : decode cL_law 385 = .ok (.iload_n 3, 1) := by decide +kernel
theorem dL_law_386 : decode cL_law 386 = .ok (.iconst 3, 1) := by decide +kernel
theorem dL_law_387 : decode cL_law 387 = .ok (.iadd, 1) := by decide +kernel
theorem dL_law_388 : decode cL_law 388 = .ok (.iaload, 1) := by decide +kernel
theorem dL_law_389 : decode cL_law 389 = .ok (.ifCond .eq 7, 3) := by decide +kernel
theorem dL_law_392 : decode cL_law 392 = .ok (.iconst 1, 1) := by decide +kernel
theorem dL_law_393 : decode cL_law 393 = .ok (.goto 4, 3) := by decide +kernel
theorem dL_law_396 : decode cL_law 396 = .ok (.iconst 0, 1) := by decide +kernel
theorem dL_law_397 : decode cL_law 397 = .ok (.invokevirtual 36, 3) := by decide +kernel
theorem dL_law_400 : decode cL_law 400 = .ok (.if_icmp .eq 491, 3) := by decide +kernel
theorem dL_law_403 : decode cL_law 403 = .ok (.iconst 0, 1) := by decide +kernel
theorem dL_law_404 : decode cL_law 404 = .ok (.ireturn, 1) := by decide +kernel
theorem dL_law_405 : decode cL_law 405 = .ok (.aload_n 1, 1) := by decide +kernel
theorem dL_law_406 : decode cL_law 406 = .ok (.aload_n 0, 1) := by decide +kernel
theorem dL_law_407 : decode cL_law 407 = .ok (.iload_n 3, 1) := by decide +kernel
theorem dL_law_408 : decode cL_law 408 = .ok (.iconst 1, 1) := by decide +kernel
theorem dL_law_409 : decode cL_law 409 = .ok (.iadd, 1) := by decide +kernel
theorem dL_law_410 : decode cL_law 410 = .ok (.iaload, 1) := by decide +kernel
theorem dL_law_411 : decode cL_law 411 = .ok (.aload_n 0, 1) := by decide +kernel
theorem dL_law_412 : decode cL_law 412 = .ok (.iload_n 3, 1) := by decide +kernel
theorem dL_law_413 : decode cL_law 413 = .ok (.iconst 2, 1) := by decide +kernel
theorem dL_law_414 : decode cL_law 414 = .ok (.iadd, 1) := by decide +kernel
theorem dL_law_415 : decode cL_law 415 = .ok (.iaload, 1) := by decide +kernel
theorem dL_law_416 : decode cL_law 416 = .ok (.ifCond .eq 7, 3) := by decide +kernel
theorem dL_law_419 : decode cL_law 419 = .ok (.iconst 1, 1) := by decide +kernel
theorem dL_law_420 : decode cL_law 420 = .ok (.goto 4, 3) := by decide +kernel
theorem dL_law_423 : decode cL_law 423 = .ok (.iconst 0, 1) := by decide +kernel
theorem dL_law_424 : decode cL_law 424 = .ok (.invokevirtual 37, 3) := by decide +kernel
theorem dL_law_427 : decode cL_law 427 = .ok (.aload_n 2, 1) := by decide +kernel
theorem dL_law_428 : decode cL_law 428 = .ok (.aload_n 0, 1) := by decide +kernel
theorem dL_law_429 : decode cL_law 429 = .ok (.iload_n 3, 1) := by decide +kernel
theorem dL_law_430 : decode cL_law 430 = .ok (.iconst 1, 1) := by decide +kernel
theorem dL_law_431 : decode cL_law 431 = .ok (.iadd, 1) := by decide +kernel
theorem dL_law_432 : decode cL_law 432 = .ok (.iaload, 1) := by decide +kernel
theorem dL_law_433 : decode cL_law 433 = .ok (.aload_n 0, 1) := by decide +kernel
theorem dL_law_434 : decode cL_law 434 = .ok (.iload_n 3, 1) := by decide +kernel
theorem dL_law_435 : decode cL_law 435 = .ok (.iconst 2, 1) := by decide +kernel
theorem dL_law_436 : decode cL_law 436 = .ok (.iadd, 1) := by decide +kernel
theorem dL_law_437 : decode cL_law 437 = .ok (.iaload, 1) := by decide +kernel
theorem dL_law_438 : decode cL_law 438 = .ok (.ifCond .eq 7, 3) := by decide +kernel
theorem dL_law_441 : decode cL_law 441 = .ok (.iconst 1, 1) := by decide +kernel
theorem dL_law_442 : decode cL_law 442 = .ok (.goto 4, 3) := by decide +kernel
theorem dL_law_445 : decode cL_law 445 = .ok (.iconst 0, 1) := by decide +kernel
theorem dL_law_446 : decode cL_law 446 = .ok (.invokevirtual 41, 3) := by decide +kernel
theorem dL_law_449 : decode cL_law 449 = .ok (.if_icmp .eq 442, 3) := by decide +kernel
theorem dL_law_452 : decode cL_law 452 = .ok (.iconst 0, 1) := by decide +kernel
theorem dL_law_453 : decode cL_law 453 = .ok (.ireturn, 1) := by decide +kernel
theorem dL_law_454 : decode cL_law 454 = .ok (.aload_n 1, 1) := by decide +kernel
theorem dL_law_455 : decode cL_law 455 = .ok (.aload_n 0, 1) := by decide +kernel
theorem dL_law_456 : decode cL_law 456 = .ok (.iload_n 3, 1) := by decide +kernel
theorem dL_law_457 : decode cL_law 457 = .ok (.iconst 1, 1) := by decide +kernel
theorem dL_law_458 : decode cL_law 458 = .ok (.iadd, 1) := by decide +kernel
theorem dL_law_459 : decode cL_law 459 = .ok (.iaload, 1) := by decide +kernel
theorem dL_law_460 : decode cL_law 460 = .ok (.aload_n 0, 1) := by decide +kernel
theorem dL_law_461 : decode cL_law 461 = .ok (.iload_n 3, 1) := by decide +kernel
theorem dL_law_462 : decode cL_law 462 = .ok (.iconst 2, 1) := by decide +kernel
theorem dL_law_463 : decode cL_law 463 = .ok (.iadd, 1) := by decide +kernel
theorem dL_law_464 : decode cL_law 464 = .ok (.iaload, 1) := by decide +kernel
theorem dL_law_465 : decode cL_law 465 = .ok (.ifCond .eq 7, 3) := by decide +kernel
theorem dL_law_468 : decode cL_law 468 = .ok (.iconst 1, 1) := by decide +kernel
theorem dL_law_469 : decode cL_law 469 = .ok (.goto 4, 3) := by decide +kernel
theorem dL_law_472 : decode cL_law 472 = .ok (.iconst 0, 1) := by decide +kernel
theorem dL_law_473 : decode cL_law 473 = .ok (.invokevirtual 42, 3) := by decide +kernel
theorem dL_law_476 : decode cL_law 476 = .ok (.aload_n 2, 1) := by decide +kernel
theorem dL_law_477 : decode cL_law 477 = .ok (.aload_n 0, 1) := by decide +kernel
theorem dL_law_478 : decode cL_law 478 = .ok (.iload_n 3, 1) := by decide +kernel
theorem dL_law_479 : decode cL_law 479 = .ok (.iconst 1, 1) := by decide +kernel
theorem dL_law_480 : decode cL_law 480 = .ok (.iadd, 1) := by decide +kernel
theorem dL_law_481 : decode cL_law 481 = .ok (.iaload, 1) := by decide +kernel
theorem dL_law_482 : decode cL_law 482 = .ok (.aload_n 0, 1) := by decide +kernel
theorem dL_law_483 : decode cL_law 483 = .ok (.iload_n 3, 1) := by decide +kernel
theorem dL_law_484 : decode cL_law 484 = .ok (.iconst 2, 1) := by decide +kernel
theorem dL_law_485 : decode cL_law 485 = .ok (.iadd, 1) := by decide +kernel
theorem dL_law_486 : decode cL_law 486 = .ok (.iaload, 1) := by decide +kernel
theorem dL_law_487 : decode cL_law 487 = .ok (.ifCond .eq 7, 3) := by decide +kernel
theorem dL_law_490 : decode cL_law 490 = .ok (.iconst 1, 1) := by decide +kernel
theorem dL_law_491 : decode cL_law 491 = .ok (.goto 4, 3) := by decide +kernel
theorem dL_law_494 : decode cL_law 494 = .ok (.iconst 0, 1) := by decide +kernel
theorem dL_law_495 : decode cL_law 495 = .ok (.invokevirtual 45, 3) := by decide +kernel
theorem dL_law_498 : decode cL_law 498 = .ok (.if_icmp .eq 393, 3) := by decide +kernel
theorem dL_law_501 : decode cL_law 501 = .ok (.iconst 0, 1) := by decide +kernel
theorem dL_law_502 : decode cL_law 502 = .ok (.ireturn, 1) := by decide +kernel
theorem dL_law_503 : decode cL_law 503 = .ok (.aload_n 1, 1) := by decide +kernel
theorem dL_law_504 : decode cL_law 504 = .ok (.aload_n 0, 1) := by decide +kernel
theorem dL_law_505 : decode cL_law 505 = .ok (.iload_n 3, 1) := by decide +kernel
theorem dL_law_506 : decode cL_law 506 = .ok (.iconst 1, 1) := by decide +kernel
theorem dL_law_507 : decode cL_law 507 = .ok (.iadd, 1) := by decide +kernel
theorem dL_law_508 : decode cL_law 508 = .ok (.iaload, 1) := by decide +kernel
theorem dL_law_509 : decode cL_law 509 = .ok (.aload_n 0, 1) := by decide +kernel
theorem dL_law_510 : decode cL_law 510 = .ok (.iload_n 3, 1) := by decide +kernel
theorem dL_law_511 : decode cL_law 511 = .ok (.iconst 2, 1) := by decide +kernel
theorem dL_law_512 : decode cL_law 512 = .ok (.iadd, 1) := by decide +kernel
theorem dL_law_513 : decode cL_law 513 = .ok (.iaload, 1) := by decide +kernel
theorem dL_law_514 : decode cL_law 514 = .ok (.invokevirtual 46, 3) := by decide +kernel
theorem dL_law_517 : decode cL_law 517 = .ok (.aload_n 2, 1) := by decide +kernel
theorem dL_law_518 : decode cL_law 518 = .ok (.aload_n 0, 1) := by decide +kernel
theorem dL_law_519 : decode cL_law 519 = .ok (.iload_n 3, 1) := by decide +kernel
theorem dL_law_520 : decode cL_law 520 = .ok (.iconst 1, 1) := by decide +kernel
theorem dL_law_521 : decode cL_law 521 = .ok (.iadd, 1) := by decide +kernel
theorem dL_law_522 : decode cL_law 522 = .ok (.iaload, 1) := by decide +kernel
theorem dL_law_523 : decode cL_law 523 = .ok (.aload_n 0, 1) := by decide +kernel
theorem dL_law_524 : decode cL_law 524 = .ok (.iload_n 3, 1) := by decide +kernel
theorem dL_law_525 : decode cL_law 525 = .ok (.iconst 2, 1) := by decide +kernel
theorem dL_law_526 : decode cL_law 526 = .ok (.iadd, 1) := by decide +kernel
theorem dL_law_527 : decode cL_law 527 = .ok (.iaload, 1) := by decide +kernel
theorem dL_law_528 : decode cL_law 528 = .ok (.invokevirtual 49, 3) := by decide +kernel
theorem dL_law_531 : decode cL_law 531 = .ok (.if_icmp .eq 360, 3) := by decide +kernel
theorem dL_law_534 : decode cL_law 534 = .ok (.iconst 0, 1) := by decide +kernel
theorem dL_law_535 : decode cL_law 535 = .ok (.ireturn, 1) := by decide +kernel
theorem dL_law_536 : decode cL_law 536 = .ok (.aload_n 1, 1) := by decide +kernel
theorem dL_law_537 : decode cL_law 537 = .ok (.aload_n 0, 1) := by decide +kernel
theorem dL_law_538 : decode cL_law 538 = .ok (.iload_n 3, 1) := by decide +kernel
theorem dL_law_539 : decode cL_law 539 = .ok (.iconst 1, 1) := by decide +kernel
theorem dL_law_540 : decode cL_law 540 = .ok (.iadd, 1) := by decide +kernel
theorem dL_law_541 : decode cL_law 541 = .ok (.iaload, 1) := by decide +kernel
theorem dL_law_542 : decode cL_law 542 = .ok (.aload_n 0, 1) := by decide +kernel
theorem dL_law_543 : decode cL_law 543 = .ok (.iload_n 3, 1) := by decide +kernel
theorem dL_law_544 : decode cL_law 544 = .ok (.iconst 2, 1) := by decide +kernel
theorem dL_law_545 : decode cL_law 545 = .ok (.iadd, 1) := by decide +kernel
theorem dL_law_546 : decode cL_law 546 = .ok (.iaload, 1) := by decide +kernel
theorem dL_law_547 : decode cL_law 547 = .ok (.invokevirtual 50, 3) := by decide +kernel
theorem dL_law_550 : decode cL_law 550 = .ok (.aload_n 2, 1) := by decide +kernel
theorem dL_law_551 : decode cL_law 551 = .ok (.aload_n 0, 1) := by decide +kernel
theorem dL_law_552 : decode cL_law 552 = .ok (.iload_n 3, 1) := by decide +kernel
theorem dL_law_553 : decode cL_law 553 = .ok (.iconst 1, 1) := by decide +kernel
theorem dL_law_554 : decode cL_law 554 = .ok (.iadd, 1) := by decide +kernel
theorem dL_law_555 : decode cL_law 555 = .ok (.iaload, 1) := by decide +kernel
theorem dL_law_556 : decode cL_law 556 = .ok (.aload_n 0, 1) := by decide +kernel
theorem dL_law_557 : decode cL_law 557 = .ok (.iload_n 3, 1) := by decide +kernel
theorem dL_law_558 : decode cL_law 558 = .ok (.iconst 2, 1) := by decide +kernel
theorem dL_law_559 : decode cL_law 559 = .ok (.iadd, 1) := by decide +kernel
theorem dL_law_560 : decode cL_law 560 = .ok (.iaload, 1) := by decide +kernel
theorem dL_law_561 : decode cL_law 561 = .ok (.invokevirtual 53, 3) := by decide +kernel
theorem dL_law_564 : decode cL_law 564 = .ok (.if_icmp .eq 327, 3) := by decide +kernel
theorem dL_law_567 : decode cL_law 567 = .ok (.iconst 0, 1) := by decide +kernel
theorem dL_law_568 : decode cL_law 568 = .ok (.ireturn, 1) := by decide +kernel
theorem dL_law_569 : decode cL_law 569 = .ok (.aload_n 1, 1) := by decide +kernel
theorem dL_law_570 : decode cL_law 570 = .ok (.aload_n 0, 1) := by decide +kernel
theorem dL_law_571 : decode cL_law 571 = .ok (.iload_n 3, 1) := by decide +kernel
theorem dL_law_572 : decode cL_law 572 = .ok (.iconst 1, 1) := by decide +kernel
theorem dL_law_573 : decode cL_law 573 = .ok (.iadd, 1) := by decide +kernel
theorem dL_law_574 : decode cL_law 574 = .ok (.iaload, 1) := by decide +kernel
theorem dL_law_575 : decode cL_law 575 = .ok (.aload_n 0, 1) := by decide +kernel
theorem dL_law_576 : decode cL_law 576 = .ok (.iload_n 3, 1) := by decide +kernel
theorem dL_law_577 : decode cL_law 577 = .ok (.iconst 2, 1) := by decide +kernel
theorem dL_law_578 : decode cL_law 578 = .ok (.iadd, 1) := by decide +kernel
theorem dL_law_579 : decode cL_law 579 = .ok (.iaload, 1) := by decide +kernel
theorem dL_law_580 : decode cL_law 580 = .ok (.aload_n 0, 1) := by decide +kernel
theorem dL_law_581 : decode cL_law 581 = .ok (.iload_n 3, 1) := by decide +kernel
theorem dL_law_582 : decode cL_law 582 = .ok (.iconst 3, 1) := by decide +kernel
theorem dL_law_583 : decode cL_law 583 = .ok (.iadd, 1) := by decide +kernel
theorem dL_law_584 : decode cL_law 584 = .ok (.iaload, 1) := by decide +kernel
theorem dL_law_585 : decode cL_law 585 = .ok (.invokevirtual 54, 3) := by decide +kernel
theorem dL_law_588 : decode cL_law 588 = .ok (.aload_n 2, 1) := by decide +kernel
theorem dL_law_589 : decode cL_law 589 = .ok (.aload_n 0, 1) := by decide +kernel
theorem dL_law_590 : decode cL_law 590 = .ok (.iload_n 3, 1) := by decide +kernel
theorem dL_law_591 : decode cL_law 591 = .ok (.iconst 1, 1) := by decide +kernel
theorem dL_law_592 : decode cL_law 592 = .ok (.iadd, 1) := by decide +kernel
theorem dL_law_593 : decode cL_law 593 = .ok (.iaload, 1) := by decide +kernel
theorem dL_law_594 : decode cL_law 594 = .ok (.aload_n 0, 1) := by decide +kernel
theorem dL_law_595 : decode cL_law 595 = .ok (.iload_n 3, 1) := by decide +kernel
theorem dL_law_596 : decode cL_law 596 = .ok (.iconst 2, 1) := by decide +kernel
theorem dL_law_597 : decode cL_law 597 = .ok (.iadd, 1) := by decide +kernel
theorem dL_law_598 : decode cL_law 598 = .ok (.iaload, 1) := by decide +kernel
theorem dL_law_599 : decode cL_law 599 = .ok (.aload_n 0, 1) := by decide +kernel
theorem dL_law_600 : decode cL_law 600 = .ok (.iload_n 3, 1) := by decide +kernel
theorem dL_law_601 : decode cL_law 601 = .ok (.iconst 3, 1) := by decide +kernel
theorem dL_law_602 : decode cL_law 602 = .ok (.iadd, 1) := by decide +kernel
theorem dL_law_603 : decode cL_law 603 = .ok (.iaload, 1) := by decide +kernel
theorem dL_law_604 : decode cL_law 604 = .ok (.invokevirtual 57, 3) := by decide +kernel
theorem dL_law_607 : decode cL_law 607 = .ok (.if_icmp .eq 284, 3) := by decide +kernel
theorem dL_law_610 : decode cL_law 610 = .ok (.iconst 0, 1) := by decide +kernel
theorem dL_law_611 : decode cL_law 611 = .ok (.ireturn, 1) := by decide +kernel
theorem dL_law_612 : decode cL_law 612 = .ok (.aload_n 1, 1) := by decide +kernel
theorem dL_law_613 : decode cL_law 613 = .ok (.aload_n 0, 1) := by decide +kernel
theorem dL_law_614 : decode cL_law 614 = .ok (.iload_n 3, 1) := by decide +kernel
theorem dL_law_615 : decode cL_law 615 = .ok (.iconst 1, 1) := by decide +kernel
theorem dL_law_616 : decode cL_law 616 = .ok (.iadd, 1) := by decide +kernel
theorem dL_law_617 : decode cL_law 617 = .ok (.iaload, 1) := by decide +kernel
theorem dL_law_618 : decode cL_law 618 = .ok (.invokevirtual 58, 3) := by decide +kernel
theorem dL_law_621 : decode cL_law 621 = .ok (.aload_n 2, 1) := by decide +kernel
theorem dL_law_622 : decode cL_law 622 = .ok (.aload_n 0, 1) := by decide +kernel
theorem dL_law_623 : decode cL_law 623 = .ok (.iload_n 3, 1) := by decide +kernel
theorem dL_law_624 : decode cL_law 624 = .ok (.iconst 1, 1) := by decide +kernel
theorem dL_law_625 : decode cL_law 625 = .ok (.iadd, 1) := by decide +kernel
theorem dL_law_626 : decode cL_law 626 = .ok (.iaload, 1) := by decide +kernel
theorem dL_law_627 : decode cL_law 627 = .ok (.invokevirtual 62, 3) := by decide +kernel
theorem dL_law_630 : decode cL_law 630 = .ok (.if_icmp .eq 261, 3) := by decide +kernel
theorem dL_law_633 : decode cL_law 633 = .ok (.iconst 0, 1) := by decide +kernel
theorem dL_law_634 : decode cL_law 634 = .ok (.ireturn, 1) := by decide +kernel
theorem dL_law_635 : decode cL_law 635 = .ok (.aload_n 1, 1) := by decide +kernel
theorem dL_law_636 : decode cL_law 636 = .ok (.aload_n 0, 1) := by decide +kernel
theorem dL_law_637 : decode cL_law 637 = .ok (.iload_n 3, 1) := by decide +kernel
theorem dL_law_638 : decode cL_law 638 = .ok (.iconst 1, 1) := by decide +kernel
theorem dL_law_639 : decode cL_law 639 = .ok (.iadd, 1) := by decide +kernel
theorem dL_law_640 : decode cL_law 640 = .ok (.iaload, 1) := by decide +kernel
theorem dL_law_641 : decode cL_law 641 = .ok (.invokevirtual 63, 3) := by decide +kernel
theorem dL_law_644 : decode cL_law 644 = .ok (.aload_n 2, 1) := by decide +kernel
theorem dL_law_645 : decode cL_law 645 = .ok (.aload_n 0, 1) := by decide +kernel
theorem dL_law_646 : decode cL_law 646 = .ok (.iload_n 3, 1) := by decide +kernel
theorem dL_law_647 : decode cL_law 647 = .ok (.iconst 1, 1) := by decide +kernel
theorem dL_law_648 : decode cL_law 648 = .ok (.iadd, 1) := by decide +kernel
theorem dL_law_649 : decode cL_law 649 = .ok (.iaload, 1) := by decide +kernel
theorem dL_law_650 : decode cL_law 650 = .ok (.invokevirtual 66, 3) := by decide +kernel
theorem dL_law_653 : decode cL_law 653 = .ok (.if_icmp .eq 238, 3) := by decide +kernel
theorem dL_law_656 : decode cL_law 656 = .ok (.iconst 0, 1) := by decide +kernel
theorem dL_law_657 : decode cL_law 657 = .ok (.ireturn, 1) := by decide +kernel
theorem dL_law_658 : decode cL_law 658 = .ok (.aload_n 1, 1) := by decide +kernel
theorem dL_law_659 : decode cL_law 659 = .ok (.aload_n 0, 1) := by decide +kernel
theorem dL_law_660 : decode cL_law 660 = .ok (.iload_n 3, 1) := by decide +kernel
theorem dL_law_661 : decode cL_law 661 = .ok (.iconst 1, 1) := by decide +kernel
theorem dL_law_662 : decode cL_law 662 = .ok (.iadd, 1) := by decide +kernel
theorem dL_law_663 : decode cL_law 663 = .ok (.iaload, 1) := by decide +kernel
theorem dL_law_664 : decode cL_law 664 = .ok (.invokevirtual 67, 3) := by decide +kernel
theorem dL_law_667 : decode cL_law 667 = .ok (.aload_n 2, 1) := by decide +kernel
theorem dL_law_668 : decode cL_law 668 = .ok (.aload_n 0, 1) := by decide +kernel
theorem dL_law_669 : decode cL_law 669 = .ok (.iload_n 3, 1) := by decide +kernel
theorem dL_law_670 : decode cL_law 670 = .ok (.iconst 1, 1) := by decide +kernel
theorem dL_law_671 : decode cL_law 671 = .ok (.iadd, 1) := by decide +kernel
theorem dL_law_672 : decode cL_law 672 = .ok (.iaload, 1) := by decide +kernel
theorem dL_law_673 : decode cL_law 673 = .ok (.invokevirtual 70, 3) := by decide +kernel
theorem dL_law_676 : decode cL_law 676 = .ok (.if_icmp .eq 215, 3) := by decide +kernel
theorem dL_law_679 : decode cL_law 679 = .ok (.iconst 0, 1) := by decide +kernel
theorem dL_law_680 : decode cL_law 680 = .ok (.ireturn, 1) := by decide +kernel
theorem dL_law_681 : decode cL_law 681 = .ok (.aload_n 1, 1) := by decide +kernel
theorem dL_law_682 : decode cL_law 682 = .ok (.invokevirtual 71, 3) := by decide +kernel
theorem dL_law_685 : decode cL_law 685 = .ok (.aload_n 2, 1) := by decide +kernel
theorem dL_law_686 : decode cL_law 686 = .ok (.invokevirtual 75, 3) := by decide +kernel
theorem dL_law_689 : decode cL_law 689 = .ok (.if_icmp .eq 202, 3) := by decide +kernel
theorem dL_law_692 : decode cL_law 692 = .ok (.iconst 0, 1) := by decide +kernel
theorem dL_law_693 : decode cL_law 693 = .ok (.ireturn, 1) := by decide +kernel
theorem dL_law_694 : decode cL_law 694 = .ok (.aload_n 1, 1) := by decide +kernel
theorem dL_law_695 : decode cL_law 695 = .ok (.aload_n 0, 1) := by decide +kernel
theorem dL_law_696 : decode cL_law 696 = .ok (.iload_n 3, 1) := by decide +kernel
theorem dL_law_697 : decode cL_law 697 = .ok (.iconst 1, 1) := by decide +kernel
theorem dL_law_698 : decode cL_law 698 = .ok (.iadd, 1) := by decide +kernel
theorem dL_law_699 : decode cL_law 699 = .ok (.iaload, 1) := by decide +kernel
theorem dL_law_700 : decode cL_law 700 = .ok (.invokevirtual 76, 3) := by decide +kernel
theorem dL_law_703 : decode cL_law 703 = .ok (.aload_n 2, 1) := by decide +kernel
theorem dL_law_704 : decode cL_law 704 = .ok (.aload_n 0, 1) := by decide +kernel
theorem dL_law_705 : decode cL_law 705 = .ok (.iload_n 3, 1) := by decide +kernel
theorem dL_law_706 : decode cL_law 706 = .ok (.iconst 1, 1) := by decide +kernel
theorem dL_law_707 : decode cL_law 707 = .ok (.iadd, 1) := by decide +kernel
theorem dL_law_708 : decode cL_law 708 = .ok (.iaload, 1) := by decide +kernel
theorem dL_law_709 : decode cL_law 709 = .ok (.invokevirtual 79, 3) := by decide +kernel
theorem dL_law_712 : decode cL_law 712 = .ok (.if_icmp .eq 179, 3) := by decide +kernel
theorem dL_law_715 : decode cL_law 715 = .ok (.iconst 0, 1) := by decide +kernel
theorem dL_law_716 : decode cL_law 716 = .ok (.ireturn, 1) := by decide +kernel
theorem dL_law_717 : decode cL_law 717 = .ok (.aload_n 1, 1) := by decide +kernel
theorem dL_law_718 : decode cL_law 718 = .ok (.aload_n 0, 1) := by decide +kernel
theorem dL_law_719 : decode cL_law 719 = .ok (.iload_n 3, 1) := by decide +kernel
theorem dL_law_720 : decode cL_law 720 = .ok (.iconst 1, 1) := by decide +kernel
theorem dL_law_721 : decode cL_law 721 = .ok (.iadd, 1) := by decide +kernel
theorem dL_law_722 : decode cL_law 722 = .ok (.iaload, 1) := by decide +kernel
theorem dL_law_723 : decode cL_law 723 = .ok (.aload_n 0, 1) := by decide +kernel
theorem dL_law_724 : decode cL_law 724 = .ok (.iload_n 3, 1) := by decide +kernel
theorem dL_law_725 : decode cL_law 725 = .ok (.iconst 2, 1) := by decide +kernel
theorem dL_law_726 : decode cL_law 726 = .ok (.iadd, 1) := by decide +kernel
theorem dL_law_727 : decode cL_law 727 = .ok (.iaload, 1) := by decide +kernel
theorem dL_law_728 : decode cL_law 728 = .ok (.invokevirtual 80, 3) := by decide +kernel
theorem dL_law_731 : decode cL_law 731 = .ok (.aload_n 2, 1) := by decide +kernel
theorem dL_law_732 : decode cL_law 732 = .ok (.aload_n 0, 1) := by decide +kernel
theorem dL_law_733 : decode cL_law 733 = .ok (.iload_n 3, 1) := by decide +kernel
theorem dL_law_734 : decode cL_law 734 = .ok (.iconst 1, 1) := by decide +kernel
theorem dL_law_735 : decode cL_law 735 = .ok (.iadd, 1) := by decide +kernel
theorem dL_law_736 : decode cL_law 736 = .ok (.iaload, 1) := by decide +kernel
theorem dL_law_737 : decode cL_law 737 = .ok (.aload_n 0, 1) := by decide +kernel
theorem dL_law_738 : decode cL_law 738 = .ok (.iload_n 3, 1) := by decide +kernel
theorem dL_law_739 : decode cL_law 739 = .ok (.iconst 2, 1) := by decide +kernel
theorem dL_law_740 : decode cL_law 740 = .ok (.iadd, 1) := by decide +kernel
theorem dL_law_741 : decode cL_law 741 = .ok (.iaload, 1) := by decide +kernel
theorem dL_law_742 : decode cL_law 742 = .ok (.invokevirtual 83, 3) := by decide +kernel
theorem dL_law_745 : decode cL_law 745 = .ok (.if_icmp .eq 146, 3) := by decide +kernel
theorem dL_law_748 : decode cL_law 748 = .ok (.iconst 0, 1) := by decide +kernel
theorem dL_law_749 : decode cL_law 749 = .ok (.ireturn, 1) := by decide +kernel
theorem dL_law_750 : decode cL_law 750 = .ok (.aload_n 1, 1) := by decide +kernel
theorem dL_law_751 : decode cL_law 751 = .ok (.invokevirtual 84, 3) := by decide +kernel
theorem dL_law_754 : decode cL_law 754 = .ok (.aload_n 2, 1) := by decide +kernel
theorem dL_law_755 : decode cL_law 755 = .ok (.invokevirtual 87, 3) := by decide +kernel
theorem dL_law_758 : decode cL_law 758 = .ok (.if_icmp .eq 133, 3) := by decide +kernel
theorem dL_law_761 : decode cL_law 761 = .ok (.iconst 0, 1) := by decide +kernel
theorem dL_law_762 : decode cL_law 762 = .ok (.ireturn, 1) := by decide +kernel
theorem dL_law_763 : decode cL_law 763 = .ok (.aload_n 1, 1) := by decide +kernel
theorem dL_law_764 : decode cL_law 764 = .ok (.invokevirtual 88, 3) := by decide +kernel
theorem dL_law_767 : decode cL_law 767 = .ok (.aload_n 2, 1) := by decide +kernel
theorem dL_law_768 : decode cL_law 768 = .ok (.invokevirtual 91, 3) := by decide +kernel
theorem dL_law_771 : decode cL_law 771 = .ok (.if_icmp .eq 120, 3) := by decide +kernel
theorem dL_law_774 : decode cL_law 774 = .ok (.iconst 0, 1) := by decide +kernel
theorem dL_law_775 : decode cL_law 775 = .ok (.ireturn, 1) := by decide +kernel
theorem dL_law_776 : decode cL_law 776 = .ok (.aload_n 1, 1) := by decide +kernel
theorem dL_law_777 : decode cL_law 777 = .ok (.aload_n 0, 1) := by decide +kernel
theorem dL_law_778 : decode cL_law 778 = .ok (.iload_n 3, 1) := by decide +kernel
theorem dL_law_779 : decode cL_law 779 = .ok (.iconst 1, 1) := by decide +kernel
theorem dL_law_780 : decode cL_law 780 = .ok (.iadd, 1) := by decide +kernel
theorem dL_law_781 : decode cL_law 781 = .ok (.iaload, 1) := by decide +kernel
theorem dL_law_782 : decode cL_law 782 = .ok (.invokevirtual 92, 3) := by decide +kernel
theorem dL_law_785 : decode cL_law 785 = .ok (.aload_n 2, 1) := by decide +kernel
theorem dL_law_786 : decode cL_law 786 = .ok (.aload_n 0, 1) := by decide +kernel
theorem dL_law_787 : decode cL_law 787 = .ok (.iload_n 3, 1) := by decide +kernel
theorem dL_law_788 : decode cL_law 788 = .ok (.iconst 1, 1) := by decide +kernel
theorem dL_law_789 : decode cL_law 789 = .ok (.iadd, 1) := by decide +kernel
theorem dL_law_790 : decode cL_law 790 = .ok (.iaload, 1) := by decide +kernel
theorem dL_law_791 : decode cL_law 791 = .ok (.invokevirtual 95, 3) := by decide +kernel
theorem dL_law_794 : decode cL_law 794 = .ok (.if_icmp .eq 97, 3) := by decide +kernel
theorem dL_law_797 : decode cL_law 797 = .ok (.iconst 0, 1) := by decide +kernel
theorem dL_law_798 : decode cL_law 798 = .ok (.ireturn, 1) := by decide +kernel
theorem dL_law_799 : decode cL_law 799 = .ok (.aload_n 1, 1) := by decide +kernel
theorem dL_law_800 : decode cL_law 800 = .ok (.aload_n 0, 1) := by decide +kernel
theorem dL_law_801 : decode cL_law 801 = .ok (.iload_n 3, 1) := by decide +kernel
theorem dL_law_802 : decode cL_law 802 = .ok (.iconst 1, 1) := by decide +kernel
theorem dL_law_803 : decode cL_law 803 = .ok (.iadd, 1) := by decide +kernel
theorem dL_law_804 : decode cL_law 804 = .ok (.iaload, 1) := by decide +kernel
theorem dL_law_805 : decode cL_law 805 = .ok (.invokevirtual 96, 3) := by decide +kernel
theorem dL_law_808 : decode cL_law 808 = .ok (.aload_n 2, 1) := by decide +kernel
theorem dL_law_809 : decode cL_law 809 = .ok (.aload_n 0, 1) := by decide +kernel
theorem dL_law_810 : decode cL_law 810 = .ok (.iload_n 3, 1) := by decide +kernel
theorem dL_law_811 : decode cL_law 811 = .ok (.iconst 1, 1) := by decide +kernel
theorem dL_law_812 : decode cL_law 812 = .ok (.iadd, 1) := by decide +kernel
theorem dL_law_813 : decode cL_law 813 = .ok (.iaload, 1) := by decide +kernel
theorem dL_law_814 : decode cL_law 814 = .ok (.invokevirtual 99, 3) := by decide +kernel
theorem dL_law_817 : decode cL_law 817 = .ok (.if_icmp .eq 74, 3) := by decide +kernel
theorem dL_law_820 : decode cL_law 820 = .ok (.iconst 0, 1) := by decide +kernel
theorem dL_law_821 : decode cL_law 821 = .ok (.ireturn, 1) := by decide +kernel
theorem dL_law_822 : decode cL_law 822 = .ok (.aload_n 1, 1) := by decide +kernel
theorem dL_law_823 : decode cL_law 823 = .ok (.invokevirtual 100, 3) := by decide +kernel
theorem dL_law_826 : decode cL_law 826 = .ok (.aload_n 2, 1) := by decide +kernel
theorem dL_law_827 : decode cL_law 827 = .ok (.invokevirtual 103, 3) := by decide +kernel
theorem dL_law_830 : decode cL_law 830 = .ok (.if_icmp .eq 61, 3) := by decide +kernel
theorem dL_law_833 : decode cL_law 833 = .ok (.iconst 0, 1) := by decide +kernel
theorem dL_law_834 : decode cL_law 834 = .ok (.ireturn, 1) := by decide +kernel
theorem dL_law_835 : decode cL_law 835 = .ok (.aload_n 1, 1) := by decide +kernel
theorem dL_law_836 : decode cL_law 836 = .ok (.aload_n 0, 1) := by decide +kernel
theorem dL_law_837 : decode cL_law 837 = .ok (.iload_n 3, 1) := by decide +kernel
theorem dL_law_838 : decode cL_law 838 = .ok (.iconst 1, 1) := by decide +kernel
theorem dL_law_839 : decode cL_law 839 = .ok (.iadd, 1) := by decide +kernel
theorem dL_law_840 : decode cL_law 840 = .ok (.iaload, 1) := by decide +kernel
theorem dL_law_841 : decode cL_law 841 = .ok (.aload_n 0, 1) := by decide +kernel
theorem dL_law_842 : decode cL_law 842 = .ok (.iload_n 3, 1) := by decide +kernel
theorem dL_law_843 : decode cL_law 843 = .ok (.iconst 2, 1) := by decide +kernel
theorem dL_law_844 : decode cL_law 844 = .ok (.iadd, 1) := by decide +kernel
theorem dL_law_845 : decode cL_law 845 = .ok (.iaload, 1) := by decide +kernel
theorem dL_law_846 : decode cL_law 846 = .ok (.invokevirtual 104, 3) := by decide +kernel
theorem dL_law_849 : decode cL_law 849 = .ok (.aload_n 2, 1) := by decide +kernel
theorem dL_law_850 : decode cL_law 850 = .ok (.aload_n 0, 1) := by decide +kernel
theorem dL_law_851 : decode cL_law 851 = .ok (.iload_n 3, 1) := by decide +kernel
theorem dL_law_852 : decode cL_law 852 = .ok (.iconst 1, 1) := by decide +kernel
theorem dL_law_853 : decode cL_law 853 = .ok (.iadd, 1) := by decide +kernel
theorem dL_law_854 : decode cL_law 854 = .ok (.iaload, 1) := by decide +kernel
theorem dL_law_855 : decode cL_law 855 = .ok (.aload_n 0, 1) := by decide +kernel
theorem dL_law_856 : decode cL_law 856 = .ok (.iload_n 3, 1) := by decide +kernel
theorem dL_law_857 : decode cL_law 857 = .ok (.iconst 2, 1) := by decide +kernel
theorem dL_law_858 : decode cL_law 858 = .ok (.iadd, 1) := by decide +kernel
theorem dL_law_859 : decode cL_law 859 = .ok (.iaload, 1) := by decide +kernel
theorem dL_law_860 : decode cL_law 860 = .ok (.invokevirtual 107, 3) := by decide +kernel
theorem dL_law_863 : decode cL_law 863 = .ok (.if_icmp .eq 28, 3) := by decide +kernel
theorem dL_law_866 : decode cL_law 866 = .ok (.iconst 0, 1) := by decide +kernel
theorem dL_law_867 : decode cL_law 867 = .ok (.ireturn, 1) := by decide +kernel
theorem dL_law_868 : decode cL_law 868 = .ok (.aload_n 1, 1) := by decide +kernel
theorem dL_law_869 : decode cL_law 869 = .ok (.aload_n 0, 1) := by decide +kernel
theorem dL_law_870 : decode cL_law 870 = .ok (.iload_n 3, 1) := by decide +kernel
theorem dL_law_871 : decode cL_law 871 = .ok (.iconst 1, 1) := by decide +kernel
theorem dL_law_872 : decode cL_law 872 = .ok (.iadd, 1) := by decide +kernel
theorem dL_law_873 : decode cL_law 873 = .ok (.iaload, 1) := by decide +kernel
theorem dL_law_874 : decode cL_law 874 = .ok (.invokevirtual 108, 3) := by decide +kernel
theorem dL_law_877 : decode cL_law 877 = .ok (.aload_n 2, 1) := by decide +kernel
theorem dL_law_878 : decode cL_law 878 = .ok (.aload_n 0, 1) := by decide +kernel
theorem dL_law_879 : decode cL_law 879 = .ok (.iload_n 3, 1) := by decide +kernel
theorem dL_law_880 : decode cL_law 880 = .ok (.iconst 1, 1) := by decide +kernel
theorem dL_law_881 : decode cL_law 881 = .ok (.iadd, 1) := by decide +kernel
theorem dL_law_882 : decode cL_law 882 = .ok (.iaload, 1) := by decide +kernel
theorem dL_law_883 : decode cL_law 883 = .ok (.invokevirtual 111, 3) := by decide +kernel
theorem dL_law_886 : decode cL_law 886 = .ok (.if_icmp .eq 5, 3) := by decide +kernel
theorem dL_law_889 : decode cL_law 889 = .ok (.iconst 0, 1) := by decide +kernel
theorem dL_law_890 : decode cL_law 890 = .ok (.ireturn, 1) := by decide +kernel
theorem dL_law_891 : decode cL_law 891 = .ok (.iinc 3 8, 3) := by decide +kernel
theorem dL_law_894 : decode cL_law 894 = .ok (.goto (-876), 3) := by decide +kernel
theorem dL_law_897 : decode cL_law 897 = .ok (.iconst 1, 1) := by decide +kernel
theorem dL_law_898 : decode cL_law 898 = .ok (.ireturn, 1) := by decide +kernel
end
section
/-! ===== the memory: numbers by cell and place; every reference of the system is fixed once it is made ===== -/
abbrev MS : Type := Nat → Nat → Int32
def mst (σ : MS) (k j : Nat) (v : Int32) : MS := fun a b => if a = k ∧ b = j then v else σ a b
theorem mst_s {σ : MS} {k j : Nat} {v : Int32} : mst σ k j v k j = v := by simp [mst]
theorem mst_k {σ : MS} {k j a : Nat} {v : Int32} (h : a ≠ k) : mst σ k j v a = σ a := by
  funext b
  simp [mst, h]
theorem mst_j {σ : MS} {k j a b : Nat} {v : Int32} (h : b ≠ j) : mst σ k j v a b = σ a b := by simp [mst, h]
theorem mst_upd {σ : MS} {k j : Nat} {v : Int32} : mst σ k j v k = upd (σ k) j v := by
  funext b
  by_cases h : b = j <;> simp [mst, upd, h]
abbrev WD : Type := va_G × (Nat → Nat) × (Nat → ClassId)
def NN : Nat := 102
/-- an object cell: its class, and of each field the cell that it refers to, or none for a number -/
def fdo (k : Nat) : Nat × List (Option Nat) := if k = 0 then (8, [some 1, some 4, some 6, some 9, some 10, some 11, some 12, none]) else if k = 1 then (5, [some 2, some 3]) else if k = 4 then (2, [some 5, none]) else if k = 6 then (7, [some 1, some 4, some 7, some 8, some 23, some 24, some 25, some 26, some 27]) else if k = 7 then (6, [none, some 13, some 14, some 15, some 16, some 17, none, none]) else if k = 8 then (6, [none, some 18, some 19, some 20, some 21, some 22, none, none]) else if k = 9 then (0, [some 6, some 28, some 29]) else if k = 10 then (1, [some 9, some 30, some 31]) else if k = 11 then (4, [none, none, some 32, some 33, some 34, some 35, some 36]) else if k = 66 then (9, [some 67, some 68, some 69, none, none, some 70, some 71, some 72, some 73, some 74, some 75, some 76, some 77, some 78, some 79, some 80, some 81, some 82, some 83, some 84, some 85, some 86, some 87, some 88, none, none, none, none, some 89, some 90, some 91, some 92, some 93, some 94, some 95, some 96, none, none, some 97, some 98, some 99, some 100, some 101]) else (3, [none, none, none, none, none, none, none, none, none, none, none])
def alen (k : Nat) : Nat := if k < 13 then 7 else if k < 28 then 4 else if k < 32 then 512 else if k < 37 then 9 else if k < 67 then 10 else if k < 68 then 7 else if k < 70 then 100 else if k < 81 then 9 else if k < 83 then 5 else if k < 85 then 9 else if k < 87 then 5 else if k < 89 then 9 else if k < 97 then 512 else 9
def knd (k : Nat) : Nat := if k < 12 then (if k = 2 then 4 else if k = 3 then 5 else if k = 5 then 3 else 0) else if k < 37 then 1 else if k < 46 then 0 else if k < 66 then 1 else if k = 66 then 0 else if k = 79 then 2 else if k = 80 then 2 else 1

def fva (E : WD) (σ : MS) (k : Nat) (j : Nat) (o : Option Nat) : Value := match o with
  | none => .int (σ k j)
  | some r => .ref (E.2.1 r)
def cel (E : WD) (σ : MS) (k : Nat) : va_E :=
  if knd k = 0 then .inr ((fdo k).1, (fdo k).2.mapIdx (fva E σ k))
  else if knd k = 1 then .inl (E.2.2 0, alen k, .inl (σ k))
  else if knd k = 2 then .inl (E.2.2 1, alen k, .inl (σ k))
  else if knd k = 3 then .inl (E.2.2 2, 9, .inr (.inr (.inr (.inr (fun i => some (E.2.1 (37 + i)))))))
  else if knd k = 4 then .inl (E.2.2 3, 10, .inr (.inr (.inr (.inr (fun i => some (E.2.1 (46 + i)))))))
  else .inl (E.2.2 3, 10, .inr (.inr (.inr (.inr (fun i => some (E.2.1 (56 + i)))))))
theorem cel_0 {E : WD} {σ : MS} {k : Nat} (h : knd k = 0) : cel E σ k = .inr ((fdo k).1, (fdo k).2.mapIdx (fva E σ k)) := by
  unfold cel
  rw [if_pos h]
theorem cel_1 {E : WD} {σ : MS} {k : Nat} (h : knd k = 1) : cel E σ k = .inl (E.2.2 0, alen k, .inl (σ k)) := by
  unfold cel
  rw [if_neg (by omega), if_pos h]
theorem cel_2 {E : WD} {σ : MS} {k : Nat} (h : knd k = 2) : cel E σ k = .inl (E.2.2 1, alen k, .inl (σ k)) := by
  unfold cel
  rw [if_neg (by omega), if_neg (by omega), if_pos h]
theorem cel_c {E : WD} {σ σ' : MS} {k : Nat} (h : σ' k = σ k) : cel E σ' k = cel E σ k := by
  have e : fva E σ' k = fva E σ k := by
    funext j o
    cases o <;> simp [fva, h]
  unfold cel
  rw [h, e]
def wl (E : WD) (σ : MS) : va_W := (List.range NN).map (fun k => (E.2.1 k, cel E σ k))
theorem wl_get {E : WD} {σ : MS} {k : Nat} (hk : k < NN) : (wl E σ)[k]? = some (E.2.1 k, cel E σ k) := by
  unfold wl
  rw [List.getElem?_map, List.getElem?_range hk]
  rfl
theorem wl_some {E : WD} {σ : MS} {k : Nat} {q : Nat × va_E} (h : (wl E σ)[k]? = some q) : k < NN ∧ q = (E.2.1 k, cel E σ k) := by
  have hl : k < NN := by
    have := (List.getElem?_eq_some_iff.mp h).1
    simpa [wl] using this
  rw [wl_get hl] at h
  exact ⟨hl, (Option.some.inj h).symm⟩
theorem wl_set {E : WD} {σ σ' : MS} {k : Nat} {x : va_E} (hk : k < NN) (h : cel E σ' k = x) (ho : ∀ i, i ≠ k → σ' i = σ i) : (wl E σ).set k (E.2.1 k, x) = wl E σ' := by
  apply List.ext_getElem?
  intro i
  by_cases hi : i < NN
  · by_cases hik : i = k
    · subst hik
      rw [List.getElem?_set_self (by simpa [wl] using hi), wl_get hi, h]
    · rw [List.getElem?_set_ne (Ne.symm hik), wl_get hi, wl_get hi, cel_c (ho i hik)]
  · rw [List.getElem?_eq_none (by simpa [wl] using hi), List.getElem?_eq_none (by simpa [wl] using hi)]
def inj (E : WD) : Prop := ∀ i j, i < NN → j < NN → E.2.1 i = E.2.1 j → i = j
def AD (E : WD) : Nat → Prop := fun q => ∃ k, k < NN ∧ q = E.2.1 k
theorem wl_D {E : WD} {σ : MS} {A : Nat → Prop} (hi : inj E) (hA : ∀ k, k < NN → A (E.2.1 k)) : va_D A (wl E σ) := by
  refine ⟨fun i j p q h1 h2 h3 => ?_, fun k q h => ?_⟩
  · obtain ⟨a1, b1⟩ := wl_some h1
    obtain ⟨a2, b2⟩ := wl_some h2
    subst b1 b2
    exact hi i j a1 a2 h3
  · obtain ⟨a1, b1⟩ := wl_some h
    subst b1
    exact hA k a1
abbrev tyW (E : WD) : List (ClassId × FieldType) := [(E.2.2 0, .int), (E.2.2 1, .boolean), (E.2.2 2, .object "RidePools$Person"), (E.2.2 3, .array .int)]
def nestWs : List Cond := [Cond.methodLinkNest "RidePools$People" 17 yX3_init "RidePools",
  Cond.fieldLinkNest "RidePools" 97 "RidePools$Person" "kind" "I" "RidePools",
  Cond.fieldLinkNest "RidePools" 102 "RidePools$Person" "house" "I" "RidePools",
  Cond.fieldLinkNest "RidePools$WayFinder" 109 "RidePools$Person" "house" "I" "RidePools",
  Cond.fieldLinkNest "RidePools" 105 "RidePools$Person" "work" "I" "RidePools",
  Cond.fieldLinkNest "RidePools$WayFinder" 111 "RidePools$Person" "work" "I" "RidePools",
  Cond.fieldLinkNest "RidePools" 108 "RidePools$Person" "early" "I" "RidePools",
  Cond.fieldLinkNest "RidePools$WayFinder" 113 "RidePools$Person" "early" "I" "RidePools",
  Cond.fieldLinkNest "RidePools" 111 "RidePools$Person" "late" "I" "RidePools",
  Cond.fieldLinkNest "RidePools$WayFinder" 115 "RidePools$Person" "late" "I" "RidePools",
  Cond.fieldLinkNest "RidePools" 114 "RidePools$Person" "detour" "I" "RidePools",
  Cond.fieldLinkNest "RidePools$WayFinder" 123 "RidePools$Person" "detour" "I" "RidePools",
  Cond.fieldLinkNest "RidePools" 117 "RidePools$Person" "seats" "I" "RidePools",
  Cond.fieldLinkNest "RidePools$People" 41 "RidePools$Person" "seats" "I" "RidePools",
  Cond.fieldLinkNest "RidePools" 130 "RidePools$Person" "isAway" "Z" "RidePools",
  Cond.fieldLinkNest "RidePools$People" 22 "RidePools$Person" "isAway" "Z" "RidePools",
  Cond.fieldLinkNest "RidePools" 243 "RidePools$Person" "isBroken" "Z" "RidePools",
  Cond.fieldLinkNest "RidePools" 123 "RidePools$Person" "bars" "I" "RidePools",
  Cond.fieldLinkNest "RidePools$People" 44 "RidePools$Person" "bars" "I" "RidePools",
  Cond.fieldLinkNest "RidePools" 222 "RidePools$Person" "points" "I" "RidePools",
  Cond.methodLinkNest "RidePools$WayFinder" 11 yX6_init "RidePools",
  Cond.fieldLinkNest "RidePools$WayFinder" 96 "RidePools$Way" "size" "I" "RidePools",
  Cond.fieldLinkNest "RidePools$Plan" 41 "RidePools$Way" "size" "I" "RidePools",
  Cond.fieldLinkNest "RidePools$Plan" 46 "RidePools$Way" "members" "[I" "RidePools",
  Cond.fieldLinkNest "RidePools$WayFinder" 106 "RidePools$Way" "members" "[I" "RidePools",
  Cond.fieldLinkNest "RidePools$WayFinder" 82 "RidePools$Way" "picked" "[I" "RidePools",
  Cond.fieldLinkNest "RidePools$WayFinder" 145 "RidePools$Way" "brought" "[I" "RidePools",
  Cond.fieldLinkNest "RidePools$WayFinder" 85 "RidePools$Way" "pickedAfter" "[I" "RidePools",
  Cond.fieldLinkNest "RidePools$Plan" 54 "RidePools$Way" "pickedAfter" "[I" "RidePools",
  Cond.fieldLinkNest "RidePools$Plan" 57 "RidePools$Way" "broughtAfter" "[I" "RidePools",
  Cond.fieldLinkNest "RidePools$WayFinder" 148 "RidePools$Way" "broughtAfter" "[I" "RidePools",
  Cond.fieldLinkNest "RidePools$WayFinder" 45 "RidePools$Way" "taken" "I" "RidePools",
  Cond.fieldLinkNest "RidePools$Plan" 49 "RidePools$Way" "taken" "I" "RidePools",
  Cond.fieldLinkNest "RidePools$Costs" 52 "RidePools$Way" "taken" "I" "RidePools",
  Cond.fieldLinkNest "RidePools" 148 "RidePools$Way" "taken" "I" "RidePools",
  Cond.fieldLinkNest "RidePools$Plan" 51 "RidePools$Way" "begin" "I" "RidePools",
  Cond.fieldLinkNest "RidePools$WayFinder" 135 "RidePools$Way" "begin" "I" "RidePools",
  Cond.methodLinkNest "RidePools$People" 34 yX8_contains "RidePools",
  Cond.methodLinkNest "RidePools$WayFinder" 99 yX8_contains "RidePools",
  Cond.methodLinkNest "RidePools$Costs" 38 yX8_contains "RidePools",
  Cond.methodLinkNest "RidePools$Plan" 60 yX8_contains "RidePools"]
theorem nw_0 : Cond.methodLinkNest "RidePools$People" 17 yX3_init "RidePools" ∈ nestWs := List.mem_of_getElem? (i := 0) rfl
theorem nw_1 : Cond.fieldLinkNest "RidePools" 97 "RidePools$Person" "kind" "I" "RidePools" ∈ nestWs := List.mem_of_getElem? (i := 1) rfl
theorem nw_2 : Cond.fieldLinkNest "RidePools" 102 "RidePools$Person" "house" "I" "RidePools" ∈ nestWs := List.mem_of_getElem? (i := 2) rfl
theorem nw_3 : Cond.fieldLinkNest "RidePools$WayFinder" 109 "RidePools$Person" "house" "I" "RidePools" ∈ nestWs := List.mem_of_getElem? (i := 3) rfl
theorem nw_4 : Cond.fieldLinkNest "RidePools" 105 "RidePools$Person" "work" "I" "RidePools" ∈ nestWs := List.mem_of_getElem? (i := 4) rfl
theorem nw_5 : Cond.fieldLinkNest "RidePools$WayFinder" 111 "RidePools$Person" "work" "I" "RidePools" ∈ nestWs := List.mem_of_getElem? (i := 5) rfl
theorem nw_6 : Cond.fieldLinkNest "RidePools" 108 "RidePools$Person" "early" "I" "RidePools" ∈ nestWs := List.mem_of_getElem? (i := 6) rfl
theorem nw_7 : Cond.fieldLinkNest "RidePools$WayFinder" 113 "RidePools$Person" "early" "I" "RidePools" ∈ nestWs := List.mem_of_getElem? (i := 7) rfl
theorem nw_8 : Cond.fieldLinkNest "RidePools" 111 "RidePools$Person" "late" "I" "RidePools" ∈ nestWs := List.mem_of_getElem? (i := 8) rfl
theorem nw_9 : Cond.fieldLinkNest "RidePools$WayFinder" 115 "RidePools$Person" "late" "I" "RidePools" ∈ nestWs := List.mem_of_getElem? (i := 9) rfl
theorem nw_10 : Cond.fieldLinkNest "RidePools" 114 "RidePools$Person" "detour" "I" "RidePools" ∈ nestWs := List.mem_of_getElem? (i := 10) rfl
theorem nw_11 : Cond.fieldLinkNest "RidePools$WayFinder" 123 "RidePools$Person" "detour" "I" "RidePools" ∈ nestWs := List.mem_of_getElem? (i := 11) rfl
theorem nw_12 : Cond.fieldLinkNest "RidePools" 117 "RidePools$Person" "seats" "I" "RidePools" ∈ nestWs := List.mem_of_getElem? (i := 12) rfl
theorem nw_13 : Cond.fieldLinkNest "RidePools$People" 41 "RidePools$Person" "seats" "I" "RidePools" ∈ nestWs := List.mem_of_getElem? (i := 13) rfl
theorem nw_14 : Cond.fieldLinkNest "RidePools" 130 "RidePools$Person" "isAway" "Z" "RidePools" ∈ nestWs := List.mem_of_getElem? (i := 14) rfl
theorem nw_15 : Cond.fieldLinkNest "RidePools$People" 22 "RidePools$Person" "isAway" "Z" "RidePools" ∈ nestWs := List.mem_of_getElem? (i := 15) rfl
theorem nw_16 : Cond.fieldLinkNest "RidePools" 243 "RidePools$Person" "isBroken" "Z" "RidePools" ∈ nestWs := List.mem_of_getElem? (i := 16) rfl
theorem nw_17 : Cond.fieldLinkNest "RidePools" 123 "RidePools$Person" "bars" "I" "RidePools" ∈ nestWs := List.mem_of_getElem? (i := 17) rfl
theorem nw_18 : Cond.fieldLinkNest "RidePools$People" 44 "RidePools$Person" "bars" "I" "RidePools" ∈ nestWs := List.mem_of_getElem? (i := 18) rfl
theorem nw_19 : Cond.fieldLinkNest "RidePools" 222 "RidePools$Person" "points" "I" "RidePools" ∈ nestWs := List.mem_of_getElem? (i := 19) rfl
theorem nw_20 : Cond.methodLinkNest "RidePools$WayFinder" 11 yX6_init "RidePools" ∈ nestWs := List.mem_of_getElem? (i := 20) rfl
theorem nw_21 : Cond.fieldLinkNest "RidePools$WayFinder" 96 "RidePools$Way" "size" "I" "RidePools" ∈ nestWs := List.mem_of_getElem? (i := 21) rfl
theorem nw_22 : Cond.fieldLinkNest "RidePools$Plan" 41 "RidePools$Way" "size" "I" "RidePools" ∈ nestWs := List.mem_of_getElem? (i := 22) rfl
theorem nw_23 : Cond.fieldLinkNest "RidePools$Plan" 46 "RidePools$Way" "members" "[I" "RidePools" ∈ nestWs := List.mem_of_getElem? (i := 23) rfl
theorem nw_24 : Cond.fieldLinkNest "RidePools$WayFinder" 106 "RidePools$Way" "members" "[I" "RidePools" ∈ nestWs := List.mem_of_getElem? (i := 24) rfl
theorem nw_25 : Cond.fieldLinkNest "RidePools$WayFinder" 82 "RidePools$Way" "picked" "[I" "RidePools" ∈ nestWs := List.mem_of_getElem? (i := 25) rfl
theorem nw_26 : Cond.fieldLinkNest "RidePools$WayFinder" 145 "RidePools$Way" "brought" "[I" "RidePools" ∈ nestWs := List.mem_of_getElem? (i := 26) rfl
theorem nw_27 : Cond.fieldLinkNest "RidePools$WayFinder" 85 "RidePools$Way" "pickedAfter" "[I" "RidePools" ∈ nestWs := List.mem_of_getElem? (i := 27) rfl
theorem nw_28 : Cond.fieldLinkNest "RidePools$Plan" 54 "RidePools$Way" "pickedAfter" "[I" "RidePools" ∈ nestWs := List.mem_of_getElem? (i := 28) rfl
theorem nw_29 : Cond.fieldLinkNest "RidePools$Plan" 57 "RidePools$Way" "broughtAfter" "[I" "RidePools" ∈ nestWs := List.mem_of_getElem? (i := 29) rfl
theorem nw_30 : Cond.fieldLinkNest "RidePools$WayFinder" 148 "RidePools$Way" "broughtAfter" "[I" "RidePools" ∈ nestWs := List.mem_of_getElem? (i := 30) rfl
theorem nw_31 : Cond.fieldLinkNest "RidePools$WayFinder" 45 "RidePools$Way" "taken" "I" "RidePools" ∈ nestWs := List.mem_of_getElem? (i := 31) rfl
theorem nw_32 : Cond.fieldLinkNest "RidePools$Plan" 49 "RidePools$Way" "taken" "I" "RidePools" ∈ nestWs := List.mem_of_getElem? (i := 32) rfl
theorem nw_33 : Cond.fieldLinkNest "RidePools$Costs" 52 "RidePools$Way" "taken" "I" "RidePools" ∈ nestWs := List.mem_of_getElem? (i := 33) rfl
theorem nw_34 : Cond.fieldLinkNest "RidePools" 148 "RidePools$Way" "taken" "I" "RidePools" ∈ nestWs := List.mem_of_getElem? (i := 34) rfl
theorem nw_35 : Cond.fieldLinkNest "RidePools$Plan" 51 "RidePools$Way" "begin" "I" "RidePools" ∈ nestWs := List.mem_of_getElem? (i := 35) rfl
theorem nw_36 : Cond.fieldLinkNest "RidePools$WayFinder" 135 "RidePools$Way" "begin" "I" "RidePools" ∈ nestWs := List.mem_of_getElem? (i := 36) rfl
theorem nw_37 : Cond.methodLinkNest "RidePools$People" 34 yX8_contains "RidePools" ∈ nestWs := List.mem_of_getElem? (i := 37) rfl
theorem nw_38 : Cond.methodLinkNest "RidePools$WayFinder" 99 yX8_contains "RidePools" ∈ nestWs := List.mem_of_getElem? (i := 38) rfl
theorem nw_39 : Cond.methodLinkNest "RidePools$Costs" 38 yX8_contains "RidePools" ∈ nestWs := List.mem_of_getElem? (i := 39) rfl
theorem nw_40 : Cond.methodLinkNest "RidePools$Plan" 60 yX8_contains "RidePools" ∈ nestWs := List.mem_of_getElem? (i := 40) rfl
theorem tw_nat : Cond.native arraycopyName ∈ gtbl := gt_r (i := 40) rfl rfl
def KW (E : WD) (U : State) : Prop := va_K E.1 vwCl (tyW E) U ∧ ∀ w ∈ nestWs, va_Nw w U
theorem nest_kind : ∀ w ∈ nestWs, (∃ a i b n d h, w = Cond.fieldLinkNest a i b n d h) ∨ ∃ a i x h, w = Cond.methodLinkNest a i x h := by
  intro w hw
  simp only [nestWs, List.mem_cons, List.not_mem_nil, or_false] at hw
  rcases hw with rfl | rfl | rfl | rfl | rfl | rfl | rfl | rfl | rfl | rfl | rfl | rfl | rfl | rfl | rfl | rfl | rfl | rfl | rfl | rfl | rfl | rfl | rfl | rfl | rfl | rfl | rfl | rfl | rfl | rfl | rfl | rfl | rfl | rfl | rfl | rfl | rfl | rfl | rfl | rfl | rfl <;> first | exact Or.inl ⟨_, _, _, _, _, _, rfl⟩ | exact Or.inr ⟨_, _, _, _, rfl⟩
theorem KW.warm {E : WD} {s U : State} (hW : s.WarmedH U.vm) (h : KW E s) : KW E U := by
  refine ⟨va_K.moved hW.alike h.1, fun w hw => ?_⟩
  have h0 := h.2 w hw
  rcases nest_kind w hw with ⟨a, i, b, n, d, g, rfl⟩ | ⟨a, i, x, g, rfl⟩
  · exact va_Nw.warmF hW h0
  · exact va_Nw.warmM hW h0
theorem KW.same {E : WD} {s U : State} (hW : s.vm = U.vm) (h : KW E s) : KW E U := by
  refine ⟨va_K.moved (by rw [← hW]; exact Vm.Alike.refl _) h.1, fun w hw => ?_⟩
  have h0 := h.2 w hw
  rcases nest_kind w hw with ⟨a, i, b, n, d, g, rfl⟩ | ⟨a, i, x, g, rfl⟩
  · exact va_Nw.same rfl hW h0
  · exact va_Nw.same rfl hW h0
/-! ===== locals by their places ===== -/
def lofL (L : List (Option Value)) : List (Nat × Value) := (List.range L.length).filterMap (fun i => (L.getD i none).map (fun v => (i, v)))
theorem lofL_mem {L : List (Option Value)} {i : Nat} {v : Value} : (i, v) ∈ lofL L ↔ L[i]? = some (some v) := by
  unfold lofL
  rw [List.mem_filterMap]
  constructor
  · rintro ⟨a, ha, h⟩
    have hl := List.mem_range.mp ha
    rw [List.getD_eq_getElem?_getD, List.getElem?_eq_getElem hl] at h
    cases hv : L[a] with
    | none => rw [hv] at h; cases h
    | some w =>
      rw [hv] at h
      cases h
      rw [List.getElem?_eq_getElem hl, hv]
  · intro h
    have hl := (List.getElem?_eq_some_iff.mp h).1
    exact ⟨i, List.mem_range.mpr hl, by rw [List.getD_eq_getElem?_getD, h]; rfl⟩
def lvh (ls : Array Slot) (nL : Nat) (L : List (Option Value)) : Prop := lv_has ls nL (lofL L) ∧ ∀ (i : Nat) (v : Value), L[i]? = some (some v) → v.category = 1
theorem lvh.at {ls : Array Slot} {nL : Nat} {L : List (Option Value)} (h : lvh ls nL L) {i : Nat} {v : Value} (hi : L[i]? = some (some v)) : ls[i]? = some (.val v) := h.1.2.2 (i, v) (lofL_mem.mpr hi)
theorem lvh.set {ls ls' : Array Slot} {nL : Nat} {L : List (Option Value)} {i : Nat} {v : Value} (h : lvh ls nL L) (hv : v.category = 1) (h' : lv_has ls' nL ((i, v) :: (lofL L).filter (fun q => !(q.1 == i) && !(q.1 + 1 == i && q.2.category == 2)))) : lvh ls' nL (L.set i (some v)) := by
  have key : ∀ (j : Nat) (w : Value), (L.set i (some v))[j]? = some (some w) → (j = i ∧ w = v) ∨ (j ≠ i ∧ L[j]? = some (some w)) := by
    intro j w hj
    by_cases hji : j = i
    · subst hji
      left
      have hl : j < (L.set j (some v)).length := (List.getElem?_eq_some_iff.mp hj).1
      rw [List.length_set] at hl
      rw [List.getElem?_set_self hl] at hj
      exact ⟨rfl, (Option.some.inj (Option.some.inj hj)).symm⟩
    · right
      rw [List.getElem?_set_ne (Ne.symm hji)] at hj
      exact ⟨hji, hj⟩
  refine ⟨⟨h'.1, h'.2.1, fun q hq => ?_⟩, fun j w hj => ?_⟩
  · obtain ⟨j, w⟩ := q
    have hj := lofL_mem.mp hq
    rcases key j w hj with ⟨rfl, rfl⟩ | ⟨hne, hj⟩
    · exact h'.2.2 _ List.mem_cons_self
    · refine h'.2.2 _ (List.mem_cons_of_mem _ (List.mem_filter.mpr ⟨lofL_mem.mpr hj, ?_⟩))
      have hc := h.2 j w hj
      simp [hne, hc]
  · rcases key j w hj with ⟨rfl, rfl⟩ | ⟨hne, hj⟩
    · exact hv
    · exact h.2 j w hj
theorem lvh.mono {ls : Array Slot} {nL : Nat} {L L' : List (Option Value)} (h : lvh ls nL L) (hs : ∀ i v, L'[i]? = some (some v) → L[i]? = some (some v)) : lvh ls nL L' :=
  ⟨⟨h.1.1, h.1.2.1, fun q hq => h.1.2.2 q (by
    obtain ⟨i, v⟩ := q
    exact lofL_mem.mpr (hs i v (lofL_mem.mp hq)))⟩, fun i v hi => h.2 i v (hs i v hi)⟩
theorem lv_args1 : ∀ (vs : List Value) (i : Nat), (∀ v ∈ vs, v.category = 1) → ∀ (j : Nat) (v : Value), vs[j]? = some v → (i + j, v) ∈ lv_args i vs
  | [], _, _, j, v, h => by simp at h
  | a :: vs, i, hc, j, v, h => by
    have ha : ¬ a.category = 2 := by rw [hc a List.mem_cons_self]; omega
    unfold lv_args
    cases j with
    | zero =>
      rw [List.getElem?_cons_zero] at h
      cases h
      exact List.mem_cons_self
    | succ j =>
      rw [List.getElem?_cons_succ] at h
      rw [if_neg ha]
      have := lv_args1 vs (i + 1) (fun v hv => hc v (List.mem_cons_of_mem _ hv)) j v h
      rw [show i + (j + 1) = i + 1 + j by omega]
      exact List.mem_cons_of_mem _ this
theorem lg_sl1 : ∀ (vs : List Value), (∀ v ∈ vs, v.category = 1) → (lg_sl vs).length = vs.length
  | [], _ => rfl
  | a :: vs, hc => by
    have ha := hc a List.mem_cons_self
    have ih := lg_sl1 vs (fun v hv => hc v (List.mem_cons_of_mem _ hv))
    unfold lg_sl at ih ⊢
    rw [List.flatMap_cons, List.length_append, ih, List.length_cons]
    cases a <;> simp [Value.category] at ha ⊢ <;> omega
theorem lvh_entry {vs : List Value} {n : Nat} (hc : ∀ v ∈ vs, v.category = 1) (hn : vs.length ≤ n) : lvh ((lg_sl vs ++ List.replicate (n - (lg_sl vs).length) Slot.unset).toArray) n (vs.map some ++ List.replicate (n - vs.length) none) := by
  have h := lv_entry vs (n := n) (by rw [lg_sl1 vs hc]; exact hn)
  have key : ∀ (i : Nat) (v : Value), (vs.map some ++ List.replicate (n - vs.length) none)[i]? = some (some v) → vs[i]? = some v := by
    intro i v hi
    by_cases hl : i < vs.length
    · rw [List.getElem?_append_left (by simpa using hl), List.getElem?_map] at hi
      cases hv : vs[i]? with
      | none => rw [hv] at hi; cases hi
      | some w => rw [hv] at hi; cases hi; rfl
    · rw [List.getElem?_append_right (by simpa using hl)] at hi
      have := List.mem_of_getElem? hi
      rw [List.mem_replicate] at this
      exact absurd this.2 (by simp)
  refine ⟨⟨h.1, h.2.1, fun q hq => ?_⟩, fun i v hi => hc v (List.mem_of_getElem? (key i v hi))⟩
  obtain ⟨i, v⟩ := q
  have := lv_args1 vs 0 hc i v (key i v (lofL_mem.mp hq))
  rw [Nat.zero_add] at this
  exact h.2.2 _ this
def subL : List (Option Value) → List (Option Value) → Prop
  | [], _ => True
  | none :: a, [] => subL a []
  | none :: a, _ :: b => subL a b
  | some v :: a, some w :: b => v = w ∧ subL a b
  | some _ :: _, none :: _ => False
  | some _ :: _, [] => False
theorem subL_ok : ∀ (a b : List (Option Value)), subL a b → ∀ (i : Nat) (v : Value), a[i]? = some (some v) → b[i]? = some (some v)
  | [], _, _, i, v, h => by simp at h
  | none :: a, [], hs, i, v, h => by
    cases i with
    | zero => simp at h
    | succ i =>
      rw [List.getElem?_cons_succ] at h
      have := subL_ok a [] hs i v h
      simp at this
  | none :: a, _ :: b, hs, i, v, h => by
    cases i with
    | zero => simp at h
    | succ i =>
      rw [List.getElem?_cons_succ] at h ⊢
      exact subL_ok a b hs i v h
  | some x :: a, some w :: b, hs, i, v, h => by
    cases i with
    | zero =>
      rw [List.getElem?_cons_zero] at h ⊢
      rw [← hs.1]
      exact h
    | succ i =>
      rw [List.getElem?_cons_succ] at h ⊢
      exact subL_ok a b hs.2 i v h
  | some _ :: _, none :: _, hs, _, _, _ => hs.elim
  | some _ :: _, [], hs, _, _, _ => hs.elim
theorem pn_N {k : Nat} (h : 37 ≤ k ∧ k < 46) : k < NN := Nat.lt_of_lt_of_le h.2 (by decide)
theorem pn_0 {k : Nat} (h : 37 ≤ k ∧ k < 46) : knd k = 0 := by
  unfold knd
  rw [if_neg (by omega), if_neg (by omega), if_pos (by omega)]
theorem pn_f {k : Nat} (h : 37 ≤ k ∧ k < 46) : fdo k = (3, [none, none, none, none, none, none, none, none, none, none, none]) := by
  unfold fdo
  rw [if_neg (by omega), if_neg (by omega), if_neg (by omega), if_neg (by omega), if_neg (by omega), if_neg (by omega), if_neg (by omega), if_neg (by omega), if_neg (by omega), if_neg (by omega)]
theorem pn_c {k : Nat} (h : 37 ≤ k ∧ k < 46) : vwCl[(fdo k).1]? = some (RX3, TX3, 11) := by
  rw [pn_f h]
  rfl
theorem pn_j {k j : Nat} (h : 37 ≤ k ∧ k < 46) (hj : [none, none, none, none, none, none, none, none, none, none, none][j]? = some (none : Option Nat)) : (fdo k).2[j]? = some none := by
  rw [pn_f h]
  exact hj
theorem rw_N {k : Nat} (h : 46 ≤ k ∧ k < 66) : k < NN := Nat.lt_of_lt_of_le h.2 (by decide)
theorem rw_1 {k : Nat} (h : 46 ≤ k ∧ k < 66) : knd k = 1 := by
  unfold knd
  rw [if_neg (by omega), if_neg (by omega), if_neg (by omega), if_pos (by omega)]
theorem rw_n {k : Nat} (h : 46 ≤ k ∧ k < 66) : alen k = 10 := by
  unfold alen
  rw [if_neg (by omega), if_neg (by omega), if_neg (by omega), if_neg (by omega), if_pos (by omega)]
section VQA
variable {p : Program} {l : Launch} {e : Env} {R : Room} {s : State} {m : MethodId} {args : Array Value} {below : List Frame} {meth : Method} {c : Code} {H : Heap} {locs : List Loc} {cells slots : Nat} {Q : State → Prop}
variable {pc : Nat} {ls : Array Slot} {rest : List Value} {D : va_G} {cl : List vw_C} {a : Nat} {tys : List (ClassId × FieldType)} {ws : va_W}
theorem va_aldqA {cc : ByteArray} (hexec : p.tables.exec = Jvm.exec) (hb : c.code = cc) (hK : va_K D cl tys s) (hP : va_P D cl ws H) (q0 t0 : Nat) {cA : ClassId} {ty : FieldType} {n : Nat} {f : Nat → Option Nat} (ha : ws[q0]? = some (a, .inl (cA, n, .inr (.inr (.inr (.inr f)))))) (ht : tys[t0]? = some (cA, .array ty)) {i : Int32} (hin : vp_in i n) (hdg : decode cc pc = .ok (.aaload, 1))
    (kk : W p l e R s m args below meth c H locs cells slots Q (F0 m (pc + 1) ls (va_rf (f i.toNatClampNeg) :: rest))) : W p l e R s m args below meth c H locs cells slots Q (F0 m pc ls (.int i :: .ref a :: rest)) := by
  have hlt : i.toNatClampNeg < n := Nat.not_le.mp fun q => hin (Or.inr q)
  exact W.aald (v := va_rf (f i.toNatClampNeg)) (ty := .array ty) hexec hb (hP q0 _ ha) ((hK.2 t0 _ ht).1 n (fun j => va_rf (f j))) rfl (fun q => by cases q) (by show ¬ (i < 0 ∨ (arrV _ _ _).slots.size ≤ _); rw [arrV_size]; exact hin) (by show (arrV _ _ _).slots[_]? = _; rw [arrV_read _ _ hlt]) rfl rfl hdg kk
end VQA
end
section
/-- the machine at pc with the memory σ, locals L, operands st, comes to Q -/
def V (p : Program) (l : Launch) (e : Env) (R : Room) (s : State) (m : MethodId) (args : Array Value) (below : List Frame) (meth : Method) (c : Code) (E : WD) (A : Nat → Prop) (nL kc ks : Nat) (Q : State → Prop) (σ : MS) (pc : Nat) (L : List (Option Value)) (st : List Value) : Prop :=
  ∀ (H : Heap) (locs : List Loc) (ls : Array Slot), va_P E.1 vwCl (wl E σ) H → va_S A s.heap H locs → lvh ls nL L → W p l e R s m args below meth c H locs kc ks Q (F0 m pc ls st)
/-- what is fixed through a method's walk -/
def Cx (p : Program) (R : Room) (s : State) (m : MethodId) (args : Array Value) (meth : Method) (c : Code) (E : WD) (A : Nat → Prop) (cc : ByteArray) (own : String) (ret : Option FieldType) (nL kc ks : Nat) : Prop :=
  p.tables.exec = Jvm.exec ∧ c.code = cc ∧ c.maxLocals = nL ∧ s.vm.findClass own = some m.cls ∧ (∀ w ∈ gtbl, w.before args s = true) ∧ KW E s ∧ inj E ∧ (∀ k, k < NN → A (E.2.1 k)) ∧ meth.sig.returnType = ret ∧ meth.locks = false ∧ kc ≤ R.cells ∧ ks ≤ R.slots
section VV
variable {p : Program} {l : Launch} {e : Env} {R : Room} {s : State} {m : MethodId} {args : Array Value} {below : List Frame} {meth : Method} {c : Code} {E : WD} {A : Nat → Prop} {nL kc ks : Nat} {Q : State → Prop}
variable {cc : ByteArray} {own : String} {ret : Option FieldType} {σ : MS} {pc : Nat} {L : List (Option Value)} {st : List Value}
theorem vIconst (hc : Cx p R s m args meth c E A cc own ret nL kc ks) {n : Int} {v : Int32} (hd : decode cc pc = .ok (.iconst n, 1)) (hv : Int32.ofInt n = v)
    (k : V p l e R s m args below meth c E A nL kc ks Q σ (pc + 1) L (.int v :: st)) : V p l e R s m args below meth c E A nL kc ks Q σ pc L st := fun H locs ls hP hS hl => lv_iconst hc.1 hc.2.1 hd hv (k H locs ls hP hS hl)
theorem vBipush (hc : Cx p R s m args meth c E A cc own ret nL kc ks) {n : Int} {v : Int32} (hd : decode cc pc = .ok (.bipush n, 2)) (hv : (Int8.ofInt n).toInt32 = v)
    (k : V p l e R s m args below meth c E A nL kc ks Q σ (pc + 2) L (.int v :: st)) : V p l e R s m args below meth c E A nL kc ks Q σ pc L st := fun H locs ls hP hS hl => lv_bipush hc.1 hc.2.1 hd hv (k H locs ls hP hS hl)
theorem vSipush (hc : Cx p R s m args meth c E A cc own ret nL kc ks) {n : Int} {v : Int32} (hd : decode cc pc = .ok (.sipush n, 3)) (hv : (Int16.ofInt n).toInt32 = v)
    (k : V p l e R s m args below meth c E A nL kc ks Q σ (pc + 3) L (.int v :: st)) : V p l e R s m args below meth c E A nL kc ks Q σ pc L st := fun H locs ls hP hS hl => lv_sipush hc.1 hc.2.1 hd hv (k H locs ls hP hS hl)
theorem vLdc (hc : Cx p R s m args meth c E A cc own ret nL kc ks) {i : Nat} {v : Int32} (hw : Cond.constant own i v ∈ gtbl) (hd : decode cc pc = .ok (.ldc i, 2))
    (k : V p l e R s m args below meth c E A nL kc ks Q σ (pc + 2) L (.int v :: st)) : V p l e R s m args below meth c E A nL kc ks Q σ pc L st := fun H locs ls hP hS hl => lv_ldc hc.1 hc.2.1 hc.2.2.2.1 (hc.2.2.2.2.1 _ hw) hd (k H locs ls hP hS hl)
theorem vLdcw (hc : Cx p R s m args meth c E A cc own ret nL kc ks) {i : Nat} {v : Int32} (hw : Cond.constant own i v ∈ gtbl) (hd : decode cc pc = .ok (.ldc_w i, 3))
    (k : V p l e R s m args below meth c E A nL kc ks Q σ (pc + 3) L (.int v :: st)) : V p l e R s m args below meth c E A nL kc ks Q σ pc L st := fun H locs ls hP hS hl => lv_ldcw hc.1 hc.2.1 hc.2.2.2.1 (hc.2.2.2.2.1 _ hw) hd (k H locs ls hP hS hl)
theorem vIload_n (hc : Cx p R s m args meth c E A cc own ret nL kc ks) {j : Fin 4} {x : Int32} (hd : decode cc pc = .ok (.iload_n j, 1)) (hL : L[(j : Nat)]? = some (some (.int x)))
    (k : V p l e R s m args below meth c E A nL kc ks Q σ (pc + 1) L (.int x :: st)) : V p l e R s m args below meth c E A nL kc ks Q σ pc L st := fun H locs ls hP hS hl => lv_iload_n hc.1 hc.2.1 hd rfl (hl.at hL) (k H locs ls hP hS hl)
theorem vIload (hc : Cx p R s m args meth c E A cc own ret nL kc ks) {j : Nat} {x : Int32} (hd : decode cc pc = .ok (.iload j, 2)) (hL : L[j]? = some (some (.int x)))
    (k : V p l e R s m args below meth c E A nL kc ks Q σ (pc + 2) L (.int x :: st)) : V p l e R s m args below meth c E A nL kc ks Q σ pc L st := fun H locs ls hP hS hl => lv_iload hc.1 hc.2.1 hd (hl.at hL) (k H locs ls hP hS hl)
theorem vAload_n (hc : Cx p R s m args meth c E A cc own ret nL kc ks) {j : Fin 4} {x : Nat} (hd : decode cc pc = .ok (.aload_n j, 1)) (hL : L[(j : Nat)]? = some (some (.ref x)))
    (k : V p l e R s m args below meth c E A nL kc ks Q σ (pc + 1) L (.ref x :: st)) : V p l e R s m args below meth c E A nL kc ks Q σ pc L st := fun H locs ls hP hS hl => lv_aload_n hc.1 hc.2.1 hd rfl (hl.at hL) (k H locs ls hP hS hl)
theorem vAload (hc : Cx p R s m args meth c E A cc own ret nL kc ks) {j : Nat} {x : Nat} (hd : decode cc pc = .ok (.aload j, 2)) (hL : L[j]? = some (some (.ref x)))
    (k : V p l e R s m args below meth c E A nL kc ks Q σ (pc + 2) L (.ref x :: st)) : V p l e R s m args below meth c E A nL kc ks Q σ pc L st := fun H locs ls hP hS hl => lv_aload hc.1 hc.2.1 hd (hl.at hL) (k H locs ls hP hS hl)
theorem vIstore_n (hc : Cx p R s m args meth c E A cc own ret nL kc ks) {j : Fin 4} {x : Int32} {L2 : List (Option Value)} (hd : decode cc pc = .ok (.istore_n j, 1)) (hL2 : L.set (j : Nat) (some (.int x)) = L2) (hn : (j : Nat) < nL)
    (k : V p l e R s m args below meth c E A nL kc ks Q σ (pc + 1) L2 st) : V p l e R s m args below meth c E A nL kc ks Q σ pc L (.int x :: st) := fun H locs ls hP hS hl => lv_istore_n hc.1 hc.2.1 hd rfl hl.1 hn rfl (fun ls2 h2 => k H locs ls2 hP hS (hL2 ▸ hl.set rfl h2))
theorem vIstore (hc : Cx p R s m args meth c E A cc own ret nL kc ks) {j : Nat} {x : Int32} {L2 : List (Option Value)} (hd : decode cc pc = .ok (.istore j, 2)) (hL2 : L.set j (some (.int x)) = L2) (hn : j < nL)
    (k : V p l e R s m args below meth c E A nL kc ks Q σ (pc + 2) L2 st) : V p l e R s m args below meth c E A nL kc ks Q σ pc L (.int x :: st) := fun H locs ls hP hS hl => lv_istore hc.1 hc.2.1 hd hl.1 hn rfl (fun ls2 h2 => k H locs ls2 hP hS (hL2 ▸ hl.set rfl h2))
theorem vAstore_n (hc : Cx p R s m args meth c E A cc own ret nL kc ks) {j : Fin 4} {x : Nat} {L2 : List (Option Value)} (hd : decode cc pc = .ok (.astore_n j, 1)) (hL2 : L.set (j : Nat) (some (.ref x)) = L2) (hn : (j : Nat) < nL)
    (k : V p l e R s m args below meth c E A nL kc ks Q σ (pc + 1) L2 st) : V p l e R s m args below meth c E A nL kc ks Q σ pc L (.ref x :: st) := fun H locs ls hP hS hl => lv_astore_n hc.1 hc.2.1 hd rfl hl.1 hn rfl (fun ls2 h2 => k H locs ls2 hP hS (hL2 ▸ hl.set rfl h2))
theorem vAstore (hc : Cx p R s m args meth c E A cc own ret nL kc ks) {j : Nat} {x : Nat} {L2 : List (Option Value)} (hd : decode cc pc = .ok (.astore j, 2)) (hL2 : L.set j (some (.ref x)) = L2) (hn : j < nL)
    (k : V p l e R s m args below meth c E A nL kc ks Q σ (pc + 2) L2 st) : V p l e R s m args below meth c E A nL kc ks Q σ pc L (.ref x :: st) := fun H locs ls hP hS hl => lv_astore hc.1 hc.2.1 hd hl.1 hn rfl (fun ls2 h2 => k H locs ls2 hP hS (hL2 ▸ hl.set rfl h2))
theorem lofL_at {L : List (Option Value)} {i : Nat} {v : Value} (h : L[i]? = some (some v)) : ∃ k, (lofL L)[k]? = some (i, v) := List.getElem?_of_mem (lofL_mem.mpr h)
theorem vIinc (hc : Cx p R s m args meth c E A cc own ret nL kc ks) {j : Nat} {n : Int} {x v : Int32} {L2 : List (Option Value)} (hd : decode cc pc = .ok (.iinc j n, 3)) (hL : L[j]? = some (some (.int x))) (hv : x + Int32.ofInt n = v) (hL2 : L.set j (some (.int v)) = L2) (hn : j < nL)
    (k : V p l e R s m args below meth c E A nL kc ks Q σ (pc + 3) L2 st) : V p l e R s m args below meth c E A nL kc ks Q σ pc L st := fun H locs ls hP hS hl => by
  obtain ⟨i, hi⟩ := lofL_at hL
  exact lv_iinc hc.1 hc.2.1 hd hl.1 hi hv hn rfl (fun ls2 h2 => k H locs ls2 hP hS (hL2 ▸ hl.set rfl h2))
theorem vIadd (hc : Cx p R s m args meth c E A cc own ret nL kc ks) {x y : Int32} (hd : decode cc pc = .ok (.iadd, 1))
    (k : V p l e R s m args below meth c E A nL kc ks Q σ (pc + 1) L (.int (x + y) :: st)) : V p l e R s m args below meth c E A nL kc ks Q σ pc L (.int y :: .int x :: st) := fun H locs ls hP hS hl => lv_iadd hc.1 hc.2.1 hd (k H locs ls hP hS hl)
theorem vIsub (hc : Cx p R s m args meth c E A cc own ret nL kc ks) {x y : Int32} (hd : decode cc pc = .ok (.isub, 1))
    (k : V p l e R s m args below meth c E A nL kc ks Q σ (pc + 1) L (.int (x - y) :: st)) : V p l e R s m args below meth c E A nL kc ks Q σ pc L (.int y :: .int x :: st) := fun H locs ls hP hS hl => lv_isub hc.1 hc.2.1 hd (k H locs ls hP hS hl)
theorem vImul (hc : Cx p R s m args meth c E A cc own ret nL kc ks) {x y : Int32} (hd : decode cc pc = .ok (.imul, 1))
    (k : V p l e R s m args below meth c E A nL kc ks Q σ (pc + 1) L (.int (x * y) :: st)) : V p l e R s m args below meth c E A nL kc ks Q σ pc L (.int y :: .int x :: st) := fun H locs ls hP hS hl => lv_imul hc.1 hc.2.1 hd (k H locs ls hP hS hl)
theorem vIand (hc : Cx p R s m args meth c E A cc own ret nL kc ks) {x y : Int32} (hd : decode cc pc = .ok (.iand, 1))
    (k : V p l e R s m args below meth c E A nL kc ks Q σ (pc + 1) L (.int (x &&& y) :: st)) : V p l e R s m args below meth c E A nL kc ks Q σ pc L (.int y :: .int x :: st) := fun H locs ls hP hS hl => lv_iand hc.1 hc.2.1 hd (k H locs ls hP hS hl)
theorem vIor (hc : Cx p R s m args meth c E A cc own ret nL kc ks) {x y : Int32} (hd : decode cc pc = .ok (.ior, 1))
    (k : V p l e R s m args below meth c E A nL kc ks Q σ (pc + 1) L (.int (x ||| y) :: st)) : V p l e R s m args below meth c E A nL kc ks Q σ pc L (.int y :: .int x :: st) := fun H locs ls hP hS hl => lv_ior hc.1 hc.2.1 hd (k H locs ls hP hS hl)
theorem vIxor (hc : Cx p R s m args meth c E A cc own ret nL kc ks) {x y : Int32} (hd : decode cc pc = .ok (.ixor, 1))
    (k : V p l e R s m args below meth c E A nL kc ks Q σ (pc + 1) L (.int (x ^^^ y) :: st)) : V p l e R s m args below meth c E A nL kc ks Q σ pc L (.int y :: .int x :: st) := fun H locs ls hP hS hl => lv_ixor hc.1 hc.2.1 hd (k H locs ls hP hS hl)
theorem vIshl (hc : Cx p R s m args meth c E A cc own ret nL kc ks) {x y : Int32} (hd : decode cc pc = .ok (.ishl, 1))
    (k : V p l e R s m args below meth c E A nL kc ks Q σ (pc + 1) L (.int (x <<< (y &&& 31)) :: st)) : V p l e R s m args below meth c E A nL kc ks Q σ pc L (.int y :: .int x :: st) := fun H locs ls hP hS hl => lv_ishl hc.1 hc.2.1 hd (k H locs ls hP hS hl)
theorem vIshr (hc : Cx p R s m args meth c E A cc own ret nL kc ks) {x y : Int32} (hd : decode cc pc = .ok (.ishr, 1))
    (k : V p l e R s m args below meth c E A nL kc ks Q σ (pc + 1) L (.int (x >>> (y &&& 31)) :: st)) : V p l e R s m args below meth c E A nL kc ks Q σ pc L (.int y :: .int x :: st) := fun H locs ls hP hS hl => lv_ishr hc.1 hc.2.1 hd (k H locs ls hP hS hl)
theorem vIushr (hc : Cx p R s m args meth c E A cc own ret nL kc ks) {x y : Int32} (hd : decode cc pc = .ok (.iushr, 1))
    (k : V p l e R s m args below meth c E A nL kc ks Q σ (pc + 1) L (.int ((x.toUInt32 >>> (y.toUInt32 &&& Int32.toUInt32 31)).toInt32) :: st)) : V p l e R s m args below meth c E A nL kc ks Q σ pc L (.int y :: .int x :: st) := fun H locs ls hP hS hl => lv_iushr hc.1 hc.2.1 hd rfl (k H locs ls hP hS hl)
theorem vIneg (hc : Cx p R s m args meth c E A cc own ret nL kc ks) {x : Int32} (hd : decode cc pc = .ok (.ineg, 1))
    (k : V p l e R s m args below meth c E A nL kc ks Q σ (pc + 1) L (.int (-x) :: st)) : V p l e R s m args below meth c E A nL kc ks Q σ pc L (.int x :: st) := fun H locs ls hP hS hl => lv_ineg hc.1 hc.2.1 hd (k H locs ls hP hS hl)
theorem vDup (hc : Cx p R s m args meth c E A cc own ret nL kc ks) {x : Value} (hd : decode cc pc = .ok (.dup, 1)) (h1 : x.category = 1)
    (k : V p l e R s m args below meth c E A nL kc ks Q σ (pc + 1) L (x :: x :: st)) : V p l e R s m args below meth c E A nL kc ks Q σ pc L (x :: st) := fun H locs ls hP hS hl => lv_dup hc.1 hc.2.1 hd h1 (k H locs ls hP hS hl)
theorem vDup2 (hc : Cx p R s m args meth c E A cc own ret nL kc ks) {x y : Value} (hd : decode cc pc = .ok (.dup2, 1)) (h1 : x.category = 1) (h2 : y.category = 1)
    (k : V p l e R s m args below meth c E A nL kc ks Q σ (pc + 1) L (x :: y :: x :: y :: st)) : V p l e R s m args below meth c E A nL kc ks Q σ pc L (x :: y :: st) := fun H locs ls hP hS hl => lv_dup2_11 hc.1 hc.2.1 hd h1 h2 (k H locs ls hP hS hl)
theorem vPop (hc : Cx p R s m args meth c E A cc own ret nL kc ks) {x : Value} (hd : decode cc pc = .ok (.pop, 1)) (h1 : x.category = 1)
    (k : V p l e R s m args below meth c E A nL kc ks Q σ (pc + 1) L st) : V p l e R s m args below meth c E A nL kc ks Q σ pc L (x :: st) := fun H locs ls hP hS hl => lv_pop hc.1 hc.2.1 hd h1 (k H locs ls hP hS hl)
theorem vIf_eq (hc : Cx p R s m args meth c E A cc own ret nL kc ks) {x : Int32} {off : Int} {tgt : Nat} (hd : decode cc pc = .ok (.ifCond .eq off, 3)) (ht : (pc : Int) + off = (tgt : Int))
    (kt : x = 0 → V p l e R s m args below meth c E A nL kc ks Q σ tgt L st) (kf : ¬ x = 0 → V p l e R s m args below meth c E A nL kc ks Q σ (pc + 3) L st) : V p l e R s m args below meth c E A nL kc ks Q σ pc L (.int x :: st) := fun H locs ls hP hS hl => lv_if_eq hc.1 hc.2.1 hd ht (fun h => kt h H locs ls hP hS hl) (fun h => kf h H locs ls hP hS hl)
theorem vIcmp_eq (hc : Cx p R s m args meth c E A cc own ret nL kc ks) {x y : Int32} {off : Int} {tgt : Nat} (hd : decode cc pc = .ok (.if_icmp .eq off, 3)) (ht : (pc : Int) + off = (tgt : Int))
    (kt : x = y → V p l e R s m args below meth c E A nL kc ks Q σ tgt L st) (kf : ¬ x = y → V p l e R s m args below meth c E A nL kc ks Q σ (pc + 3) L st) : V p l e R s m args below meth c E A nL kc ks Q σ pc L (.int y :: .int x :: st) := fun H locs ls hP hS hl => lv_icmp_eq hc.1 hc.2.1 hd ht (fun h => kt h H locs ls hP hS hl) (fun h => kf h H locs ls hP hS hl)
theorem vIf_ne (hc : Cx p R s m args meth c E A cc own ret nL kc ks) {x : Int32} {off : Int} {tgt : Nat} (hd : decode cc pc = .ok (.ifCond .ne off, 3)) (ht : (pc : Int) + off = (tgt : Int))
    (kt : ¬ x = 0 → V p l e R s m args below meth c E A nL kc ks Q σ tgt L st) (kf : x = 0 → V p l e R s m args below meth c E A nL kc ks Q σ (pc + 3) L st) : V p l e R s m args below meth c E A nL kc ks Q σ pc L (.int x :: st) := fun H locs ls hP hS hl => lv_if_ne hc.1 hc.2.1 hd ht (fun h => kt h H locs ls hP hS hl) (fun h => kf h H locs ls hP hS hl)
theorem vIcmp_ne (hc : Cx p R s m args meth c E A cc own ret nL kc ks) {x y : Int32} {off : Int} {tgt : Nat} (hd : decode cc pc = .ok (.if_icmp .ne off, 3)) (ht : (pc : Int) + off = (tgt : Int))
    (kt : ¬ x = y → V p l e R s m args below meth c E A nL kc ks Q σ tgt L st) (kf : x = y → V p l e R s m args below meth c E A nL kc ks Q σ (pc + 3) L st) : V p l e R s m args below meth c E A nL kc ks Q σ pc L (.int y :: .int x :: st) := fun H locs ls hP hS hl => lv_icmp_ne hc.1 hc.2.1 hd ht (fun h => kt h H locs ls hP hS hl) (fun h => kf h H locs ls hP hS hl)
theorem vIf_lt (hc : Cx p R s m args meth c E A cc own ret nL kc ks) {x : Int32} {off : Int} {tgt : Nat} (hd : decode cc pc = .ok (.ifCond .lt off, 3)) (ht : (pc : Int) + off = (tgt : Int))
    (kt : x < 0 → V p l e R s m args below meth c E A nL kc ks Q σ tgt L st) (kf : ¬ x < 0 → V p l e R s m args below meth c E A nL kc ks Q σ (pc + 3) L st) : V p l e R s m args below meth c E A nL kc ks Q σ pc L (.int x :: st) := fun H locs ls hP hS hl => lv_if_lt hc.1 hc.2.1 hd ht (fun h => kt h H locs ls hP hS hl) (fun h => kf h H locs ls hP hS hl)
theorem vIcmp_lt (hc : Cx p R s m args meth c E A cc own ret nL kc ks) {x y : Int32} {off : Int} {tgt : Nat} (hd : decode cc pc = .ok (.if_icmp .lt off, 3)) (ht : (pc : Int) + off = (tgt : Int))
    (kt : x < y → V p l e R s m args below meth c E A nL kc ks Q σ tgt L st) (kf : ¬ x < y → V p l e R s m args below meth c E A nL kc ks Q σ (pc + 3) L st) : V p l e R s m args below meth c E A nL kc ks Q σ pc L (.int y :: .int x :: st) := fun H locs ls hP hS hl => lv_icmp_lt hc.1 hc.2.1 hd ht (fun h => kt h H locs ls hP hS hl) (fun h => kf h H locs ls hP hS hl)
theorem vIf_ge (hc : Cx p R s m args meth c E A cc own ret nL kc ks) {x : Int32} {off : Int} {tgt : Nat} (hd : decode cc pc = .ok (.ifCond .ge off, 3)) (ht : (pc : Int) + off = (tgt : Int))
    (kt : 0 ≤ x → V p l e R s m args below meth c E A nL kc ks Q σ tgt L st) (kf : ¬ 0 ≤ x → V p l e R s m args below meth c E A nL kc ks Q σ (pc + 3) L st) : V p l e R s m args below meth c E A nL kc ks Q σ pc L (.int x :: st) := fun H locs ls hP hS hl => lv_if_ge hc.1 hc.2.1 hd ht (fun h => kt h H locs ls hP hS hl) (fun h => kf h H locs ls hP hS hl)
theorem vIcmp_ge (hc : Cx p R s m args meth c E A cc own ret nL kc ks) {x y : Int32} {off : Int} {tgt : Nat} (hd : decode cc pc = .ok (.if_icmp .ge off, 3)) (ht : (pc : Int) + off = (tgt : Int))
    (kt : y ≤ x → V p l e R s m args below meth c E A nL kc ks Q σ tgt L st) (kf : ¬ y ≤ x → V p l e R s m args below meth c E A nL kc ks Q σ (pc + 3) L st) : V p l e R s m args below meth c E A nL kc ks Q σ pc L (.int y :: .int x :: st) := fun H locs ls hP hS hl => lv_icmp_ge hc.1 hc.2.1 hd ht (fun h => kt h H locs ls hP hS hl) (fun h => kf h H locs ls hP hS hl)
theorem vIf_gt (hc : Cx p R s m args meth c E A cc own ret nL kc ks) {x : Int32} {off : Int} {tgt : Nat} (hd : decode cc pc = .ok (.ifCond .gt off, 3)) (ht : (pc : Int) + off = (tgt : Int))
    (kt : 0 < x → V p l e R s m args below meth c E A nL kc ks Q σ tgt L st) (kf : ¬ 0 < x → V p l e R s m args below meth c E A nL kc ks Q σ (pc + 3) L st) : V p l e R s m args below meth c E A nL kc ks Q σ pc L (.int x :: st) := fun H locs ls hP hS hl => lv_if_gt hc.1 hc.2.1 hd ht (fun h => kt h H locs ls hP hS hl) (fun h => kf h H locs ls hP hS hl)
theorem vIcmp_gt (hc : Cx p R s m args meth c E A cc own ret nL kc ks) {x y : Int32} {off : Int} {tgt : Nat} (hd : decode cc pc = .ok (.if_icmp .gt off, 3)) (ht : (pc : Int) + off = (tgt : Int))
    (kt : y < x → V p l e R s m args below meth c E A nL kc ks Q σ tgt L st) (kf : ¬ y < x → V p l e R s m args below meth c E A nL kc ks Q σ (pc + 3) L st) : V p l e R s m args below meth c E A nL kc ks Q σ pc L (.int y :: .int x :: st) := fun H locs ls hP hS hl => lv_icmp_gt hc.1 hc.2.1 hd ht (fun h => kt h H locs ls hP hS hl) (fun h => kf h H locs ls hP hS hl)
theorem vIf_le (hc : Cx p R s m args meth c E A cc own ret nL kc ks) {x : Int32} {off : Int} {tgt : Nat} (hd : decode cc pc = .ok (.ifCond .le off, 3)) (ht : (pc : Int) + off = (tgt : Int))
    (kt : x ≤ 0 → V p l e R s m args below meth c E A nL kc ks Q σ tgt L st) (kf : ¬ x ≤ 0 → V p l e R s m args below meth c E A nL kc ks Q σ (pc + 3) L st) : V p l e R s m args below meth c E A nL kc ks Q σ pc L (.int x :: st) := fun H locs ls hP hS hl => lv_if_le hc.1 hc.2.1 hd ht (fun h => kt h H locs ls hP hS hl) (fun h => kf h H locs ls hP hS hl)
theorem vIcmp_le (hc : Cx p R s m args meth c E A cc own ret nL kc ks) {x y : Int32} {off : Int} {tgt : Nat} (hd : decode cc pc = .ok (.if_icmp .le off, 3)) (ht : (pc : Int) + off = (tgt : Int))
    (kt : x ≤ y → V p l e R s m args below meth c E A nL kc ks Q σ tgt L st) (kf : ¬ x ≤ y → V p l e R s m args below meth c E A nL kc ks Q σ (pc + 3) L st) : V p l e R s m args below meth c E A nL kc ks Q σ pc L (.int y :: .int x :: st) := fun H locs ls hP hS hl => lv_icmp_le hc.1 hc.2.1 hd ht (fun h => kt h H locs ls hP hS hl) (fun h => kf h H locs ls hP hS hl)
theorem vGoto (hc : Cx p R s m args meth c E A cc own ret nL kc ks) {off : Int} {tgt : Nat} (hd : decode cc pc = .ok (.goto off, 3)) (ht : (pc : Int) + off = (tgt : Int))
    (k : V p l e R s m args below meth c E A nL kc ks Q σ tgt L st) : V p l e R s m args below meth c E A nL kc ks Q σ pc L st := fun H locs ls hP hS hl => lv_goto hc.1 hc.2.1 hd ht (k H locs ls hP hS hl)
theorem vTabIn (hc : Cx p R s m args meth c E A cc own ret nL kc ks) {dflt lo hi : Int} {offs : Array Int} {len : Nat} {x : Int32} {off : Int} {tgt : Nat} (hd : decode cc pc = .ok (.tableswitch dflt lo hi offs, len)) (h1 : ¬ x.toInt < lo) (h2 : ¬ hi < x.toInt) (ho : offs[(x.toInt - lo).toNat]? = some off) (ht : (pc : Int) + off = (tgt : Int))
    (k : V p l e R s m args below meth c E A nL kc ks Q σ tgt L st) : V p l e R s m args below meth c E A nL kc ks Q σ pc L (.int x :: st) := fun H locs ls hP hS hl => lv_tableIn hc.1 hc.2.1 hd h1 h2 ho ht (k H locs ls hP hS hl)
theorem vTabOut (hc : Cx p R s m args meth c E A cc own ret nL kc ks) {dflt lo hi : Int} {offs : Array Int} {len : Nat} {x : Int32} {tgt : Nat} (hd : decode cc pc = .ok (.tableswitch dflt lo hi offs, len)) (h : x.toInt < lo ∨ hi < x.toInt) (ht : (pc : Int) + dflt = (tgt : Int))
    (k : V p l e R s m args below meth c E A nL kc ks Q σ tgt L st) : V p l e R s m args below meth c E A nL kc ks Q σ pc L (.int x :: st) := fun H locs ls hP hS hl => lv_tableOut hc.1 hc.2.1 hd h ht (k H locs ls hP hS hl)
theorem vTop  {x y : Int32} (h : y = x) (k : V p l e R s m args below meth c E A nL kc ks Q σ pc L (.int y :: st)) : V p l e R s m args below meth c E A nL kc ks Q σ pc L (.int x :: st) := h ▸ k
theorem vMono {L2 : List (Option Value)} (hs : subL L2 L) (k : V p l e R s m args below meth c E A nL kc ks Q σ pc L2 st) : V p l e R s m args below meth c E A nL kc ks Q σ pc L st := fun H locs ls hP hS hl => k H locs ls hP hS (hl.mono (subL_ok _ _ hs))
theorem fld_get {E : WD} {σ : MS} {k j : Nat} {o : Option Nat} (h : (fdo k).2[j]? = some o) : ((fdo k).2.mapIdx (fva E σ k))[j]? = some (fva E σ k j o) := by
  rw [List.getElem?_mapIdx, h]
  rfl
theorem fld_set {E : WD} {σ : MS} {k j : Nat} {v : Int32} (h : (fdo k).2[j]? = some none) : ((fdo k).2.mapIdx (fva E σ k)).set j (.int v) = (fdo k).2.mapIdx (fva E (mst σ k j v) k) := by
  apply List.ext_getElem?
  intro i
  by_cases hi : i = j
  · subst hi
    have hl := (List.getElem?_eq_some_iff.mp h).1
    rw [List.getElem?_set_self (by simpa using hl), fld_get h]
    simp [fva, mst]
  · rw [List.getElem?_set_ne (Ne.symm hi), List.getElem?_mapIdx, List.getElem?_mapIdx]
    cases ho : (fdo k).2[i]? with
    | none => rfl
    | some o => cases o <;> simp [fva, mst, hi]
theorem cel_put {E : WD} {σ : MS} {k j : Nat} {v : Int32} (hk : k < NN) (h0 : knd k = 0) (h : (fdo k).2[j]? = some none) : (wl E σ).set k (E.2.1 k, .inr ((fdo k).1, ((fdo k).2.mapIdx (fva E σ k)).set j (.int v))) = wl E (mst σ k j v) :=
  wl_set hk (by rw [cel_0 h0, fld_set h]) (fun i hi => mst_k hi)
theorem cel_st1 {E : WD} {σ : MS} {k j : Nat} {v : Int32} (hk : k < NN) (h0 : knd k = 1) : (wl E σ).set k (E.2.1 k, .inl (E.2.2 0, alen k, .inl (upd (σ k) j v))) = wl E (mst σ k j v) :=
  wl_set hk (by rw [cel_1 h0, mst_upd]) (fun i hi => mst_k hi)
theorem cel_st2 {E : WD} {σ : MS} {k j : Nat} {v : Int32} (hk : k < NN) (h0 : knd k = 2) : (wl E σ).set k (E.2.1 k, .inl (E.2.2 1, alen k, .inl (upd (σ k) j v))) = wl E (mst σ k j v) :=
  wl_set hk (by rw [cel_2 h0, mst_upd]) (fun i hi => mst_k hi)
theorem vGetI (hc : Cx p R s m args meth c E A cc own ret nL kc ks) {k : Nat} {C : String} {T : u_T} {N : Nat} (hcl : vwCl[(fdo k).1]? = some (C, T, N)) (hin : ∀ w ∈ u_ws C T N, w ∈ gtbl) (hk : k < NN) (h0 : knd k = 0) {j : Nat} (hj : j < N) {index : Nat} (hlk : Cond.fieldLink own index (T j).1 (T j).2.1 (T j).2.2.1 ∈ gtbl) (hf : (fdo k).2[j]? = some none) (hd : decode cc pc = .ok (.getfield index, 3))
    (kk : V p l e R s m args below meth c E A nL kc ks Q σ (pc + 3) L (.int (σ k j) :: st)) : V p l e R s m args below meth c E A nL kc ks Q σ pc L (.ref (E.2.1 k) :: st) := fun H locs ls hP hS hl => va_get (D := E.1) (v := .int (σ k j)) hc.1 hc.2.1 hc.2.2.2.2.1 hin hc.2.2.2.1 hc.2.2.2.2.2.1.1 hP k (fs := (fdo k).2.mapIdx (fva E σ k)) (by rw [wl_get hk, cel_0 h0]) hcl j hj (hc.2.2.2.2.1 _ hlk) (fun _ h9 => h9) (fld_get hf) hd (kk H locs ls hP hS hl)
theorem vGetR (hc : Cx p R s m args meth c E A cc own ret nL kc ks) {k : Nat} {C : String} {T : u_T} {N : Nat} (hcl : vwCl[(fdo k).1]? = some (C, T, N)) (hin : ∀ w ∈ u_ws C T N, w ∈ gtbl) (hk : k < NN) (h0 : knd k = 0) {j : Nat} (hj : j < N) {index : Nat} (hlk : Cond.fieldLink own index (T j).1 (T j).2.1 (T j).2.2.1 ∈ gtbl) {r : Nat} (hf : (fdo k).2[j]? = some (some r)) (hd : decode cc pc = .ok (.getfield index, 3))
    (kk : V p l e R s m args below meth c E A nL kc ks Q σ (pc + 3) L (.ref (E.2.1 r) :: st)) : V p l e R s m args below meth c E A nL kc ks Q σ pc L (.ref (E.2.1 k) :: st) := fun H locs ls hP hS hl => va_get (D := E.1) (v := .ref (E.2.1 r)) hc.1 hc.2.1 hc.2.2.2.2.1 hin hc.2.2.2.1 hc.2.2.2.2.2.1.1 hP k (fs := (fdo k).2.mapIdx (fva E σ k)) (by rw [wl_get hk, cel_0 h0]) hcl j hj (hc.2.2.2.2.1 _ hlk) (fun _ h9 => h9) (fld_get hf) hd (kk H locs ls hP hS hl)
theorem vGetIN (hc : Cx p R s m args meth c E A cc own ret nL kc ks) {k : Nat} {C : String} {T : u_T} {N : Nat} (hcl : vwCl[(fdo k).1]? = some (C, T, N)) (hin : ∀ w ∈ u_ws C T N, w ∈ gtbl) (hk : k < NN) (h0 : knd k = 0) {j : Nat} (hj : j < N) {index : Nat} {host : String} (hlk : Cond.fieldLinkNest own index (T j).1 (T j).2.1 (T j).2.2.1 host ∈ nestWs) (hf : (fdo k).2[j]? = some none) (hd : decode cc pc = .ok (.getfield index, 3))
    (kk : V p l e R s m args below meth c E A nL kc ks Q σ (pc + 3) L (.int (σ k j) :: st)) : V p l e R s m args below meth c E A nL kc ks Q σ pc L (.ref (E.2.1 k) :: st) := fun H locs ls hP hS hl => va_getN (D := E.1) (v := .int (σ k j)) hc.1 hc.2.1 hc.2.2.2.2.1 hin hc.2.2.2.1 hc.2.2.2.2.2.1.1 hP k (fs := (fdo k).2.mapIdx (fva E σ k)) (by rw [wl_get hk, cel_0 h0]) hcl j hj (va_Nw.use rfl (hc.2.2.2.2.2.1.2 _ hlk)) (fun _ h9 => h9) (fld_get hf) hd (kk H locs ls hP hS hl)
theorem vGetRN (hc : Cx p R s m args meth c E A cc own ret nL kc ks) {k : Nat} {C : String} {T : u_T} {N : Nat} (hcl : vwCl[(fdo k).1]? = some (C, T, N)) (hin : ∀ w ∈ u_ws C T N, w ∈ gtbl) (hk : k < NN) (h0 : knd k = 0) {j : Nat} (hj : j < N) {index : Nat} {host : String} (hlk : Cond.fieldLinkNest own index (T j).1 (T j).2.1 (T j).2.2.1 host ∈ nestWs) {r : Nat} (hf : (fdo k).2[j]? = some (some r)) (hd : decode cc pc = .ok (.getfield index, 3))
    (kk : V p l e R s m args below meth c E A nL kc ks Q σ (pc + 3) L (.ref (E.2.1 r) :: st)) : V p l e R s m args below meth c E A nL kc ks Q σ pc L (.ref (E.2.1 k) :: st) := fun H locs ls hP hS hl => va_getN (D := E.1) (v := .ref (E.2.1 r)) hc.1 hc.2.1 hc.2.2.2.2.1 hin hc.2.2.2.1 hc.2.2.2.2.2.1.1 hP k (fs := (fdo k).2.mapIdx (fva E σ k)) (by rw [wl_get hk, cel_0 h0]) hcl j hj (va_Nw.use rfl (hc.2.2.2.2.2.1.2 _ hlk)) (fun _ h9 => h9) (fld_get hf) hd (kk H locs ls hP hS hl)
theorem vPut (hc : Cx p R s m args meth c E A cc own ret nL kc ks) {k : Nat} {C : String} {T : u_T} {N : Nat} (hcl : vwCl[(fdo k).1]? = some (C, T, N)) (hin : ∀ w ∈ u_ws C T N, w ∈ gtbl) (hk : k < NN) (h0 : knd k = 0) {j : Nat} (hj : j < N) {index : Nat} (ty0 : Nat → FieldType) (hty : ∀ k, k < N → parseFieldDescriptor (T k).2.2.1 = some (ty0 k)) (hnm : ∀ a, a < N → ∀ b, b < N → a ≠ b → (T a).2.1 ≠ (T b).2.1) (hlk : Cond.fieldLink own index (T j).1 (T j).2.1 (T j).2.2.1 ∈ gtbl) (hfin : (T j).2.2.2 = false) (hf : (fdo k).2[j]? = some none) {v : Int32} (hn : narrow (ty0 j) (.int v) = .int v) (hfit : fits (ty0 j) (.int v) = true) (hd : decode cc pc = .ok (.putfield index, 3))
    (kk : ∀ σ1, σ1 = mst σ k j v → V p l e R s m args below meth c E A nL kc ks Q σ1 (pc + 3) L st) : V p l e R s m args below meth c E A nL kc ks Q σ pc L (.int v :: .ref (E.2.1 k) :: st) := fun H locs ls hP hS hl => va_put (D := E.1) (v := .int v) hc.1 hc.2.1 hc.2.2.2.2.1 hin ty0 hty hnm hc.2.2.2.1 hc.2.2.2.2.2.1.1 hP (wl_D hc.2.2.2.2.2.2.1 hc.2.2.2.2.2.2.2.1) hS k (fs := (fdo k).2.mapIdx (fva E σ k)) (by rw [wl_get hk, cel_0 h0]) hcl j hj (hc.2.2.2.2.1 _ hlk) (fun _ h9 => h9) hfin (hty j hj) hn hfit (by simpa using (List.getElem?_eq_some_iff.mp hf).1) hd (fun H1 locs1 hP1 hD1 hS1 => kk _ rfl H1 locs1 ls (by rw [cel_put hk h0 hf] at hP1; exact hP1) hS1 hl)
theorem vPutN (hc : Cx p R s m args meth c E A cc own ret nL kc ks) {k : Nat} {C : String} {T : u_T} {N : Nat} (hcl : vwCl[(fdo k).1]? = some (C, T, N)) (hin : ∀ w ∈ u_ws C T N, w ∈ gtbl) (hk : k < NN) (h0 : knd k = 0) {j : Nat} (hj : j < N) {index : Nat} (ty0 : Nat → FieldType) (hty : ∀ k, k < N → parseFieldDescriptor (T k).2.2.1 = some (ty0 k)) (hnm : ∀ a, a < N → ∀ b, b < N → a ≠ b → (T a).2.1 ≠ (T b).2.1) {host : String} (hlk : Cond.fieldLinkNest own index (T j).1 (T j).2.1 (T j).2.2.1 host ∈ nestWs) (hfin : (T j).2.2.2 = false) (hf : (fdo k).2[j]? = some none) {v : Int32} (hn : narrow (ty0 j) (.int v) = .int v) (hfit : fits (ty0 j) (.int v) = true) (hd : decode cc pc = .ok (.putfield index, 3))
    (kk : ∀ σ1, σ1 = mst σ k j v → V p l e R s m args below meth c E A nL kc ks Q σ1 (pc + 3) L st) : V p l e R s m args below meth c E A nL kc ks Q σ pc L (.int v :: .ref (E.2.1 k) :: st) := fun H locs ls hP hS hl => va_putN (D := E.1) (v := .int v) hc.1 hc.2.1 hc.2.2.2.2.1 hin ty0 hty hnm hc.2.2.2.1 hc.2.2.2.2.2.1.1 hP (wl_D hc.2.2.2.2.2.2.1 hc.2.2.2.2.2.2.2.1) hS k (fs := (fdo k).2.mapIdx (fva E σ k)) (by rw [wl_get hk, cel_0 h0]) hcl j hj (va_Nw.use rfl (hc.2.2.2.2.2.1.2 _ hlk)) (fun _ h9 => h9) hfin (hty j hj) hn hfit (by simpa using (List.getElem?_eq_some_iff.mp hf).1) hd (fun H1 locs1 hP1 hD1 hS1 => kk _ rfl H1 locs1 ls (by rw [cel_put hk h0 hf] at hP1; exact hP1) hS1 hl)
theorem vIald (hc : Cx p R s m args meth c E A cc own ret nL kc ks) {k n : Nat} {i : Int32} (hk : k < NN) (h0 : knd k = 1) (hn : alen k = n) (hi : vp_in i n) (hd : decode cc pc = .ok (.iaload, 1))
    (kk : V p l e R s m args below meth c E A nL kc ks Q σ (pc + 1) L (.int (σ k i.toNatClampNeg) :: st)) : V p l e R s m args below meth c E A nL kc ks Q σ pc L (.int i :: .ref (E.2.1 k) :: st) := fun H locs ls hP hS hl => by
  subst hn
  exact va_iald hc.1 hc.2.1 hc.2.2.2.2.2.1.1 hP k 0 (by rw [wl_get hk, cel_1 h0]) rfl hi hd (kk H locs ls hP hS hl)
theorem vZald (hc : Cx p R s m args meth c E A cc own ret nL kc ks) {k n : Nat} {i : Int32} (hk : k < NN) (h0 : knd k = 2) (hn : alen k = n) (hi : vp_in i n) (hd : decode cc pc = .ok (.baload, 1))
    (kk : V p l e R s m args below meth c E A nL kc ks Q σ (pc + 1) L (.int (σ k i.toNatClampNeg) :: st)) : V p l e R s m args below meth c E A nL kc ks Q σ pc L (.int i :: .ref (E.2.1 k) :: st) := fun H locs ls hP hS hl => by
  subst hn
  exact va_zald hc.1 hc.2.1 hc.2.2.2.2.2.1.1 hP k 1 (by rw [wl_get hk, cel_2 h0]) rfl hi hd (kk H locs ls hP hS hl)
theorem vIast (hc : Cx p R s m args meth c E A cc own ret nL kc ks) {k n : Nat} {i x : Int32} (hk : k < NN) (h0 : knd k = 1) (hn : alen k = n) (hi : vp_in i n) (hd : decode cc pc = .ok (.iastore, 1))
    (kk : ∀ σ1, σ1 = mst σ k i.toNatClampNeg x → V p l e R s m args below meth c E A nL kc ks Q σ1 (pc + 1) L st) : V p l e R s m args below meth c E A nL kc ks Q σ pc L (.int x :: .int i :: .ref (E.2.1 k) :: st) := fun H locs ls hP hS hl => by
  subst hn
  exact va_iast hc.1 hc.2.1 hc.2.2.2.2.2.1.1 hP (wl_D hc.2.2.2.2.2.2.1 hc.2.2.2.2.2.2.2.1) hS k 0 (by rw [wl_get hk, cel_1 h0]) rfl hi hd (fun H1 locs1 hP1 hD1 hS1 => kk _ rfl H1 locs1 ls (by rw [cel_st1 hk h0] at hP1; exact hP1) hS1 hl)
def zb (x : Int32) : Prop := x = 0 ∨ x = 1
theorem zb_nar {x : Int32} (h : zb x) : narrow .boolean (.int x) = .int x := by
  rcases h with rfl | rfl <;> rfl
theorem zb_fit {x : Int32} (h : zb x) : fits .boolean (.int x) = true := by
  rcases h with rfl | rfl <;> decide
theorem zb_vp {x : Int32} (h : zb x) : vp_nar .boolean x = x := by
  rcases h with rfl | rfl <;> rfl
theorem vZast (hc : Cx p R s m args meth c E A cc own ret nL kc ks) {k n : Nat} {i x : Int32} (hk : k < NN) (h0 : knd k = 2) (hn : alen k = n) (hi : vp_in i n) (hz : zb x) (hd : decode cc pc = .ok (.bastore, 1))
    (kk : ∀ σ1, σ1 = mst σ k i.toNatClampNeg x → V p l e R s m args below meth c E A nL kc ks Q σ1 (pc + 1) L st) : V p l e R s m args below meth c E A nL kc ks Q σ pc L (.int x :: .int i :: .ref (E.2.1 k) :: st) := fun H locs ls hP hS hl => by
  subst hn
  exact va_zast hc.1 hc.2.1 hc.2.2.2.2.2.1.1 hP (wl_D hc.2.2.2.2.2.2.1 hc.2.2.2.2.2.2.2.1) hS k 1 (by rw [wl_get hk, cel_2 h0]) rfl hi hd (fun H1 locs1 hP1 hD1 hS1 => kk _ rfl H1 locs1 ls (by rw [zb_vp hz, cel_st2 hk h0] at hP1; exact hP1) hS1 hl)
theorem vAlen (hc : Cx p R s m args meth c E A cc own ret nL kc ks) {k n : Nat} {v : Int32} (hk : k < NN) (h0 : knd k = 1) (hn : alen k = n) (hv : Int32.ofNat n = v) (hd : decode cc pc = .ok (.arraylength, 1))
    (kk : V p l e R s m args below meth c E A nL kc ks Q σ (pc + 1) L (.int v :: st)) : V p l e R s m args below meth c E A nL kc ks Q σ pc L (.ref (E.2.1 k) :: st) := fun H locs ls hP hS hl => by
  subst hn
  exact va_alen hc.1 hc.2.1 hc.2.2.2.2.2.1.1 hP k 0 (x := (alen k, .inl (σ k))) (by rw [wl_get hk, cel_1 h0]) rfl hv hd (kk H locs ls hP hS hl)
theorem vAaldP (hc : Cx p R s m args meth c E A cc own ret nL kc ks) {i : Int32} (hi : vp_in i 9) (hd : decode cc pc = .ok (.aaload, 1))
    (kk : V p l e R s m args below meth c E A nL kc ks Q σ (pc + 1) L (.ref (E.2.1 (37 + i.toNatClampNeg)) :: st)) : V p l e R s m args below meth c E A nL kc ks Q σ pc L (.int i :: .ref (E.2.1 5) :: st) := fun H locs ls hP hS hl => va_aldq (C := "RidePools$Person") hc.1 hc.2.1 hc.2.2.2.2.2.1.1 hP 5 2 (f := fun i => some (E.2.1 (37 + i))) (wl_get (by decide)) rfl hi hd (kk H locs ls hP hS hl)
theorem vAaldD (hc : Cx p R s m args meth c E A cc own ret nL kc ks) {i : Int32} (hi : vp_in i 10) (hd : decode cc pc = .ok (.aaload, 1))
    (kk : V p l e R s m args below meth c E A nL kc ks Q σ (pc + 1) L (.ref (E.2.1 (46 + i.toNatClampNeg)) :: st)) : V p l e R s m args below meth c E A nL kc ks Q σ pc L (.int i :: .ref (E.2.1 2) :: st) := fun H locs ls hP hS hl => va_aldqA hc.1 hc.2.1 hc.2.2.2.2.2.1.1 hP 2 3 (f := fun i => some (E.2.1 (46 + i))) (wl_get (by decide)) rfl hi hd (kk H locs ls hP hS hl)
theorem vAaldF (hc : Cx p R s m args meth c E A cc own ret nL kc ks) {i : Int32} (hi : vp_in i 10) (hd : decode cc pc = .ok (.aaload, 1))
    (kk : V p l e R s m args below meth c E A nL kc ks Q σ (pc + 1) L (.ref (E.2.1 (56 + i.toNatClampNeg)) :: st)) : V p l e R s m args below meth c E A nL kc ks Q σ pc L (.int i :: .ref (E.2.1 3) :: st) := fun H locs ls hP hS hl => va_aldqA hc.1 hc.2.1 hc.2.2.2.2.2.1.1 hP 3 3 (f := fun i => some (E.2.1 (56 + i))) (wl_get (by decide)) rfl hi hd (kk H locs ls hP hS hl)
end VV
/-! ===== calls, returns, a contract's start ===== -/
def BW (E : WD) (u : MS) (t : State) : Prop := va_P E.1 vwCl (wl E u) t.heap ∧ KW E t
abbrev PW (E : WD) (σ : MS) (av : List Value) : Array Value → State → Prop := va_Pc av (fun U => va_P E.1 vwCl (wl E σ) U.heap ∧ KW E U)
/-- contracts: from a heap that holds σ the method returns with Q -/
def Ci (l : Launch) (E : WD) (y : MethodName) (cc : ByteArray) (nL : Nat) (ret : Option FieldType) (rm : Room) (av : List Value) (σ : MS) (Q : Int32 → MS → Prop) : Prop := Met l y (.code y cc nL ret :: gtbl) rm (PW E σ av) (va_Qi Q (BW E) (AD E)) 0 0 (AD E)
def Cv (l : Launch) (E : WD) (y : MethodName) (cc : ByteArray) (nL : Nat) (ret : Option FieldType) (rm : Room) (av : List Value) (σ : MS) (Q : MS → Prop) : Prop := Met l y (.code y cc nL ret :: gtbl) rm (PW E σ av) (va_Qv Q (BW E) (AD E)) 0 0 (AD E)
def Cr (l : Launch) (E : WD) (y : MethodName) (cc : ByteArray) (nL : Nat) (ret : Option FieldType) (rm : Room) (av : List Value) (σ : MS) (Q : Nat → MS → Prop) : Prop := Met l y (.code y cc nL ret :: gtbl) rm (PW E σ av) (va_Qr (fun u : Nat × MS => Q u.1 u.2) (fun u a t => a = E.2.1 u.1 ∧ BW E u.2 t) (AD E)) 0 0 (AD E)
theorem PW.blind {E : WD} {σ : MS} {av : List Value} : FrameBlind (PW E σ av) := fun a U g mk q => ⟨q.1, q.2.1, KW.same (s := U) (U := U.calling g mk a) rfl q.2.2⟩
def OkV (y : MethodName) (C : String) (bytes : ByteArray) (maxL : Nat) (ret : Option FieldType) (n : Nat) : Prop := Cond.instanceMethod y ∈ gtbl ∧ Cond.selects C y y ∈ gtbl ∧ Cond.initialized C ∈ gtbl ∧ Cond.code y bytes maxL ret ∈ gtbl ∧ (y.cls = C ∧ y.cls ≠ "java/lang/invoke/MethodHandle" ∧ y.cls ≠ "java/lang/invoke/VarHandle" ∧ (parseMethodDescriptor y.desc).map (fun d => d.parameters.length) = some n)
def OkS (y : MethodName) (bytes : ByteArray) (maxL : Nat) (ret : Option FieldType) (n : Nat) : Prop := Cond.static y ∈ gtbl ∧ Cond.initialized y.cls ∈ gtbl ∧ Cond.code y bytes maxL ret ∈ gtbl ∧ (y.cls ≠ "java/lang/invoke/MethodHandle" ∧ y.cls ≠ "java/lang/invoke/VarHandle" ∧ (parseMethodDescriptor y.desc).map (fun d => d.parameters.length) = some n)
theorem ginV {own : String} {index : Nat} {C : String} {y : MethodName} {bytes : ByteArray} {maxL : Nat} {ret : Option FieldType} {n : Nat} (h : OkV y C bytes maxL ret n) (hlk : Cond.methodLink own index y ∈ gtbl) : GoodIn gtbl (wsV own index C y (.code y bytes maxL ret :: gtbl)) := by
  intro w hw
  simp only [wsV, List.cons_append, List.nil_append, List.mem_cons] at hw
  rcases hw with rfl | rfl | rfl | rfl | rfl | hw
  · exact law_good hlk
  · exact law_good h.1
  · exact law_good h.2.1
  · exact law_good h.2.2.1
  · exact law_good h.2.2.2.1
  · exact law_good hw
theorem ginS {own : String} {index : Nat} {y : MethodName} {bytes : ByteArray} {maxL : Nat} {ret : Option FieldType} {n : Nat} (h : OkS y bytes maxL ret n) (hlk : Cond.methodLink own index y ∈ gtbl) : GoodIn gtbl (va_wsS own index y (.code y bytes maxL ret :: gtbl)) := by
  intro w hw
  simp only [va_wsS, List.cons_append, List.nil_append, List.mem_cons] at hw
  rcases hw with rfl | rfl | rfl | rfl | hw
  · exact law_good hlk
  · exact law_good h.1
  · exact law_good h.2.1
  · exact law_good h.2.2.1
  · exact law_good hw
theorem ginC {y : MethodName} {bytes : ByteArray} {maxL : Nat} {ret : Option FieldType} (h : Cond.code y bytes maxL ret ∈ gtbl) : GoodIn gtbl (.code y bytes maxL ret :: gtbl) := by
  intro w hw
  rcases List.mem_cons.mp hw with rfl | hw
  · exact law_good h
  · exact law_good hw
section VC
variable {p : Program} {l : Launch} {e : Env} {R : Room} {s : State} {m : MethodId} {args : Array Value} {below : List Frame} {meth : Method} {c : Code} {E : WD} {A : Nat → Prop} {nL kc ks : Nat} {Q : State → Prop}
variable {cc : ByteArray} {own : String} {ret : Option FieldType} {σ : MS} {pc : Nat} {L : List (Option Value)} {st st0 : List Value}
theorem AD_A (hc : Cx p R s m args meth c E A cc own ret nL kc ks) : ∀ q, AD E q → A q := by
  rintro q ⟨k, hk, rfl⟩
  exact hc.2.2.2.2.2.2.2.1 k hk
variable {y : MethodName} {C : String} {bytes : ByteArray} {maxL n k index : Nat} {ret2 : Option FieldType} {rm : Room} {As : List Value} {T : u_T} {N : Nat}
theorem run_V {Qc : Array Value → State → Outcome → State → Prop} {H : Heap} {locs : List Loc} {ls : Array Slot} (hc : Cx p R s m args meth c E A cc own ret nL kc ks) (hok : OkV y C bytes maxL ret2 n) (hlk : Cond.methodLink own index y ∈ gtbl) (hM : Met l y (.code y bytes maxL ret2 :: gtbl) rm (PW E σ (.ref (E.2.1 k) :: As)) Qc 0 0 (AD E)) (hk : k < NN) (h0 : knd k = 0) (hcl : vwCl[(fdo k).1]? = some (C, T, N)) (hn : As.length = n) (hrm : rm.cells = 0 ∧ rm.slots = 0) (hR : rm.frames + 1 ≤ R.frames ∧ 8 + (maxL + 11) + rm.locals ≤ R.locals) (hst : st0 = As.reverse ++ .ref (E.2.1 k) :: st) (hw : (st.map fun v => v.category).sum ≤ 8) (hd : decode cc pc = .ok (.invokevirtual index, 3)) (hP : va_P E.1 vwCl (wl E σ) H) (hl : lvh ls nL L) :
    va_Run p l e R s m args below meth c H locs kc ks 0 0 (F0 m pc ls st0) st (Qc (Value.ref (E.2.1 k) :: As).toArray) (AD E) := by
  obtain ⟨hx, hb, hml, hown, hts, hK, hi, hA, hr, hlk2, hkc, hks⟩ := hc
  exact va_runV (As := As) (rest := st) ⟨hx, hb, hml, hown, hts⟩ hM (cwV n hts (ginV hok hlk) rfl hrm.1 hrm.2 hok.2.2.2.2 hR) ⟨PW.blind, va_recv hK.1 hP (ci := (fdo k).1) (q0 := k) hcl (by rw [wl_get hk, cel_0 h0]), fun U hU hW => ⟨rfl, by rw [hU]; exact hP, KW.warm hW hK⟩⟩ rfl hn hl.1.1 hst (lv_room hw) hd ⟨hkc, hks⟩
theorem run_S {Qc : Array Value → State → Outcome → State → Prop} {H : Heap} {locs : List Loc} {ls : Array Slot} (hc : Cx p R s m args meth c E A cc own ret nL kc ks) (hok : OkS y bytes maxL ret2 n) (hlk : Cond.methodLink own index y ∈ gtbl) (hM : Met l y (.code y bytes maxL ret2 :: gtbl) rm (PW E σ As) Qc 0 0 (AD E)) (hn : As.length = n) (hrm : rm.cells = 0 ∧ rm.slots = 0) (hR : rm.frames + 1 ≤ R.frames ∧ 8 + (maxL + 11) + rm.locals ≤ R.locals) (hst : st0 = As.reverse ++ st) (hw : (st.map fun v => v.category).sum ≤ 8) (hd : decode cc pc = .ok (.invokestatic index, 3)) (hP : va_P E.1 vwCl (wl E σ) H) (hl : lvh ls nL L) :
    va_Run p l e R s m args below meth c H locs kc ks 0 0 (F0 m pc ls st0) st (Qc As.toArray) (AD E) := by
  obtain ⟨hx, hb, hml, hown, hts, hK, hi, hA, hr, hlk2, hkc, hks⟩ := hc
  exact va_runS (As := As) (rest := st) ⟨hx, hb, hml, hown, hts⟩ hM (va_cwS n hts (ginS hok hlk) rfl hrm.1 hrm.2 hok.2.2.2 hR) ⟨PW.blind, fun U hU hW => ⟨rfl, by rw [hU]; exact hP, KW.warm hW hK⟩⟩ rfl hn hl.1.1 hst (lv_room hw) hd ⟨hkc, hks⟩
theorem run_SN {host : String} {Qc : Array Value → State → Outcome → State → Prop} {H : Heap} {locs : List Loc} {ls : Array Slot} (hc : Cx p R s m args meth c E A cc own ret nL kc ks) (hok : OkS y bytes maxL ret2 n) (hlk : Cond.methodLinkNest own index y host ∈ nestWs) (hM : Met l y (.code y bytes maxL ret2 :: gtbl) rm (PW E σ As) Qc 0 0 (AD E)) (hn : As.length = n) (hrm : rm.cells = 0 ∧ rm.slots = 0) (hR : rm.frames + 1 ≤ R.frames ∧ 8 + (maxL + 11) + rm.locals ≤ R.locals) (hst : st0 = As.reverse ++ st) (hw : (st.map fun v => v.category).sum ≤ 8) (hd : decode cc pc = .ok (.invokestatic index, 3)) (hP : va_P E.1 vwCl (wl E σ) H) (hl : lvh ls nL L) :
    va_Run p l e R s m args below meth c H locs kc ks 0 0 (F0 m pc ls st0) st (Qc As.toArray) (AD E) := by
  obtain ⟨hx, hb, hml, hown, hts, hK, hi, hA, hr, hlk2, hkc, hks⟩ := hc
  exact va_runSN (As := As) (rest := st) ⟨hx, hb, hml, hown, hts⟩ hM ⟨va_cnB n hts (ginC hok.2.2.1) rfl hrm.1 hrm.2 (hK.2 _ hlk) (hts _ hok.2.1) hok.2.2.2 hR, hts _ hok.1, trivial⟩ ⟨PW.blind, fun U hU hW => ⟨rfl, by rw [hU]; exact hP, KW.warm hW hK⟩⟩ rfl hn hl.1.1 hst (lv_room hw) hd ⟨hkc, hks⟩
theorem vCallVi {Q2 : Int32 → MS → Prop} (hc : Cx p R s m args meth c E A cc own ret nL kc ks) (hok : OkV y C bytes maxL ret2 n) (hlk : Cond.methodLink own index y ∈ gtbl) (hM : Ci l E y bytes maxL ret2 rm (.ref (E.2.1 k) :: As) σ Q2) (hk : k < NN) (h0 : knd k = 0) (hcl : vwCl[(fdo k).1]? = some (C, T, N)) (hn : As.length = n) (hrm : rm.cells = 0 ∧ rm.slots = 0) (hR : rm.frames + 1 ≤ R.frames ∧ 8 + (maxL + 11) + rm.locals ≤ R.locals) (hst : st0 = As.reverse ++ .ref (E.2.1 k) :: st) (hw : (st.map fun v => v.category).sum ≤ 8) (hd : decode cc pc = .ok (.invokevirtual index, 3))
    (kk : ∀ (r : Int32) (σ1 : MS), Q2 r σ1 → V p l e R s m args below meth c E A nL kc ks Q σ1 (pc + 3) L (.int r :: st)) : V p l e R s m args below meth c E A nL kc ks Q σ pc L st0 := fun H locs ls hP hS hl =>
  va_calli (run_V hc hok hlk hM hk h0 hcl hn hrm hR hst hw hd hP hl) hS (fun q _ h => AD_A hc q h) (AD_A hc) (fun r u t H1 locs1 ht hvm hq hB hz hk1 hS1 => kk r u hq H1 locs1 ls (by rw [← ht]; exact hB.1) hS1 hl)
theorem vCallVv {Q2 : MS → Prop} (hc : Cx p R s m args meth c E A cc own ret nL kc ks) (hok : OkV y C bytes maxL ret2 n) (hlk : Cond.methodLink own index y ∈ gtbl) (hM : Cv l E y bytes maxL ret2 rm (.ref (E.2.1 k) :: As) σ Q2) (hk : k < NN) (h0 : knd k = 0) (hcl : vwCl[(fdo k).1]? = some (C, T, N)) (hn : As.length = n) (hrm : rm.cells = 0 ∧ rm.slots = 0) (hR : rm.frames + 1 ≤ R.frames ∧ 8 + (maxL + 11) + rm.locals ≤ R.locals) (hst : st0 = As.reverse ++ .ref (E.2.1 k) :: st) (hw : (st.map fun v => v.category).sum ≤ 8) (hd : decode cc pc = .ok (.invokevirtual index, 3))
    (kk : ∀ (σ1 : MS), Q2 σ1 → V p l e R s m args below meth c E A nL kc ks Q σ1 (pc + 3) L st) : V p l e R s m args below meth c E A nL kc ks Q σ pc L st0 := fun H locs ls hP hS hl =>
  va_callv (run_V hc hok hlk hM hk h0 hcl hn hrm hR hst hw hd hP hl) hS (fun q _ h => AD_A hc q h) (AD_A hc) (fun u t H1 locs1 ht hvm hq hB hz hk1 hS1 => kk u hq H1 locs1 ls (by rw [← ht]; exact hB.1) hS1 hl)
theorem vCallVr {Q2 : Nat → MS → Prop} (hc : Cx p R s m args meth c E A cc own ret nL kc ks) (hok : OkV y C bytes maxL ret2 n) (hlk : Cond.methodLink own index y ∈ gtbl) (hM : Cr l E y bytes maxL ret2 rm (.ref (E.2.1 k) :: As) σ Q2) (hk : k < NN) (h0 : knd k = 0) (hcl : vwCl[(fdo k).1]? = some (C, T, N)) (hn : As.length = n) (hrm : rm.cells = 0 ∧ rm.slots = 0) (hR : rm.frames + 1 ≤ R.frames ∧ 8 + (maxL + 11) + rm.locals ≤ R.locals) (hst : st0 = As.reverse ++ .ref (E.2.1 k) :: st) (hw : (st.map fun v => v.category).sum ≤ 8) (hd : decode cc pc = .ok (.invokevirtual index, 3))
    (kk : ∀ (r : Nat) (σ1 : MS), Q2 r σ1 → V p l e R s m args below meth c E A nL kc ks Q σ1 (pc + 3) L (.ref (E.2.1 r) :: st)) : V p l e R s m args below meth c E A nL kc ks Q σ pc L st0 := fun H locs ls hP hS hl =>
  va_callr (run_V hc hok hlk hM hk h0 hcl hn hrm hR hst hw hd hP hl) hS (fun q _ h => AD_A hc q h) (AD_A hc) (fun u ra t H1 locs1 ht hvm hq hB hz hk1 hS1 => by
  obtain ⟨he, hB⟩ := hB
  subst he
  exact kk u.1 u.2 hq H1 locs1 ls (by rw [← ht]; exact hB.1) hS1 hl)
theorem vCallSi {Q2 : Int32 → MS → Prop} (hc : Cx p R s m args meth c E A cc own ret nL kc ks) (hok : OkS y bytes maxL ret2 n) (hlk : Cond.methodLink own index y ∈ gtbl) (hM : Ci l E y bytes maxL ret2 rm As σ Q2) (hn : As.length = n) (hrm : rm.cells = 0 ∧ rm.slots = 0) (hR : rm.frames + 1 ≤ R.frames ∧ 8 + (maxL + 11) + rm.locals ≤ R.locals) (hst : st0 = As.reverse ++ st) (hw : (st.map fun v => v.category).sum ≤ 8) (hd : decode cc pc = .ok (.invokestatic index, 3))
    (kk : ∀ (r : Int32) (σ1 : MS), Q2 r σ1 → V p l e R s m args below meth c E A nL kc ks Q σ1 (pc + 3) L (.int r :: st)) : V p l e R s m args below meth c E A nL kc ks Q σ pc L st0 := fun H locs ls hP hS hl =>
  va_calli (run_S hc hok hlk hM hn hrm hR hst hw hd hP hl) hS (fun q _ h => AD_A hc q h) (AD_A hc) (fun r u t H1 locs1 ht hvm hq hB hz hk1 hS1 => kk r u hq H1 locs1 ls (by rw [← ht]; exact hB.1) hS1 hl)
theorem vCallSv {Q2 : MS → Prop} (hc : Cx p R s m args meth c E A cc own ret nL kc ks) (hok : OkS y bytes maxL ret2 n) (hlk : Cond.methodLink own index y ∈ gtbl) (hM : Cv l E y bytes maxL ret2 rm As σ Q2) (hn : As.length = n) (hrm : rm.cells = 0 ∧ rm.slots = 0) (hR : rm.frames + 1 ≤ R.frames ∧ 8 + (maxL + 11) + rm.locals ≤ R.locals) (hst : st0 = As.reverse ++ st) (hw : (st.map fun v => v.category).sum ≤ 8) (hd : decode cc pc = .ok (.invokestatic index, 3))
    (kk : ∀ (σ1 : MS), Q2 σ1 → V p l e R s m args below meth c E A nL kc ks Q σ1 (pc + 3) L st) : V p l e R s m args below meth c E A nL kc ks Q σ pc L st0 := fun H locs ls hP hS hl =>
  va_callv (run_S hc hok hlk hM hn hrm hR hst hw hd hP hl) hS (fun q _ h => AD_A hc q h) (AD_A hc) (fun u t H1 locs1 ht hvm hq hB hz hk1 hS1 => kk u hq H1 locs1 ls (by rw [← ht]; exact hB.1) hS1 hl)
theorem vCallSr {Q2 : Nat → MS → Prop} (hc : Cx p R s m args meth c E A cc own ret nL kc ks) (hok : OkS y bytes maxL ret2 n) (hlk : Cond.methodLink own index y ∈ gtbl) (hM : Cr l E y bytes maxL ret2 rm As σ Q2) (hn : As.length = n) (hrm : rm.cells = 0 ∧ rm.slots = 0) (hR : rm.frames + 1 ≤ R.frames ∧ 8 + (maxL + 11) + rm.locals ≤ R.locals) (hst : st0 = As.reverse ++ st) (hw : (st.map fun v => v.category).sum ≤ 8) (hd : decode cc pc = .ok (.invokestatic index, 3))
    (kk : ∀ (r : Nat) (σ1 : MS), Q2 r σ1 → V p l e R s m args below meth c E A nL kc ks Q σ1 (pc + 3) L (.ref (E.2.1 r) :: st)) : V p l e R s m args below meth c E A nL kc ks Q σ pc L st0 := fun H locs ls hP hS hl =>
  va_callr (run_S hc hok hlk hM hn hrm hR hst hw hd hP hl) hS (fun q _ h => AD_A hc q h) (AD_A hc) (fun u ra t H1 locs1 ht hvm hq hB hz hk1 hS1 => by
  obtain ⟨he, hB⟩ := hB
  subst he
  exact kk u.1 u.2 hq H1 locs1 ls (by rw [← ht]; exact hB.1) hS1 hl)
theorem vCallSNi {Q2 : Int32 → MS → Prop} (hc : Cx p R s m args meth c E A cc own ret nL kc ks) {host : String} (hok : OkS y bytes maxL ret2 n) (hlk : Cond.methodLinkNest own index y host ∈ nestWs) (hM : Ci l E y bytes maxL ret2 rm As σ Q2) (hn : As.length = n) (hrm : rm.cells = 0 ∧ rm.slots = 0) (hR : rm.frames + 1 ≤ R.frames ∧ 8 + (maxL + 11) + rm.locals ≤ R.locals) (hst : st0 = As.reverse ++ st) (hw : (st.map fun v => v.category).sum ≤ 8) (hd : decode cc pc = .ok (.invokestatic index, 3))
    (kk : ∀ (r : Int32) (σ1 : MS), Q2 r σ1 → V p l e R s m args below meth c E A nL kc ks Q σ1 (pc + 3) L (.int r :: st)) : V p l e R s m args below meth c E A nL kc ks Q σ pc L st0 := fun H locs ls hP hS hl =>
  va_calli (run_SN hc hok hlk hM hn hrm hR hst hw hd hP hl) hS (fun q _ h => AD_A hc q h) (AD_A hc) (fun r u t H1 locs1 ht hvm hq hB hz hk1 hS1 => kk r u hq H1 locs1 ls (by rw [← ht]; exact hB.1) hS1 hl)
theorem vCallSNv {Q2 : MS → Prop} (hc : Cx p R s m args meth c E A cc own ret nL kc ks) {host : String} (hok : OkS y bytes maxL ret2 n) (hlk : Cond.methodLinkNest own index y host ∈ nestWs) (hM : Cv l E y bytes maxL ret2 rm As σ Q2) (hn : As.length = n) (hrm : rm.cells = 0 ∧ rm.slots = 0) (hR : rm.frames + 1 ≤ R.frames ∧ 8 + (maxL + 11) + rm.locals ≤ R.locals) (hst : st0 = As.reverse ++ st) (hw : (st.map fun v => v.category).sum ≤ 8) (hd : decode cc pc = .ok (.invokestatic index, 3))
    (kk : ∀ (σ1 : MS), Q2 σ1 → V p l e R s m args below meth c E A nL kc ks Q σ1 (pc + 3) L st) : V p l e R s m args below meth c E A nL kc ks Q σ pc L st0 := fun H locs ls hP hS hl =>
  va_callv (run_SN hc hok hlk hM hn hrm hR hst hw hd hP hl) hS (fun q _ h => AD_A hc q h) (AD_A hc) (fun u t H1 locs1 ht hvm hq hB hz hk1 hS1 => kk u hq H1 locs1 ls (by rw [← ht]; exact hB.1) hS1 hl)
theorem vCallSNr {Q2 : Nat → MS → Prop} (hc : Cx p R s m args meth c E A cc own ret nL kc ks) {host : String} (hok : OkS y bytes maxL ret2 n) (hlk : Cond.methodLinkNest own index y host ∈ nestWs) (hM : Cr l E y bytes maxL ret2 rm As σ Q2) (hn : As.length = n) (hrm : rm.cells = 0 ∧ rm.slots = 0) (hR : rm.frames + 1 ≤ R.frames ∧ 8 + (maxL + 11) + rm.locals ≤ R.locals) (hst : st0 = As.reverse ++ st) (hw : (st.map fun v => v.category).sum ≤ 8) (hd : decode cc pc = .ok (.invokestatic index, 3))
    (kk : ∀ (r : Nat) (σ1 : MS), Q2 r σ1 → V p l e R s m args below meth c E A nL kc ks Q σ1 (pc + 3) L (.ref (E.2.1 r) :: st)) : V p l e R s m args below meth c E A nL kc ks Q σ pc L st0 := fun H locs ls hP hS hl =>
  va_callr (run_SN hc hok hlk hM hn hrm hR hst hw hd hP hl) hS (fun q _ h => AD_A hc q h) (AD_A hc) (fun u ra t H1 locs1 ht hvm hq hB hz hk1 hS1 => by
  obtain ⟨he, hB⟩ := hB
  subst he
  exact kk u.1 u.2 hq H1 locs1 ls (by rw [← ht]; exact hB.1) hS1 hl)
/-! returns -/
theorem vIret {Qp : Int32 → MS → Prop} {v : Int32} (hc : Cx p R s m args meth c E (AD E) cc own (some .int) nL 0 0) (hd : decode cc pc = .ok (.ireturn, 1)) (hq : Qp v σ) : V p l e R s m args below meth c E (AD E) nL 0 0 (MQ below (va_Qi Qp (BW E) (AD E)) args s 0 0 (AD E)) σ pc L [.int v] := fun H locs ls hP hS hl =>
  W.iret hc.1 hc.2.1 hc.2.2.2.2.2.2.2.2.1 (fun t ht hW => ⟨⟨v, σ, rfl, hq, by rw [ht]; exact hP, KW.warm hW hc.2.2.2.2.2.1⟩, hS.F ht⟩) hS.2.2 hd hc.2.2.2.2.2.2.2.2.2.1
theorem vZret {Qp : Int32 → MS → Prop} {v : Int32} (hc : Cx p R s m args meth c E (AD E) cc own (some .boolean) nL 0 0) (hd : decode cc pc = .ok (.ireturn, 1)) (hz : zb v) (hq : Qp v σ) : V p l e R s m args below meth c E (AD E) nL 0 0 (MQ below (va_Qi Qp (BW E) (AD E)) args s 0 0 (AD E)) σ pc L [.int v] := fun H locs ls hP hS hl =>
  W.zret hc.1 hc.2.1 hc.2.2.2.2.2.2.2.2.1 (zb_nar hz) (fun t ht hW => ⟨⟨v, σ, rfl, hq, by rw [ht]; exact hP, KW.warm hW hc.2.2.2.2.2.1⟩, hS.F ht⟩) hS.2.2 hd hc.2.2.2.2.2.2.2.2.2.1
theorem vVret {Qp : MS → Prop} (hc : Cx p R s m args meth c E (AD E) cc own none nL 0 0) (hd : decode cc pc = .ok (.return_, 1)) (hq : Qp σ) : V p l e R s m args below meth c E (AD E) nL 0 0 (MQ below (va_Qv Qp (BW E) (AD E)) args s 0 0 (AD E)) σ pc L [] := fun H locs ls hP hS hl =>
  W.vret hc.1 hc.2.1 hc.2.2.2.2.2.2.2.2.1 (fun t ht hW => ⟨⟨σ, rfl, hq, by rw [ht]; exact hP, KW.warm hW hc.2.2.2.2.2.1⟩, hS.F ht⟩) hS.2.2 hd hc.2.2.2.2.2.2.2.2.2.1
theorem vAret {Qp : Nat → MS → Prop} {k : Nat} {cn : String} (hc : Cx p R s m args meth c E (AD E) cc own (some (.object cn)) nL 0 0) (hd : decode cc pc = .ok (.areturn, 1)) (hq : Qp k σ) : V p l e R s m args below meth c E (AD E) nL 0 0 (MQ below (va_Qr (fun u : Nat × MS => Qp u.1 u.2) (fun u a t => a = E.2.1 u.1 ∧ BW E u.2 t) (AD E)) args s 0 0 (AD E)) σ pc L [.ref (E.2.1 k)] := fun H locs ls hP hS hl =>
  W.aret hc.1 hc.2.1 hc.2.2.2.2.2.2.2.2.1 (Or.inl ⟨cn, rfl⟩) (Or.inr ⟨_, rfl⟩) (fun t ht hW => ⟨⟨(k, σ), E.2.1 k, rfl, hq, rfl, by rw [ht]; exact hP, KW.warm hW hc.2.2.2.2.2.1⟩, hS.F ht⟩) hS.2.2 hd hc.2.2.2.2.2.2.2.2.2.1
/-! Math.min, Math.max, System.arraycopy -/
theorem vMax {x y : Int32} {index : Nat} (hc : Cx p R s m args meth c E A cc own ret nL kc ks) (hlk : Cond.methodLink own index Lib.Math.max.name ∈ gtbl) (h1 : Cond.static Lib.Math.max.name ∈ gtbl) (h2 : Cond.initialized "java/lang/Math" ∈ gtbl) (h3 : Cond.code Lib.Math.max.name Lib.Math.max.code 2 (some .int) ∈ gtbl) (hR : 1 ≤ R.frames ∧ (st.map fun v => v.category).sum + 13 ≤ R.locals) (hd : decode cc pc = .ok (.invokestatic index, 3))
    (k : V p l e R s m args below meth c E A nL kc ks Q σ (pc + 3) L (.int (if x < y then y else x) :: st)) : V p l e R s m args below meth c E A nL kc ks Q σ pc L (.int y :: .int x :: st) := fun H locs ls hP hS hl => by
  obtain ⟨hx, hb, hml, hown, hts, hK, hi, hA, hr, hlk2, hkc, hks⟩ := hc
  exact va_mmax hx hb (by rw [hml]; exact hl.1.1.symm) hown (hts _ hlk) (hts _ h1) (hts _ h2) (hts _ h3) hR.1 hR.2 hkc hks hd (k H locs ls hP hS hl)
theorem vMin {x y : Int32} {index : Nat} (hc : Cx p R s m args meth c E A cc own ret nL kc ks) (hlk : Cond.methodLink own index Lib.Math.min.name ∈ gtbl) (h1 : Cond.static Lib.Math.min.name ∈ gtbl) (h2 : Cond.initialized "java/lang/Math" ∈ gtbl) (h3 : Cond.code Lib.Math.min.name Lib.Math.min.code 2 (some .int) ∈ gtbl) (hR : 1 ≤ R.frames ∧ (st.map fun v => v.category).sum + 13 ≤ R.locals) (hd : decode cc pc = .ok (.invokestatic index, 3))
    (k : V p l e R s m args below meth c E A nL kc ks Q σ (pc + 3) L (.int (if y < x then y else x) :: st)) : V p l e R s m args below meth c E A nL kc ks Q σ pc L (.int y :: .int x :: st) := fun H locs ls hP hS hl => by
  obtain ⟨hx, hb, hml, hown, hts, hK, hi, hA, hr, hlk2, hkc, hks⟩ := hc
  exact va_mmin hx hb (by rw [hml]; exact hl.1.1.symm) hown (hts _ hlk) (hts _ h1) (hts _ h2) (hts _ h3) hR.1 hR.2 hkc hks hd (k H locs ls hP hS hl)
def mcp (σ : MS) (k k2 sp dp n : Nat) : MS := fun a => if a = k2 then va_cpy (σ k) (σ k2) sp dp n else σ a
theorem vCopy {k k2 n1 n2 index : Nat} {sp dp n : Int32} (hc : Cx p R s m args meth c E A cc own ret nL kc ks) (hlk : Cond.methodLink own index arraycopyName ∈ gtbl) (hw1 : Cond.native arraycopyName ∈ gtbl) (hw2 : Cond.static arraycopyName ∈ gtbl) (hw3 : Cond.initialized "java/lang/System" ∈ gtbl) (hk : k < NN) (h0 : knd k = 1) (hk2 : k2 < NN) (h02 : knd k2 = 1) (hn1 : alen k = n1) (hn2 : alen k2 = n2) (h1 : ¬ sp < 0) (h2 : ¬ dp < 0) (h3 : ¬ n < 0) (h4 : sp.toNatClampNeg + n.toNatClampNeg ≤ n1) (h5 : dp.toNatClampNeg + n.toNatClampNeg ≤ n2) (hR : 1 ≤ R.frames ∧ (st.map fun v => v.category).sum + (nativeFrameWords "java/lang/System" "arraycopy" 5 + 11) ≤ R.locals) (hd : decode cc pc = .ok (.invokestatic index, 3))
    (kk : ∀ σ1, σ1 = mcp σ k k2 sp.toNatClampNeg dp.toNatClampNeg n.toNatClampNeg → V p l e R s m args below meth c E A nL kc ks Q σ1 (pc + 3) L st) : V p l e R s m args below meth c E A nL kc ks Q σ pc L (.int n :: .int dp :: .ref (E.2.1 k2) :: .int sp :: .ref (E.2.1 k) :: st) := fun H locs ls hP hS hl => by
  obtain ⟨hx, hb, hml, hown, hts, hK, hi, hA, hr, hlk2, hkc, hks⟩ := hc
  subst hn1 hn2
  refine va_copyi (ty := .int) hx hb (by rw [hml]; exact hl.1.1.symm) hown (hts _ hlk) (hts _ hw1) (hts _ hw2) (hts _ hw3) hK.1 hP (wl_D hi hA) hS k k2 0 0 (by rw [wl_get hk, cel_1 h0]) (by rw [wl_get hk2, cel_1 h02]) rfl rfl rfl h1 h2 h3 h4 h5 (fun _ _ => rfl) hR.1 hR.2 hd (fun H1 locs1 hP1 hD1 hS1 => kk _ rfl H1 locs1 ls ?_ hS1 hl)
  rw [wl_set (σ' := mcp σ k k2 sp.toNatClampNeg dp.toNatClampNeg n.toNatClampNeg) hk2 (by rw [cel_1 h02]; simp [mcp]) (fun i hi => by simp [mcp, hi])] at hP1
  exact hP1
end VC
theorem Ct_of {l : Launch} {E : WD} {y : MethodName} {cc : ByteArray} {nL : Nat} {ret : Option FieldType} {rm : Room} {av : List Value} {σ : MS} {own : String} {Qc : Array Value → State → Outcome → State → Prop} (hy : Jvm.plainName y.cls = true) (hown : y.cls = own) (hcat : ∀ v ∈ av, v.category = 1) (hlen : av.length ≤ nL) (hinj : inj E)
    (body : ∀ (p : Program) (e : Env) (s : State) (m : MethodId) (below : List Frame) (meth : Method) (c : Code), Cx p rm s m av.toArray meth c E (AD E) cc own ret nL 0 0 → V p l e rm s m av.toArray below meth c E (AD E) nL 0 0 (MQ below Qc av.toArray s 0 0 (AD E)) σ 0 (av.map some ++ List.replicate (nL - av.length) none) []) : Met l y (.code y cc nL ret :: gtbl) rm (PW E σ av) Qc 0 0 (AD E) := by
  refine Met.ofW (cc := cc) (maxL := nL) (ret := ret) hy rfl ?_
  intro p e s m args below meth c s₁ B hml hv
  obtain ⟨rfl, hP, hK⟩ := hv
  have hts := atoms_spec (ws := .code y cc nL ret :: gtbl) B.pre
  have hC : Cx p rm s m av.toArray meth c E (AD E) cc own ret nL 0 0 := ⟨B.exec, B.bytes, hml, by rw [← hown]; exact findClass_of_methodNamed B.named, fun w hw => hts w (List.mem_cons_of_mem _ hw), hK, hinj, fun k hk => ⟨k, hk, rfl⟩, B.returns, B.notSynchronized, Nat.zero_le _, Nat.zero_le _⟩
  rw [lg_entry_eq]
  exact body p e s m below meth c hC s.heap [] _ hP va_S.rf (lvh_entry hcat hlen)
end
