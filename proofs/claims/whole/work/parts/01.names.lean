-- ===== PART A: goes FIRST, ahead of the names: the tables' words, and 'selects' of the private methods out of them =====
/-- a private method of a class that the tables say can be made, by its rows of tables_1 -/
def lw_okq (q : MethodName × Nat) : Prop := (q.1.cls ≠ "java/lang/invoke/MethodHandle" ∧ q.1.cls ≠ "java/lang/invoke/VarHandle") ∧ Cond.instantiable q.1.cls q.2 ∈ tables_1 ∧ Cond.privateMethod q.1 ∈ tables_1 ∧ Cond.instanceMethod q.1 ∈ tables_1
theorem lw_p0 : lw_okq (⟨"SoapNames", "error", "(I)I"⟩, 10) := ⟨⟨by decide +kernel, by decide +kernel⟩, List.mem_of_getElem? (i := 14) (by decide +kernel), List.mem_of_getElem? (i := 267) (by decide +kernel), List.mem_of_getElem? (i := 268) (by decide +kernel)⟩
theorem lw_p1 : lw_okq (⟨"SoapNames$World", "houseAt", "(I)LSoapNames$House;"⟩, 14) := ⟨⟨by decide +kernel, by decide +kernel⟩, List.mem_of_getElem? (i := 22) (by decide +kernel), List.mem_of_getElem? (i := 278) (by decide +kernel), List.mem_of_getElem? (i := 279) (by decide +kernel)⟩
theorem lw_p2 : lw_okq (⟨"SoapNames", "isHouse", "(I)Z"⟩, 10) := ⟨⟨by decide +kernel, by decide +kernel⟩, List.mem_of_getElem? (i := 14) (by decide +kernel), List.mem_of_getElem? (i := 286) (by decide +kernel), List.mem_of_getElem? (i := 287) (by decide +kernel)⟩
theorem lw_p3 : lw_okq (⟨"SoapNames$World", "cakesIn", "(I)I"⟩, 14) := ⟨⟨by decide +kernel, by decide +kernel⟩, List.mem_of_getElem? (i := 22) (by decide +kernel), List.mem_of_getElem? (i := 290) (by decide +kernel), List.mem_of_getElem? (i := 291) (by decide +kernel)⟩
theorem lw_p4 : lw_okq (⟨"SoapNames$World", "cakeAt", "(I)LSoapNames$Cake;"⟩, 14) := ⟨⟨by decide +kernel, by decide +kernel⟩, List.mem_of_getElem? (i := 22) (by decide +kernel), List.mem_of_getElem? (i := 294) (by decide +kernel), List.mem_of_getElem? (i := 295) (by decide +kernel)⟩
theorem lw_p5 : lw_okq (⟨"SoapNames$World", "guestsIn", "(I)I"⟩, 14) := ⟨⟨by decide +kernel, by decide +kernel⟩, List.mem_of_getElem? (i := 22) (by decide +kernel), List.mem_of_getElem? (i := 298) (by decide +kernel), List.mem_of_getElem? (i := 299) (by decide +kernel)⟩
theorem lw_p6 : lw_okq (⟨"SoapNames$Cake", "shown", "()I"⟩, 7) := ⟨⟨by decide +kernel, by decide +kernel⟩, List.mem_of_getElem? (i := 47) (by decide +kernel), List.mem_of_getElem? (i := 302) (by decide +kernel), List.mem_of_getElem? (i := 303) (by decide +kernel)⟩
theorem lw_p7 : lw_okq (⟨"SoapNames$Cake", "layerOut", "()I"⟩, 7) := ⟨⟨by decide +kernel, by decide +kernel⟩, List.mem_of_getElem? (i := 47) (by decide +kernel), List.mem_of_getElem? (i := 306) (by decide +kernel), List.mem_of_getElem? (i := 307) (by decide +kernel)⟩
theorem lw_p8 : lw_okq (⟨"SoapNames$Cake", "nameOf", "(I)I"⟩, 7) := ⟨⟨by decide +kernel, by decide +kernel⟩, List.mem_of_getElem? (i := 47) (by decide +kernel), List.mem_of_getElem? (i := 310) (by decide +kernel), List.mem_of_getElem? (i := 311) (by decide +kernel)⟩
theorem lw_p9 : lw_okq (⟨"SoapNames$Cake", "unbribed", "(I)I"⟩, 7) := ⟨⟨by decide +kernel, by decide +kernel⟩, List.mem_of_getElem? (i := 47) (by decide +kernel), List.mem_of_getElem? (i := 315) (by decide +kernel), List.mem_of_getElem? (i := 316) (by decide +kernel)⟩
theorem lw_p10 : lw_okq (⟨"SoapNames$Cake", "makeNew", "(III)V"⟩, 7) := ⟨⟨by decide +kernel, by decide +kernel⟩, List.mem_of_getElem? (i := 47) (by decide +kernel), List.mem_of_getElem? (i := 337) (by decide +kernel), List.mem_of_getElem? (i := 338) (by decide +kernel)⟩
theorem lw_p11 : lw_okq (⟨"SoapNames$World", "measureCakes", "()V"⟩, 14) := ⟨⟨by decide +kernel, by decide +kernel⟩, List.mem_of_getElem? (i := 22) (by decide +kernel), List.mem_of_getElem? (i := 341) (by decide +kernel), List.mem_of_getElem? (i := 342) (by decide +kernel)⟩
theorem lw_p12 : lw_okq (⟨"SoapNames$World", "given", "(IIII)I"⟩, 14) := ⟨⟨by decide +kernel, by decide +kernel⟩, List.mem_of_getElem? (i := 22) (by decide +kernel), List.mem_of_getElem? (i := 345) (by decide +kernel), List.mem_of_getElem? (i := 346) (by decide +kernel)⟩
theorem lw_p13 : lw_okq (⟨"SoapNames$Text", "isEmpty", "()Z"⟩, 3) := ⟨⟨by decide +kernel, by decide +kernel⟩, List.mem_of_getElem? (i := 89) (by decide +kernel), List.mem_of_getElem? (i := 349) (by decide +kernel), List.mem_of_getElem? (i := 350) (by decide +kernel)⟩
theorem lw_p14 : lw_okq (⟨"SoapNames$Text", "valueWith", "(III)I"⟩, 3) := ⟨⟨by decide +kernel, by decide +kernel⟩, List.mem_of_getElem? (i := 89) (by decide +kernel), List.mem_of_getElem? (i := 353) (by decide +kernel), List.mem_of_getElem? (i := 354) (by decide +kernel)⟩
theorem lw_p15 : lw_okq (⟨"SoapNames$Cake", "measure", "(I)V"⟩, 7) := ⟨⟨by decide +kernel, by decide +kernel⟩, List.mem_of_getElem? (i := 47) (by decide +kernel), List.mem_of_getElem? (i := 369) (by decide +kernel), List.mem_of_getElem? (i := 370) (by decide +kernel)⟩
def lw_privs_1 : List (MethodName × Nat) := [(⟨"SoapNames", "error", "(I)I"⟩, 10), (⟨"SoapNames$World", "houseAt", "(I)LSoapNames$House;"⟩, 14), (⟨"SoapNames", "isHouse", "(I)Z"⟩, 10), (⟨"SoapNames$World", "cakesIn", "(I)I"⟩, 14), (⟨"SoapNames$World", "cakeAt", "(I)LSoapNames$Cake;"⟩, 14), (⟨"SoapNames$World", "guestsIn", "(I)I"⟩, 14), (⟨"SoapNames$Cake", "shown", "()I"⟩, 7), (⟨"SoapNames$Cake", "layerOut", "()I"⟩, 7), (⟨"SoapNames$Cake", "nameOf", "(I)I"⟩, 7), (⟨"SoapNames$Cake", "unbribed", "(I)I"⟩, 7), (⟨"SoapNames$Cake", "makeNew", "(III)V"⟩, 7), (⟨"SoapNames$World", "measureCakes", "()V"⟩, 14), (⟨"SoapNames$World", "given", "(IIII)I"⟩, 14), (⟨"SoapNames$Text", "isEmpty", "()Z"⟩, 3), (⟨"SoapNames$Text", "valueWith", "(III)I"⟩, 3), (⟨"SoapNames$Cake", "measure", "(I)V"⟩, 7)]
theorem lw_r1 : ∀ q ∈ lw_privs_1, lw_okq q := List.forall_mem_cons.mpr ⟨lw_p0, List.forall_mem_cons.mpr ⟨lw_p1, List.forall_mem_cons.mpr ⟨lw_p2, List.forall_mem_cons.mpr ⟨lw_p3, List.forall_mem_cons.mpr ⟨lw_p4, List.forall_mem_cons.mpr ⟨lw_p5, List.forall_mem_cons.mpr ⟨lw_p6, List.forall_mem_cons.mpr ⟨lw_p7, List.forall_mem_cons.mpr ⟨lw_p8, List.forall_mem_cons.mpr ⟨lw_p9, List.forall_mem_cons.mpr ⟨lw_p10, List.forall_mem_cons.mpr ⟨lw_p11, List.forall_mem_cons.mpr ⟨lw_p12, List.forall_mem_cons.mpr ⟨lw_p13, List.forall_mem_cons.mpr ⟨lw_p14, List.forall_mem_cons.mpr ⟨lw_p15, fun _ h => absurd h List.not_mem_nil⟩⟩⟩⟩⟩⟩⟩⟩⟩⟩⟩⟩⟩⟩⟩⟩
theorem lw_p16 : lw_okq (⟨"SoapNames", "isCake", "(I)Z"⟩, 10) := ⟨⟨by decide +kernel, by decide +kernel⟩, List.mem_of_getElem? (i := 14) (by decide +kernel), List.mem_of_getElem? (i := 378) (by decide +kernel), List.mem_of_getElem? (i := 379) (by decide +kernel)⟩
theorem lw_p17 : lw_okq (⟨"SoapNames$Cake", "isGone", "()Z"⟩, 7) := ⟨⟨by decide +kernel, by decide +kernel⟩, List.mem_of_getElem? (i := 47) (by decide +kernel), List.mem_of_getElem? (i := 383) (by decide +kernel), List.mem_of_getElem? (i := 384) (by decide +kernel)⟩
theorem lw_p18 : lw_okq (⟨"SoapNames$World", "wearOf", "(LSoapNames$Cake;)I"⟩, 14) := ⟨⟨by decide +kernel, by decide +kernel⟩, List.mem_of_getElem? (i := 22) (by decide +kernel), List.mem_of_getElem? (i := 387) (by decide +kernel), List.mem_of_getElem? (i := 388) (by decide +kernel)⟩
theorem lw_p19 : lw_okq (⟨"SoapNames$Cake", "wearWith", "(II)I"⟩, 7) := ⟨⟨by decide +kernel, by decide +kernel⟩, List.mem_of_getElem? (i := 47) (by decide +kernel), List.mem_of_getElem? (i := 392) (by decide +kernel), List.mem_of_getElem? (i := 393) (by decide +kernel)⟩
theorem lw_p20 : lw_okq (⟨"SoapNames$Cake", "addLayer", "(I)V"⟩, 7) := ⟨⟨by decide +kernel, by decide +kernel⟩, List.mem_of_getElem? (i := 47) (by decide +kernel), List.mem_of_getElem? (i := 403) (by decide +kernel), List.mem_of_getElem? (i := 404) (by decide +kernel)⟩
theorem lw_p21 : lw_okq (⟨"SoapNames$Cake", "pressOnto", "(LSoapNames$Cake;)I"⟩, 7) := ⟨⟨by decide +kernel, by decide +kernel⟩, List.mem_of_getElem? (i := 47) (by decide +kernel), List.mem_of_getElem? (i := 421) (by decide +kernel), List.mem_of_getElem? (i := 422) (by decide +kernel)⟩
theorem lw_p22 : lw_okq (⟨"SoapNames$Cake", "isOfKind", "(I)Z"⟩, 7) := ⟨⟨by decide +kernel, by decide +kernel⟩, List.mem_of_getElem? (i := 47) (by decide +kernel), List.mem_of_getElem? (i := 434) (by decide +kernel), List.mem_of_getElem? (i := 435) (by decide +kernel)⟩
theorem lw_p23 : lw_okq (⟨"SoapNames$Reader", "faultOf", "([II[I)I"⟩, 6) := ⟨⟨by decide +kernel, by decide +kernel⟩, List.mem_of_getElem? (i := 157) (by decide +kernel), List.mem_of_getElem? (i := 452) (by decide +kernel), List.mem_of_getElem? (i := 453) (by decide +kernel)⟩
theorem lw_p24 : lw_okq (⟨"SoapNames$Reader", "readChain", "(II)V"⟩, 6) := ⟨⟨by decide +kernel, by decide +kernel⟩, List.mem_of_getElem? (i := 157) (by decide +kernel), List.mem_of_getElem? (i := 465) (by decide +kernel), List.mem_of_getElem? (i := 466) (by decide +kernel)⟩
theorem lw_p25 : lw_okq (⟨"SoapNames$Reader", "readOne", "(I)V"⟩, 6) := ⟨⟨by decide +kernel, by decide +kernel⟩, List.mem_of_getElem? (i := 157) (by decide +kernel), List.mem_of_getElem? (i := 469) (by decide +kernel), List.mem_of_getElem? (i := 470) (by decide +kernel)⟩
theorem lw_p26 : lw_okq (⟨"SoapNames$Reader", "next", "()I"⟩, 6) := ⟨⟨by decide +kernel, by decide +kernel⟩, List.mem_of_getElem? (i := 157) (by decide +kernel), List.mem_of_getElem? (i := 473) (by decide +kernel), List.mem_of_getElem? (i := 474) (by decide +kernel)⟩
theorem lw_p27 : lw_okq (⟨"SoapNames$Reader", "readNumber", "()V"⟩, 6) := ⟨⟨by decide +kernel, by decide +kernel⟩, List.mem_of_getElem? (i := 157) (by decide +kernel), List.mem_of_getElem? (i := 479) (by decide +kernel), List.mem_of_getElem? (i := 480) (by decide +kernel)⟩
theorem lw_p28 : lw_okq (⟨"SoapNames$Text", "add", "(I)V"⟩, 3) := ⟨⟨by decide +kernel, by decide +kernel⟩, List.mem_of_getElem? (i := 89) (by decide +kernel), List.mem_of_getElem? (i := 483) (by decide +kernel), List.mem_of_getElem? (i := 484) (by decide +kernel)⟩
theorem lw_p29 : lw_okq (⟨"SoapNames$Reader", "readOpened", "(II)V"⟩, 6) := ⟨⟨by decide +kernel, by decide +kernel⟩, List.mem_of_getElem? (i := 157) (by decide +kernel), List.mem_of_getElem? (i := 487) (by decide +kernel), List.mem_of_getElem? (i := 488) (by decide +kernel)⟩
theorem lw_p30 : lw_okq (⟨"SoapNames$Reader", "failHere", "()V"⟩, 6) := ⟨⟨by decide +kernel, by decide +kernel⟩, List.mem_of_getElem? (i := 157) (by decide +kernel), List.mem_of_getElem? (i := 491) (by decide +kernel), List.mem_of_getElem? (i := 492) (by decide +kernel)⟩
theorem lw_p31 : lw_okq (⟨"SoapNames$Reader", "readName", "(I)V"⟩, 6) := ⟨⟨by decide +kernel, by decide +kernel⟩, List.mem_of_getElem? (i := 157) (by decide +kernel), List.mem_of_getElem? (i := 495) (by decide +kernel), List.mem_of_getElem? (i := 496) (by decide +kernel)⟩
def lw_privs_2 : List (MethodName × Nat) := [(⟨"SoapNames", "isCake", "(I)Z"⟩, 10), (⟨"SoapNames$Cake", "isGone", "()Z"⟩, 7), (⟨"SoapNames$World", "wearOf", "(LSoapNames$Cake;)I"⟩, 14), (⟨"SoapNames$Cake", "wearWith", "(II)I"⟩, 7), (⟨"SoapNames$Cake", "addLayer", "(I)V"⟩, 7), (⟨"SoapNames$Cake", "pressOnto", "(LSoapNames$Cake;)I"⟩, 7), (⟨"SoapNames$Cake", "isOfKind", "(I)Z"⟩, 7), (⟨"SoapNames$Reader", "faultOf", "([II[I)I"⟩, 6), (⟨"SoapNames$Reader", "readChain", "(II)V"⟩, 6), (⟨"SoapNames$Reader", "readOne", "(I)V"⟩, 6), (⟨"SoapNames$Reader", "next", "()I"⟩, 6), (⟨"SoapNames$Reader", "readNumber", "()V"⟩, 6), (⟨"SoapNames$Text", "add", "(I)V"⟩, 3), (⟨"SoapNames$Reader", "readOpened", "(II)V"⟩, 6), (⟨"SoapNames$Reader", "failHere", "()V"⟩, 6), (⟨"SoapNames$Reader", "readName", "(I)V"⟩, 6)]
theorem lw_r2 : ∀ q ∈ lw_privs_2, lw_okq q := List.forall_mem_cons.mpr ⟨lw_p16, List.forall_mem_cons.mpr ⟨lw_p17, List.forall_mem_cons.mpr ⟨lw_p18, List.forall_mem_cons.mpr ⟨lw_p19, List.forall_mem_cons.mpr ⟨lw_p20, List.forall_mem_cons.mpr ⟨lw_p21, List.forall_mem_cons.mpr ⟨lw_p22, List.forall_mem_cons.mpr ⟨lw_p23, List.forall_mem_cons.mpr ⟨lw_p24, List.forall_mem_cons.mpr ⟨lw_p25, List.forall_mem_cons.mpr ⟨lw_p26, List.forall_mem_cons.mpr ⟨lw_p27, List.forall_mem_cons.mpr ⟨lw_p28, List.forall_mem_cons.mpr ⟨lw_p29, List.forall_mem_cons.mpr ⟨lw_p30, List.forall_mem_cons.mpr ⟨lw_p31, fun _ h => absurd h List.not_mem_nil⟩⟩⟩⟩⟩⟩⟩⟩⟩⟩⟩⟩⟩⟩⟩⟩
theorem lw_p32 : lw_okq (⟨"SoapNames$World", "textOf", "(I)LSoapNames$Text;"⟩, 14) := ⟨⟨by decide +kernel, by decide +kernel⟩, List.mem_of_getElem? (i := 22) (by decide +kernel), List.mem_of_getElem? (i := 502) (by decide +kernel), List.mem_of_getElem? (i := 503) (by decide +kernel)⟩
theorem lw_p33 : lw_okq (⟨"SoapNames$Text", "copyFrom", "(LSoapNames$Text;)V"⟩, 3) := ⟨⟨by decide +kernel, by decide +kernel⟩, List.mem_of_getElem? (i := 89) (by decide +kernel), List.mem_of_getElem? (i := 506) (by decide +kernel), List.mem_of_getElem? (i := 507) (by decide +kernel)⟩
theorem lw_p34 : lw_okq (⟨"SoapNames$World", "passDays", "(I)V"⟩, 14) := ⟨⟨by decide +kernel, by decide +kernel⟩, List.mem_of_getElem? (i := 22) (by decide +kernel), List.mem_of_getElem? (i := 520) (by decide +kernel), List.mem_of_getElem? (i := 521) (by decide +kernel)⟩
theorem lw_p35 : lw_okq (⟨"SoapNames$World", "passDay", "()V"⟩, 14) := ⟨⟨by decide +kernel, by decide +kernel⟩, List.mem_of_getElem? (i := 22) (by decide +kernel), List.mem_of_getElem? (i := 524) (by decide +kernel), List.mem_of_getElem? (i := 525) (by decide +kernel)⟩
theorem lw_p36 : lw_okq (⟨"SoapNames$Cake", "wearBy", "(I)V"⟩, 7) := ⟨⟨by decide +kernel, by decide +kernel⟩, List.mem_of_getElem? (i := 47) (by decide +kernel), List.mem_of_getElem? (i := 530) (by decide +kernel), List.mem_of_getElem? (i := 531) (by decide +kernel)⟩
theorem lw_p37 : lw_okq (⟨"SoapNames$World", "goneCakes", "()I"⟩, 14) := ⟨⟨by decide +kernel, by decide +kernel⟩, List.mem_of_getElem? (i := 22) (by decide +kernel), List.mem_of_getElem? (i := 535) (by decide +kernel), List.mem_of_getElem? (i := 536) (by decide +kernel)⟩
theorem lw_p38 : lw_okq (⟨"SoapNames$World", "drawHands", "()V"⟩, 14) := ⟨⟨by decide +kernel, by decide +kernel⟩, List.mem_of_getElem? (i := 22) (by decide +kernel), List.mem_of_getElem? (i := 543) (by decide +kernel), List.mem_of_getElem? (i := 544) (by decide +kernel)⟩
theorem lw_p39 : lw_okq (⟨"SoapNames$World", "draw", "()I"⟩, 14) := ⟨⟨by decide +kernel, by decide +kernel⟩, List.mem_of_getElem? (i := 22) (by decide +kernel), List.mem_of_getElem? (i := 547) (by decide +kernel), List.mem_of_getElem? (i := 548) (by decide +kernel)⟩
theorem lw_p40 : lw_okq (⟨"SoapNames$World", "housesOf", "(I)I"⟩, 14) := ⟨⟨by decide +kernel, by decide +kernel⟩, List.mem_of_getElem? (i := 22) (by decide +kernel), List.mem_of_getElem? (i := 560) (by decide +kernel), List.mem_of_getElem? (i := 561) (by decide +kernel)⟩
theorem lw_p41 : lw_okq (⟨"SoapNames$World", "isIn", "(II)Z"⟩, 14) := ⟨⟨by decide +kernel, by decide +kernel⟩, List.mem_of_getElem? (i := 22) (by decide +kernel), List.mem_of_getElem? (i := 564) (by decide +kernel), List.mem_of_getElem? (i := 565) (by decide +kernel)⟩
theorem lw_p42 : lw_okq (⟨"SoapNames$World", "dueTwice", "()I"⟩, 14) := ⟨⟨by decide +kernel, by decide +kernel⟩, List.mem_of_getElem? (i := 22) (by decide +kernel), List.mem_of_getElem? (i := 573) (by decide +kernel), List.mem_of_getElem? (i := 574) (by decide +kernel)⟩
theorem lw_p43 : lw_okq (⟨"SoapNames$World", "copyFrom", "(LSoapNames$World;)V"⟩, 14) := ⟨⟨by decide +kernel, by decide +kernel⟩, List.mem_of_getElem? (i := 22) (by decide +kernel), List.mem_of_getElem? (i := 581) (by decide +kernel), List.mem_of_getElem? (i := 582) (by decide +kernel)⟩
theorem lw_p44 : lw_okq (⟨"SoapNames$House", "copyFrom", "(LSoapNames$House;)V"⟩, 2) := ⟨⟨by decide +kernel, by decide +kernel⟩, List.mem_of_getElem? (i := 31) (by decide +kernel), List.mem_of_getElem? (i := 585) (by decide +kernel), List.mem_of_getElem? (i := 586) (by decide +kernel)⟩
theorem lw_p45 : lw_okq (⟨"SoapNames$Cake", "copyFrom", "(LSoapNames$Cake;)V"⟩, 7) := ⟨⟨by decide +kernel, by decide +kernel⟩, List.mem_of_getElem? (i := 47) (by decide +kernel), List.mem_of_getElem? (i := 589) (by decide +kernel), List.mem_of_getElem? (i := 590) (by decide +kernel)⟩
theorem lw_p46 : lw_okq (⟨"SoapNames$World", "firstDayIn", "(III)I"⟩, 14) := ⟨⟨by decide +kernel, by decide +kernel⟩, List.mem_of_getElem? (i := 22) (by decide +kernel), List.mem_of_getElem? (i := 600) (by decide +kernel), List.mem_of_getElem? (i := 601) (by decide +kernel)⟩
theorem lw_p47 : lw_okq (⟨"SoapNames", "staysAway", "(III)Z"⟩, 10) := ⟨⟨by decide +kernel, by decide +kernel⟩, List.mem_of_getElem? (i := 14) (by decide +kernel), List.mem_of_getElem? (i := 622) (by decide +kernel), List.mem_of_getElem? (i := 623) (by decide +kernel)⟩
def lw_privs_3 : List (MethodName × Nat) := [(⟨"SoapNames$World", "textOf", "(I)LSoapNames$Text;"⟩, 14), (⟨"SoapNames$Text", "copyFrom", "(LSoapNames$Text;)V"⟩, 3), (⟨"SoapNames$World", "passDays", "(I)V"⟩, 14), (⟨"SoapNames$World", "passDay", "()V"⟩, 14), (⟨"SoapNames$Cake", "wearBy", "(I)V"⟩, 7), (⟨"SoapNames$World", "goneCakes", "()I"⟩, 14), (⟨"SoapNames$World", "drawHands", "()V"⟩, 14), (⟨"SoapNames$World", "draw", "()I"⟩, 14), (⟨"SoapNames$World", "housesOf", "(I)I"⟩, 14), (⟨"SoapNames$World", "isIn", "(II)Z"⟩, 14), (⟨"SoapNames$World", "dueTwice", "()I"⟩, 14), (⟨"SoapNames$World", "copyFrom", "(LSoapNames$World;)V"⟩, 14), (⟨"SoapNames$House", "copyFrom", "(LSoapNames$House;)V"⟩, 2), (⟨"SoapNames$Cake", "copyFrom", "(LSoapNames$Cake;)V"⟩, 7), (⟨"SoapNames$World", "firstDayIn", "(III)I"⟩, 14), (⟨"SoapNames", "staysAway", "(III)Z"⟩, 10)]
theorem lw_r3 : ∀ q ∈ lw_privs_3, lw_okq q := List.forall_mem_cons.mpr ⟨lw_p32, List.forall_mem_cons.mpr ⟨lw_p33, List.forall_mem_cons.mpr ⟨lw_p34, List.forall_mem_cons.mpr ⟨lw_p35, List.forall_mem_cons.mpr ⟨lw_p36, List.forall_mem_cons.mpr ⟨lw_p37, List.forall_mem_cons.mpr ⟨lw_p38, List.forall_mem_cons.mpr ⟨lw_p39, List.forall_mem_cons.mpr ⟨lw_p40, List.forall_mem_cons.mpr ⟨lw_p41, List.forall_mem_cons.mpr ⟨lw_p42, List.forall_mem_cons.mpr ⟨lw_p43, List.forall_mem_cons.mpr ⟨lw_p44, List.forall_mem_cons.mpr ⟨lw_p45, List.forall_mem_cons.mpr ⟨lw_p46, List.forall_mem_cons.mpr ⟨lw_p47, fun _ h => absurd h List.not_mem_nil⟩⟩⟩⟩⟩⟩⟩⟩⟩⟩⟩⟩⟩⟩⟩⟩
theorem lw_p48 : lw_okq (⟨"SoapNames$World", "stillHands", "(I)V"⟩, 14) := ⟨⟨by decide +kernel, by decide +kernel⟩, List.mem_of_getElem? (i := 22) (by decide +kernel), List.mem_of_getElem? (i := 626) (by decide +kernel), List.mem_of_getElem? (i := 627) (by decide +kernel)⟩
theorem lw_p49 : lw_okq (⟨"SoapNames$World", "cakesShowing", "(I)I"⟩, 14) := ⟨⟨by decide +kernel, by decide +kernel⟩, List.mem_of_getElem? (i := 22) (by decide +kernel), List.mem_of_getElem? (i := 630) (by decide +kernel), List.mem_of_getElem? (i := 631) (by decide +kernel)⟩
theorem lw_p50 : lw_okq (⟨"SoapNames", "sheetAt", "(I)LSoapNames$Sheet;"⟩, 10) := ⟨⟨by decide +kernel, by decide +kernel⟩, List.mem_of_getElem? (i := 14) (by decide +kernel), List.mem_of_getElem? (i := 645) (by decide +kernel), List.mem_of_getElem? (i := 646) (by decide +kernel)⟩
theorem lw_p51 : lw_okq (⟨"SoapNames$Sheet", "isMissing", "()Z"⟩, 3) := ⟨⟨by decide +kernel, by decide +kernel⟩, List.mem_of_getElem? (i := 210) (by decide +kernel), List.mem_of_getElem? (i := 649) (by decide +kernel), List.mem_of_getElem? (i := 650) (by decide +kernel)⟩
theorem lw_p52 : lw_okq (⟨"SoapNames$Sheet", "numberAt", "(I)I"⟩, 3) := ⟨⟨by decide +kernel, by decide +kernel⟩, List.mem_of_getElem? (i := 210) (by decide +kernel), List.mem_of_getElem? (i := 653) (by decide +kernel), List.mem_of_getElem? (i := 654) (by decide +kernel)⟩
theorem lw_p53 : lw_okq (⟨"SoapNames$World", "wearOfDays", "(LSoapNames$Cake;I)I"⟩, 14) := ⟨⟨by decide +kernel, by decide +kernel⟩, List.mem_of_getElem? (i := 22) (by decide +kernel), List.mem_of_getElem? (i := 662) (by decide +kernel), List.mem_of_getElem? (i := 663) (by decide +kernel)⟩
theorem lw_p54 : lw_okq (⟨"SoapNames$Cake", "wouldShow", "(II)Z"⟩, 7) := ⟨⟨by decide +kernel, by decide +kernel⟩, List.mem_of_getElem? (i := 47) (by decide +kernel), List.mem_of_getElem? (i := 666) (by decide +kernel), List.mem_of_getElem? (i := 667) (by decide +kernel)⟩
theorem lw_p55 : lw_okq (⟨"SoapNames", "lendFrom", "(III)Z"⟩, 10) := ⟨⟨by decide +kernel, by decide +kernel⟩, List.mem_of_getElem? (i := 14) (by decide +kernel), List.mem_of_getElem? (i := 675) (by decide +kernel), List.mem_of_getElem? (i := 676) (by decide +kernel)⟩
theorem lw_p56 : lw_okq (⟨"SoapNames$Voice", "speak", "(ILSoapNames$Cake;II)I"⟩, 5) := ⟨⟨by decide +kernel, by decide +kernel⟩, List.mem_of_getElem? (i := 185) (by decide +kernel), List.mem_of_getElem? (i := 696) (by decide +kernel), List.mem_of_getElem? (i := 697) (by decide +kernel)⟩
theorem lw_p57 : lw_okq (⟨"SoapNames$Voice", "said", "(IIII)I"⟩, 5) := ⟨⟨by decide +kernel, by decide +kernel⟩, List.mem_of_getElem? (i := 185) (by decide +kernel), List.mem_of_getElem? (i := 700) (by decide +kernel), List.mem_of_getElem? (i := 701) (by decide +kernel)⟩
theorem lw_p58 : lw_okq (⟨"SoapNames$Voice", "begin", "(I)V"⟩, 5) := ⟨⟨by decide +kernel, by decide +kernel⟩, List.mem_of_getElem? (i := 185) (by decide +kernel), List.mem_of_getElem? (i := 711) (by decide +kernel), List.mem_of_getElem? (i := 712) (by decide +kernel)⟩
theorem lw_p59 : lw_okq (⟨"SoapNames$Sheet", "makeNew", "(II)V"⟩, 3) := ⟨⟨by decide +kernel, by decide +kernel⟩, List.mem_of_getElem? (i := 210) (by decide +kernel), List.mem_of_getElem? (i := 724) (by decide +kernel), List.mem_of_getElem? (i := 725) (by decide +kernel)⟩
theorem lw_p60 : lw_okq (⟨"SoapNames$Sheet", "setNumber", "(II)V"⟩, 3) := ⟨⟨by decide +kernel, by decide +kernel⟩, List.mem_of_getElem? (i := 210) (by decide +kernel), List.mem_of_getElem? (i := 733) (by decide +kernel), List.mem_of_getElem? (i := 734) (by decide +kernel)⟩
theorem lw_p61 : lw_okq (⟨"SoapNames$Sheet", "hasPart", "(II)Z"⟩, 3) := ⟨⟨by decide +kernel, by decide +kernel⟩, List.mem_of_getElem? (i := 210) (by decide +kernel), List.mem_of_getElem? (i := 741) (by decide +kernel), List.mem_of_getElem? (i := 742) (by decide +kernel)⟩
theorem lw_p62 : lw_okq (⟨"SoapNames$World", "allHands", "()I"⟩, 14) := ⟨⟨by decide +kernel, by decide +kernel⟩, List.mem_of_getElem? (i := 22) (by decide +kernel), List.mem_of_getElem? (i := 773) (by decide +kernel), List.mem_of_getElem? (i := 774) (by decide +kernel)⟩
theorem lw_p63 : lw_okq (⟨"SoapNames$World", "allWorn", "()I"⟩, 14) := ⟨⟨by decide +kernel, by decide +kernel⟩, List.mem_of_getElem? (i := 22) (by decide +kernel), List.mem_of_getElem? (i := 777) (by decide +kernel), List.mem_of_getElem? (i := 778) (by decide +kernel)⟩
def lw_privs_4 : List (MethodName × Nat) := [(⟨"SoapNames$World", "stillHands", "(I)V"⟩, 14), (⟨"SoapNames$World", "cakesShowing", "(I)I"⟩, 14), (⟨"SoapNames", "sheetAt", "(I)LSoapNames$Sheet;"⟩, 10), (⟨"SoapNames$Sheet", "isMissing", "()Z"⟩, 3), (⟨"SoapNames$Sheet", "numberAt", "(I)I"⟩, 3), (⟨"SoapNames$World", "wearOfDays", "(LSoapNames$Cake;I)I"⟩, 14), (⟨"SoapNames$Cake", "wouldShow", "(II)Z"⟩, 7), (⟨"SoapNames", "lendFrom", "(III)Z"⟩, 10), (⟨"SoapNames$Voice", "speak", "(ILSoapNames$Cake;II)I"⟩, 5), (⟨"SoapNames$Voice", "said", "(IIII)I"⟩, 5), (⟨"SoapNames$Voice", "begin", "(I)V"⟩, 5), (⟨"SoapNames$Sheet", "makeNew", "(II)V"⟩, 3), (⟨"SoapNames$Sheet", "setNumber", "(II)V"⟩, 3), (⟨"SoapNames$Sheet", "hasPart", "(II)Z"⟩, 3), (⟨"SoapNames$World", "allHands", "()I"⟩, 14), (⟨"SoapNames$World", "allWorn", "()I"⟩, 14)]
theorem lw_r4 : ∀ q ∈ lw_privs_4, lw_okq q := List.forall_mem_cons.mpr ⟨lw_p48, List.forall_mem_cons.mpr ⟨lw_p49, List.forall_mem_cons.mpr ⟨lw_p50, List.forall_mem_cons.mpr ⟨lw_p51, List.forall_mem_cons.mpr ⟨lw_p52, List.forall_mem_cons.mpr ⟨lw_p53, List.forall_mem_cons.mpr ⟨lw_p54, List.forall_mem_cons.mpr ⟨lw_p55, List.forall_mem_cons.mpr ⟨lw_p56, List.forall_mem_cons.mpr ⟨lw_p57, List.forall_mem_cons.mpr ⟨lw_p58, List.forall_mem_cons.mpr ⟨lw_p59, List.forall_mem_cons.mpr ⟨lw_p60, List.forall_mem_cons.mpr ⟨lw_p61, List.forall_mem_cons.mpr ⟨lw_p62, List.forall_mem_cons.mpr ⟨lw_p63, fun _ h => absurd h List.not_mem_nil⟩⟩⟩⟩⟩⟩⟩⟩⟩⟩⟩⟩⟩⟩⟩⟩
theorem lw_p64 : lw_okq (⟨"SoapNamesModel", "errs", "(I)I"⟩, 25) := ⟨⟨by decide +kernel, by decide +kernel⟩, List.mem_of_getElem? (i := 785) (by decide +kernel), List.mem_of_getElem? (i := 875) (by decide +kernel), List.mem_of_getElem? (i := 876) (by decide +kernel)⟩
theorem lw_p65 : lw_okq (⟨"SoapNamesModel", "isHouse", "(I)Z"⟩, 25) := ⟨⟨by decide +kernel, by decide +kernel⟩, List.mem_of_getElem? (i := 785) (by decide +kernel), List.mem_of_getElem? (i := 885) (by decide +kernel), List.mem_of_getElem? (i := 886) (by decide +kernel)⟩
theorem lw_p66 : lw_okq (⟨"SoapNamesModel", "cakesIn", "(I)I"⟩, 25) := ⟨⟨by decide +kernel, by decide +kernel⟩, List.mem_of_getElem? (i := 785) (by decide +kernel), List.mem_of_getElem? (i := 889) (by decide +kernel), List.mem_of_getElem? (i := 890) (by decide +kernel)⟩
theorem lw_p67 : lw_okq (⟨"SoapNamesModel", "its", "(II)I"⟩, 25) := ⟨⟨by decide +kernel, by decide +kernel⟩, List.mem_of_getElem? (i := 785) (by decide +kernel), List.mem_of_getElem? (i := 893) (by decide +kernel), List.mem_of_getElem? (i := 894) (by decide +kernel)⟩
theorem lw_p68 : lw_okq (⟨"SoapNamesModel", "guestsIn", "(I)I"⟩, 25) := ⟨⟨by decide +kernel, by decide +kernel⟩, List.mem_of_getElem? (i := 785) (by decide +kernel), List.mem_of_getElem? (i := 897) (by decide +kernel), List.mem_of_getElem? (i := 898) (by decide +kernel)⟩
theorem lw_p69 : lw_okq (⟨"SoapNamesModel", "shows", "(I)I"⟩, 25) := ⟨⟨by decide +kernel, by decide +kernel⟩, List.mem_of_getElem? (i := 785) (by decide +kernel), List.mem_of_getElem? (i := 901) (by decide +kernel), List.mem_of_getElem? (i := 902) (by decide +kernel)⟩
theorem lw_p70 : lw_okq (⟨"SoapNamesModel", "out", "(I)I"⟩, 25) := ⟨⟨by decide +kernel, by decide +kernel⟩, List.mem_of_getElem? (i := 785) (by decide +kernel), List.mem_of_getElem? (i := 905) (by decide +kernel), List.mem_of_getElem? (i := 906) (by decide +kernel)⟩
theorem lw_p71 : lw_okq (⟨"SoapNamesModel", "thick", "(I)I"⟩, 25) := ⟨⟨by decide +kernel, by decide +kernel⟩, List.mem_of_getElem? (i := 785) (by decide +kernel), List.mem_of_getElem? (i := 909) (by decide +kernel), List.mem_of_getElem? (i := 910) (by decide +kernel)⟩
theorem lw_p72 : lw_okq (⟨"SoapNamesModel", "lawOf", "(IIII)I"⟩, 25) := ⟨⟨by decide +kernel, by decide +kernel⟩, List.mem_of_getElem? (i := 785) (by decide +kernel), List.mem_of_getElem? (i := 913) (by decide +kernel), List.mem_of_getElem? (i := 914) (by decide +kernel)⟩
theorem lw_p73 : lw_okq (⟨"SoapNamesModel", "walks", "(IIII)I"⟩, 25) := ⟨⟨by decide +kernel, by decide +kernel⟩, List.mem_of_getElem? (i := 785) (by decide +kernel), List.mem_of_getElem? (i := 917) (by decide +kernel), List.mem_of_getElem? (i := 918) (by decide +kernel)⟩
theorem lw_p74 : lw_okq (⟨"SoapNamesModel", "whole", "()I"⟩, 25) := ⟨⟨by decide +kernel, by decide +kernel⟩, List.mem_of_getElem? (i := 785) (by decide +kernel), List.mem_of_getElem? (i := 921) (by decide +kernel), List.mem_of_getElem? (i := 922) (by decide +kernel)⟩
theorem lw_p75 : lw_okq (⟨"SoapNamesModel", "both", "()I"⟩, 25) := ⟨⟨by decide +kernel, by decide +kernel⟩, List.mem_of_getElem? (i := 785) (by decide +kernel), List.mem_of_getElem? (i := 925) (by decide +kernel), List.mem_of_getElem? (i := 926) (by decide +kernel)⟩
theorem lw_p76 : lw_okq (⟨"SoapNamesModel", "compared", "()I"⟩, 25) := ⟨⟨by decide +kernel, by decide +kernel⟩, List.mem_of_getElem? (i := 785) (by decide +kernel), List.mem_of_getElem? (i := 929) (by decide +kernel), List.mem_of_getElem? (i := 930) (by decide +kernel)⟩
theorem lw_p77 : lw_okq (⟨"SoapNamesModel", "sum", "()I"⟩, 25) := ⟨⟨by decide +kernel, by decide +kernel⟩, List.mem_of_getElem? (i := 785) (by decide +kernel), List.mem_of_getElem? (i := 933) (by decide +kernel), List.mem_of_getElem? (i := 934) (by decide +kernel)⟩
theorem lw_p78 : lw_okq (⟨"SoapNamesModel", "product", "()I"⟩, 25) := ⟨⟨by decide +kernel, by decide +kernel⟩, List.mem_of_getElem? (i := 785) (by decide +kernel), List.mem_of_getElem? (i := 937) (by decide +kernel), List.mem_of_getElem? (i := 938) (by decide +kernel)⟩
theorem lw_p79 : lw_okq (⟨"SoapNamesModel", "factor", "()I"⟩, 25) := ⟨⟨by decide +kernel, by decide +kernel⟩, List.mem_of_getElem? (i := 785) (by decide +kernel), List.mem_of_getElem? (i := 941) (by decide +kernel), List.mem_of_getElem? (i := 942) (by decide +kernel)⟩
def lw_privs_5 : List (MethodName × Nat) := [(⟨"SoapNamesModel", "errs", "(I)I"⟩, 25), (⟨"SoapNamesModel", "isHouse", "(I)Z"⟩, 25), (⟨"SoapNamesModel", "cakesIn", "(I)I"⟩, 25), (⟨"SoapNamesModel", "its", "(II)I"⟩, 25), (⟨"SoapNamesModel", "guestsIn", "(I)I"⟩, 25), (⟨"SoapNamesModel", "shows", "(I)I"⟩, 25), (⟨"SoapNamesModel", "out", "(I)I"⟩, 25), (⟨"SoapNamesModel", "thick", "(I)I"⟩, 25), (⟨"SoapNamesModel", "lawOf", "(IIII)I"⟩, 25), (⟨"SoapNamesModel", "walks", "(IIII)I"⟩, 25), (⟨"SoapNamesModel", "whole", "()I"⟩, 25), (⟨"SoapNamesModel", "both", "()I"⟩, 25), (⟨"SoapNamesModel", "compared", "()I"⟩, 25), (⟨"SoapNamesModel", "sum", "()I"⟩, 25), (⟨"SoapNamesModel", "product", "()I"⟩, 25), (⟨"SoapNamesModel", "factor", "()I"⟩, 25)]
theorem lw_r5 : ∀ q ∈ lw_privs_5, lw_okq q := List.forall_mem_cons.mpr ⟨lw_p64, List.forall_mem_cons.mpr ⟨lw_p65, List.forall_mem_cons.mpr ⟨lw_p66, List.forall_mem_cons.mpr ⟨lw_p67, List.forall_mem_cons.mpr ⟨lw_p68, List.forall_mem_cons.mpr ⟨lw_p69, List.forall_mem_cons.mpr ⟨lw_p70, List.forall_mem_cons.mpr ⟨lw_p71, List.forall_mem_cons.mpr ⟨lw_p72, List.forall_mem_cons.mpr ⟨lw_p73, List.forall_mem_cons.mpr ⟨lw_p74, List.forall_mem_cons.mpr ⟨lw_p75, List.forall_mem_cons.mpr ⟨lw_p76, List.forall_mem_cons.mpr ⟨lw_p77, List.forall_mem_cons.mpr ⟨lw_p78, List.forall_mem_cons.mpr ⟨lw_p79, fun _ h => absurd h List.not_mem_nil⟩⟩⟩⟩⟩⟩⟩⟩⟩⟩⟩⟩⟩⟩⟩⟩
theorem lw_p80 : lw_okq (⟨"SoapNamesModel", "byteAt", "(I)I"⟩, 25) := ⟨⟨by decide +kernel, by decide +kernel⟩, List.mem_of_getElem? (i := 785) (by decide +kernel), List.mem_of_getElem? (i := 945) (by decide +kernel), List.mem_of_getElem? (i := 946) (by decide +kernel)⟩
theorem lw_p81 : lw_okq (⟨"SoapNamesModel", "number", "()I"⟩, 25) := ⟨⟨by decide +kernel, by decide +kernel⟩, List.mem_of_getElem? (i := 785) (by decide +kernel), List.mem_of_getElem? (i := 952) (by decide +kernel), List.mem_of_getElem? (i := 953) (by decide +kernel)⟩
theorem lw_p82 : lw_okq (⟨"SoapNamesModel", "named", "(I)I"⟩, 25) := ⟨⟨by decide +kernel, by decide +kernel⟩, List.mem_of_getElem? (i := 785) (by decide +kernel), List.mem_of_getElem? (i := 956) (by decide +kernel), List.mem_of_getElem? (i := 957) (by decide +kernel)⟩
theorem lw_p83 : lw_okq (⟨"SoapNamesModel", "fails", "()I"⟩, 25) := ⟨⟨by decide +kernel, by decide +kernel⟩, List.mem_of_getElem? (i := 785) (by decide +kernel), List.mem_of_getElem? (i := 960) (by decide +kernel), List.mem_of_getElem? (i := 961) (by decide +kernel)⟩
theorem lw_p84 : lw_okq (⟨"SoapNamesModel", "becomes", "(II)I"⟩, 25) := ⟨⟨by decide +kernel, by decide +kernel⟩, List.mem_of_getElem? (i := 785) (by decide +kernel), List.mem_of_getElem? (i := 971) (by decide +kernel), List.mem_of_getElem? (i := 972) (by decide +kernel)⟩
theorem lw_p85 : lw_okq (⟨"SoapNamesModel", "gets", "(III)V"⟩, 25) := ⟨⟨by decide +kernel, by decide +kernel⟩, List.mem_of_getElem? (i := 785) (by decide +kernel), List.mem_of_getElem? (i := 979) (by decide +kernel), List.mem_of_getElem? (i := 980) (by decide +kernel)⟩
theorem lw_p86 : lw_okq (⟨"SoapNamesModel", "isCake", "(I)Z"⟩, 25) := ⟨⟨by decide +kernel, by decide +kernel⟩, List.mem_of_getElem? (i := 785) (by decide +kernel), List.mem_of_getElem? (i := 987) (by decide +kernel), List.mem_of_getElem? (i := 988) (by decide +kernel)⟩
theorem lw_p87 : lw_okq (⟨"SoapNamesModel", "isGone", "(I)Z"⟩, 25) := ⟨⟨by decide +kernel, by decide +kernel⟩, List.mem_of_getElem? (i := 785) (by decide +kernel), List.mem_of_getElem? (i := 991) (by decide +kernel), List.mem_of_getElem? (i := 992) (by decide +kernel)⟩
theorem lw_p88 : lw_okq (⟨"SoapNamesModel", "wearsBy", "(I)I"⟩, 25) := ⟨⟨by decide +kernel, by decide +kernel⟩, List.mem_of_getElem? (i := 785) (by decide +kernel), List.mem_of_getElem? (i := 995) (by decide +kernel), List.mem_of_getElem? (i := 996) (by decide +kernel)⟩
theorem lw_p89 : lw_okq (⟨"SoapNamesModel", "moveAll", "([I[I)V"⟩, 25) := ⟨⟨by decide +kernel, by decide +kernel⟩, List.mem_of_getElem? (i := 785) (by decide +kernel), List.mem_of_getElem? (i := 1041) (by decide +kernel), List.mem_of_getElem? (i := 1042) (by decide +kernel)⟩
theorem lw_p90 : lw_okq (⟨"SoapNamesModel", "passes", "(I)V"⟩, 25) := ⟨⟨by decide +kernel, by decide +kernel⟩, List.mem_of_getElem? (i := 785) (by decide +kernel), List.mem_of_getElem? (i := 1049) (by decide +kernel), List.mem_of_getElem? (i := 1050) (by decide +kernel)⟩
theorem lw_p91 : lw_okq (⟨"SoapNamesModel", "oneDay", "()V"⟩, 25) := ⟨⟨by decide +kernel, by decide +kernel⟩, List.mem_of_getElem? (i := 785) (by decide +kernel), List.mem_of_getElem? (i := 1053) (by decide +kernel), List.mem_of_getElem? (i := 1054) (by decide +kernel)⟩
theorem lw_p92 : lw_okq (⟨"SoapNamesModel", "gone", "()I"⟩, 25) := ⟨⟨by decide +kernel, by decide +kernel⟩, List.mem_of_getElem? (i := 785) (by decide +kernel), List.mem_of_getElem? (i := 1057) (by decide +kernel), List.mem_of_getElem? (i := 1058) (by decide +kernel)⟩
theorem lw_p93 : lw_okq (⟨"SoapNamesModel", "drawn", "(I)I"⟩, 25) := ⟨⟨by decide +kernel, by decide +kernel⟩, List.mem_of_getElem? (i := 785) (by decide +kernel), List.mem_of_getElem? (i := 1065) (by decide +kernel), List.mem_of_getElem? (i := 1066) (by decide +kernel)⟩
theorem lw_p94 : lw_okq (⟨"SoapNamesModel", "housesOf", "(I)I"⟩, 25) := ⟨⟨by decide +kernel, by decide +kernel⟩, List.mem_of_getElem? (i := 785) (by decide +kernel), List.mem_of_getElem? (i := 1077) (by decide +kernel), List.mem_of_getElem? (i := 1078) (by decide +kernel)⟩
theorem lw_p95 : lw_okq (⟨"SoapNamesModel", "isInSoon", "(III)Z"⟩, 25) := ⟨⟨by decide +kernel, by decide +kernel⟩, List.mem_of_getElem? (i := 785) (by decide +kernel), List.mem_of_getElem? (i := 1109) (by decide +kernel), List.mem_of_getElem? (i := 1110) (by decide +kernel)⟩
def lw_privs_6 : List (MethodName × Nat) := [(⟨"SoapNamesModel", "byteAt", "(I)I"⟩, 25), (⟨"SoapNamesModel", "number", "()I"⟩, 25), (⟨"SoapNamesModel", "named", "(I)I"⟩, 25), (⟨"SoapNamesModel", "fails", "()I"⟩, 25), (⟨"SoapNamesModel", "becomes", "(II)I"⟩, 25), (⟨"SoapNamesModel", "gets", "(III)V"⟩, 25), (⟨"SoapNamesModel", "isCake", "(I)Z"⟩, 25), (⟨"SoapNamesModel", "isGone", "(I)Z"⟩, 25), (⟨"SoapNamesModel", "wearsBy", "(I)I"⟩, 25), (⟨"SoapNamesModel", "moveAll", "([I[I)V"⟩, 25), (⟨"SoapNamesModel", "passes", "(I)V"⟩, 25), (⟨"SoapNamesModel", "oneDay", "()V"⟩, 25), (⟨"SoapNamesModel", "gone", "()I"⟩, 25), (⟨"SoapNamesModel", "drawn", "(I)I"⟩, 25), (⟨"SoapNamesModel", "housesOf", "(I)I"⟩, 25), (⟨"SoapNamesModel", "isInSoon", "(III)Z"⟩, 25)]
theorem lw_r6 : ∀ q ∈ lw_privs_6, lw_okq q := List.forall_mem_cons.mpr ⟨lw_p80, List.forall_mem_cons.mpr ⟨lw_p81, List.forall_mem_cons.mpr ⟨lw_p82, List.forall_mem_cons.mpr ⟨lw_p83, List.forall_mem_cons.mpr ⟨lw_p84, List.forall_mem_cons.mpr ⟨lw_p85, List.forall_mem_cons.mpr ⟨lw_p86, List.forall_mem_cons.mpr ⟨lw_p87, List.forall_mem_cons.mpr ⟨lw_p88, List.forall_mem_cons.mpr ⟨lw_p89, List.forall_mem_cons.mpr ⟨lw_p90, List.forall_mem_cons.mpr ⟨lw_p91, List.forall_mem_cons.mpr ⟨lw_p92, List.forall_mem_cons.mpr ⟨lw_p93, List.forall_mem_cons.mpr ⟨lw_p94, List.forall_mem_cons.mpr ⟨lw_p95, fun _ h => absurd h List.not_mem_nil⟩⟩⟩⟩⟩⟩⟩⟩⟩⟩⟩⟩⟩⟩⟩⟩
theorem lw_p96 : lw_okq (⟨"SoapNamesModel", "isRow", "(I)Z"⟩, 25) := ⟨⟨by decide +kernel, by decide +kernel⟩, List.mem_of_getElem? (i := 785) (by decide +kernel), List.mem_of_getElem? (i := 1132) (by decide +kernel), List.mem_of_getElem? (i := 1133) (by decide +kernel)⟩
theorem lw_p97 : lw_okq (⟨"SoapNamesModel", "lathersIn", "(II)I"⟩, 25) := ⟨⟨by decide +kernel, by decide +kernel⟩, List.mem_of_getElem? (i := 785) (by decide +kernel), List.mem_of_getElem? (i := 1151) (by decide +kernel), List.mem_of_getElem? (i := 1152) (by decide +kernel)⟩
theorem lw_p98 : lw_okq (⟨"SoapNamesModel", "ran", "(I)V"⟩, 25) := ⟨⟨by decide +kernel, by decide +kernel⟩, List.mem_of_getElem? (i := 785) (by decide +kernel), List.mem_of_getElem? (i := 1155) (by decide +kernel), List.mem_of_getElem? (i := 1156) (by decide +kernel)⟩
theorem lw_p99 : lw_okq (⟨"SoapNamesModel", "wearsIn", "(II)I"⟩, 25) := ⟨⟨by decide +kernel, by decide +kernel⟩, List.mem_of_getElem? (i := 785) (by decide +kernel), List.mem_of_getElem? (i := 1159) (by decide +kernel), List.mem_of_getElem? (i := 1160) (by decide +kernel)⟩
theorem lw_p100 : lw_okq (⟨"SoapNamesModel", "showsIn", "(II)I"⟩, 25) := ⟨⟨by decide +kernel, by decide +kernel⟩, List.mem_of_getElem? (i := 785) (by decide +kernel), List.mem_of_getElem? (i := 1163) (by decide +kernel), List.mem_of_getElem? (i := 1164) (by decide +kernel)⟩
theorem lw_p101 : lw_okq (⟨"SoapNamesModel", "slipsIn", "(II)I"⟩, 25) := ⟨⟨by decide +kernel, by decide +kernel⟩, List.mem_of_getElem? (i := 785) (by decide +kernel), List.mem_of_getElem? (i := 1167) (by decide +kernel), List.mem_of_getElem? (i := 1168) (by decide +kernel)⟩
theorem lw_p102 : lw_okq (⟨"SoapNamesModel", "sumOf", "(III)I"⟩, 25) := ⟨⟨by decide +kernel, by decide +kernel⟩, List.mem_of_getElem? (i := 785) (by decide +kernel), List.mem_of_getElem? (i := 1218) (by decide +kernel), List.mem_of_getElem? (i := 1219) (by decide +kernel)⟩
def lw_privs_7 : List (MethodName × Nat) := [(⟨"SoapNamesModel", "isRow", "(I)Z"⟩, 25), (⟨"SoapNamesModel", "lathersIn", "(II)I"⟩, 25), (⟨"SoapNamesModel", "ran", "(I)V"⟩, 25), (⟨"SoapNamesModel", "wearsIn", "(II)I"⟩, 25), (⟨"SoapNamesModel", "showsIn", "(II)I"⟩, 25), (⟨"SoapNamesModel", "slipsIn", "(II)I"⟩, 25), (⟨"SoapNamesModel", "sumOf", "(III)I"⟩, 25)]
theorem lw_r7 : ∀ q ∈ lw_privs_7, lw_okq q := List.forall_mem_cons.mpr ⟨lw_p96, List.forall_mem_cons.mpr ⟨lw_p97, List.forall_mem_cons.mpr ⟨lw_p98, List.forall_mem_cons.mpr ⟨lw_p99, List.forall_mem_cons.mpr ⟨lw_p100, List.forall_mem_cons.mpr ⟨lw_p101, List.forall_mem_cons.mpr ⟨lw_p102, fun _ h => absurd h List.not_mem_nil⟩⟩⟩⟩⟩⟩⟩
def lw_privs : List (MethodName × Nat) := lw_privs_1 ++ (lw_privs_2 ++ (lw_privs_3 ++ (lw_privs_4 ++ (lw_privs_5 ++ (lw_privs_6 ++ (lw_privs_7))))))
def lw_tbl : List Cond := k2_sels lw_privs ++ tables_1
theorem lw_privs_ok : ∀ q ∈ lw_privs, lw_okq q := by
  show ∀ q ∈ lw_privs_1 ++ (lw_privs_2 ++ (lw_privs_3 ++ (lw_privs_4 ++ (lw_privs_5 ++ (lw_privs_6 ++ (lw_privs_7)))))), lw_okq q
  exact List.forall_mem_append.mpr ⟨lw_r1, List.forall_mem_append.mpr ⟨lw_r2, List.forall_mem_append.mpr ⟨lw_r3, List.forall_mem_append.mpr ⟨lw_r4, List.forall_mem_append.mpr ⟨lw_r5, List.forall_mem_append.mpr ⟨lw_r6, lw_r7⟩⟩⟩⟩⟩⟩
-- ===== end of PART A; then your names; then what follows =====
def RX0 : String := "SoapNames$Cake"
def TX0 : u_T := fun k => match k with
  | 0 => ("SoapNames$Cake", "names", "[I", true)
  | 1 => ("SoapNames$Cake", "kind", "I", false)
  | 2 => ("SoapNames$Cake", "m", "I", false)
  | 3 => ("SoapNames$Cake", "home", "I", false)
  | 4 => ("SoapNames$Cake", "layers", "I", false)
  | 5 => ("SoapNames$Cake", "worn", "I", false)
  | _ => ("SoapNames$Cake", "thick", "I", false)
def tyX0 : Nat → FieldType := fun k => match k with
  | 0 => .array .int
  | 1 => .int
  | 2 => .int
  | 3 => .int
  | 4 => .int
  | 5 => .int
  | _ => .int
abbrev wsX00 : List Cond := u_ws RX0 TX0 7
theorem nmX0 : ∀ a, a < 7 → ∀ b, b < 7 → a ≠ b → (TX0 a).2.1 ≠ (TX0 b).2.1 := by decide +kernel
theorem tyX0_ok : ∀ k, k < 7 → parseFieldDescriptor (TX0 k).2.2.1 = some (tyX0 k) := by decide +kernel
abbrev cX0_init : ByteArray := prog_2_method_1_code
def yX0_init : MethodName := ⟨RX0, "<init>", "()V"⟩
abbrev cX0_makeNew : ByteArray := prog_2_method_2_code
def yX0_makeNew : MethodName := ⟨RX0, "makeNew", "(III)V"⟩
abbrev cX0_copyFrom : ByteArray := prog_2_method_3_code
def yX0_copyFrom : MethodName := ⟨RX0, "copyFrom", "(LSoapNames$Cake;)V"⟩
abbrev cX0_addLayer : ByteArray := prog_2_method_4_code
def yX0_addLayer : MethodName := ⟨RX0, "addLayer", "(I)V"⟩
abbrev cX0_nameOf : ByteArray := prog_2_method_5_code
def yX0_nameOf : MethodName := ⟨RX0, "nameOf", "(I)I"⟩
abbrev cX0_layerOut : ByteArray := prog_2_method_6_code
def yX0_layerOut : MethodName := ⟨RX0, "layerOut", "()I"⟩
abbrev cX0_isGone : ByteArray := prog_2_method_7_code
def yX0_isGone : MethodName := ⟨RX0, "isGone", "()Z"⟩
abbrev cX0_isOfKind : ByteArray := prog_2_method_8_code
def yX0_isOfKind : MethodName := ⟨RX0, "isOfKind", "(I)Z"⟩
abbrev cX0_measure : ByteArray := prog_2_method_9_code
def yX0_measure : MethodName := ⟨RX0, "measure", "(I)V"⟩
abbrev cX0_shown : ByteArray := prog_2_method_10_code
def yX0_shown : MethodName := ⟨RX0, "shown", "()I"⟩
abbrev cX0_wouldShow : ByteArray := prog_2_method_11_code
def yX0_wouldShow : MethodName := ⟨RX0, "wouldShow", "(II)Z"⟩
abbrev cX0_unbribed : ByteArray := prog_2_method_12_code
def yX0_unbribed : MethodName := ⟨RX0, "unbribed", "(I)I"⟩
abbrev cX0_wearWith : ByteArray := prog_2_method_13_code
def yX0_wearWith : MethodName := ⟨RX0, "wearWith", "(II)I"⟩
abbrev cX0_wearBy : ByteArray := prog_2_method_14_code
def yX0_wearBy : MethodName := ⟨RX0, "wearBy", "(I)V"⟩
abbrev cX0_pressOnto : ByteArray := prog_2_method_15_code
def yX0_pressOnto : MethodName := ⟨RX0, "pressOnto", "(LSoapNames$Cake;)I"⟩
def RX1 : String := "SoapNames$House"
def TX1 : u_T := fun k => match k with
  | 0 => ("SoapNames$House", "hands", "I", false)
  | _ => ("SoapNames$House", "water", "I", false)
def tyX1 : Nat → FieldType := fun k => match k with
  | 0 => .int
  | _ => .int
abbrev wsX10 : List Cond := u_ws RX1 TX1 2
theorem nmX1 : ∀ a, a < 2 → ∀ b, b < 2 → a ≠ b → (TX1 a).2.1 ≠ (TX1 b).2.1 := by decide +kernel
theorem tyX1_ok : ∀ k, k < 2 → parseFieldDescriptor (TX1 k).2.2.1 = some (tyX1 k) := by decide +kernel
abbrev cX1_init : ByteArray := prog_3_method_1_code
def yX1_init : MethodName := ⟨RX1, "<init>", "()V"⟩
abbrev cX1_copyFrom : ByteArray := prog_3_method_2_code
def yX1_copyFrom : MethodName := ⟨RX1, "copyFrom", "(LSoapNames$House;)V"⟩
def RX2 : String := "SoapNames$Reader"
def TX2 : u_T := fun k => match k with
  | 0 => ("SoapNames$Reader", "found", "LSoapNames$Text;", true)
  | 1 => ("SoapNames$Reader", "tape", "[I", true)
  | 2 => ("SoapNames$Reader", "names", "[I", true)
  | 3 => ("SoapNames$Reader", "length", "I", false)
  | 4 => ("SoapNames$Reader", "place", "I", false)
  | _ => ("SoapNames$Reader", "fault", "I", false)
def tyX2 : Nat → FieldType := fun k => match k with
  | 0 => .object "SoapNames$Text"
  | 1 => .array .int
  | 2 => .array .int
  | 3 => .int
  | 4 => .int
  | _ => .int
abbrev wsX20 : List Cond := u_ws RX2 TX2 6
theorem nmX2 : ∀ a, a < 6 → ∀ b, b < 6 → a ≠ b → (TX2 a).2.1 ≠ (TX2 b).2.1 := by decide +kernel
theorem tyX2_ok : ∀ k, k < 6 → parseFieldDescriptor (TX2 k).2.2.1 = some (tyX2 k) := by decide +kernel
abbrev cX2_init : ByteArray := prog_4_method_1_code
def yX2_init : MethodName := ⟨RX2, "<init>", "()V"⟩
abbrev cX2_faultOf : ByteArray := prog_4_method_2_code
def yX2_faultOf : MethodName := ⟨RX2, "faultOf", "([II[I)I"⟩
abbrev cX2_next : ByteArray := prog_4_method_3_code
def yX2_next : MethodName := ⟨RX2, "next", "()I"⟩
abbrev cX2_failHere : ByteArray := prog_4_method_4_code
def yX2_failHere : MethodName := ⟨RX2, "failHere", "()V"⟩
abbrev cX2_rankOf : ByteArray := prog_4_method_5_code
def yX2_rankOf : MethodName := ⟨RX2, "rankOf", "(I)I"⟩
abbrev cX2_readChain : ByteArray := prog_4_method_6_code
def yX2_readChain : MethodName := ⟨RX2, "readChain", "(II)V"⟩
abbrev cX2_readOne : ByteArray := prog_4_method_7_code
def yX2_readOne : MethodName := ⟨RX2, "readOne", "(I)V"⟩
abbrev cX2_readOpened : ByteArray := prog_4_method_8_code
def yX2_readOpened : MethodName := ⟨RX2, "readOpened", "(II)V"⟩
abbrev cX2_readNumber : ByteArray := prog_4_method_9_code
def yX2_readNumber : MethodName := ⟨RX2, "readNumber", "()V"⟩
abbrev cX2_readName : ByteArray := prog_4_method_10_code
def yX2_readName : MethodName := ⟨RX2, "readName", "(I)V"⟩
def RX3 : String := "SoapNames$Sheet"
def TX3 : u_T := fun k => match k with
  | 0 => ("SoapNames$Sheet", "numbers", "[I", true)
  | 1 => ("SoapNames$Sheet", "bits", "I", false)
  | _ => ("SoapNames$Sheet", "size", "I", false)
def tyX3 : Nat → FieldType := fun k => match k with
  | 0 => .array .int
  | 1 => .int
  | _ => .int
abbrev wsX30 : List Cond := u_ws RX3 TX3 3
theorem nmX3 : ∀ a, a < 3 → ∀ b, b < 3 → a ≠ b → (TX3 a).2.1 ≠ (TX3 b).2.1 := by decide +kernel
theorem tyX3_ok : ∀ k, k < 3 → parseFieldDescriptor (TX3 k).2.2.1 = some (tyX3 k) := by decide +kernel
abbrev cX3_init : ByteArray := prog_5_method_1_code
def yX3_init : MethodName := ⟨RX3, "<init>", "()V"⟩
abbrev cX3_makeNew : ByteArray := prog_5_method_2_code
def yX3_makeNew : MethodName := ⟨RX3, "makeNew", "(II)V"⟩
abbrev cX3_isMissing : ByteArray := prog_5_method_3_code
def yX3_isMissing : MethodName := ⟨RX3, "isMissing", "()Z"⟩
abbrev cX3_hasPart : ByteArray := prog_5_method_4_code
def yX3_hasPart : MethodName := ⟨RX3, "hasPart", "(II)Z"⟩
abbrev cX3_numberAt : ByteArray := prog_5_method_5_code
def yX3_numberAt : MethodName := ⟨RX3, "numberAt", "(I)I"⟩
abbrev cX3_setNumber : ByteArray := prog_5_method_6_code
def yX3_setNumber : MethodName := ⟨RX3, "setNumber", "(II)V"⟩
def RX4 : String := "SoapNames$Text"
def TX4 : u_T := fun k => match k with
  | 0 => ("SoapNames$Text", "steps", "[I", true)
  | 1 => ("SoapNames$Text", "stack", "[I", true)
  | _ => ("SoapNames$Text", "length", "I", false)
def tyX4 : Nat → FieldType := fun k => match k with
  | 0 => .array .int
  | 1 => .array .int
  | _ => .int
abbrev wsX40 : List Cond := u_ws RX4 TX4 3
theorem nmX4 : ∀ a, a < 3 → ∀ b, b < 3 → a ≠ b → (TX4 a).2.1 ≠ (TX4 b).2.1 := by decide +kernel
theorem tyX4_ok : ∀ k, k < 3 → parseFieldDescriptor (TX4 k).2.2.1 = some (tyX4 k) := by decide +kernel
abbrev cX4_init : ByteArray := prog_6_method_1_code
def yX4_init : MethodName := ⟨RX4, "<init>", "()V"⟩
abbrev cX4_isEmpty : ByteArray := prog_6_method_2_code
def yX4_isEmpty : MethodName := ⟨RX4, "isEmpty", "()Z"⟩
abbrev cX4_add : ByteArray := prog_6_method_3_code
def yX4_add : MethodName := ⟨RX4, "add", "(I)V"⟩
abbrev cX4_copyFrom : ByteArray := prog_6_method_4_code
def yX4_copyFrom : MethodName := ⟨RX4, "copyFrom", "(LSoapNames$Text;)V"⟩
abbrev cX4_valueWith : ByteArray := prog_6_method_5_code
def yX4_valueWith : MethodName := ⟨RX4, "valueWith", "(III)I"⟩
abbrev cX4_joined : ByteArray := prog_6_method_6_code
def yX4_joined : MethodName := ⟨RX4, "joined", "(III)I"⟩
def RX5 : String := "SoapNames$Voice"
def TX5 : u_T := fun k => match k with
  | 0 => ("SoapNames$Voice", "bodies", "[I", true)
  | 1 => ("SoapNames$Voice", "traced", "I", false)
  | 2 => ("SoapNames$Voice", "number", "I", false)
  | 3 => ("SoapNames$Voice", "m", "I", false)
  | _ => ("SoapNames$Voice", "kind", "I", false)
def tyX5 : Nat → FieldType := fun k => match k with
  | 0 => .array .int
  | 1 => .int
  | 2 => .int
  | 3 => .int
  | _ => .int
abbrev wsX50 : List Cond := u_ws RX5 TX5 5
theorem nmX5 : ∀ a, a < 5 → ∀ b, b < 5 → a ≠ b → (TX5 a).2.1 ≠ (TX5 b).2.1 := by decide +kernel
theorem tyX5_ok : ∀ k, k < 5 → parseFieldDescriptor (TX5 k).2.2.1 = some (tyX5 k) := by decide +kernel
abbrev cX5_init : ByteArray := prog_7_method_1_code
def yX5_init : MethodName := ⟨RX5, "<init>", "()V"⟩
abbrev cX5_speak : ByteArray := prog_7_method_2_code
def yX5_speak : MethodName := ⟨RX5, "speak", "(ILSoapNames$Cake;II)I"⟩
abbrev cX5_kindWithBody : ByteArray := prog_7_method_3_code
def yX5_kindWithBody : MethodName := ⟨RX5, "kindWithBody", "(II)I"⟩
abbrev cX5_begin : ByteArray := prog_7_method_4_code
def yX5_begin : MethodName := ⟨RX5, "begin", "(I)V"⟩
abbrev cX5_said : ByteArray := prog_7_method_5_code
def yX5_said : MethodName := ⟨RX5, "said", "(IIII)I"⟩
def RX6 : String := "SoapNames$World"
def TX6 : u_T := fun k => match k with
  | 0 => ("SoapNames$World", "houses", "[LSoapNames$House;", true)
  | 1 => ("SoapNames$World", "cakes", "[LSoapNames$Cake;", true)
  | 2 => ("SoapNames$World", "noHouse", "LSoapNames$House;", true)
  | 3 => ("SoapNames$World", "noCake", "LSoapNames$Cake;", true)
  | 4 => ("SoapNames$World", "thickText", "LSoapNames$Text;", true)
  | 5 => ("SoapNames$World", "wearText", "LSoapNames$Text;", true)
  | 6 => ("SoapNames$World", "tape", "[I", true)
  | 7 => ("SoapNames$World", "waiting", "[I", true)
  | 8 => ("SoapNames$World", "houseCount", "I", false)
  | 9 => ("SoapNames$World", "cakeCount", "I", false)
  | 10 => ("SoapNames$World", "tapeLength", "I", false)
  | 11 => ("SoapNames$World", "waitingCount", "I", false)
  | 12 => ("SoapNames$World", "day", "I", false)
  | _ => ("SoapNames$World", "z", "I", false)
def tyX6 : Nat → FieldType := fun k => match k with
  | 0 => .array (.object "SoapNames$House")
  | 1 => .array (.object "SoapNames$Cake")
  | 2 => .object "SoapNames$House"
  | 3 => .object "SoapNames$Cake"
  | 4 => .object "SoapNames$Text"
  | 5 => .object "SoapNames$Text"
  | 6 => .array .int
  | 7 => .array .int
  | 8 => .int
  | 9 => .int
  | 10 => .int
  | 11 => .int
  | 12 => .int
  | _ => .int
abbrev wsX60 : List Cond := u_ws RX6 TX6 14
theorem nmX6 : ∀ a, a < 14 → ∀ b, b < 14 → a ≠ b → (TX6 a).2.1 ≠ (TX6 b).2.1 := by decide +kernel
theorem tyX6_ok : ∀ k, k < 14 → parseFieldDescriptor (TX6 k).2.2.1 = some (tyX6 k) := by decide +kernel
abbrev cX6_init : ByteArray := prog_8_method_1_code
def yX6_init : MethodName := ⟨RX6, "<init>", "()V"⟩
abbrev cX6_houseAt : ByteArray := prog_8_method_2_code
def yX6_houseAt : MethodName := ⟨RX6, "houseAt", "(I)LSoapNames$House;"⟩
abbrev cX6_cakeAt : ByteArray := prog_8_method_3_code
def yX6_cakeAt : MethodName := ⟨RX6, "cakeAt", "(I)LSoapNames$Cake;"⟩
abbrev cX6_textOf : ByteArray := prog_8_method_4_code
def yX6_textOf : MethodName := ⟨RX6, "textOf", "(I)LSoapNames$Text;"⟩
abbrev cX6_copyFrom : ByteArray := prog_8_method_5_code
def yX6_copyFrom : MethodName := ⟨RX6, "copyFrom", "(LSoapNames$World;)V"⟩
abbrev cX6_given : ByteArray := prog_8_method_6_code
def yX6_given : MethodName := ⟨RX6, "given", "(IIII)I"⟩
abbrev cX6_wearOf : ByteArray := prog_8_method_7_code
def yX6_wearOf : MethodName := ⟨RX6, "wearOf", "(LSoapNames$Cake;)I"⟩
abbrev cX6_measureCakes : ByteArray := prog_8_method_8_code
def yX6_measureCakes : MethodName := ⟨RX6, "measureCakes", "()V"⟩
abbrev cX6_passDay : ByteArray := prog_8_method_9_code
def yX6_passDay : MethodName := ⟨RX6, "passDay", "()V"⟩
abbrev cX6_wearOfDays : ByteArray := prog_8_method_10_code
def yX6_wearOfDays : MethodName := ⟨RX6, "wearOfDays", "(LSoapNames$Cake;I)I"⟩
abbrev cX6_passDays : ByteArray := prog_8_method_11_code
def yX6_passDays : MethodName := ⟨RX6, "passDays", "(I)V"⟩
abbrev cX6_draw : ByteArray := prog_8_method_12_code
def yX6_draw : MethodName := ⟨RX6, "draw", "()I"⟩
abbrev cX6_drawHands : ByteArray := prog_8_method_13_code
def yX6_drawHands : MethodName := ⟨RX6, "drawHands", "()V"⟩
abbrev cX6_stillHands : ByteArray := prog_8_method_14_code
def yX6_stillHands : MethodName := ⟨RX6, "stillHands", "(I)V"⟩
abbrev cX6_cakesIn : ByteArray := prog_8_method_15_code
def yX6_cakesIn : MethodName := ⟨RX6, "cakesIn", "(I)I"⟩
abbrev cX6_cakesShowing : ByteArray := prog_8_method_16_code
def yX6_cakesShowing : MethodName := ⟨RX6, "cakesShowing", "(I)I"⟩
abbrev cX6_guestsIn : ByteArray := prog_8_method_17_code
def yX6_guestsIn : MethodName := ⟨RX6, "guestsIn", "(I)I"⟩
abbrev cX6_isIn : ByteArray := prog_8_method_18_code
def yX6_isIn : MethodName := ⟨RX6, "isIn", "(II)Z"⟩
abbrev cX6_housesOf : ByteArray := prog_8_method_19_code
def yX6_housesOf : MethodName := ⟨RX6, "housesOf", "(I)I"⟩
abbrev cX6_dueTwice : ByteArray := prog_8_method_20_code
def yX6_dueTwice : MethodName := ⟨RX6, "dueTwice", "()I"⟩
abbrev cX6_firstDayIn : ByteArray := prog_8_method_21_code
def yX6_firstDayIn : MethodName := ⟨RX6, "firstDayIn", "(III)I"⟩
abbrev cX6_goneCakes : ByteArray := prog_8_method_22_code
def yX6_goneCakes : MethodName := ⟨RX6, "goneCakes", "()I"⟩
abbrev cX6_allHands : ByteArray := prog_8_method_23_code
def yX6_allHands : MethodName := ⟨RX6, "allHands", "()I"⟩
abbrev cX6_allWorn : ByteArray := prog_8_method_24_code
def yX6_allWorn : MethodName := ⟨RX6, "allWorn", "()I"⟩
def RX7 : String := "SoapNames"
def TX7 : u_T := fun k => match k with
  | 0 => ("SoapNames", "now", "LSoapNames$World;", true)
  | 1 => ("SoapNames", "kept", "LSoapNames$World;", true)
  | 2 => ("SoapNames", "thought", "LSoapNames$World;", true)
  | 3 => ("SoapNames", "reader", "LSoapNames$Reader;", true)
  | 4 => ("SoapNames", "voice", "LSoapNames$Voice;", true)
  | 5 => ("SoapNames", "sheets", "[LSoapNames$Sheet;", true)
  | 6 => ("SoapNames", "missingSheet", "LSoapNames$Sheet;", true)
  | 7 => ("SoapNames", "lent", "[I", true)
  | 8 => ("SoapNames", "errors", "[I", true)
  | _ => ("SoapNames", "images", "I", false)
def tyX7 : Nat → FieldType := fun k => match k with
  | 0 => .object "SoapNames$World"
  | 1 => .object "SoapNames$World"
  | 2 => .object "SoapNames$World"
  | 3 => .object "SoapNames$Reader"
  | 4 => .object "SoapNames$Voice"
  | 5 => .array (.object "SoapNames$Sheet")
  | 6 => .object "SoapNames$Sheet"
  | 7 => .array .int
  | 8 => .array .int
  | _ => .int
abbrev wsX70 : List Cond := u_ws RX7 TX7 10
theorem nmX7 : ∀ a, a < 10 → ∀ b, b < 10 → a ≠ b → (TX7 a).2.1 ≠ (TX7 b).2.1 := by decide +kernel
theorem tyX7_ok : ∀ k, k < 10 → parseFieldDescriptor (TX7 k).2.2.1 = some (tyX7 k) := by decide +kernel
abbrev cX7_init : ByteArray := prog_1_method_1_code
def yX7_init : MethodName := ⟨RX7, "<init>", "()V"⟩
abbrev cX7_house : ByteArray := prog_1_method_2_code
def yX7_house : MethodName := ⟨RX7, "house", "(I)I"⟩
abbrev cX7_ofHouse : ByteArray := prog_1_method_3_code
def yX7_ofHouse : MethodName := ⟨RX7, "ofHouse", "(II)I"⟩
abbrev cX7_change : ByteArray := prog_1_method_4_code
def yX7_change : MethodName := ⟨RX7, "change", "(III)I"⟩
abbrev cX7_cake : ByteArray := prog_1_method_5_code
def yX7_cake : MethodName := ⟨RX7, "cake", "(II)I"⟩
abbrev cX7_ofCake : ByteArray := prog_1_method_6_code
def yX7_ofCake : MethodName := ⟨RX7, "ofCake", "(II)I"⟩
abbrev cX7_layer : ByteArray := prog_1_method_7_code
def yX7_layer : MethodName := ⟨RX7, "layer", "(II)I"⟩
abbrev cX7_named : ByteArray := prog_1_method_8_code
def yX7_named : MethodName := ⟨RX7, "named", "(II)I"⟩
abbrev cX7_shift : ByteArray := prog_1_method_9_code
def yX7_shift : MethodName := ⟨RX7, "shift", "(III)I"⟩
abbrev cX7_press : ByteArray := prog_1_method_10_code
def yX7_press : MethodName := ⟨RX7, "press", "(II)I"⟩
abbrev cX7_become : ByteArray := prog_1_method_11_code
def yX7_become : MethodName := ⟨RX7, "become", "(II)I"⟩
abbrev cX7_as : ByteArray := prog_1_method_12_code
def yX7_as : MethodName := ⟨RX7, "as", "(II)I"⟩
abbrev cX7_feed : ByteArray := prog_1_method_13_code
def yX7_feed : MethodName := ⟨RX7, "feed", "(JI)I"⟩
abbrev cX7_text : ByteArray := prog_1_method_14_code
def yX7_text : MethodName := ⟨RX7, "text", "(I)I"⟩
abbrev cX7_law : ByteArray := prog_1_method_15_code
def yX7_law : MethodName := ⟨RX7, "law", "(IIII)I"⟩
abbrev cX7_days : ByteArray := prog_1_method_16_code
def yX7_days : MethodName := ⟨RX7, "days", "(I)I"⟩
abbrev cX7_loose : ByteArray := prog_1_method_17_code
def yX7_loose : MethodName := ⟨RX7, "loose", "(I)I"⟩
abbrev cX7_where : ByteArray := prog_1_method_18_code
def yX7_where : MethodName := ⟨RX7, "where", "(I)I"⟩
abbrev cX7_twice : ByteArray := prog_1_method_19_code
def yX7_twice : MethodName := ⟨RX7, "twice", "()I"⟩
abbrev cX7_then : ByteArray := prog_1_method_20_code
def yX7_then : MethodName := ⟨RX7, "then", "(III)I"⟩
abbrev cX7_comes : ByteArray := prog_1_method_21_code
def yX7_comes : MethodName := ⟨RX7, "comes", "(II)I"⟩
abbrev cX7_clash : ByteArray := prog_1_method_22_code
def yX7_clash : MethodName := ⟨RX7, "clash", "(I)I"⟩
abbrev cX7_spares : ByteArray := prog_1_method_23_code
def yX7_spares : MethodName := ⟨RX7, "spares", "(II)I"⟩
abbrev cX7_hurry : ByteArray := prog_1_method_24_code
def yX7_hurry : MethodName := ⟨RX7, "hurry", "(III)I"⟩
abbrev cX7_fits : ByteArray := prog_1_method_25_code
def yX7_fits : MethodName := ⟨RX7, "fits", "(I)I"⟩
abbrev cX7_howFar : ByteArray := prog_1_method_26_code
def yX7_howFar : MethodName := ⟨RX7, "howFar", "(IIIII)I"⟩
abbrev cX7_lends : ByteArray := prog_1_method_27_code
def yX7_lends : MethodName := ⟨RX7, "lends", "(I)I"⟩
abbrev cX7_odds : ByteArray := prog_1_method_28_code
def yX7_odds : MethodName := ⟨RX7, "odds", "(IIII)I"⟩
abbrev cX7_seed : ByteArray := prog_1_method_29_code
def yX7_seed : MethodName := ⟨RX7, "seed", "(I)I"⟩
abbrev cX7_voice : ByteArray := prog_1_method_30_code
def yX7_voice : MethodName := ⟨RX7, "voice", "(III)I"⟩
abbrev cX7_trace : ByteArray := prog_1_method_31_code
def yX7_trace : MethodName := ⟨RX7, "trace", "(I)I"⟩
abbrev cX7_sheet : ByteArray := prog_1_method_32_code
def yX7_sheet : MethodName := ⟨RX7, "sheet", "(III)I"⟩
abbrev cX7_put : ByteArray := prog_1_method_33_code
def yX7_put : MethodName := ⟨RX7, "put", "(III)I"⟩
abbrev cX7_move : ByteArray := prog_1_method_34_code
def yX7_move : MethodName := ⟨RX7, "move", "(IIIII)I"⟩
abbrev cX7_worns : ByteArray := prog_1_method_35_code
def yX7_worns : MethodName := ⟨RX7, "worns", "(I)I"⟩
abbrev cX7_judge : ByteArray := prog_1_method_36_code
def yX7_judge : MethodName := ⟨RX7, "judge", "(I)I"⟩
abbrev cX7_image : ByteArray := prog_1_method_37_code
def yX7_image : MethodName := ⟨RX7, "image", "()I"⟩
abbrev cX7_restore : ByteArray := prog_1_method_38_code
def yX7_restore : MethodName := ⟨RX7, "restore", "()I"⟩
abbrev cX7_tell : ByteArray := prog_1_method_39_code
def yX7_tell : MethodName := ⟨RX7, "tell", "(I)I"⟩
abbrev cX7_check : ByteArray := prog_1_method_40_code
def yX7_check : MethodName := ⟨RX7, "check", "()I"⟩
abbrev cX7_count : ByteArray := prog_1_method_41_code
def yX7_count : MethodName := ⟨RX7, "count", "(I)I"⟩
abbrev cX7_told : ByteArray := prog_1_method_42_code
def yX7_told : MethodName := ⟨RX7, "told", "(I)I"⟩
abbrev cX7_error : ByteArray := prog_1_method_43_code
def yX7_error : MethodName := ⟨RX7, "error", "(I)I"⟩
abbrev cX7_isHouse : ByteArray := prog_1_method_44_code
def yX7_isHouse : MethodName := ⟨RX7, "isHouse", "(I)Z"⟩
abbrev cX7_isCake : ByteArray := prog_1_method_45_code
def yX7_isCake : MethodName := ⟨RX7, "isCake", "(I)Z"⟩
abbrev cX7_isSheet : ByteArray := prog_1_method_46_code
def yX7_isSheet : MethodName := ⟨RX7, "isSheet", "(I)Z"⟩
abbrev cX7_isGuest : ByteArray := prog_1_method_47_code
def yX7_isGuest : MethodName := ⟨RX7, "isGuest", "(I)Z"⟩
abbrev cX7_isGuestOrNobody : ByteArray := prog_1_method_48_code
def yX7_isGuestOrNobody : MethodName := ⟨RX7, "isGuestOrNobody", "(I)Z"⟩
abbrev cX7_isKindAndNumber : ByteArray := prog_1_method_49_code
def yX7_isKindAndNumber : MethodName := ⟨RX7, "isKindAndNumber", "(I)Z"⟩
abbrev cX7_sheetAt : ByteArray := prog_1_method_50_code
def yX7_sheetAt : MethodName := ⟨RX7, "sheetAt", "(I)LSoapNames$Sheet;"⟩
abbrev cX7_staysAway : ByteArray := prog_1_method_51_code
def yX7_staysAway : MethodName := ⟨RX7, "staysAway", "(III)Z"⟩
abbrev cX7_lendFrom : ByteArray := prog_1_method_52_code
def yX7_lendFrom : MethodName := ⟨RX7, "lendFrom", "(III)Z"⟩
abbrev cX7_partInLowestTerms : ByteArray := prog_1_method_53_code
def yX7_partInLowestTerms : MethodName := ⟨RX7, "partInLowestTerms", "(II)I"⟩
abbrev cX7_guestBit : ByteArray := prog_1_method_54_code
def yX7_guestBit : MethodName := ⟨RX7, "guestBit", "(I)I"⟩
abbrev cX7_within : ByteArray := prog_1_method_55_code
def yX7_within : MethodName := ⟨RX7, "within", "(III)Z"⟩
abbrev cX7_held : ByteArray := prog_1_method_56_code
def yX7_held : MethodName := ⟨RX7, "held", "(III)I"⟩
abbrev cX7_at : ByteArray := prog_1_method_57_code
def yX7_at : MethodName := ⟨RX7, "at", "([II)I"⟩
abbrev cX7_setAt : ByteArray := prog_1_method_58_code
def yX7_setAt : MethodName := ⟨RX7, "setAt", "([III)V"⟩
abbrev cX7_copyPart : ByteArray := prog_1_method_59_code
def yX7_copyPart : MethodName := ⟨RX7, "copyPart", "([II[III)V"⟩
abbrev cX7_copyRow : ByteArray := prog_1_method_60_code
def yX7_copyRow : MethodName := ⟨RX7, "copyRow", "([I[I)V"⟩
def RX8 : String := "SoapNamesModel"
def TX8 : u_T := fun k => match k with
  | 0 => ("SoapNamesModel", "row", "[I", true)
  | 1 => ("SoapNamesModel", "kept", "[I", true)
  | 2 => ("SoapNamesModel", "tried", "[I", true)
  | 3 => ("SoapNamesModel", "before", "[I", true)
  | 4 => ("SoapNamesModel", "isKept", "Z", false)
  | 5 => ("SoapNamesModel", "images", "I", false)
  | 6 => ("SoapNamesModel", "found", "[I", true)
  | 7 => ("SoapNamesModel", "use", "I", false)
  | 8 => ("SoapNamesModel", "at", "I", false)
  | 9 => ("SoapNamesModel", "end", "I", false)
  | 10 => ("SoapNamesModel", "open", "I", false)
  | 11 => ("SoapNamesModel", "namedA", "I", false)
  | 12 => ("SoapNamesModel", "namedB", "I", false)
  | 13 => ("SoapNamesModel", "namedC", "I", false)
  | 14 => ("SoapNamesModel", "good", "Z", false)
  | 15 => ("SoapNamesModel", "bitsOf", "[I", true)
  | 16 => ("SoapNamesModel", "sizeOf", "[I", true)
  | 17 => ("SoapNamesModel", "sheets", "[I", true)
  | 18 => ("SoapNamesModel", "moved", "[I", true)
  | 19 => ("SoapNamesModel", "lent", "[I", true)
  | 20 => ("SoapNamesModel", "traced", "[I", true)
  | 21 => ("SoapNamesModel", "tracedMany", "I", false)
  | 22 => ("SoapNamesModel", "voiceKind", "I", false)
  | 23 => ("SoapNamesModel", "voiceN", "I", false)
  | _ => ("SoapNamesModel", "voiceM", "I", false)
def tyX8 : Nat → FieldType := fun k => match k with
  | 0 => .array .int
  | 1 => .array .int
  | 2 => .array .int
  | 3 => .array .int
  | 4 => .boolean
  | 5 => .int
  | 6 => .array .int
  | 7 => .int
  | 8 => .int
  | 9 => .int
  | 10 => .int
  | 11 => .int
  | 12 => .int
  | 13 => .int
  | 14 => .boolean
  | 15 => .array .int
  | 16 => .array .int
  | 17 => .array .int
  | 18 => .array .int
  | 19 => .array .int
  | 20 => .array .int
  | 21 => .int
  | 22 => .int
  | 23 => .int
  | _ => .int
abbrev wsX80 : List Cond := u_ws RX8 TX8 25
theorem nmX8 : ∀ a, a < 25 → ∀ b, b < 25 → a ≠ b → (TX8 a).2.1 ≠ (TX8 b).2.1 := by decide +kernel
theorem tyX8_ok : ∀ k, k < 25 → parseFieldDescriptor (TX8 k).2.2.1 = some (tyX8 k) := by decide +kernel
abbrev cX8_init : ByteArray := prog_10_method_1_code
def yX8_init : MethodName := ⟨RX8, "<init>", "()V"⟩
abbrev cX8_in : ByteArray := prog_10_method_2_code
def yX8_in : MethodName := ⟨RX8, "in", "(III)Z"⟩
abbrev cX8_errs : ByteArray := prog_10_method_3_code
def yX8_errs : MethodName := ⟨RX8, "errs", "(I)I"⟩
abbrev cX8_held : ByteArray := prog_10_method_4_code
def yX8_held : MethodName := ⟨RX8, "held", "(III)I"⟩
abbrev cX8_moveAll : ByteArray := prog_10_method_5_code
def yX8_moveAll : MethodName := ⟨RX8, "moveAll", "([I[I)V"⟩
abbrev cX8_bits : ByteArray := prog_10_method_6_code
def yX8_bits : MethodName := ⟨RX8, "bits", "(I)I"⟩
abbrev cX8_has : ByteArray := prog_10_method_7_code
def yX8_has : MethodName := ⟨RX8, "has", "(II)Z"⟩
abbrev cX8_its : ByteArray := prog_10_method_8_code
def yX8_its : MethodName := ⟨RX8, "its", "(II)I"⟩
abbrev cX8_gets : ByteArray := prog_10_method_9_code
def yX8_gets : MethodName := ⟨RX8, "gets", "(III)V"⟩
abbrev cX8_isHouse : ByteArray := prog_10_method_10_code
def yX8_isHouse : MethodName := ⟨RX8, "isHouse", "(I)Z"⟩
abbrev cX8_isCake : ByteArray := prog_10_method_11_code
def yX8_isCake : MethodName := ⟨RX8, "isCake", "(I)Z"⟩
abbrev cX8_isGuest : ByteArray := prog_10_method_12_code
def yX8_isGuest : MethodName := ⟨RX8, "isGuest", "(I)Z"⟩
abbrev cX8_becomes : ByteArray := prog_10_method_13_code
def yX8_becomes : MethodName := ⟨RX8, "becomes", "(II)I"⟩
abbrev cX8_house : ByteArray := prog_10_method_14_code
def yX8_house : MethodName := ⟨RX8, "house", "(I)I"⟩
abbrev cX8_cakesIn : ByteArray := prog_10_method_15_code
def yX8_cakesIn : MethodName := ⟨RX8, "cakesIn", "(I)I"⟩
abbrev cX8_guestsIn : ByteArray := prog_10_method_16_code
def yX8_guestsIn : MethodName := ⟨RX8, "guestsIn", "(I)I"⟩
abbrev cX8_ofHouse : ByteArray := prog_10_method_17_code
def yX8_ofHouse : MethodName := ⟨RX8, "ofHouse", "(II)I"⟩
abbrev cX8_change : ByteArray := prog_10_method_18_code
def yX8_change : MethodName := ⟨RX8, "change", "(III)I"⟩
abbrev cX8_cake : ByteArray := prog_10_method_19_code
def yX8_cake : MethodName := ⟨RX8, "cake", "(II)I"⟩
abbrev cX8_ofCake : ByteArray := prog_10_method_20_code
def yX8_ofCake : MethodName := ⟨RX8, "ofCake", "(II)I"⟩
abbrev cX8_layer : ByteArray := prog_10_method_21_code
def yX8_layer : MethodName := ⟨RX8, "layer", "(II)I"⟩
abbrev cX8_named : ByteArray := prog_10_method_22_code
def yX8_named : MethodName := ⟨RX8, "named", "(II)I"⟩
abbrev cX8_shift : ByteArray := prog_10_method_23_code
def yX8_shift : MethodName := ⟨RX8, "shift", "(III)I"⟩
abbrev cX8_press : ByteArray := prog_10_method_24_code
def yX8_press : MethodName := ⟨RX8, "press", "(II)I"⟩
abbrev cX8_become : ByteArray := prog_10_method_25_code
def yX8_become : MethodName := ⟨RX8, "become", "(II)I"⟩
abbrev cX8_above : ByteArray := prog_10_method_26_code
def yX8_above : MethodName := ⟨RX8, "above", "(I)I"⟩
abbrev cX8_as : ByteArray := prog_10_method_27_code
def yX8_as : MethodName := ⟨RX8, "as", "(II)I"⟩
abbrev cX8_byteAt : ByteArray := prog_10_method_28_code
def yX8_byteAt : MethodName := ⟨RX8, "byteAt", "(I)I"⟩
abbrev cX8_isDigit : ByteArray := prog_10_method_29_code
def yX8_isDigit : MethodName := ⟨RX8, "isDigit", "(I)Z"⟩
abbrev cX8_fails : ByteArray := prog_10_method_30_code
def yX8_fails : MethodName := ⟨RX8, "fails", "()I"⟩
abbrev cX8_number : ByteArray := prog_10_method_31_code
def yX8_number : MethodName := ⟨RX8, "number", "()I"⟩
abbrev cX8_named_ : ByteArray := prog_10_method_32_code
def yX8_named_ : MethodName := ⟨RX8, "named", "(I)I"⟩
abbrev cX8_factor : ByteArray := prog_10_method_33_code
def yX8_factor : MethodName := ⟨RX8, "factor", "()I"⟩
abbrev cX8_product : ByteArray := prog_10_method_34_code
def yX8_product : MethodName := ⟨RX8, "product", "()I"⟩
abbrev cX8_sum : ByteArray := prog_10_method_35_code
def yX8_sum : MethodName := ⟨RX8, "sum", "()I"⟩
abbrev cX8_compared : ByteArray := prog_10_method_36_code
def yX8_compared : MethodName := ⟨RX8, "compared", "()I"⟩
abbrev cX8_both : ByteArray := prog_10_method_37_code
def yX8_both : MethodName := ⟨RX8, "both", "()I"⟩
abbrev cX8_whole : ByteArray := prog_10_method_38_code
def yX8_whole : MethodName := ⟨RX8, "whole", "()I"⟩
abbrev cX8_walks : ByteArray := prog_10_method_39_code
def yX8_walks : MethodName := ⟨RX8, "walks", "(IIII)I"⟩
abbrev cX8_lawOf : ByteArray := prog_10_method_40_code
def yX8_lawOf : MethodName := ⟨RX8, "lawOf", "(IIII)I"⟩
abbrev cX8_law : ByteArray := prog_10_method_41_code
def yX8_law : MethodName := ⟨RX8, "law", "(IIII)I"⟩
abbrev cX8_feed : ByteArray := prog_10_method_42_code
def yX8_feed : MethodName := ⟨RX8, "feed", "(JI)I"⟩
abbrev cX8_text : ByteArray := prog_10_method_43_code
def yX8_text : MethodName := ⟨RX8, "text", "(I)I"⟩
abbrev cX8_thick : ByteArray := prog_10_method_44_code
def yX8_thick : MethodName := ⟨RX8, "thick", "(I)I"⟩
abbrev cX8_out : ByteArray := prog_10_method_45_code
def yX8_out : MethodName := ⟨RX8, "out", "(I)I"⟩
abbrev cX8_isGone : ByteArray := prog_10_method_46_code
def yX8_isGone : MethodName := ⟨RX8, "isGone", "(I)Z"⟩
abbrev cX8_shows : ByteArray := prog_10_method_47_code
def yX8_shows : MethodName := ⟨RX8, "shows", "(I)I"⟩
abbrev cX8_wearsBy : ByteArray := prog_10_method_48_code
def yX8_wearsBy : MethodName := ⟨RX8, "wearsBy", "(I)I"⟩
abbrev cX8_oneDay : ByteArray := prog_10_method_49_code
def yX8_oneDay : MethodName := ⟨RX8, "oneDay", "()V"⟩
abbrev cX8_passes : ByteArray := prog_10_method_50_code
def yX8_passes : MethodName := ⟨RX8, "passes", "(I)V"⟩
abbrev cX8_gone : ByteArray := prog_10_method_51_code
def yX8_gone : MethodName := ⟨RX8, "gone", "()I"⟩
abbrev cX8_days : ByteArray := prog_10_method_52_code
def yX8_days : MethodName := ⟨RX8, "days", "(I)I"⟩
abbrev cX8_drawn : ByteArray := prog_10_method_53_code
def yX8_drawn : MethodName := ⟨RX8, "drawn", "(I)I"⟩
abbrev cX8_loose : ByteArray := prog_10_method_54_code
def yX8_loose : MethodName := ⟨RX8, "loose", "(I)I"⟩
abbrev cX8_housesOf : ByteArray := prog_10_method_55_code
def yX8_housesOf : MethodName := ⟨RX8, "housesOf", "(I)I"⟩
abbrev cX8_where : ByteArray := prog_10_method_56_code
def yX8_where : MethodName := ⟨RX8, "where", "(I)I"⟩
abbrev cX8_twice : ByteArray := prog_10_method_57_code
def yX8_twice : MethodName := ⟨RX8, "twice", "()I"⟩
abbrev cX8_then : ByteArray := prog_10_method_58_code
def yX8_then : MethodName := ⟨RX8, "then", "(III)I"⟩
abbrev cX8_comes : ByteArray := prog_10_method_59_code
def yX8_comes : MethodName := ⟨RX8, "comes", "(II)I"⟩
abbrev cX8_clash : ByteArray := prog_10_method_60_code
def yX8_clash : MethodName := ⟨RX8, "clash", "(I)I"⟩
abbrev cX8_isInSoon : ByteArray := prog_10_method_61_code
def yX8_isInSoon : MethodName := ⟨RX8, "isInSoon", "(III)Z"⟩
abbrev cX8_spares : ByteArray := prog_10_method_62_code
def yX8_spares : MethodName := ⟨RX8, "spares", "(II)I"⟩
abbrev cX8_hurry : ByteArray := prog_10_method_63_code
def yX8_hurry : MethodName := ⟨RX8, "hurry", "(III)I"⟩
abbrev cX8_isSheet : ByteArray := prog_10_method_64_code
def yX8_isSheet : MethodName := ⟨RX8, "isSheet", "(I)Z"⟩
abbrev cX8_fits : ByteArray := prog_10_method_65_code
def yX8_fits : MethodName := ⟨RX8, "fits", "(I)I"⟩
abbrev cX8_howFar : ByteArray := prog_10_method_66_code
def yX8_howFar : MethodName := ⟨RX8, "howFar", "(IIIII)I"⟩
abbrev cX8_isRow : ByteArray := prog_10_method_67_code
def yX8_isRow : MethodName := ⟨RX8, "isRow", "(I)Z"⟩
abbrev cX8_lends : ByteArray := prog_10_method_68_code
def yX8_lends : MethodName := ⟨RX8, "lends", "(I)I"⟩
abbrev cX8_divisor : ByteArray := prog_10_method_69_code
def yX8_divisor : MethodName := ⟨RX8, "divisor", "(II)I"⟩
abbrev cX8_odds : ByteArray := prog_10_method_70_code
def yX8_odds : MethodName := ⟨RX8, "odds", "(IIII)I"⟩
abbrev cX8_seed : ByteArray := prog_10_method_71_code
def yX8_seed : MethodName := ⟨RX8, "seed", "(I)I"⟩
abbrev cX8_ran : ByteArray := prog_10_method_72_code
def yX8_ran : MethodName := ⟨RX8, "ran", "(I)V"⟩
abbrev cX8_lathersIn : ByteArray := prog_10_method_73_code
def yX8_lathersIn : MethodName := ⟨RX8, "lathersIn", "(II)I"⟩
abbrev cX8_showsIn : ByteArray := prog_10_method_74_code
def yX8_showsIn : MethodName := ⟨RX8, "showsIn", "(II)I"⟩
abbrev cX8_wearsIn : ByteArray := prog_10_method_75_code
def yX8_wearsIn : MethodName := ⟨RX8, "wearsIn", "(II)I"⟩
abbrev cX8_slipsIn : ByteArray := prog_10_method_76_code
def yX8_slipsIn : MethodName := ⟨RX8, "slipsIn", "(II)I"⟩
abbrev cX8_voice : ByteArray := prog_10_method_77_code
def yX8_voice : MethodName := ⟨RX8, "voice", "(III)I"⟩
abbrev cX8_trace : ByteArray := prog_10_method_78_code
def yX8_trace : MethodName := ⟨RX8, "trace", "(I)I"⟩
abbrev cX8_narrow : ByteArray := prog_10_method_79_code
def yX8_narrow : MethodName := ⟨RX8, "narrow", "(II)I"⟩
abbrev cX8_sheet : ByteArray := prog_10_method_80_code
def yX8_sheet : MethodName := ⟨RX8, "sheet", "(III)I"⟩
abbrev cX8_put : ByteArray := prog_10_method_81_code
def yX8_put : MethodName := ⟨RX8, "put", "(III)I"⟩
abbrev cX8_move : ByteArray := prog_10_method_82_code
def yX8_move : MethodName := ⟨RX8, "move", "(IIIII)I"⟩
abbrev cX8_worns : ByteArray := prog_10_method_83_code
def yX8_worns : MethodName := ⟨RX8, "worns", "(I)I"⟩
abbrev cX8_judge : ByteArray := prog_10_method_84_code
def yX8_judge : MethodName := ⟨RX8, "judge", "(I)I"⟩
abbrev cX8_image : ByteArray := prog_10_method_85_code
def yX8_image : MethodName := ⟨RX8, "image", "()I"⟩
abbrev cX8_restore : ByteArray := prog_10_method_86_code
def yX8_restore : MethodName := ⟨RX8, "restore", "()I"⟩
abbrev cX8_tell : ByteArray := prog_10_method_87_code
def yX8_tell : MethodName := ⟨RX8, "tell", "(I)I"⟩
abbrev cX8_check : ByteArray := prog_10_method_88_code
def yX8_check : MethodName := ⟨RX8, "check", "()I"⟩
abbrev cX8_sumOf : ByteArray := prog_10_method_89_code
def yX8_sumOf : MethodName := ⟨RX8, "sumOf", "(III)I"⟩
abbrev cX8_count : ByteArray := prog_10_method_90_code
def yX8_count : MethodName := ⟨RX8, "count", "(I)I"⟩
abbrev cX8_told : ByteArray := prog_10_method_91_code
def yX8_told : MethodName := ⟨RX8, "told", "(I)I"⟩
def RJ6 : String := "java/lang/Integer"
def TJ6 : u_T := fun k => match k with
  | _ => ("", "", "", false)
def tyJ6 : Nat → FieldType := fun k => match k with
  | _ => .int
abbrev wsJ60 : List Cond := u_ws RJ6 TJ6 0
theorem nmJ6 : ∀ a, a < 0 → ∀ b, b < 0 → a ≠ b → (TJ6 a).2.1 ≠ (TJ6 b).2.1 := by decide +kernel
theorem tyJ6_ok : ∀ k, k < 0 → parseFieldDescriptor (TJ6 k).2.2.1 = some (tyJ6 k) := by decide +kernel
abbrev cJ6_numberOfTrailingZeros_0f7a4 : ByteArray := prog_11_method_48_code
def yJ6_numberOfTrailingZeros_0f7a4 : MethodName := ⟨RJ6, "numberOfTrailingZeros", "(I)I"⟩
abbrev cJ6_bitCount_0f7a4 : ByteArray := prog_11_method_49_code
def yJ6_bitCount_0f7a4 : MethodName := ⟨RJ6, "bitCount", "(I)I"⟩
def RJ9 : String := "java/lang/Math"
def TJ9 : u_T := fun k => match k with
  | _ => ("", "", "", false)
def tyJ9 : Nat → FieldType := fun k => match k with
  | _ => .int
abbrev wsJ90 : List Cond := u_ws RJ9 TJ9 0
theorem nmJ9 : ∀ a, a < 0 → ∀ b, b < 0 → a ≠ b → (TJ9 a).2.1 ≠ (TJ9 b).2.1 := by decide +kernel
theorem tyJ9_ok : ∀ k, k < 0 → parseFieldDescriptor (TJ9 k).2.2.1 = some (tyJ9 k) := by decide +kernel
abbrev cJ9_max_7cf53 : ByteArray := prog_12_method_65_code
def yJ9_max_7cf53 : MethodName := ⟨RJ9, "max", "(II)I"⟩
abbrev cJ9_min_7cf53 : ByteArray := prog_12_method_69_code
def yJ9_min_7cf53 : MethodName := ⟨RJ9, "min", "(II)I"⟩
def RJ10 : String := "java/lang/System"
def TJ10 : u_T := fun k => match k with
  | _ => ("", "", "", false)
def tyJ10 : Nat → FieldType := fun k => match k with
  | _ => .int
abbrev wsJ100 : List Cond := u_ws RJ10 TJ10 0
theorem nmJ10 : ∀ a, a < 0 → ∀ b, b < 0 → a ≠ b → (TJ10 a).2.1 ≠ (TJ10 b).2.1 := by decide +kernel
theorem tyJ10_ok : ∀ k, k < 0 → parseFieldDescriptor (TJ10 k).2.2.1 = some (tyJ10 k) := by decide +kernel
def RL : String := "SoapNamesLaw"
abbrev cL_law : ByteArray := code
def yL_law : MethodName := ⟨RL, "law", "([I)Z"⟩
/-! the words that every contract takes: the good ones; and the nest words, which go with the state -/
def gB : List Cond := lw_tbl.filter goodWord
theorem gB_of {w : Cond} (i : Nat) (h : lw_tbl[i]? = some w) (hg : goodWord w = true) : w ∈ gB := List.mem_filter.mpr ⟨List.mem_of_getElem? h, hg⟩
theorem gB_good : ∀ w ∈ gB, goodWord w = true := fun _ h => (List.mem_filter.mp h).2
theorem gB_in : ∀ w ∈ gB, w ∈ lw_tbl := fun _ h => (List.mem_filter.mp h).1
theorem gB_gi : GoodIn gB gB := fun w h => ⟨h, good_of_word (gB_good w h)⟩
def gnw : Cond → Bool := fun w => match w with
  | .fieldLinkNest _ _ _ _ _ _ => true
  | .methodLinkNest _ _ _ _ => true
  | _ => false
def gN : List Cond := lw_tbl.filter gnw
theorem gN_of {w : Cond} (i : Nat) (h : lw_tbl[i]? = some w) (hg : gnw w = true) : w ∈ gN := List.mem_filter.mpr ⟨List.mem_of_getElem? h, hg⟩
theorem gN_in : ∀ w ∈ gN, w ∈ lw_tbl := fun _ h => (List.mem_filter.mp h).1
