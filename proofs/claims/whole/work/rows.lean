section
-- ===== PART A: goes FIRST, ahead of the names: the tables' words, and 'selects' of the private methods out of them =====
/-- a private method of a class that the tables say can be made, by its rows of tables_1 -/
def lw_okq (q : MethodName × Nat) : Prop := (q.1.cls ≠ "java/lang/invoke/MethodHandle" ∧ q.1.cls ≠ "java/lang/invoke/VarHandle") ∧ Cond.instantiable q.1.cls q.2 ∈ tables_1 ∧ Cond.privateMethod q.1 ∈ tables_1 ∧ Cond.instanceMethod q.1 ∈ tables_1
theorem lw_p0 : lw_okq (⟨"SoapNames", "error", "(I)I"⟩, 10) := ⟨⟨by decide +kernel, by decide +kernel⟩, List.mem_of_getElem? (i := 14) (by decide +kernel), List.mem_of_getElem? (i := 267) (by decide +kernel), List.mem_of_getElem? (i := 268) (by decide +kernel)⟩
theorem lw_p1 : lw_okq (⟨"SoapNames$World", "houseAt", "(I)LSoapNames$House;"⟩, 14) := ⟨⟨by decide +kernel, by decide +kernel⟩, List.mem_of_getElem? (i := 22) (by decide +kernel), List.mem_of_getElem? (i := 278) (by decide +kernel), List.mem_of_getElem? (i := 279) (by decide +kernel)⟩
theorem lw_p2 : lw_okq (⟨"SoapNames", "isHouse", "(I)Z"⟩, 10) := ⟨⟨by decide +kernel, by decide +kernel⟩, List.mem_of_getElem? (i := 14) (by decide +kernel), List.mem_of_getElem? (i := 286) (by decide +kernel), List.mem_of_getElem? (i := 287) (by decide +kernel)⟩
theorem lw_p3 : lw_okq (⟨"SoapNames$World", "cakesIn", "(I)I"⟩, 14) := ⟨⟨by decide +kernel, by decide +kernel⟩, List.mem_of_getElem? (i := 22) (by decide +kernel), List.mem_of_getElem? (i := 290) (by decide +kernel), List.mem_of_getElem? (i := 291) (by decide +kernel)⟩
theorem lw_p4 : lw_okq (⟨"SoapNames$World", "cakeAt", "(I)LSoapNames$Cake;"⟩, 14) := ⟨⟨by decide +kernel, by decide +kernel⟩, List.mem_of_getElem? (i := 22) (by decide +kernel), List.mem_of_getElem? (i := 294) (by decide +kernel), List.mem_of_getElem? (i := 295) (by decide +kernel)⟩
theorem lw_p5 : lw_okq (⟨"SoapNames$World", "guestsIn", "(I)I"⟩, 14) := ⟨⟨by decide +kernel, by decide +kernel⟩, List.mem_of_getElem? (i := 22) (by decide +kernel), List.mem_of_getElem? (i := 298) (by decide +kernel), List.mem_of_getElem? (i := 299) (by decide +kernel)⟩
theorem lw_p6 : lw_okq (⟨"SoapNames$Cake", "shown", "()I"⟩, 7) := ⟨⟨by decide +kernel, by decide +kernel⟩, List.mem_of_getElem? (i := 47) (by decide +kernel), List.mem_of_getElem? (i := 302) (by decide +kernel), List.mem_of_getElem? (i := 303) (by decide +kernel)⟩
theorem lw_p7 : lw_okq (⟨"SoapNames$Cake", "layerOut", "()I"⟩, 7) := ⟨⟨by decide +kernel, by decide +kernel⟩, List.mem_of_getElem? (i := 47) (by decide +kernel), List.mem_of_getElem? (i := 306) (by decide +kernel), List.mem_of_getElem? (i := 307) (by decide +kernel)⟩
theorem lw_p8 : lw_okq (⟨"SoapNames$Cake", "nameOf", "(I)I"⟩, 7) := ⟨⟨by decide +kernel, by decide +kernel⟩, List.mem_of_getElem? (i := 47) (by decide +kernel), List.mem_of_getElem? (i := 310) (by decide +kernel), List.mem_of_getElem? (i := 311) (by decide +kernel)⟩
theorem lw_p9 : lw_okq (⟨"SoapNames$Cake", "unbribed", "(I)I"⟩, 7) := ⟨⟨by decide +kernel, by decide +kernel⟩, List.mem_of_getElem? (i := 47) (by decide +kernel), List.mem_of_getElem? (i := 315) (by decide +kernel), List.mem_of_getElem? (i := 316) (by decide +kernel)⟩
theorem lw_p10 : lw_okq (⟨"SoapNames$Cake", "makeNew", "(III)V"⟩, 7) := ⟨⟨by decide +kernel, by decide +kernel⟩, List.mem_of_getElem? (i := 47) (by decide +kernel), List.mem_of_getElem? (i := 337) (by decide +kernel), List.mem_of_getElem? (i := 338) (by decide +kernel)⟩
theorem lw_p11 : lw_okq (⟨"SoapNames$World", "measureCakes", "()V"⟩, 14) := ⟨⟨by decide +kernel, by decide +kernel⟩, List.mem_of_getElem? (i := 22) (by decide +kernel), List.mem_of_getElem? (i := 341) (by decide +kernel), List.mem_of_getElem? (i := 342) (by decide +kernel)⟩
theorem lw_p12 : lw_okq (⟨"SoapNames$World", "given", "(IIII)I"⟩, 14) := ⟨⟨by decide +kernel, by decide +kernel⟩, List.mem_of_getElem? (i := 22) (by decide +kernel), List.mem_of_getElem? (i := 345) (by decide +kernel), List.mem_of_getElem? (i := 346) (by decide +kernel)⟩
theorem lw_p13 : lw_okq (⟨"SoapNames$Text", "isEmpty", "()Z"⟩, 3) := ⟨⟨by decide +kernel, by decide +kernel⟩, List.mem_of_getElem? (i := 89) (by decide +kernel), List.mem_of_getElem? (i := 349) (by decide +kernel), List.mem_of_getElem? (i := 350) (by decide +kernel)⟩
theorem lw_p14 : lw_okq (⟨"SoapNames$Text", "valueWith", "(III)I"⟩, 3) := ⟨⟨by decide +kernel, by decide +kernel⟩, List.mem_of_getElem? (i := 89) (by decide +kernel), List.mem_of_getElem? (i := 353) (by decide +kernel), List.mem_of_getElem? (i := 354) (by decide +kernel)⟩
theorem lw_p15 : lw_okq (⟨"SoapNames$Cake", "measure", "(I)V"⟩, 7) := ⟨⟨by decide +kernel, by decide +kernel⟩, List.mem_of_getElem? (i := 47) (by decide +kernel), List.mem_of_getElem? (i := 369) (by decide +kernel), List.mem_of_getElem? (i := 370) (by decide +kernel)⟩
def lw_privs_1 : List (MethodName × Nat) := [(⟨"SoapNames", "error", "(I)I"⟩, 10), (⟨"SoapNames$World", "houseAt", "(I)LSoapNames$House;"⟩, 14), (⟨"SoapNames", "isHouse", "(I)Z"⟩, 10), (⟨"SoapNames$World", "cakesIn", "(I)I"⟩, 14), (⟨"SoapNames$World", "cakeAt", "(I)LSoapNames$Cake;"⟩, 14), (⟨"SoapNames$World", "guestsIn", "(I)I"⟩, 14), (⟨"SoapNames$Cake", "shown", "()I"⟩, 7), (⟨"SoapNames$Cake", "layerOut", "()I"⟩, 7), (⟨"SoapNames$Cake", "nameOf", "(I)I"⟩, 7), (⟨"SoapNames$Cake", "unbribed", "(I)I"⟩, 7), (⟨"SoapNames$Cake", "makeNew", "(III)V"⟩, 7), (⟨"SoapNames$World", "measureCakes", "()V"⟩, 14), (⟨"SoapNames$World", "given", "(IIII)I"⟩, 14), (⟨"SoapNames$Text", "isEmpty", "()Z"⟩, 3), (⟨"SoapNames$Text", "valueWith", "(III)I"⟩, 3), (⟨"SoapNames$Cake", "measure", "(I)V"⟩, 7)]
theorem lw_r1 : ∀ q ∈ lw_privs_1, lw_okq q := List.forall_mem_cons.mpr ⟨lw_p0, List.forall_mem_cons.mpr ⟨lw_p1, List.forall_mem_cons.mpr ⟨lw_p2, List.forall_mem_cons.mpr ⟨lw_p3, List.forall_mem_cons.mpr ⟨lw_p4, List.forall_mem_cons.mpr ⟨lw_p5, List.forall_mem_cons.mpr ⟨lw_p6, List.forall_mem_cons.mpr ⟨lw_p7, List.forall_mem_cons.mpr ⟨lw_p8, List.forall_mem_cons.mpr ⟨lw_p9, List.forall_mem_cons.mpr ⟨lw_p10, List.forall_mem_cons.mpr ⟨lw_p11, List.forall_mem_cons.mpr ⟨lw_p12, List.forall_mem_cons.mpr ⟨lw_p13, List.forall_mem_cons.mpr ⟨lw_p14, List.forall_mem_cons.mpr ⟨lw_p15, fun _ h => absurd h List.not_mem_nil⟩⟩⟩⟩⟩⟩⟩⟩⟩⟩⟩⟩⟩⟩⟩⟩
theorem lw_p16 : lw_okq (⟨"SoapNames", "isCake", "(I)Z"⟩, 10) := ⟨⟨by decide +kernel, by decide +kernel⟩, List.mem_of_getElem? (i := 14) (by decide +kernel), List.mem_of_getElem? (i := 378) (by decide +kernel), List.mem_of_getElem? (i := 379) (by decide +kernel)⟩
theorem lw_p17 : lw_okq (⟨"SoapNames$Cake", "isGone", "()Z"⟩, 7) := ⟨⟨by decide +kernel, by decide +kernel⟩, List.mem_of_getElem? (i := 47) (by decide +kernel), List.mem_of_getElem? (i := 383) (by decide +kernel), List.mem_of_getElem? (i := 384) (by decide +kernel)⟩
theorem lw_p18 : lw_okq (⟨"SoapNames$World", "wearOf", "(LSoapNames$Cake;)I"⟩, 14) := ⟨⟨by decide +kernel, by decide +kernel⟩, List.mem_of_getElem? (i := 22) (by decide +kernel), List.mem_of_getElem? (i := 387) (by decide +kernel), List.mem_of_getElem? (i := 388) (by decide +kernel)⟩
theorem lw_p19 : lw_okq (⟨"SoapNames$Cake", "wearWith", "(II)I"⟩, 7) := ⟨⟨by decide +kernel, by decide +kernel⟩, List.mem_of_getElem? (i := 47) (by decide +kernel), List.mem_of_getElem? (i := 392) (by decide +kernel), List.mem_of_getElem? (i := 393) (by decide +kernel)⟩
theorem lw_p20 : lw_okq (⟨"SoapNames$Cake", "addLayer", "(I)V"⟩, 7) := ⟨⟨by decide +kernel, by decide +kernel⟩, List.mem_of_getElem? (i := 47) (by decide +kernel), List.mem_of_getElem? (i := 403) (by decide +kernel), List.mem_of_getElem? (i := 404) (by decide +kernel)⟩
theorem lw_p21 : lw_okq (⟨"SoapNames$Cake", "pressOnto", "(LSoapNames$Cake;)I"⟩, 7) := ⟨⟨by decide +kernel, by decide +kernel⟩, List.mem_of_getElem? (i := 47) (by decide +kernel), List.mem_of_getElem? (i := 421) (by decide +kernel), List.mem_of_getElem? (i := 422) (by decide +kernel)⟩
theorem lw_p22 : lw_okq (⟨"SoapNames$Cake", "isOfKind", "(I)Z"⟩, 7) := ⟨⟨by decide +kernel, by decide +kernel⟩, List.mem_of_getElem? (i := 47) (by decide +kernel), List.mem_of_getElem? (i := 434) (by decide +kernel), List.mem_of_getElem? (i := 435) (by decide +kernel)⟩
theorem lw_p23 : lw_okq (⟨"SoapNames$Reader", "faultOf", "([II[I)I"⟩, 6) := ⟨⟨by decide +kernel, by decide +kernel⟩, List.mem_of_getElem? (i := 157) (by decide +kernel), List.mem_of_getElem? (i := 452) (by decide +kernel), List.mem_of_getElem? (i := 453) (by decide +kernel)⟩
theorem lw_p24 : lw_okq (⟨"SoapNames$Reader", "readChain", "(II)V"⟩, 6) := ⟨⟨by decide +kernel, by decide +kernel⟩, List.mem_of_getElem? (i := 157) (by decide +kernel), List.mem_of_getElem? (i := 465) (by decide +kernel), List.mem_of_getElem? (i := 466) (by decide +kernel)⟩
theorem lw_p25 : lw_okq (⟨"SoapNames$Reader", "readOne", "(I)V"⟩, 6) := ⟨⟨by decide +kernel, by decide +kernel⟩, List.mem_of_getElem? (i := 157) (by decide +kernel), List.mem_of_getElem? (i := 469) (by decide +kernel), List.mem_of_getElem? (i := 470) (by decide +kernel)⟩
theorem lw_p26 : lw_okq (⟨"SoapNames$Reader", "next", "()I"⟩, 6) := ⟨⟨by decide +kernel, by decide +kernel⟩, List.mem_of_getElem? (i := 157) (by decide +kernel), List.mem_of_getElem? (i := 473) (by decide +kernel), List.mem_of_getElem? (i := 474) (by decide +kernel)⟩
theorem lw_p27 : lw_okq (⟨"SoapNames$Reader", "readNumber", "()V"⟩, 6) := ⟨⟨by decide +kernel, by decide +kernel⟩, List.mem_of_getElem? (i := 157) (by decide +kernel), List.mem_of_getElem? (i := 479) (by decide +kernel), List.mem_of_getElem? (i := 480) (by decide +kernel)⟩
theorem lw_p28 : lw_okq (⟨"SoapNames$Text", "add", "(I)V"⟩, 3) := ⟨⟨by decide +kernel, by decide +kernel⟩, List.mem_of_getElem? (i := 89) (by decide +kernel), List.mem_of_getElem? (i := 483) (by decide +kernel), List.mem_of_getElem? (i := 484) (by decide +kernel)⟩
theorem lw_p29 : lw_okq (⟨"SoapNames$Reader", "readOpened", "(II)V"⟩, 6) := ⟨⟨by decide +kernel, by decide +kernel⟩, List.mem_of_getElem? (i := 157) (by decide +kernel), List.mem_of_getElem? (i := 487) (by decide +kernel), List.mem_of_getElem? (i := 488) (by decide +kernel)⟩
theorem lw_p30 : lw_okq (⟨"SoapNames$Reader", "failHere", "()V"⟩, 6) := ⟨⟨by decide +kernel, by decide +kernel⟩, List.mem_of_getElem? (i := 157) (by decide +kernel), List.mem_of_getElem? (i := 491) (by decide +kernel), List.mem_of_getElem? (i := 492) (by decide +kernel)⟩
theorem lw_p31 : lw_okq (⟨"SoapNames$Reader", "readName", "(I)V"⟩, 6) := ⟨⟨by decide +kernel, by decide +kernel⟩, List.mem_of_getElem? (i := 157) (by decide +kernel), List.mem_of_getElem? (i := 495) (by decide +kernel), List.mem_of_getElem? (i := 496) (by decide +kernel)⟩
def lw_privs_2 : List (MethodName × Nat) := [(⟨"SoapNames", "isCake", "(I)Z"⟩, 10), (⟨"SoapNames$Cake", "isGone", "()Z"⟩, 7), (⟨"SoapNames$World", "wearOf", "(LSoapNames$Cake;)I"⟩, 14), (⟨"SoapNames$Cake", "wearWith", "(II)I"⟩, 7), (⟨"SoapNames$Cake", "addLayer", "(I)V"⟩, 7), (⟨"SoapNames$Cake", "pressOnto", "(LSoapNames$Cake;)I"⟩, 7), (⟨"SoapNames$Cake", "isOfKind", "(I)Z"⟩, 7), (⟨"SoapNames$Reader", "faultOf", "([II[I)I"⟩, 6), (⟨"SoapNames$Reader", "readChain", "(II)V"⟩, 6), (⟨"SoapNames$Reader", "readOne", "(I)V"⟩, 6), (⟨"SoapNames$Reader", "next", "()I"⟩, 6), (⟨"SoapNames$Reader", "readNumber", "()V"⟩, 6), (⟨"SoapNames$Text", "add", "(I)V"⟩, 3), (⟨"SoapNames$Reader", "readOpened", "(II)V"⟩, 6), (⟨"SoapNames$Reader", "failHere", "()V"⟩, 6), (⟨"SoapNames$Reader", "readName", "(I)V"⟩, 6)]
theorem lw_r2 : ∀ q ∈ lw_privs_2, lw_okq q := List.forall_mem_cons.mpr ⟨lw_p16, List.forall_mem_cons.mpr ⟨lw_p17, List.forall_mem_cons.mpr ⟨lw_p18, List.forall_mem_cons.mpr ⟨lw_p19, List.forall_mem_cons.mpr ⟨lw_p20, List.forall_mem_cons.mpr ⟨lw_p21, List.forall_mem_cons.mpr ⟨lw_p22, List.forall_mem_cons.mpr ⟨lw_p23, List.forall_mem_cons.mpr ⟨lw_p24, List.forall_mem_cons.mpr ⟨lw_p25, List.forall_mem_cons.mpr ⟨lw_p26, List.forall_mem_cons.mpr ⟨lw_p27, List.forall_mem_cons.mpr ⟨lw_p28, List.forall_mem_cons.mpr ⟨lw_p29, List.forall_mem_cons.mpr ⟨lw_p30, List.forall_mem_cons.mpr ⟨lw_p31, fun _ h => absurd h List.not_mem_nil⟩⟩⟩⟩⟩⟩⟩⟩⟩⟩⟩⟩⟩⟩⟩⟩
theorem lw_p32 : lw_okq (⟨"SoapNames$World", "textOf", "(I)LSoapNames$Text;"⟩, 14) := ⟨⟨by decide +kernel, by decide +kernel⟩, List.mem_of_getElem? (i := 22) (by decide +kernel), List.mem_of_getElem? (i := 502) (by decide +kernel), List.mem_of_getElem? (i := 503) (by decide +kernel)⟩
theorem lw_p33 : lw_okq (⟨"SoapNames$Text", "copyFrom", "(LSoapNames$Text;)V"⟩, 3) := ⟨⟨by decide +kernel, by decide +kernel⟩, List.mem_of_getElem? (i := 89) (by decide +kernel), List.mem_of_getElem? (i := 506) (by decide +kernel), List.mem_of_getElem? (i := 507) (by decide +kernel)⟩
theorem lw_p34 : lw_okq (⟨"SoapNames$World", "passDays", "(I)V"⟩, 14) := ⟨⟨by decide +kernel, by decide +kernel⟩, List.mem_of_getElem? (i := 22) (by decide +kernel), List.mem_of_getElem? (i := 520) (by decide +kernel), List.mem_of_getElem? (i := 521) (by decide +kernel)⟩
theorem lw_p35 : lw_okq (⟨"SoapNames$World", "passDay", "()V"⟩, 14) := ⟨⟨by decide +kernel, by decide +kernel⟩, List.mem_of_getElem? (i := 22) (by decide +kernel), List.mem_of_getElem? (i := 524) (by decide +kernel), List.mem_of_getElem? (i := 525) (by decide +kernel)⟩
theorem lw_p36 : lw_okq (⟨"SoapNames$Cake", "wearBy", "(I)V"⟩, 7) := ⟨⟨by decide +kernel, by decide +kernel⟩, List.mem_of_getElem? (i := 47) (by decide +kernel), List.mem_of_getElem? (i := 530) (by decide +kernel), List.mem_of_getElem? (i := 531) (by decide +kernel)⟩
theorem lw_p37 : lw_okq (⟨"SoapNames$World", "goneCakes", "()I"⟩, 14) := ⟨⟨by decide +kernel, by decide +kernel⟩, List.mem_of_getElem? (i := 22) (by decide +kernel), List.mem_of_getElem? (i := 535) (by decide +kernel), List.mem_of_getElem? (i := 536) (by decide +kernel)⟩
theorem lw_p38 : lw_okq (⟨"SoapNames$World", "drawHands", "()V"⟩, 14) := ⟨⟨by decide +kernel, by decide +kernel⟩, List.mem_of_getElem? (i := 22) (by decide +kernel), List.mem_of_getElem? (i := 543) (by decide +kernel), List.mem_of_getElem? (i := 544) (by decide +kernel)⟩
theorem lw_p39 : lw_okq (⟨"SoapNames$World", "draw", "()I"⟩, 14) := ⟨⟨by decide +kernel, by decide +kernel⟩, List.mem_of_getElem? (i := 22) (by decide +kernel), List.mem_of_getElem? (i := 547) (by decide +kernel), List.mem_of_getElem? (i := 548) (by decide +kernel)⟩
theorem lw_p40 : lw_okq (⟨"SoapNames$World", "housesOf", "(I)I"⟩, 14) := ⟨⟨by decide +kernel, by decide +kernel⟩, List.mem_of_getElem? (i := 22) (by decide +kernel), List.mem_of_getElem? (i := 560) (by decide +kernel), List.mem_of_getElem? (i := 561) (by decide +kernel)⟩
theorem lw_p41 : lw_okq (⟨"SoapNames$World", "isIn", "(II)Z"⟩, 14) := ⟨⟨by decide +kernel, by decide +kernel⟩, List.mem_of_getElem? (i := 22) (by decide +kernel), List.mem_of_getElem? (i := 564) (by decide +kernel), List.mem_of_getElem? (i := 565) (by decide +kernel)⟩
theorem lw_p42 : lw_okq (⟨"SoapNames$World", "dueTwice", "()I"⟩, 14) := ⟨⟨by decide +kernel, by decide +kernel⟩, List.mem_of_getElem? (i := 22) (by decide +kernel), List.mem_of_getElem? (i := 573) (by decide +kernel), List.mem_of_getElem? (i := 574) (by decide +kernel)⟩
theorem lw_p43 : lw_okq (⟨"SoapNames$World", "copyFrom", "(LSoapNames$World;)V"⟩, 14) := ⟨⟨by decide +kernel, by decide +kernel⟩, List.mem_of_getElem? (i := 22) (by decide +kernel), List.mem_of_getElem? (i := 581) (by decide +kernel), List.mem_of_getElem? (i := 582) (by decide +kernel)⟩
theorem lw_p44 : lw_okq (⟨"SoapNames$House", "copyFrom", "(LSoapNames$House;)V"⟩, 2) := ⟨⟨by decide +kernel, by decide +kernel⟩, List.mem_of_getElem? (i := 31) (by decide +kernel), List.mem_of_getElem? (i := 585) (by decide +kernel), List.mem_of_getElem? (i := 586) (by decide +kernel)⟩
theorem lw_p45 : lw_okq (⟨"SoapNames$Cake", "copyFrom", "(LSoapNames$Cake;)V"⟩, 7) := ⟨⟨by decide +kernel, by decide +kernel⟩, List.mem_of_getElem? (i := 47) (by decide +kernel), List.mem_of_getElem? (i := 589) (by decide +kernel), List.mem_of_getElem? (i := 590) (by decide +kernel)⟩
theorem lw_p46 : lw_okq (⟨"SoapNames$World", "firstDayIn", "(III)I"⟩, 14) := ⟨⟨by decide +kernel, by decide +kernel⟩, List.mem_of_getElem? (i := 22) (by decide +kernel), List.mem_of_getElem? (i := 600) (by decide +kernel), List.mem_of_getElem? (i := 601) (by decide +kernel)⟩
theorem lw_p47 : lw_okq (⟨"SoapNames", "staysAway", "(III)Z"⟩, 10) := ⟨⟨by decide +kernel, by decide +kernel⟩, List.mem_of_getElem? (i := 14) (by decide +kernel), List.mem_of_getElem? (i := 622) (by decide +kernel), List.mem_of_getElem? (i := 623) (by decide +kernel)⟩
def lw_privs_3 : List (MethodName × Nat) := [(⟨"SoapNames$World", "textOf", "(I)LSoapNames$Text;"⟩, 14), (⟨"SoapNames$Text", "copyFrom", "(LSoapNames$Text;)V"⟩, 3), (⟨"SoapNames$World", "passDays", "(I)V"⟩, 14), (⟨"SoapNames$World", "passDay", "()V"⟩, 14), (⟨"SoapNames$Cake", "wearBy", "(I)V"⟩, 7), (⟨"SoapNames$World", "goneCakes", "()I"⟩, 14), (⟨"SoapNames$World", "drawHands", "()V"⟩, 14), (⟨"SoapNames$World", "draw", "()I"⟩, 14), (⟨"SoapNames$World", "housesOf", "(I)I"⟩, 14), (⟨"SoapNames$World", "isIn", "(II)Z"⟩, 14), (⟨"SoapNames$World", "dueTwice", "()I"⟩, 14), (⟨"SoapNames$World", "copyFrom", "(LSoapNames$World;)V"⟩, 14), (⟨"SoapNames$House", "copyFrom", "(LSoapNames$House;)V"⟩, 2), (⟨"SoapNames$Cake", "copyFrom", "(LSoapNames$Cake;)V"⟩, 7), (⟨"SoapNames$World", "firstDayIn", "(III)I"⟩, 14), (⟨"SoapNames", "staysAway", "(III)Z"⟩, 10)]
theorem lw_r3 : ∀ q ∈ lw_privs_3, lw_okq q := List.forall_mem_cons.mpr ⟨lw_p32, List.forall_mem_cons.mpr ⟨lw_p33, List.forall_mem_cons.mpr ⟨lw_p34, List.forall_mem_cons.mpr ⟨lw_p35, List.forall_mem_cons.mpr ⟨lw_p36, List.forall_mem_cons.mpr ⟨lw_p37, List.forall_mem_cons.mpr ⟨lw_p38, List.forall_mem_cons.mpr ⟨lw_p39, List.forall_mem_cons.mpr ⟨lw_p40, List.forall_mem_cons.mpr ⟨lw_p41, List.forall_mem_cons.mpr ⟨lw_p42, List.forall_mem_cons.mpr ⟨lw_p43, List.forall_mem_cons.mpr ⟨lw_p44, List.forall_mem_cons.mpr ⟨lw_p45, List.forall_mem_cons.mpr ⟨lw_p46, List.forall_mem_cons.mpr ⟨lw_p47, fun _ h => absurd h List.not_mem_nil⟩⟩⟩⟩⟩⟩⟩⟩⟩⟩⟩⟩⟩⟩⟩⟩
theorem lw_p48 : lw_okq (⟨"SoapNames$World", "stillHands", "(I)V"⟩, 14) := ⟨⟨by decide +kernel, by decide +kernel⟩, List.mem_of_getElem? (i := 22) (by decide +kernel), List.mem_of_getElem? (i := 626) (by decide +kernel), List.mem_of_getElem? (i := 627) (by decide +kernel)⟩
theorem lw_p49 : lw_okq (⟨"SoapNames$World", "cakesShowing", "(I)I"⟩, 14) := ⟨⟨by decide +kernel, by decide +kernel⟩, List.mem_of_getElem? (i := 22) (by decide +kernel), List.mem_of_getElem? (i := 630) (by decide +kernel), List.mem_of_getElem? (i := 631) (by decide +kernel)⟩
theorem lw_p50 : lw_okq (⟨"SoapNames", "sheetAt", "(I)LSoapNames$Sheet;"⟩, 10) := ⟨⟨by decide +kernel, by decide +kernel⟩, List.mem_of_getElem? (i := 14) (by decide +kernel), List.mem_of_getElem? (i := 645) (by decide +kernel), List.mem_of_getElem? (i := 646) (by decide +kernel)⟩
theorem lw_p51 : lw_okq (⟨"SoapNames$Sheet", "isMissing", "()Z"⟩, 3) := ⟨⟨by decide +kernel, by decide +kernel⟩, List.mem_of_getElem? (i := 210) (by decide +kernel), List.mem_of_getElem? (i := 649) (by decide +kernel), List.mem_of_getElem? (i := 650) (by decide +kernel)⟩
theorem lw_p52 : lw_okq (⟨"SoapNames$Sheet", "numberAt", "(I)I"⟩, 3) := ⟨⟨by decide +kernel, by decide +kernel⟩, List.mem_of_getElem? (i := 210) (by decide +kernel), List.mem_of_getElem? (i := 653) (by decide +kernel), List.mem_of_getElem? (i := 654) (by decide +kernel)⟩
theorem lw_p53 : lw_okq (⟨"SoapNames$World", "wearOfDays", "(LSoapNames$Cake;I)I"⟩, 14) := ⟨⟨by decide +kernel, by decide +kernel⟩, List.mem_of_getElem? (i := 22) (by decide +kernel), List.mem_of_getElem? (i := 662) (by decide +kernel), List.mem_of_getElem? (i := 663) (by decide +kernel)⟩
theorem lw_p54 : lw_okq (⟨"SoapNames$Cake", "wouldShow", "(II)Z"⟩, 7) := ⟨⟨by decide +kernel, by decide +kernel⟩, List.mem_of_getElem? (i := 47) (by decide +kernel), List.mem_of_getElem? (i := 666) (by decide +kernel), List.mem_of_getElem? (i := 667) (by decide +kernel)⟩
theorem lw_p55 : lw_okq (⟨"SoapNames", "lendFrom", "(III)Z"⟩, 10) := ⟨⟨by decide +kernel, by decide +kernel⟩, List.mem_of_getElem? (i := 14) (by decide +kernel), List.mem_of_getElem? (i := 675) (by decide +kernel), List.mem_of_getElem? (i := 676) (by decide +kernel)⟩
theorem lw_p56 : lw_okq (⟨"SoapNames$Voice", "speak", "(ILSoapNames$Cake;II)I"⟩, 5) := ⟨⟨by decide +kernel, by decide +kernel⟩, List.mem_of_getElem? (i := 185) (by decide +kernel), List.mem_of_getElem? (i := 696) (by decide +kernel), List.mem_of_getElem? (i := 697) (by decide +kernel)⟩
theorem lw_p57 : lw_okq (⟨"SoapNames$Voice", "said", "(IIII)I"⟩, 5) := ⟨⟨by decide +kernel, by decide +kernel⟩, List.mem_of_getElem? (i := 185) (by decide +kernel), List.mem_of_getElem? (i := 700) (by decide +kernel), List.mem_of_getElem? (i := 701) (by decide +kernel)⟩
theorem lw_p58 : lw_okq (⟨"SoapNames$Voice", "begin", "(I)V"⟩, 5) := ⟨⟨by decide +kernel, by decide +kernel⟩, List.mem_of_getElem? (i := 185) (by decide +kernel), List.mem_of_getElem? (i := 711) (by decide +kernel), List.mem_of_getElem? (i := 712) (by decide +kernel)⟩
theorem lw_p59 : lw_okq (⟨"SoapNames$Sheet", "makeNew", "(II)V"⟩, 3) := ⟨⟨by decide +kernel, by decide +kernel⟩, List.mem_of_getElem? (i := 210) (by decide +kernel), List.mem_of_getElem? (i := 724) (by decide +kernel), List.mem_of_getElem? (i := 725) (by decide +kernel)⟩
theorem lw_p60 : lw_okq (⟨"SoapNames$Sheet", "setNumber", "(II)V"⟩, 3) := ⟨⟨by decide +kernel, by decide +kernel⟩, List.mem_of_getElem? (i := 210) (by decide +kernel), List.mem_of_getElem? (i := 733) (by decide +kernel), List.mem_of_getElem? (i := 734) (by decide +kernel)⟩
theorem lw_p61 : lw_okq (⟨"SoapNames$Sheet", "hasPart", "(II)Z"⟩, 3) := ⟨⟨by decide +kernel, by decide +kernel⟩, List.mem_of_getElem? (i := 210) (by decide +kernel), List.mem_of_getElem? (i := 741) (by decide +kernel), List.mem_of_getElem? (i := 742) (by decide +kernel)⟩
theorem lw_p62 : lw_okq (⟨"SoapNames$World", "allHands", "()I"⟩, 14) := ⟨⟨by decide +kernel, by decide +kernel⟩, List.mem_of_getElem? (i := 22) (by decide +kernel), List.mem_of_getElem? (i := 773) (by decide +kernel), List.mem_of_getElem? (i := 774) (by decide +kernel)⟩
theorem lw_p63 : lw_okq (⟨"SoapNames$World", "allWorn", "()I"⟩, 14) := ⟨⟨by decide +kernel, by decide +kernel⟩, List.mem_of_getElem? (i := 22) (by decide +kernel), List.mem_of_getElem? (i := 777) (by decide +kernel), List.mem_of_getElem? (i := 778) (by decide +kernel)⟩
def lw_privs_4 : List (MethodName × Nat) := [(⟨"SoapNames$World", "stillHands", "(I)V"⟩, 14), (⟨"SoapNames$World", "cakesShowing", "(I)I"⟩, 14), (⟨"SoapNames", "sheetAt", "(I)LSoapNames$Sheet;"⟩, 10), (⟨"SoapNames$Sheet", "isMissing", "()Z"⟩, 3), (⟨"SoapNames$Sheet", "numberAt", "(I)I"⟩, 3), (⟨"SoapNames$World", "wearOfDays", "(LSoapNames$Cake;I)I"⟩, 14), (⟨"SoapNames$Cake", "wouldShow", "(II)Z"⟩, 7), (⟨"SoapNames", "lendFrom", "(III)Z"⟩, 10), (⟨"SoapNames$Voice", "speak", "(ILSoapNames$Cake;II)I"⟩, 5), (⟨"SoapNames$Voice", "said", "(IIII)I"⟩, 5), (⟨"SoapNames$Voice", "begin", "(I)V"⟩, 5), (⟨"SoapNames$Sheet", "makeNew", "(II)V"⟩, 3), (⟨"SoapNames$Sheet", "setNumber", "(II)V"⟩, 3), (⟨"SoapNames$Sheet", "hasPart", "(II)Z"⟩, 3), (⟨"SoapNames$World", "allHands", "()I"⟩, 14), (⟨"SoapNames$World", "allWorn", "()I"⟩, 14)]
theorem lw_r4 : ∀ q ∈ lw_privs_4, lw_okq q := List.forall_mem_cons.mpr ⟨lw_p48, List.forall_mem_cons.mpr ⟨lw_p49, List.forall_mem_cons.mpr ⟨lw_p50, List.forall_mem_cons.mpr ⟨lw_p51, List.forall_mem_cons.mpr ⟨lw_p52, List.forall_mem_cons.mpr ⟨lw_p53, List.forall_mem_cons.mpr ⟨lw_p54, List.forall_mem_cons.mpr ⟨lw_p55, List.forall_mem_cons.mpr ⟨lw_p56, List.forall_mem_cons.mpr ⟨lw_p57, List.forall_mem_cons.mpr ⟨lw_p58, List.forall_mem_cons.mpr ⟨lw_p59, List.forall_mem_cons.mpr ⟨lw_p60, List.forall_mem_cons.mpr ⟨lw_p61, List.forall_mem_cons.mpr ⟨lw_p62, List.forall_mem_cons.mpr ⟨lw_p63, fun _ h => absurd h List.not_mem_nil⟩⟩⟩⟩⟩⟩⟩⟩⟩⟩⟩⟩⟩⟩⟩⟩
theorem lw_p64 : lw_okq (⟨"SoapNamesModel", "errs", "(I)I"⟩, 25) := ⟨⟨by decide +kernel, by decide +kernel⟩, List.mem_of_getElem? (i := 785) (by decide +kernel), List.mem_of_getElem? (i := 875) (by decide +kernel), List.mem_of_getElem? (i := 876) (by decide +kernel)⟩
theorem lw_p65 : lw_okq (⟨"SoapNamesModel", "isHouse", "(I)Z"⟩, 25) := ⟨⟨by decide +kernel, by decide +kernel⟩, List.mem_of_getElem? (i := 785) (by decide +kernel), List.mem_of_getElem? (i := 885) (by decide +kernel), List.mem_of_getElem? (i := 886) (by decide +kernel)⟩
theorem lw_p66 : lw_okq (⟨"SoapNamesModel", "cakesIn", "(I)I"⟩, 25) := ⟨⟨by decide +kernel, by decide +kernel⟩, List.mem_of_getElem? (i := 785) (by decide +kernel), List.mem_of_getElem? (i := 889) (by decide +kernel), List.mem_of_getElem? (i := 890) (by decide +kernel)⟩
theorem lw_p67 : lw_okq (⟨"SoapNamesModel", "its", "(II)I"⟩, 25) := ⟨⟨by decide +kernel, by decide +kernel⟩, List.mem_of_getElem? (i := 785) (by decide +kernel), List.mem_of_getElem? (i := 893) (by decide +kernel), List.mem_of_getElem? (i := 894) (by decide +kernel)⟩
theorem lw_p68 : lw_okq (⟨"SoapNamesModel", "guestsIn", "(I)I"⟩, 25) := ⟨⟨by decide +kernel, by decide +kernel⟩, List.mem_of_getElem? (i := 785) (by decide +kernel), List.mem_of_getElem? (i := 897) (by decide +kernel), List.mem_of_getElem? (i := 898) (by decide +kernel)⟩
theorem lw_p69 : lw_okq (⟨"SoapNamesModel", "shows", "(I)I"⟩, 25) := ⟨⟨by decide +kernel, by decide +kernel⟩, List.mem_of_getElem? (i := 785) (by decide +kernel), List.mem_of_getElem? (i := 901) (by decide +kernel), List.mem_of_getElem? (i := 902) (by decide +kernel)⟩
theorem lw_p70 : lw_okq (⟨"SoapNamesModel", "out", "(I)I"⟩, 25) := ⟨⟨by decide +kernel, by decide +kernel⟩, List.mem_of_getElem? (i := 785) (by decide +kernel), List.mem_of_getElem? (i := 905) (by decide +kernel), List.mem_of_getElem? (i := 906) (by decide +kernel)⟩
theorem lw_p71 : lw_okq (⟨"SoapNamesModel", "thick", "(I)I"⟩, 25) := ⟨⟨by decide +kernel, by decide +kernel⟩, List.mem_of_getElem? (i := 785) (by decide +kernel), List.mem_of_getElem? (i := 909) (by decide +kernel), List.mem_of_getElem? (i := 910) (by decide +kernel)⟩
theorem lw_p72 : lw_okq (⟨"SoapNamesModel", "lawOf", "(IIII)I"⟩, 25) := ⟨⟨by decide +kernel, by decide +kernel⟩, List.mem_of_getElem? (i := 785) (by decide +kernel), List.mem_of_getElem? (i := 913) (by decide +kernel), List.mem_of_getElem? (i := 914) (by decide +kernel)⟩
theorem lw_p73 : lw_okq (⟨"SoapNamesModel", "walks", "(IIII)I"⟩, 25) := ⟨⟨by decide +kernel, by decide +kernel⟩, List.mem_of_getElem? (i := 785) (by decide +kernel), List.mem_of_getElem? (i := 917) (by decide +kernel), List.mem_of_getElem? (i := 918) (by decide +kernel)⟩
theorem lw_p74 : lw_okq (⟨"SoapNamesModel", "whole", "()I"⟩, 25) := ⟨⟨by decide +kernel, by decide +kernel⟩, List.mem_of_getElem? (i := 785) (by decide +kernel), List.mem_of_getElem? (i := 921) (by decide +kernel), List.mem_of_getElem? (i := 922) (by decide +kernel)⟩
theorem lw_p75 : lw_okq (⟨"SoapNamesModel", "both", "()I"⟩, 25) := ⟨⟨by decide +kernel, by decide +kernel⟩, List.mem_of_getElem? (i := 785) (by decide +kernel), List.mem_of_getElem? (i := 925) (by decide +kernel), List.mem_of_getElem? (i := 926) (by decide +kernel)⟩
theorem lw_p76 : lw_okq (⟨"SoapNamesModel", "compared", "()I"⟩, 25) := ⟨⟨by decide +kernel, by decide +kernel⟩, List.mem_of_getElem? (i := 785) (by decide +kernel), List.mem_of_getElem? (i := 929) (by decide +kernel), List.mem_of_getElem? (i := 930) (by decide +kernel)⟩
theorem lw_p77 : lw_okq (⟨"SoapNamesModel", "sum", "()I"⟩, 25) := ⟨⟨by decide +kernel, by decide +kernel⟩, List.mem_of_getElem? (i := 785) (by decide +kernel), List.mem_of_getElem? (i := 933) (by decide +kernel), List.mem_of_getElem? (i := 934) (by decide +kernel)⟩
theorem lw_p78 : lw_okq (⟨"SoapNamesModel", "product", "()I"⟩, 25) := ⟨⟨by decide +kernel, by decide +kernel⟩, List.mem_of_getElem? (i := 785) (by decide +kernel), List.mem_of_getElem? (i := 937) (by decide +kernel), List.mem_of_getElem? (i := 938) (by decide +kernel)⟩
theorem lw_p79 : lw_okq (⟨"SoapNamesModel", "factor", "()I"⟩, 25) := ⟨⟨by decide +kernel, by decide +kernel⟩, List.mem_of_getElem? (i := 785) (by decide +kernel), List.mem_of_getElem? (i := 941) (by decide +kernel), List.mem_of_getElem? (i := 942) (by decide +kernel)⟩
def lw_privs_5 : List (MethodName × Nat) := [(⟨"SoapNamesModel", "errs", "(I)I"⟩, 25), (⟨"SoapNamesModel", "isHouse", "(I)Z"⟩, 25), (⟨"SoapNamesModel", "cakesIn", "(I)I"⟩, 25), (⟨"SoapNamesModel", "its", "(II)I"⟩, 25), (⟨"SoapNamesModel", "guestsIn", "(I)I"⟩, 25), (⟨"SoapNamesModel", "shows", "(I)I"⟩, 25), (⟨"SoapNamesModel", "out", "(I)I"⟩, 25), (⟨"SoapNamesModel", "thick", "(I)I"⟩, 25), (⟨"SoapNamesModel", "lawOf", "(IIII)I"⟩, 25), (⟨"SoapNamesModel", "walks", "(IIII)I"⟩, 25), (⟨"SoapNamesModel", "whole", "()I"⟩, 25), (⟨"SoapNamesModel", "both", "()I"⟩, 25), (⟨"SoapNamesModel", "compared", "()I"⟩, 25), (⟨"SoapNamesModel", "sum", "()I"⟩, 25), (⟨"SoapNamesModel", "product", "()I"⟩, 25), (⟨"SoapNamesModel", "factor", "()I"⟩, 25)]
theorem lw_r5 : ∀ q ∈ lw_privs_5, lw_okq q := List.forall_mem_cons.mpr ⟨lw_p64, List.forall_mem_cons.mpr ⟨lw_p65, List.forall_mem_cons.mpr ⟨lw_p66, List.forall_mem_cons.mpr ⟨lw_p67, List.forall_mem_cons.mpr ⟨lw_p68, List.forall_mem_cons.mpr ⟨lw_p69, List.forall_mem_cons.mpr ⟨lw_p70, List.forall_mem_cons.mpr ⟨lw_p71, List.forall_mem_cons.mpr ⟨lw_p72, List.forall_mem_cons.mpr ⟨lw_p73, List.forall_mem_cons.mpr ⟨lw_p74, List.forall_mem_cons.mpr ⟨lw_p75, List.forall_mem_cons.mpr ⟨lw_p76, List.forall_mem_cons.mpr ⟨lw_p77, List.forall_mem_cons.mpr ⟨lw_p78, List.forall_mem_cons.mpr ⟨lw_p79, fun _ h => absurd h List.not_mem_nil⟩⟩⟩⟩⟩⟩⟩⟩⟩⟩⟩⟩⟩⟩⟩⟩
theorem lw_p80 : lw_okq (⟨"SoapNamesModel", "byteAt", "(I)I"⟩, 25) := ⟨⟨by decide +kernel, by decide +kernel⟩, List.mem_of_getElem? (i := 785) (by decide +kernel), List.mem_of_getElem? (i := 945) (by decide +kernel), List.mem_of_getElem? (i := 946) (by decide +kernel)⟩
theorem lw_p81 : lw_okq (⟨"SoapNamesModel", "number", "()I"⟩, 25) := ⟨⟨by decide +kernel, by decide +kernel⟩, List.mem_of_getElem? (i := 785) (by decide +kernel), List.mem_of_getElem? (i := 952) (by decide +kernel), List.mem_of_getElem? (i := 953) (by decide +kernel)⟩
theorem lw_p82 : lw_okq (⟨"SoapNamesModel", "named", "(I)I"⟩, 25) := ⟨⟨by decide +kernel, by decide +kernel⟩, List.mem_of_getElem? (i := 785) (by decide +kernel), List.mem_of_getElem? (i := 956) (by decide +kernel), List.mem_of_getElem? (i := 957) (by decide +kernel)⟩
theorem lw_p83 : lw_okq (⟨"SoapNamesModel", "fails", "()I"⟩, 25) := ⟨⟨by decide +kernel, by decide +kernel⟩, List.mem_of_getElem? (i := 785) (by decide +kernel), List.mem_of_getElem? (i := 960) (by decide +kernel), List.mem_of_getElem? (i := 961) (by decide +kernel)⟩
theorem lw_p84 : lw_okq (⟨"SoapNamesModel", "becomes", "(II)I"⟩, 25) := ⟨⟨by decide +kernel, by decide +kernel⟩, List.mem_of_getElem? (i := 785) (by decide +kernel), List.mem_of_getElem? (i := 971) (by decide +kernel), List.mem_of_getElem? (i := 972) (by decide +kernel)⟩
theorem lw_p85 : lw_okq (⟨"SoapNamesModel", "gets", "(III)V"⟩, 25) := ⟨⟨by decide +kernel, by decide +kernel⟩, List.mem_of_getElem? (i := 785) (by decide +kernel), List.mem_of_getElem? (i := 979) (by decide +kernel), List.mem_of_getElem? (i := 980) (by decide +kernel)⟩
theorem lw_p86 : lw_okq (⟨"SoapNamesModel", "isCake", "(I)Z"⟩, 25) := ⟨⟨by decide +kernel, by decide +kernel⟩, List.mem_of_getElem? (i := 785) (by decide +kernel), List.mem_of_getElem? (i := 987) (by decide +kernel), List.mem_of_getElem? (i := 988) (by decide +kernel)⟩
theorem lw_p87 : lw_okq (⟨"SoapNamesModel", "isGone", "(I)Z"⟩, 25) := ⟨⟨by decide +kernel, by decide +kernel⟩, List.mem_of_getElem? (i := 785) (by decide +kernel), List.mem_of_getElem? (i := 991) (by decide +kernel), List.mem_of_getElem? (i := 992) (by decide +kernel)⟩
theorem lw_p88 : lw_okq (⟨"SoapNamesModel", "wearsBy", "(I)I"⟩, 25) := ⟨⟨by decide +kernel, by decide +kernel⟩, List.mem_of_getElem? (i := 785) (by decide +kernel), List.mem_of_getElem? (i := 995) (by decide +kernel), List.mem_of_getElem? (i := 996) (by decide +kernel)⟩
theorem lw_p89 : lw_okq (⟨"SoapNamesModel", "moveAll", "([I[I)V"⟩, 25) := ⟨⟨by decide +kernel, by decide +kernel⟩, List.mem_of_getElem? (i := 785) (by decide +kernel), List.mem_of_getElem? (i := 1041) (by decide +kernel), List.mem_of_getElem? (i := 1042) (by decide +kernel)⟩
theorem lw_p90 : lw_okq (⟨"SoapNamesModel", "passes", "(I)V"⟩, 25) := ⟨⟨by decide +kernel, by decide +kernel⟩, List.mem_of_getElem? (i := 785) (by decide +kernel), List.mem_of_getElem? (i := 1049) (by decide +kernel), List.mem_of_getElem? (i := 1050) (by decide +kernel)⟩
theorem lw_p91 : lw_okq (⟨"SoapNamesModel", "oneDay", "()V"⟩, 25) := ⟨⟨by decide +kernel, by decide +kernel⟩, List.mem_of_getElem? (i := 785) (by decide +kernel), List.mem_of_getElem? (i := 1053) (by decide +kernel), List.mem_of_getElem? (i := 1054) (by decide +kernel)⟩
theorem lw_p92 : lw_okq (⟨"SoapNamesModel", "gone", "()I"⟩, 25) := ⟨⟨by decide +kernel, by decide +kernel⟩, List.mem_of_getElem? (i := 785) (by decide +kernel), List.mem_of_getElem? (i := 1057) (by decide +kernel), List.mem_of_getElem? (i := 1058) (by decide +kernel)⟩
theorem lw_p93 : lw_okq (⟨"SoapNamesModel", "drawn", "(I)I"⟩, 25) := ⟨⟨by decide +kernel, by decide +kernel⟩, List.mem_of_getElem? (i := 785) (by decide +kernel), List.mem_of_getElem? (i := 1065) (by decide +kernel), List.mem_of_getElem? (i := 1066) (by decide +kernel)⟩
theorem lw_p94 : lw_okq (⟨"SoapNamesModel", "housesOf", "(I)I"⟩, 25) := ⟨⟨by decide +kernel, by decide +kernel⟩, List.mem_of_getElem? (i := 785) (by decide +kernel), List.mem_of_getElem? (i := 1077) (by decide +kernel), List.mem_of_getElem? (i := 1078) (by decide +kernel)⟩
theorem lw_p95 : lw_okq (⟨"SoapNamesModel", "isInSoon", "(III)Z"⟩, 25) := ⟨⟨by decide +kernel, by decide +kernel⟩, List.mem_of_getElem? (i := 785) (by decide +kernel), List.mem_of_getElem? (i := 1109) (by decide +kernel), List.mem_of_getElem? (i := 1110) (by decide +kernel)⟩
def lw_privs_6 : List (MethodName × Nat) := [(⟨"SoapNamesModel", "byteAt", "(I)I"⟩, 25), (⟨"SoapNamesModel", "number", "()I"⟩, 25), (⟨"SoapNamesModel", "named", "(I)I"⟩, 25), (⟨"SoapNamesModel", "fails", "()I"⟩, 25), (⟨"SoapNamesModel", "becomes", "(II)I"⟩, 25), (⟨"SoapNamesModel", "gets", "(III)V"⟩, 25), (⟨"SoapNamesModel", "isCake", "(I)Z"⟩, 25), (⟨"SoapNamesModel", "isGone", "(I)Z"⟩, 25), (⟨"SoapNamesModel", "wearsBy", "(I)I"⟩, 25), (⟨"SoapNamesModel", "moveAll", "([I[I)V"⟩, 25), (⟨"SoapNamesModel", "passes", "(I)V"⟩, 25), (⟨"SoapNamesModel", "oneDay", "()V"⟩, 25), (⟨"SoapNamesModel", "gone", "()I"⟩, 25), (⟨"SoapNamesModel", "drawn", "(I)I"⟩, 25), (⟨"SoapNamesModel", "housesOf", "(I)I"⟩, 25), (⟨"SoapNamesModel", "isInSoon", "(III)Z"⟩, 25)]
theorem lw_r6 : ∀ q ∈ lw_privs_6, lw_okq q := List.forall_mem_cons.mpr ⟨lw_p80, List.forall_mem_cons.mpr ⟨lw_p81, List.forall_mem_cons.mpr ⟨lw_p82, List.forall_mem_cons.mpr ⟨lw_p83, List.forall_mem_cons.mpr ⟨lw_p84, List.forall_mem_cons.mpr ⟨lw_p85, List.forall_mem_cons.mpr ⟨lw_p86, List.forall_mem_cons.mpr ⟨lw_p87, List.forall_mem_cons.mpr ⟨lw_p88, List.forall_mem_cons.mpr ⟨lw_p89, List.forall_mem_cons.mpr ⟨lw_p90, List.forall_mem_cons.mpr ⟨lw_p91, List.forall_mem_cons.mpr ⟨lw_p92, List.forall_mem_cons.mpr ⟨lw_p93, List.forall_mem_cons.mpr ⟨lw_p94, List.forall_mem_cons.mpr ⟨lw_p95, fun _ h => absurd h List.not_mem_nil⟩⟩⟩⟩⟩⟩⟩⟩⟩⟩⟩⟩⟩⟩⟩⟩
theorem lw_p96 : lw_okq (⟨"SoapNamesModel", "isRow", "(I)Z"⟩, 25) := ⟨⟨by decide +kernel, by decide +kernel⟩, List.mem_of_getElem? (i := 785) (by decide +kernel), List.mem_of_getElem? (i := 1132) (by decide +kernel), List.mem_of_getElem? (i := 1133) (by decide +kernel)⟩
theorem lw_p97 : lw_okq (⟨"SoapNamesModel", "lathersIn", "(II)I"⟩, 25) := ⟨⟨by decide +kernel, by decide +kernel⟩, List.mem_of_getElem? (i := 785) (by decide +kernel), List.mem_of_getElem? (i := 1151) (by decide +kernel), List.mem_of_getElem? (i := 1152) (by decide +kernel)⟩
theorem lw_p98 : lw_okq (⟨"SoapNamesModel", "ran", "(I)V"⟩, 25) := ⟨⟨by decide +kernel, by decide +kernel⟩, List.mem_of_getElem? (i := 785) (by decide +kernel), List.mem_of_getElem? (i := 1155) (by decide +kernel), List.mem_of_getElem? (i := 1156) (by decide +kernel)⟩
theorem lw_p99 : lw_okq (⟨"SoapNamesModel", "wearsIn", "(II)I"⟩, 25) := ⟨⟨by decide +kernel, by decide +kernel⟩, List.mem_of_getElem? (i := 785) (by decide +kernel), List.mem_of_getElem? (i := 1159) (by decide +kernel), List.mem_of_getElem? (i := 1160) (by decide +kernel)⟩
theorem lw_p100 : lw_okq (⟨"SoapNamesModel", "showsIn", "(II)I"⟩, 25) := ⟨⟨by decide +kernel, by decide +kernel⟩, List.mem_of_getElem? (i := 785) (by decide +kernel), List.mem_of_getElem? (i := 1163) (by decide +kernel), List.mem_of_getElem? (i := 1164) (by decide +kernel)⟩
theorem lw_p101 : lw_okq (⟨"SoapNamesModel", "slipsIn", "(II)I"⟩, 25) := ⟨⟨by decide +kernel, by decide +kernel⟩, List.mem_of_getElem? (i := 785) (by decide +kernel), List.mem_of_getElem? (i := 1167) (by decide +kernel), List.mem_of_getElem? (i := 1168) (by decide +kernel)⟩
theorem lw_p102 : lw_okq (⟨"SoapNamesModel", "sumOf", "(III)I"⟩, 25) := ⟨⟨by decide +kernel, by decide +kernel⟩, List.mem_of_getElem? (i := 785) (by decide +kernel), List.mem_of_getElem? (i := 1218) (by decide +kernel), List.mem_of_getElem? (i := 1219) (by decide +kernel)⟩
def lw_privs_7 : List (MethodName × Nat) := [(⟨"SoapNamesModel", "isRow", "(I)Z"⟩, 25), (⟨"SoapNamesModel", "lathersIn", "(II)I"⟩, 25), (⟨"SoapNamesModel", "ran", "(I)V"⟩, 25), (⟨"SoapNamesModel", "wearsIn", "(II)I"⟩, 25), (⟨"SoapNamesModel", "showsIn", "(II)I"⟩, 25), (⟨"SoapNamesModel", "slipsIn", "(II)I"⟩, 25), (⟨"SoapNamesModel", "sumOf", "(III)I"⟩, 25)]
theorem lw_r7 : ∀ q ∈ lw_privs_7, lw_okq q := List.forall_mem_cons.mpr ⟨lw_p96, List.forall_mem_cons.mpr ⟨lw_p97, List.forall_mem_cons.mpr ⟨lw_p98, List.forall_mem_cons.mpr ⟨lw_p99, List.forall_mem_cons.mpr ⟨lw_p100, List.forall_mem_cons.mpr ⟨lw_p101, List.forall_mem_cons.mpr ⟨lw_p102, fun _ h => absurd h List.not_mem_nil⟩⟩⟩⟩⟩⟩⟩
def lw_privs : List (MethodName × Nat) := lw_privs_1 ++ (lw_privs_2 ++ (lw_privs_3 ++ (lw_privs_4 ++ (lw_privs_5 ++ (lw_privs_6 ++ (lw_privs_7))))))
def lw_tbl : List Cond := k2_sels lw_privs ++ tables_1
theorem lw_privs_ok : ∀ q ∈ lw_privs, lw_okq q := by
  show ∀ q ∈ lw_privs_1 ++ (lw_privs_2 ++ (lw_privs_3 ++ (lw_privs_4 ++ (lw_privs_5 ++ (lw_privs_6 ++ (lw_privs_7)))))), lw_okq q
  exact List.forall_mem_append.mpr ⟨lw_r1, List.forall_mem_append.mpr ⟨lw_r2, List.forall_mem_append.mpr ⟨lw_r3, List.forall_mem_append.mpr ⟨lw_r4, List.forall_mem_append.mpr ⟨lw_r5, List.forall_mem_append.mpr ⟨lw_r6, lw_r7⟩⟩⟩⟩⟩⟩
-- ===== end of PART A; then your names; then what follows =====
def RX0 : String := "SoapNames$Cake"
def TX0 : u_T := fun k => match k with
  | 0 => ("SoapNames$Cake", "names", "[I", true)
  | 1 => ("SoapNames$Cake", "kind", "I", false)
  | 2 => ("SoapNames$Cake", "m", "I", false)
  | 3 => ("SoapNames$Cake", "home", "I", false)
  | 4 => ("SoapNames$Cake", "layers", "I", false)
  | 5 => ("SoapNames$Cake", "worn", "I", false)
  | _ => ("SoapNames$Cake", "thick", "I", false)
def tyX0 : Nat → FieldType := fun k => match k with
  | 0 => .array .int
  | 1 => .int
  | 2 => .int
  | 3 => .int
  | 4 => .int
  | 5 => .int
  | _ => .int
abbrev wsX00 : List Cond := u_ws RX0 TX0 7
theorem nmX0 : ∀ a, a < 7 → ∀ b, b < 7 → a ≠ b → (TX0 a).2.1 ≠ (TX0 b).2.1 := by decide +kernel
theorem tyX0_ok : ∀ k, k < 7 → parseFieldDescriptor (TX0 k).2.2.1 = some (tyX0 k) := by decide +kernel
abbrev cX0_init : ByteArray := prog_2_method_1_code
def yX0_init : MethodName := ⟨RX0, "<init>", "()V"⟩
abbrev cX0_makeNew : ByteArray := prog_2_method_2_code
def yX0_makeNew : MethodName := ⟨RX0, "makeNew", "(III)V"⟩
abbrev cX0_copyFrom : ByteArray := prog_2_method_3_code
def yX0_copyFrom : MethodName := ⟨RX0, "copyFrom", "(LSoapNames$Cake;)V"⟩
abbrev cX0_addLayer : ByteArray := prog_2_method_4_code
def yX0_addLayer : MethodName := ⟨RX0, "addLayer", "(I)V"⟩
abbrev cX0_nameOf : ByteArray := prog_2_method_5_code
def yX0_nameOf : MethodName := ⟨RX0, "nameOf", "(I)I"⟩
abbrev cX0_layerOut : ByteArray := prog_2_method_6_code
def yX0_layerOut : MethodName := ⟨RX0, "layerOut", "()I"⟩
abbrev cX0_isGone : ByteArray := prog_2_method_7_code
def yX0_isGone : MethodName := ⟨RX0, "isGone", "()Z"⟩
abbrev cX0_isOfKind : ByteArray := prog_2_method_8_code
def yX0_isOfKind : MethodName := ⟨RX0, "isOfKind", "(I)Z"⟩
abbrev cX0_measure : ByteArray := prog_2_method_9_code
def yX0_measure : MethodName := ⟨RX0, "measure", "(I)V"⟩
abbrev cX0_shown : ByteArray := prog_2_method_10_code
def yX0_shown : MethodName := ⟨RX0, "shown", "()I"⟩
abbrev cX0_wouldShow : ByteArray := prog_2_method_11_code
def yX0_wouldShow : MethodName := ⟨RX0, "wouldShow", "(II)Z"⟩
abbrev cX0_unbribed : ByteArray := prog_2_method_12_code
def yX0_unbribed : MethodName := ⟨RX0, "unbribed", "(I)I"⟩
abbrev cX0_wearWith : ByteArray := prog_2_method_13_code
def yX0_wearWith : MethodName := ⟨RX0, "wearWith", "(II)I"⟩
abbrev cX0_wearBy : ByteArray := prog_2_method_14_code
def yX0_wearBy : MethodName := ⟨RX0, "wearBy", "(I)V"⟩
abbrev cX0_pressOnto : ByteArray := prog_2_method_15_code
def yX0_pressOnto : MethodName := ⟨RX0, "pressOnto", "(LSoapNames$Cake;)I"⟩
def RX1 : String := "SoapNames$House"
def TX1 : u_T := fun k => match k with
  | 0 => ("SoapNames$House", "hands", "I", false)
  | _ => ("SoapNames$House", "water", "I", false)
def tyX1 : Nat → FieldType := fun k => match k with
  | 0 => .int
  | _ => .int
abbrev wsX10 : List Cond := u_ws RX1 TX1 2
theorem nmX1 : ∀ a, a < 2 → ∀ b, b < 2 → a ≠ b → (TX1 a).2.1 ≠ (TX1 b).2.1 := by decide +kernel
theorem tyX1_ok : ∀ k, k < 2 → parseFieldDescriptor (TX1 k).2.2.1 = some (tyX1 k) := by decide +kernel
abbrev cX1_init : ByteArray := prog_3_method_1_code
def yX1_init : MethodName := ⟨RX1, "<init>", "()V"⟩
abbrev cX1_copyFrom : ByteArray := prog_3_method_2_code
def yX1_copyFrom : MethodName := ⟨RX1, "copyFrom", "(LSoapNames$House;)V"⟩
def RX2 : String := "SoapNames$Reader"
def TX2 : u_T := fun k => match k with
  | 0 => ("SoapNames$Reader", "found", "LSoapNames$Text;", true)
  | 1 => ("SoapNames$Reader", "tape", "[I", true)
  | 2 => ("SoapNames$Reader", "names", "[I", true)
  | 3 => ("SoapNames$Reader", "length", "I", false)
  | 4 => ("SoapNames$Reader", "place", "I", false)
  | _ => ("SoapNames$Reader", "fault", "I", false)
def tyX2 : Nat → FieldType := fun k => match k with
  | 0 => .object "SoapNames$Text"
  | 1 => .array .int
  | 2 => .array .int
  | 3 => .int
  | 4 => .int
  | _ => .int
abbrev wsX20 : List Cond := u_ws RX2 TX2 6
theorem nmX2 : ∀ a, a < 6 → ∀ b, b < 6 → a ≠ b → (TX2 a).2.1 ≠ (TX2 b).2.1 := by decide +kernel
theorem tyX2_ok : ∀ k, k < 6 → parseFieldDescriptor (TX2 k).2.2.1 = some (tyX2 k) := by decide +kernel
abbrev cX2_init : ByteArray := prog_4_method_1_code
def yX2_init : MethodName := ⟨RX2, "<init>", "()V"⟩
abbrev cX2_faultOf : ByteArray := prog_4_method_2_code
def yX2_faultOf : MethodName := ⟨RX2, "faultOf", "([II[I)I"⟩
abbrev cX2_next : ByteArray := prog_4_method_3_code
def yX2_next : MethodName := ⟨RX2, "next", "()I"⟩
abbrev cX2_failHere : ByteArray := prog_4_method_4_code
def yX2_failHere : MethodName := ⟨RX2, "failHere", "()V"⟩
abbrev cX2_rankOf : ByteArray := prog_4_method_5_code
def yX2_rankOf : MethodName := ⟨RX2, "rankOf", "(I)I"⟩
abbrev cX2_readChain : ByteArray := prog_4_method_6_code
def yX2_readChain : MethodName := ⟨RX2, "readChain", "(II)V"⟩
abbrev cX2_readOne : ByteArray := prog_4_method_7_code
def yX2_readOne : MethodName := ⟨RX2, "readOne", "(I)V"⟩
abbrev cX2_readOpened : ByteArray := prog_4_method_8_code
def yX2_readOpened : MethodName := ⟨RX2, "readOpened", "(II)V"⟩
abbrev cX2_readNumber : ByteArray := prog_4_method_9_code
def yX2_readNumber : MethodName := ⟨RX2, "readNumber", "()V"⟩
abbrev cX2_readName : ByteArray := prog_4_method_10_code
def yX2_readName : MethodName := ⟨RX2, "readName", "(I)V"⟩
def RX3 : String := "SoapNames$Sheet"
def TX3 : u_T := fun k => match k with
  | 0 => ("SoapNames$Sheet", "numbers", "[I", true)
  | 1 => ("SoapNames$Sheet", "bits", "I", false)
  | _ => ("SoapNames$Sheet", "size", "I", false)
def tyX3 : Nat → FieldType := fun k => match k with
  | 0 => .array .int
  | 1 => .int
  | _ => .int
abbrev wsX30 : List Cond := u_ws RX3 TX3 3
theorem nmX3 : ∀ a, a < 3 → ∀ b, b < 3 → a ≠ b → (TX3 a).2.1 ≠ (TX3 b).2.1 := by decide +kernel
theorem tyX3_ok : ∀ k, k < 3 → parseFieldDescriptor (TX3 k).2.2.1 = some (tyX3 k) := by decide +kernel
abbrev cX3_init : ByteArray := prog_5_method_1_code
def yX3_init : MethodName := ⟨RX3, "<init>", "()V"⟩
abbrev cX3_makeNew : ByteArray := prog_5_method_2_code
def yX3_makeNew : MethodName := ⟨RX3, "makeNew", "(II)V"⟩
abbrev cX3_isMissing : ByteArray := prog_5_method_3_code
def yX3_isMissing : MethodName := ⟨RX3, "isMissing", "()Z"⟩
abbrev cX3_hasPart : ByteArray := prog_5_method_4_code
def yX3_hasPart : MethodName := ⟨RX3, "hasPart", "(II)Z"⟩
abbrev cX3_numberAt : ByteArray := prog_5_method_5_code
def yX3_numberAt : MethodName := ⟨RX3, "numberAt", "(I)I"⟩
abbrev cX3_setNumber : ByteArray := prog_5_method_6_code
def yX3_setNumber : MethodName := ⟨RX3, "setNumber", "(II)V"⟩
def RX4 : String := "SoapNames$Text"
def TX4 : u_T := fun k => match k with
  | 0 => ("SoapNames$Text", "steps", "[I", true)
  | 1 => ("SoapNames$Text", "stack", "[I", true)
  | _ => ("SoapNames$Text", "length", "I", false)
def tyX4 : Nat → FieldType := fun k => match k with
  | 0 => .array .int
  | 1 => .array .int
  | _ => .int
abbrev wsX40 : List Cond := u_ws RX4 TX4 3
theorem nmX4 : ∀ a, a < 3 → ∀ b, b < 3 → a ≠ b → (TX4 a).2.1 ≠ (TX4 b).2.1 := by decide +kernel
theorem tyX4_ok : ∀ k, k < 3 → parseFieldDescriptor (TX4 k).2.2.1 = some (tyX4 k) := by decide +kernel
abbrev cX4_init : ByteArray := prog_6_method_1_code
def yX4_init : MethodName := ⟨RX4, "<init>", "()V"⟩
abbrev cX4_isEmpty : ByteArray := prog_6_method_2_code
def yX4_isEmpty : MethodName := ⟨RX4, "isEmpty", "()Z"⟩
abbrev cX4_add : ByteArray := prog_6_method_3_code
def yX4_add : MethodName := ⟨RX4, "add", "(I)V"⟩
abbrev cX4_copyFrom : ByteArray := prog_6_method_4_code
def yX4_copyFrom : MethodName := ⟨RX4, "copyFrom", "(LSoapNames$Text;)V"⟩
abbrev cX4_valueWith : ByteArray := prog_6_method_5_code
def yX4_valueWith : MethodName := ⟨RX4, "valueWith", "(III)I"⟩
abbrev cX4_joined : ByteArray := prog_6_method_6_code
def yX4_joined : MethodName := ⟨RX4, "joined", "(III)I"⟩
def RX5 : String := "SoapNames$Voice"
def TX5 : u_T := fun k => match k with
  | 0 => ("SoapNames$Voice", "bodies", "[I", true)
  | 1 => ("SoapNames$Voice", "traced", "I", false)
  | 2 => ("SoapNames$Voice", "number", "I", false)
  | 3 => ("SoapNames$Voice", "m", "I", false)
  | _ => ("SoapNames$Voice", "kind", "I", false)
def tyX5 : Nat → FieldType := fun k => match k with
  | 0 => .array .int
  | 1 => .int
  | 2 => .int
  | 3 => .int
  | _ => .int
abbrev wsX50 : List Cond := u_ws RX5 TX5 5
theorem nmX5 : ∀ a, a < 5 → ∀ b, b < 5 → a ≠ b → (TX5 a).2.1 ≠ (TX5 b).2.1 := by decide +kernel
theorem tyX5_ok : ∀ k, k < 5 → parseFieldDescriptor (TX5 k).2.2.1 = some (tyX5 k) := by decide +kernel
abbrev cX5_init : ByteArray := prog_7_method_1_code
def yX5_init : MethodName := ⟨RX5, "<init>", "()V"⟩
abbrev cX5_speak : ByteArray := prog_7_method_2_code
def yX5_speak : MethodName := ⟨RX5, "speak", "(ILSoapNames$Cake;II)I"⟩
abbrev cX5_kindWithBody : ByteArray := prog_7_method_3_code
def yX5_kindWithBody : MethodName := ⟨RX5, "kindWithBody", "(II)I"⟩
abbrev cX5_begin : ByteArray := prog_7_method_4_code
def yX5_begin : MethodName := ⟨RX5, "begin", "(I)V"⟩
abbrev cX5_said : ByteArray := prog_7_method_5_code
def yX5_said : MethodName := ⟨RX5, "said", "(IIII)I"⟩
def RX6 : String := "SoapNames$World"
def TX6 : u_T := fun k => match k with
  | 0 => ("SoapNames$World", "houses", "[LSoapNames$House;", true)
  | 1 => ("SoapNames$World", "cakes", "[LSoapNames$Cake;", true)
  | 2 => ("SoapNames$World", "noHouse", "LSoapNames$House;", true)
  | 3 => ("SoapNames$World", "noCake", "LSoapNames$Cake;", true)
  | 4 => ("SoapNames$World", "thickText", "LSoapNames$Text;", true)
  | 5 => ("SoapNames$World", "wearText", "LSoapNames$Text;", true)
  | 6 => ("SoapNames$World", "tape", "[I", true)
  | 7 => ("SoapNames$World", "waiting", "[I", true)
  | 8 => ("SoapNames$World", "houseCount", "I", false)
  | 9 => ("SoapNames$World", "cakeCount", "I", false)
  | 10 => ("SoapNames$World", "tapeLength", "I", false)
  | 11 => ("SoapNames$World", "waitingCount", "I", false)
  | 12 => ("SoapNames$World", "day", "I", false)
  | _ => ("SoapNames$World", "z", "I", false)
def tyX6 : Nat → FieldType := fun k => match k with
  | 0 => .array (.object "SoapNames$House")
  | 1 => .array (.object "SoapNames$Cake")
  | 2 => .object "SoapNames$House"
  | 3 => .object "SoapNames$Cake"
  | 4 => .object "SoapNames$Text"
  | 5 => .object "SoapNames$Text"
  | 6 => .array .int
  | 7 => .array .int
  | 8 => .int
  | 9 => .int
  | 10 => .int
  | 11 => .int
  | 12 => .int
  | _ => .int
abbrev wsX60 : List Cond := u_ws RX6 TX6 14
theorem nmX6 : ∀ a, a < 14 → ∀ b, b < 14 → a ≠ b → (TX6 a).2.1 ≠ (TX6 b).2.1 := by decide +kernel
theorem tyX6_ok : ∀ k, k < 14 → parseFieldDescriptor (TX6 k).2.2.1 = some (tyX6 k) := by decide +kernel
abbrev cX6_init : ByteArray := prog_8_method_1_code
def yX6_init : MethodName := ⟨RX6, "<init>", "()V"⟩
abbrev cX6_houseAt : ByteArray := prog_8_method_2_code
def yX6_houseAt : MethodName := ⟨RX6, "houseAt", "(I)LSoapNames$House;"⟩
abbrev cX6_cakeAt : ByteArray := prog_8_method_3_code
def yX6_cakeAt : MethodName := ⟨RX6, "cakeAt", "(I)LSoapNames$Cake;"⟩
abbrev cX6_textOf : ByteArray := prog_8_method_4_code
def yX6_textOf : MethodName := ⟨RX6, "textOf", "(I)LSoapNames$Text;"⟩
abbrev cX6_copyFrom : ByteArray := prog_8_method_5_code
def yX6_copyFrom : MethodName := ⟨RX6, "copyFrom", "(LSoapNames$World;)V"⟩
abbrev cX6_given : ByteArray := prog_8_method_6_code
def yX6_given : MethodName := ⟨RX6, "given", "(IIII)I"⟩
abbrev cX6_wearOf : ByteArray := prog_8_method_7_code
def yX6_wearOf : MethodName := ⟨RX6, "wearOf", "(LSoapNames$Cake;)I"⟩
abbrev cX6_measureCakes : ByteArray := prog_8_method_8_code
def yX6_measureCakes : MethodName := ⟨RX6, "measureCakes", "()V"⟩
abbrev cX6_passDay : ByteArray := prog_8_method_9_code
def yX6_passDay : MethodName := ⟨RX6, "passDay", "()V"⟩
abbrev cX6_wearOfDays : ByteArray := prog_8_method_10_code
def yX6_wearOfDays : MethodName := ⟨RX6, "wearOfDays", "(LSoapNames$Cake;I)I"⟩
abbrev cX6_passDays : ByteArray := prog_8_method_11_code
def yX6_passDays : MethodName := ⟨RX6, "passDays", "(I)V"⟩
abbrev cX6_draw : ByteArray := prog_8_method_12_code
def yX6_draw : MethodName := ⟨RX6, "draw", "()I"⟩
abbrev cX6_drawHands : ByteArray := prog_8_method_13_code
def yX6_drawHands : MethodName := ⟨RX6, "drawHands", "()V"⟩
abbrev cX6_stillHands : ByteArray := prog_8_method_14_code
def yX6_stillHands : MethodName := ⟨RX6, "stillHands", "(I)V"⟩
abbrev cX6_cakesIn : ByteArray := prog_8_method_15_code
def yX6_cakesIn : MethodName := ⟨RX6, "cakesIn", "(I)I"⟩
abbrev cX6_cakesShowing : ByteArray := prog_8_method_16_code
def yX6_cakesShowing : MethodName := ⟨RX6, "cakesShowing", "(I)I"⟩
abbrev cX6_guestsIn : ByteArray := prog_8_method_17_code
def yX6_guestsIn : MethodName := ⟨RX6, "guestsIn", "(I)I"⟩
abbrev cX6_isIn : ByteArray := prog_8_method_18_code
def yX6_isIn : MethodName := ⟨RX6, "isIn", "(II)Z"⟩
abbrev cX6_housesOf : ByteArray := prog_8_method_19_code
def yX6_housesOf : MethodName := ⟨RX6, "housesOf", "(I)I"⟩
abbrev cX6_dueTwice : ByteArray := prog_8_method_20_code
def yX6_dueTwice : MethodName := ⟨RX6, "dueTwice", "()I"⟩
abbrev cX6_firstDayIn : ByteArray := prog_8_method_21_code
def yX6_firstDayIn : MethodName := ⟨RX6, "firstDayIn", "(III)I"⟩
abbrev cX6_goneCakes : ByteArray := prog_8_method_22_code
def yX6_goneCakes : MethodName := ⟨RX6, "goneCakes", "()I"⟩
abbrev cX6_allHands : ByteArray := prog_8_method_23_code
def yX6_allHands : MethodName := ⟨RX6, "allHands", "()I"⟩
abbrev cX6_allWorn : ByteArray := prog_8_method_24_code
def yX6_allWorn : MethodName := ⟨RX6, "allWorn", "()I"⟩
def RX7 : String := "SoapNames"
def TX7 : u_T := fun k => match k with
  | 0 => ("SoapNames", "now", "LSoapNames$World;", true)
  | 1 => ("SoapNames", "kept", "LSoapNames$World;", true)
  | 2 => ("SoapNames", "thought", "LSoapNames$World;", true)
  | 3 => ("SoapNames", "reader", "LSoapNames$Reader;", true)
  | 4 => ("SoapNames", "voice", "LSoapNames$Voice;", true)
  | 5 => ("SoapNames", "sheets", "[LSoapNames$Sheet;", true)
  | 6 => ("SoapNames", "missingSheet", "LSoapNames$Sheet;", true)
  | 7 => ("SoapNames", "lent", "[I", true)
  | 8 => ("SoapNames", "errors", "[I", true)
  | _ => ("SoapNames", "images", "I", false)
def tyX7 : Nat → FieldType := fun k => match k with
  | 0 => .object "SoapNames$World"
  | 1 => .object "SoapNames$World"
  | 2 => .object "SoapNames$World"
  | 3 => .object "SoapNames$Reader"
  | 4 => .object "SoapNames$Voice"
  | 5 => .array (.object "SoapNames$Sheet")
  | 6 => .object "SoapNames$Sheet"
  | 7 => .array .int
  | 8 => .array .int
  | _ => .int
abbrev wsX70 : List Cond := u_ws RX7 TX7 10
theorem nmX7 : ∀ a, a < 10 → ∀ b, b < 10 → a ≠ b → (TX7 a).2.1 ≠ (TX7 b).2.1 := by decide +kernel
theorem tyX7_ok : ∀ k, k < 10 → parseFieldDescriptor (TX7 k).2.2.1 = some (tyX7 k) := by decide +kernel
abbrev cX7_init : ByteArray := prog_1_method_1_code
def yX7_init : MethodName := ⟨RX7, "<init>", "()V"⟩
abbrev cX7_house : ByteArray := prog_1_method_2_code
def yX7_house : MethodName := ⟨RX7, "house", "(I)I"⟩
abbrev cX7_ofHouse : ByteArray := prog_1_method_3_code
def yX7_ofHouse : MethodName := ⟨RX7, "ofHouse", "(II)I"⟩
abbrev cX7_change : ByteArray := prog_1_method_4_code
def yX7_change : MethodName := ⟨RX7, "change", "(III)I"⟩
abbrev cX7_cake : ByteArray := prog_1_method_5_code
def yX7_cake : MethodName := ⟨RX7, "cake", "(II)I"⟩
abbrev cX7_ofCake : ByteArray := prog_1_method_6_code
def yX7_ofCake : MethodName := ⟨RX7, "ofCake", "(II)I"⟩
abbrev cX7_layer : ByteArray := prog_1_method_7_code
def yX7_layer : MethodName := ⟨RX7, "layer", "(II)I"⟩
abbrev cX7_named : ByteArray := prog_1_method_8_code
def yX7_named : MethodName := ⟨RX7, "named", "(II)I"⟩
abbrev cX7_shift : ByteArray := prog_1_method_9_code
def yX7_shift : MethodName := ⟨RX7, "shift", "(III)I"⟩
abbrev cX7_press : ByteArray := prog_1_method_10_code
def yX7_press : MethodName := ⟨RX7, "press", "(II)I"⟩
abbrev cX7_become : ByteArray := prog_1_method_11_code
def yX7_become : MethodName := ⟨RX7, "become", "(II)I"⟩
abbrev cX7_as : ByteArray := prog_1_method_12_code
def yX7_as : MethodName := ⟨RX7, "as", "(II)I"⟩
abbrev cX7_feed : ByteArray := prog_1_method_13_code
def yX7_feed : MethodName := ⟨RX7, "feed", "(JI)I"⟩
abbrev cX7_text : ByteArray := prog_1_method_14_code
def yX7_text : MethodName := ⟨RX7, "text", "(I)I"⟩
abbrev cX7_law : ByteArray := prog_1_method_15_code
def yX7_law : MethodName := ⟨RX7, "law", "(IIII)I"⟩
abbrev cX7_days : ByteArray := prog_1_method_16_code
def yX7_days : MethodName := ⟨RX7, "days", "(I)I"⟩
abbrev cX7_loose : ByteArray := prog_1_method_17_code
def yX7_loose : MethodName := ⟨RX7, "loose", "(I)I"⟩
abbrev cX7_where : ByteArray := prog_1_method_18_code
def yX7_where : MethodName := ⟨RX7, "where", "(I)I"⟩
abbrev cX7_twice : ByteArray := prog_1_method_19_code
def yX7_twice : MethodName := ⟨RX7, "twice", "()I"⟩
abbrev cX7_then : ByteArray := prog_1_method_20_code
def yX7_then : MethodName := ⟨RX7, "then", "(III)I"⟩
abbrev cX7_comes : ByteArray := prog_1_method_21_code
def yX7_comes : MethodName := ⟨RX7, "comes", "(II)I"⟩
abbrev cX7_clash : ByteArray := prog_1_method_22_code
def yX7_clash : MethodName := ⟨RX7, "clash", "(I)I"⟩
abbrev cX7_spares : ByteArray := prog_1_method_23_code
def yX7_spares : MethodName := ⟨RX7, "spares", "(II)I"⟩
abbrev cX7_hurry : ByteArray := prog_1_method_24_code
def yX7_hurry : MethodName := ⟨RX7, "hurry", "(III)I"⟩
abbrev cX7_fits : ByteArray := prog_1_method_25_code
def yX7_fits : MethodName := ⟨RX7, "fits", "(I)I"⟩
abbrev cX7_howFar : ByteArray := prog_1_method_26_code
def yX7_howFar : MethodName := ⟨RX7, "howFar", "(IIIII)I"⟩
abbrev cX7_lends : ByteArray := prog_1_method_27_code
def yX7_lends : MethodName := ⟨RX7, "lends", "(I)I"⟩
abbrev cX7_odds : ByteArray := prog_1_method_28_code
def yX7_odds : MethodName := ⟨RX7, "odds", "(IIII)I"⟩
abbrev cX7_seed : ByteArray := prog_1_method_29_code
def yX7_seed : MethodName := ⟨RX7, "seed", "(I)I"⟩
abbrev cX7_voice : ByteArray := prog_1_method_30_code
def yX7_voice : MethodName := ⟨RX7, "voice", "(III)I"⟩
abbrev cX7_trace : ByteArray := prog_1_method_31_code
def yX7_trace : MethodName := ⟨RX7, "trace", "(I)I"⟩
abbrev cX7_sheet : ByteArray := prog_1_method_32_code
def yX7_sheet : MethodName := ⟨RX7, "sheet", "(III)I"⟩
abbrev cX7_put : ByteArray := prog_1_method_33_code
def yX7_put : MethodName := ⟨RX7, "put", "(III)I"⟩
abbrev cX7_move : ByteArray := prog_1_method_34_code
def yX7_move : MethodName := ⟨RX7, "move", "(IIIII)I"⟩
abbrev cX7_worns : ByteArray := prog_1_method_35_code
def yX7_worns : MethodName := ⟨RX7, "worns", "(I)I"⟩
abbrev cX7_judge : ByteArray := prog_1_method_36_code
def yX7_judge : MethodName := ⟨RX7, "judge", "(I)I"⟩
abbrev cX7_image : ByteArray := prog_1_method_37_code
def yX7_image : MethodName := ⟨RX7, "image", "()I"⟩
abbrev cX7_restore : ByteArray := prog_1_method_38_code
def yX7_restore : MethodName := ⟨RX7, "restore", "()I"⟩
abbrev cX7_tell : ByteArray := prog_1_method_39_code
def yX7_tell : MethodName := ⟨RX7, "tell", "(I)I"⟩
abbrev cX7_check : ByteArray := prog_1_method_40_code
def yX7_check : MethodName := ⟨RX7, "check", "()I"⟩
abbrev cX7_count : ByteArray := prog_1_method_41_code
def yX7_count : MethodName := ⟨RX7, "count", "(I)I"⟩
abbrev cX7_told : ByteArray := prog_1_method_42_code
def yX7_told : MethodName := ⟨RX7, "told", "(I)I"⟩
abbrev cX7_error : ByteArray := prog_1_method_43_code
def yX7_error : MethodName := ⟨RX7, "error", "(I)I"⟩
abbrev cX7_isHouse : ByteArray := prog_1_method_44_code
def yX7_isHouse : MethodName := ⟨RX7, "isHouse", "(I)Z"⟩
abbrev cX7_isCake : ByteArray := prog_1_method_45_code
def yX7_isCake : MethodName := ⟨RX7, "isCake", "(I)Z"⟩
abbrev cX7_isSheet : ByteArray := prog_1_method_46_code
def yX7_isSheet : MethodName := ⟨RX7, "isSheet", "(I)Z"⟩
abbrev cX7_isGuest : ByteArray := prog_1_method_47_code
def yX7_isGuest : MethodName := ⟨RX7, "isGuest", "(I)Z"⟩
abbrev cX7_isGuestOrNobody : ByteArray := prog_1_method_48_code
def yX7_isGuestOrNobody : MethodName := ⟨RX7, "isGuestOrNobody", "(I)Z"⟩
abbrev cX7_isKindAndNumber : ByteArray := prog_1_method_49_code
def yX7_isKindAndNumber : MethodName := ⟨RX7, "isKindAndNumber", "(I)Z"⟩
abbrev cX7_sheetAt : ByteArray := prog_1_method_50_code
def yX7_sheetAt : MethodName := ⟨RX7, "sheetAt", "(I)LSoapNames$Sheet;"⟩
abbrev cX7_staysAway : ByteArray := prog_1_method_51_code
def yX7_staysAway : MethodName := ⟨RX7, "staysAway", "(III)Z"⟩
abbrev cX7_lendFrom : ByteArray := prog_1_method_52_code
def yX7_lendFrom : MethodName := ⟨RX7, "lendFrom", "(III)Z"⟩
abbrev cX7_partInLowestTerms : ByteArray := prog_1_method_53_code
def yX7_partInLowestTerms : MethodName := ⟨RX7, "partInLowestTerms", "(II)I"⟩
abbrev cX7_guestBit : ByteArray := prog_1_method_54_code
def yX7_guestBit : MethodName := ⟨RX7, "guestBit", "(I)I"⟩
abbrev cX7_within : ByteArray := prog_1_method_55_code
def yX7_within : MethodName := ⟨RX7, "within", "(III)Z"⟩
abbrev cX7_held : ByteArray := prog_1_method_56_code
def yX7_held : MethodName := ⟨RX7, "held", "(III)I"⟩
abbrev cX7_at : ByteArray := prog_1_method_57_code
def yX7_at : MethodName := ⟨RX7, "at", "([II)I"⟩
abbrev cX7_setAt : ByteArray := prog_1_method_58_code
def yX7_setAt : MethodName := ⟨RX7, "setAt", "([III)V"⟩
abbrev cX7_copyPart : ByteArray := prog_1_method_59_code
def yX7_copyPart : MethodName := ⟨RX7, "copyPart", "([II[III)V"⟩
abbrev cX7_copyRow : ByteArray := prog_1_method_60_code
def yX7_copyRow : MethodName := ⟨RX7, "copyRow", "([I[I)V"⟩
def RX8 : String := "SoapNamesModel"
def TX8 : u_T := fun k => match k with
  | 0 => ("SoapNamesModel", "row", "[I", true)
  | 1 => ("SoapNamesModel", "kept", "[I", true)
  | 2 => ("SoapNamesModel", "tried", "[I", true)
  | 3 => ("SoapNamesModel", "before", "[I", true)
  | 4 => ("SoapNamesModel", "isKept", "Z", false)
  | 5 => ("SoapNamesModel", "images", "I", false)
  | 6 => ("SoapNamesModel", "found", "[I", true)
  | 7 => ("SoapNamesModel", "use", "I", false)
  | 8 => ("SoapNamesModel", "at", "I", false)
  | 9 => ("SoapNamesModel", "end", "I", false)
  | 10 => ("SoapNamesModel", "open", "I", false)
  | 11 => ("SoapNamesModel", "namedA", "I", false)
  | 12 => ("SoapNamesModel", "namedB", "I", false)
  | 13 => ("SoapNamesModel", "namedC", "I", false)
  | 14 => ("SoapNamesModel", "good", "Z", false)
  | 15 => ("SoapNamesModel", "bitsOf", "[I", true)
  | 16 => ("SoapNamesModel", "sizeOf", "[I", true)
  | 17 => ("SoapNamesModel", "sheets", "[I", true)
  | 18 => ("SoapNamesModel", "moved", "[I", true)
  | 19 => ("SoapNamesModel", "lent", "[I", true)
  | 20 => ("SoapNamesModel", "traced", "[I", true)
  | 21 => ("SoapNamesModel", "tracedMany", "I", false)
  | 22 => ("SoapNamesModel", "voiceKind", "I", false)
  | 23 => ("SoapNamesModel", "voiceN", "I", false)
  | _ => ("SoapNamesModel", "voiceM", "I", false)
def tyX8 : Nat → FieldType := fun k => match k with
  | 0 => .array .int
  | 1 => .array .int
  | 2 => .array .int
  | 3 => .array .int
  | 4 => .boolean
  | 5 => .int
  | 6 => .array .int
  | 7 => .int
  | 8 => .int
  | 9 => .int
  | 10 => .int
  | 11 => .int
  | 12 => .int
  | 13 => .int
  | 14 => .boolean
  | 15 => .array .int
  | 16 => .array .int
  | 17 => .array .int
  | 18 => .array .int
  | 19 => .array .int
  | 20 => .array .int
  | 21 => .int
  | 22 => .int
  | 23 => .int
  | _ => .int
abbrev wsX80 : List Cond := u_ws RX8 TX8 25
theorem nmX8 : ∀ a, a < 25 → ∀ b, b < 25 → a ≠ b → (TX8 a).2.1 ≠ (TX8 b).2.1 := by decide +kernel
theorem tyX8_ok : ∀ k, k < 25 → parseFieldDescriptor (TX8 k).2.2.1 = some (tyX8 k) := by decide +kernel
abbrev cX8_init : ByteArray := prog_10_method_1_code
def yX8_init : MethodName := ⟨RX8, "<init>", "()V"⟩
abbrev cX8_in : ByteArray := prog_10_method_2_code
def yX8_in : MethodName := ⟨RX8, "in", "(III)Z"⟩
abbrev cX8_errs : ByteArray := prog_10_method_3_code
def yX8_errs : MethodName := ⟨RX8, "errs", "(I)I"⟩
abbrev cX8_held : ByteArray := prog_10_method_4_code
def yX8_held : MethodName := ⟨RX8, "held", "(III)I"⟩
abbrev cX8_moveAll : ByteArray := prog_10_method_5_code
def yX8_moveAll : MethodName := ⟨RX8, "moveAll", "([I[I)V"⟩
abbrev cX8_bits : ByteArray := prog_10_method_6_code
def yX8_bits : MethodName := ⟨RX8, "bits", "(I)I"⟩
abbrev cX8_has : ByteArray := prog_10_method_7_code
def yX8_has : MethodName := ⟨RX8, "has", "(II)Z"⟩
abbrev cX8_its : ByteArray := prog_10_method_8_code
def yX8_its : MethodName := ⟨RX8, "its", "(II)I"⟩
abbrev cX8_gets : ByteArray := prog_10_method_9_code
def yX8_gets : MethodName := ⟨RX8, "gets", "(III)V"⟩
abbrev cX8_isHouse : ByteArray := prog_10_method_10_code
def yX8_isHouse : MethodName := ⟨RX8, "isHouse", "(I)Z"⟩
abbrev cX8_isCake : ByteArray := prog_10_method_11_code
def yX8_isCake : MethodName := ⟨RX8, "isCake", "(I)Z"⟩
abbrev cX8_isGuest : ByteArray := prog_10_method_12_code
def yX8_isGuest : MethodName := ⟨RX8, "isGuest", "(I)Z"⟩
abbrev cX8_becomes : ByteArray := prog_10_method_13_code
def yX8_becomes : MethodName := ⟨RX8, "becomes", "(II)I"⟩
abbrev cX8_house : ByteArray := prog_10_method_14_code
def yX8_house : MethodName := ⟨RX8, "house", "(I)I"⟩
abbrev cX8_cakesIn : ByteArray := prog_10_method_15_code
def yX8_cakesIn : MethodName := ⟨RX8, "cakesIn", "(I)I"⟩
abbrev cX8_guestsIn : ByteArray := prog_10_method_16_code
def yX8_guestsIn : MethodName := ⟨RX8, "guestsIn", "(I)I"⟩
abbrev cX8_ofHouse : ByteArray := prog_10_method_17_code
def yX8_ofHouse : MethodName := ⟨RX8, "ofHouse", "(II)I"⟩
abbrev cX8_change : ByteArray := prog_10_method_18_code
def yX8_change : MethodName := ⟨RX8, "change", "(III)I"⟩
abbrev cX8_cake : ByteArray := prog_10_method_19_code
def yX8_cake : MethodName := ⟨RX8, "cake", "(II)I"⟩
abbrev cX8_ofCake : ByteArray := prog_10_method_20_code
def yX8_ofCake : MethodName := ⟨RX8, "ofCake", "(II)I"⟩
abbrev cX8_layer : ByteArray := prog_10_method_21_code
def yX8_layer : MethodName := ⟨RX8, "layer", "(II)I"⟩
abbrev cX8_named : ByteArray := prog_10_method_22_code
def yX8_named : MethodName := ⟨RX8, "named", "(II)I"⟩
abbrev cX8_shift : ByteArray := prog_10_method_23_code
def yX8_shift : MethodName := ⟨RX8, "shift", "(III)I"⟩
abbrev cX8_press : ByteArray := prog_10_method_24_code
def yX8_press : MethodName := ⟨RX8, "press", "(II)I"⟩
abbrev cX8_become : ByteArray := prog_10_method_25_code
def yX8_become : MethodName := ⟨RX8, "become", "(II)I"⟩
abbrev cX8_above : ByteArray := prog_10_method_26_code
def yX8_above : MethodName := ⟨RX8, "above", "(I)I"⟩
abbrev cX8_as : ByteArray := prog_10_method_27_code
def yX8_as : MethodName := ⟨RX8, "as", "(II)I"⟩
abbrev cX8_byteAt : ByteArray := prog_10_method_28_code
def yX8_byteAt : MethodName := ⟨RX8, "byteAt", "(I)I"⟩
abbrev cX8_isDigit : ByteArray := prog_10_method_29_code
def yX8_isDigit : MethodName := ⟨RX8, "isDigit", "(I)Z"⟩
abbrev cX8_fails : ByteArray := prog_10_method_30_code
def yX8_fails : MethodName := ⟨RX8, "fails", "()I"⟩
abbrev cX8_number : ByteArray := prog_10_method_31_code
def yX8_number : MethodName := ⟨RX8, "number", "()I"⟩
abbrev cX8_named_ : ByteArray := prog_10_method_32_code
def yX8_named_ : MethodName := ⟨RX8, "named", "(I)I"⟩
abbrev cX8_factor : ByteArray := prog_10_method_33_code
def yX8_factor : MethodName := ⟨RX8, "factor", "()I"⟩
abbrev cX8_product : ByteArray := prog_10_method_34_code
def yX8_product : MethodName := ⟨RX8, "product", "()I"⟩
abbrev cX8_sum : ByteArray := prog_10_method_35_code
def yX8_sum : MethodName := ⟨RX8, "sum", "()I"⟩
abbrev cX8_compared : ByteArray := prog_10_method_36_code
def yX8_compared : MethodName := ⟨RX8, "compared", "()I"⟩
abbrev cX8_both : ByteArray := prog_10_method_37_code
def yX8_both : MethodName := ⟨RX8, "both", "()I"⟩
abbrev cX8_whole : ByteArray := prog_10_method_38_code
def yX8_whole : MethodName := ⟨RX8, "whole", "()I"⟩
abbrev cX8_walks : ByteArray := prog_10_method_39_code
def yX8_walks : MethodName := ⟨RX8, "walks", "(IIII)I"⟩
abbrev cX8_lawOf : ByteArray := prog_10_method_40_code
def yX8_lawOf : MethodName := ⟨RX8, "lawOf", "(IIII)I"⟩
abbrev cX8_law : ByteArray := prog_10_method_41_code
def yX8_law : MethodName := ⟨RX8, "law", "(IIII)I"⟩
abbrev cX8_feed : ByteArray := prog_10_method_42_code
def yX8_feed : MethodName := ⟨RX8, "feed", "(JI)I"⟩
abbrev cX8_text : ByteArray := prog_10_method_43_code
def yX8_text : MethodName := ⟨RX8, "text", "(I)I"⟩
abbrev cX8_thick : ByteArray := prog_10_method_44_code
def yX8_thick : MethodName := ⟨RX8, "thick", "(I)I"⟩
abbrev cX8_out : ByteArray := prog_10_method_45_code
def yX8_out : MethodName := ⟨RX8, "out", "(I)I"⟩
abbrev cX8_isGone : ByteArray := prog_10_method_46_code
def yX8_isGone : MethodName := ⟨RX8, "isGone", "(I)Z"⟩
abbrev cX8_shows : ByteArray := prog_10_method_47_code
def yX8_shows : MethodName := ⟨RX8, "shows", "(I)I"⟩
abbrev cX8_wearsBy : ByteArray := prog_10_method_48_code
def yX8_wearsBy : MethodName := ⟨RX8, "wearsBy", "(I)I"⟩
abbrev cX8_oneDay : ByteArray := prog_10_method_49_code
def yX8_oneDay : MethodName := ⟨RX8, "oneDay", "()V"⟩
abbrev cX8_passes : ByteArray := prog_10_method_50_code
def yX8_passes : MethodName := ⟨RX8, "passes", "(I)V"⟩
abbrev cX8_gone : ByteArray := prog_10_method_51_code
def yX8_gone : MethodName := ⟨RX8, "gone", "()I"⟩
abbrev cX8_days : ByteArray := prog_10_method_52_code
def yX8_days : MethodName := ⟨RX8, "days", "(I)I"⟩
abbrev cX8_drawn : ByteArray := prog_10_method_53_code
def yX8_drawn : MethodName := ⟨RX8, "drawn", "(I)I"⟩
abbrev cX8_loose : ByteArray := prog_10_method_54_code
def yX8_loose : MethodName := ⟨RX8, "loose", "(I)I"⟩
abbrev cX8_housesOf : ByteArray := prog_10_method_55_code
def yX8_housesOf : MethodName := ⟨RX8, "housesOf", "(I)I"⟩
abbrev cX8_where : ByteArray := prog_10_method_56_code
def yX8_where : MethodName := ⟨RX8, "where", "(I)I"⟩
abbrev cX8_twice : ByteArray := prog_10_method_57_code
def yX8_twice : MethodName := ⟨RX8, "twice", "()I"⟩
abbrev cX8_then : ByteArray := prog_10_method_58_code
def yX8_then : MethodName := ⟨RX8, "then", "(III)I"⟩
abbrev cX8_comes : ByteArray := prog_10_method_59_code
def yX8_comes : MethodName := ⟨RX8, "comes", "(II)I"⟩
abbrev cX8_clash : ByteArray := prog_10_method_60_code
def yX8_clash : MethodName := ⟨RX8, "clash", "(I)I"⟩
abbrev cX8_isInSoon : ByteArray := prog_10_method_61_code
def yX8_isInSoon : MethodName := ⟨RX8, "isInSoon", "(III)Z"⟩
abbrev cX8_spares : ByteArray := prog_10_method_62_code
def yX8_spares : MethodName := ⟨RX8, "spares", "(II)I"⟩
abbrev cX8_hurry : ByteArray := prog_10_method_63_code
def yX8_hurry : MethodName := ⟨RX8, "hurry", "(III)I"⟩
abbrev cX8_isSheet : ByteArray := prog_10_method_64_code
def yX8_isSheet : MethodName := ⟨RX8, "isSheet", "(I)Z"⟩
abbrev cX8_fits : ByteArray := prog_10_method_65_code
def yX8_fits : MethodName := ⟨RX8, "fits", "(I)I"⟩
abbrev cX8_howFar : ByteArray := prog_10_method_66_code
def yX8_howFar : MethodName := ⟨RX8, "howFar", "(IIIII)I"⟩
abbrev cX8_isRow : ByteArray := prog_10_method_67_code
def yX8_isRow : MethodName := ⟨RX8, "isRow", "(I)Z"⟩
abbrev cX8_lends : ByteArray := prog_10_method_68_code
def yX8_lends : MethodName := ⟨RX8, "lends", "(I)I"⟩
abbrev cX8_divisor : ByteArray := prog_10_method_69_code
def yX8_divisor : MethodName := ⟨RX8, "divisor", "(II)I"⟩
abbrev cX8_odds : ByteArray := prog_10_method_70_code
def yX8_odds : MethodName := ⟨RX8, "odds", "(IIII)I"⟩
abbrev cX8_seed : ByteArray := prog_10_method_71_code
def yX8_seed : MethodName := ⟨RX8, "seed", "(I)I"⟩
abbrev cX8_ran : ByteArray := prog_10_method_72_code
def yX8_ran : MethodName := ⟨RX8, "ran", "(I)V"⟩
abbrev cX8_lathersIn : ByteArray := prog_10_method_73_code
def yX8_lathersIn : MethodName := ⟨RX8, "lathersIn", "(II)I"⟩
abbrev cX8_showsIn : ByteArray := prog_10_method_74_code
def yX8_showsIn : MethodName := ⟨RX8, "showsIn", "(II)I"⟩
abbrev cX8_wearsIn : ByteArray := prog_10_method_75_code
def yX8_wearsIn : MethodName := ⟨RX8, "wearsIn", "(II)I"⟩
abbrev cX8_slipsIn : ByteArray := prog_10_method_76_code
def yX8_slipsIn : MethodName := ⟨RX8, "slipsIn", "(II)I"⟩
abbrev cX8_voice : ByteArray := prog_10_method_77_code
def yX8_voice : MethodName := ⟨RX8, "voice", "(III)I"⟩
abbrev cX8_trace : ByteArray := prog_10_method_78_code
def yX8_trace : MethodName := ⟨RX8, "trace", "(I)I"⟩
abbrev cX8_narrow : ByteArray := prog_10_method_79_code
def yX8_narrow : MethodName := ⟨RX8, "narrow", "(II)I"⟩
abbrev cX8_sheet : ByteArray := prog_10_method_80_code
def yX8_sheet : MethodName := ⟨RX8, "sheet", "(III)I"⟩
abbrev cX8_put : ByteArray := prog_10_method_81_code
def yX8_put : MethodName := ⟨RX8, "put", "(III)I"⟩
abbrev cX8_move : ByteArray := prog_10_method_82_code
def yX8_move : MethodName := ⟨RX8, "move", "(IIIII)I"⟩
abbrev cX8_worns : ByteArray := prog_10_method_83_code
def yX8_worns : MethodName := ⟨RX8, "worns", "(I)I"⟩
abbrev cX8_judge : ByteArray := prog_10_method_84_code
def yX8_judge : MethodName := ⟨RX8, "judge", "(I)I"⟩
abbrev cX8_image : ByteArray := prog_10_method_85_code
def yX8_image : MethodName := ⟨RX8, "image", "()I"⟩
abbrev cX8_restore : ByteArray := prog_10_method_86_code
def yX8_restore : MethodName := ⟨RX8, "restore", "()I"⟩
abbrev cX8_tell : ByteArray := prog_10_method_87_code
def yX8_tell : MethodName := ⟨RX8, "tell", "(I)I"⟩
abbrev cX8_check : ByteArray := prog_10_method_88_code
def yX8_check : MethodName := ⟨RX8, "check", "()I"⟩
abbrev cX8_sumOf : ByteArray := prog_10_method_89_code
def yX8_sumOf : MethodName := ⟨RX8, "sumOf", "(III)I"⟩
abbrev cX8_count : ByteArray := prog_10_method_90_code
def yX8_count : MethodName := ⟨RX8, "count", "(I)I"⟩
abbrev cX8_told : ByteArray := prog_10_method_91_code
def yX8_told : MethodName := ⟨RX8, "told", "(I)I"⟩
def RJ6 : String := "java/lang/Integer"
def TJ6 : u_T := fun k => match k with
  | _ => ("", "", "", false)
def tyJ6 : Nat → FieldType := fun k => match k with
  | _ => .int
abbrev wsJ60 : List Cond := u_ws RJ6 TJ6 0
theorem nmJ6 : ∀ a, a < 0 → ∀ b, b < 0 → a ≠ b → (TJ6 a).2.1 ≠ (TJ6 b).2.1 := by decide +kernel
theorem tyJ6_ok : ∀ k, k < 0 → parseFieldDescriptor (TJ6 k).2.2.1 = some (tyJ6 k) := by decide +kernel
abbrev cJ6_numberOfTrailingZeros_0f7a4 : ByteArray := prog_11_method_48_code
def yJ6_numberOfTrailingZeros_0f7a4 : MethodName := ⟨RJ6, "numberOfTrailingZeros", "(I)I"⟩
abbrev cJ6_bitCount_0f7a4 : ByteArray := prog_11_method_49_code
def yJ6_bitCount_0f7a4 : MethodName := ⟨RJ6, "bitCount", "(I)I"⟩
def RJ9 : String := "java/lang/Math"
def TJ9 : u_T := fun k => match k with
  | _ => ("", "", "", false)
def tyJ9 : Nat → FieldType := fun k => match k with
  | _ => .int
abbrev wsJ90 : List Cond := u_ws RJ9 TJ9 0
theorem nmJ9 : ∀ a, a < 0 → ∀ b, b < 0 → a ≠ b → (TJ9 a).2.1 ≠ (TJ9 b).2.1 := by decide +kernel
theorem tyJ9_ok : ∀ k, k < 0 → parseFieldDescriptor (TJ9 k).2.2.1 = some (tyJ9 k) := by decide +kernel
abbrev cJ9_max_7cf53 : ByteArray := prog_12_method_65_code
def yJ9_max_7cf53 : MethodName := ⟨RJ9, "max", "(II)I"⟩
abbrev cJ9_min_7cf53 : ByteArray := prog_12_method_69_code
def yJ9_min_7cf53 : MethodName := ⟨RJ9, "min", "(II)I"⟩
def RJ10 : String := "java/lang/System"
def TJ10 : u_T := fun k => match k with
  | _ => ("", "", "", false)
def tyJ10 : Nat → FieldType := fun k => match k with
  | _ => .int
abbrev wsJ100 : List Cond := u_ws RJ10 TJ10 0
theorem nmJ10 : ∀ a, a < 0 → ∀ b, b < 0 → a ≠ b → (TJ10 a).2.1 ≠ (TJ10 b).2.1 := by decide +kernel
theorem tyJ10_ok : ∀ k, k < 0 → parseFieldDescriptor (TJ10 k).2.2.1 = some (tyJ10 k) := by decide +kernel
def RL : String := "SoapNamesLaw"
abbrev cL_law : ByteArray := code
def yL_law : MethodName := ⟨RL, "law", "([I)Z"⟩
/-! the words that every contract takes: the good ones; and the nest words, which go with the state -/
def gB : List Cond := lw_tbl.filter goodWord
theorem gB_of {w : Cond} (i : Nat) (h : lw_tbl[i]? = some w) (hg : goodWord w = true) : w ∈ gB := List.mem_filter.mpr ⟨List.mem_of_getElem? h, hg⟩
theorem gB_good : ∀ w ∈ gB, goodWord w = true := fun _ h => (List.mem_filter.mp h).2
theorem gB_in : ∀ w ∈ gB, w ∈ lw_tbl := fun _ h => (List.mem_filter.mp h).1
theorem gB_gi : GoodIn gB gB := fun w h => ⟨h, good_of_word (gB_good w h)⟩
def gnw : Cond → Bool := fun w => match w with
  | .fieldLinkNest _ _ _ _ _ _ => true
  | .methodLinkNest _ _ _ _ => true
  | _ => false
def gN : List Cond := lw_tbl.filter gnw
theorem gN_of {w : Cond} (i : Nat) (h : lw_tbl[i]? = some w) (hg : gnw w = true) : w ∈ gN := List.mem_filter.mpr ⟨List.mem_of_getElem? h, hg⟩
theorem gN_in : ∀ w ∈ gN, w ∈ lw_tbl := fun _ h => (List.mem_filter.mp h).1
end
section
/-! ===== worlds of a fixed shape ===== -/
abbrev gV : Type := Nat → Nat → Int32
def gup (V : gV) (c j : Nat) (v : Int32) : gV := fun a b => if a = c ∧ b = j then v else V a b
theorem gup_at (V : gV) (c j : Nat) (v : Int32) : gup V c j v c j = v := if_pos ⟨rfl, rfl⟩
theorem gup_ne (V : gV) {c j a b : Nat} (v : Int32) (h : ¬ (a = c ∧ b = j)) : gup V c j v a b = V a b := if_neg h
theorem gup_row (V : gV) {c a : Nat} (j : Nat) (v : Int32) (h : a ≠ c) : gup V c j v a = V a := by
  funext b
  exact if_neg (fun q => h q.1)
abbrev gK : Type := Option (Nat ⊕ ((Nat × List (Option Nat)) ⊕ (Nat × Nat × Nat × Nat)))
/-- addresses, class numbers, the shape, how many cells may be written, statics that hold a row -/
abbrev gG : Type := (Nat → Nat) × va_G × (Nat → gK) × Nat × List (String × String × Nat)
def gTy (k : Nat) : FieldType := match k with
  | 0 => .object "SoapNames$House"
  | 1 => .object "SoapNames$Cake"
  | _ => .object "SoapNames$Sheet"
abbrev gCl : List vw_C := [(RX0, TX0, 7), (RX1, TX1, 2), (RX2, TX2, 6), (RX3, TX3, 3), (RX4, TX4, 3), (RX5, TX5, 5), (RX6, TX6, 14), (RX7, TX7, 10), (RX8, TX8, 25)]
def gfv (ad : Nat → Nat) (f : Nat → Int32) (j : Nat) (o : Option Nat) : Value := match o with
  | none => .int (f j)
  | some t => .ref (ad t)
def gfs (ad : Nat → Nat) (f : Nat → Int32) (l : List (Option Nat)) : List Value := l.mapIdx (gfv ad f)
theorem gfs_get {ad : Nat → Nat} {f : Nat → Int32} {l : List (Option Nat)} {j : Nat} {o : Option Nat} (h : l[j]? = some o) : (gfs ad f l)[j]? = some (gfv ad f j o) := by
  simp [gfs, h]
theorem gfs_set {ad : Nat → Nat} {V : gV} {c : Nat} {l : List (Option Nat)} {j : Nat} {v : Int32} (h : l[j]? = some none) : (gfs ad (V c) l).set j (.int v) = gfs ad (gup V c j v c) l := by
  apply List.ext_getElem?
  intro i
  have hj : j < l.length := (List.getElem?_eq_some_iff.mp h).1
  by_cases hi : i = j
  · subst hi
    rw [List.getElem?_set_self (by simpa [gfs] using hj), gfs_get h]
    simp [gfv, gup_at]
  · rw [List.getElem?_set_ne (fun q => hi q.symm)]
    simp only [gfs, List.getElem?_mapIdx]
    cases hl : l[i]? with
    | none => rfl
    | some o =>
      cases o with
      | none => simp [gfv, gup, hi]
      | some t => rfl
def gat (G : gG) (V : gV) (U : State) (H : Heap) (k : Nat) : Prop := match G.2.2.1 k with
  | none => True
  | some (.inl n) => ∃ cell : Cell, H[G.1 k]? = some cell ∧ U.isArrayOf cell .int ∧ cell.vm ≠ .unknown ∧ n ≤ cell.slots.size ∧ cell.slots.size.toInt32 = Int32.ofNat n ∧ ∀ j, j < n → cell.slots[j]? = some (.int (V k j))
  | some (.inr (.inl o)) => ∃ r : vw_C, gCl[o.1]? = some r ∧ t_OB (G.1 k) (G.2.1.1 o.1) r.2.2 (G.2.1.2 o.1) H (vp_V (gfs G.1 (V k) o.2))
  | some (.inr (.inr a)) => ∃ cell : Cell, H[G.1 k]? = some cell ∧ U.isArrayOf cell (gTy a.1) ∧ cell.vm ≠ .unknown ∧ cell.slots.size = a.2.1 ∧ ∀ j, j < a.2.1 → cell.slots[j]? = some (.ref (G.1 (a.2.2.1 + a.2.2.2 * j)))
theorem gat_i {G : gG} {V : gV} {U : State} {H : Heap} {k n : Nat} (hs : G.2.2.1 k = some (.inl n)) : gat G V U H k ↔ ∃ cell : Cell, H[G.1 k]? = some cell ∧ U.isArrayOf cell .int ∧ cell.vm ≠ .unknown ∧ n ≤ cell.slots.size ∧ cell.slots.size.toInt32 = Int32.ofNat n ∧ ∀ j, j < n → cell.slots[j]? = some (.int (V k j)) := by
  unfold gat
  rw [hs]
theorem gat_o {G : gG} {V : gV} {U : State} {H : Heap} {k ci : Nat} {l : List (Option Nat)} (hs : G.2.2.1 k = some (.inr (.inl (ci, l)))) : gat G V U H k ↔ ∃ r : vw_C, gCl[ci]? = some r ∧ t_OB (G.1 k) (G.2.1.1 ci) r.2.2 (G.2.1.2 ci) H (vp_V (gfs G.1 (V k) l)) := by
  unfold gat
  rw [hs]
theorem gat_r {G : gG} {V : gV} {U : State} {H : Heap} {k ty n b d : Nat} (hs : G.2.2.1 k = some (.inr (.inr (ty, n, b, d)))) : gat G V U H k ↔ ∃ cell : Cell, H[G.1 k]? = some cell ∧ U.isArrayOf cell (gTy ty) ∧ cell.vm ≠ .unknown ∧ cell.slots.size = n ∧ ∀ j, j < n → cell.slots[j]? = some (.ref (G.1 (b + d * j))) := by
  unfold gat
  rw [hs]
theorem gat_kept {G : gG} {V W : gV} {U : State} {H H1 : Heap} {k : Nat} (h : gat G V U H k) (hq : H1[G.1 k]? = H[G.1 k]?) (hV : W k = V k) : gat G W U H1 k := by
  unfold gat at h ⊢
  rcases hs : G.2.2.1 k with _ | n | o | a
  · rw [hs] at h; exact trivial
  · rw [hs] at h
    obtain ⟨cell, h1, h2⟩ := h
    exact ⟨cell, hq.trans h1, by rw [hV]; exact h2⟩
  · rw [hs] at h
    obtain ⟨r, h1, h2⟩ := h
    exact ⟨r, h1, by rw [hV]; exact h2.kept hq⟩
  · rw [hs] at h
    obtain ⟨cell, h1, h2⟩ := h
    exact ⟨cell, hq.trans h1, h2⟩
theorem gat_moved {G : gG} {V : gV} {u U : State} {H : Heap} {k : Nat} (hvm : u.vm.Alike U.vm) (h : gat G V u H k) : gat G V U H k := by
  unfold gat at h ⊢
  rcases hs : G.2.2.1 k with _ | n | o | a
  · exact trivial
  · rw [hs] at h
    obtain ⟨cell, h1, h2, h3⟩ := h
    exact ⟨cell, h1, State.isArrayOf_alike hvm h2, h3⟩
  · rw [hs] at h
    exact h
  · rw [hs] at h
    obtain ⟨cell, h1, h2, h3⟩ := h
    exact ⟨cell, h1, State.isArrayOf_alike hvm h2, h3⟩
def gP (G : gG) (V : gV) (U : State) (H : Heap) : Prop := ∀ k, gat G V U H k
def gA (G : gG) : Nat → Prop := fun q => ∃ c, c < G.2.2.2.1 ∧ q = G.1 c
theorem gA_of {G : gG} {c : Nat} (h : c < G.2.2.2.1) : gA G (G.1 c) := ⟨c, h, rfl⟩
def gT (G : gG) (U : State) : Prop := va_K G.2.1 gCl [] U ∧ (∀ w ∈ gN, va_Nw w U) ∧ (∀ c k, c < G.2.2.2.1 → k ≠ c → G.1 k ≠ G.1 c) ∧ ∀ c o, G.2.2.1 c = some (.inr (.inl o)) → c < G.2.2.2.1
def gZ (G : gG) (U : State) (H : Heap) : Prop := ∀ q ∈ G.2.2.2.2, va_Z q.1 q.2.1 "[I" (.ref (G.1 q.2.2)) (gA G) U H
def gI (G : gG) (V : gV) (U : State) : Prop := gP G V U U.heap ∧ gT G U ∧ gZ G U U.heap
theorem gnw_warm {s U : State} (hW : s.WarmedH U.vm) {w : Cond} (hw : gnw w = true) (h : va_Nw w s) : va_Nw w U := by
  cases w <;> first | exact va_Nw.warmF hW h | exact va_Nw.warmM hW h | cases hw
theorem gnw_tab {w : Cond} (hw : gnw w = true) : w.onTables = true := by
  cases w <;> first | rfl | cases hw
theorem gT_warm {G : gG} {s U : State} (hW : s.WarmedH U.vm) (h : gT G s) : gT G U := ⟨va_K.moved hW.alike h.1, fun w hw => gnw_warm hW (List.mem_filter.mp hw).2 (h.2.1 w hw), h.2.2⟩
theorem gT_call {G : gG} {U : State} {g : JFrame} {mk : MethodId} {a : Array Value} (h : gT G U) : gT G (U.calling g mk a) := ⟨va_K.moved (u := U) (U := U.calling g mk a) (Vm.Alike.refl U.vm) h.1, fun w hw => va_Nw.same (u := U) (U := U.calling g mk a) (gnw_tab (List.mem_filter.mp hw).2) rfl (h.2.1 w hw), h.2.2⟩
theorem gP_moved {G : gG} {V : gV} {u U : State} {H : Heap} (hvm : u.vm.Alike U.vm) (h : gP G V u H) : gP G V U H := fun k => gat_moved hvm (h k)
theorem gZ_moved {G : gG} {u U : State} {H : Heap} (hvm : u.vm.Alike U.vm) (h : gZ G u H) : gZ G U H := fun q hq => (h q hq).moved hvm
theorem gZ_kept {G : gG} {U : State} {H H1 : Heap} {locs : List Loc} (h : gZ G U H) (hS : va_S (gA G) H H1 locs) : gZ G U H1 := fun q hq => (h q hq).kept hS.2.1
theorem gI_blind {G : gG} {V : gV} {av : List Value} : FrameBlind (va_Pc av (gI G V)) := fun a U g mk q => by
  obtain ⟨q0, qP, qT, qZ⟩ := q
  exact ⟨q0, gP_moved (u := U) (U := U.calling g mk a) (Vm.Alike.refl U.vm) qP, gT_call qT, gZ_moved (u := U) (U := U.calling g mk a) (Vm.Alike.refl U.vm) qZ⟩
/-- a heap in which one mutable cell is another -/
theorem gP_one {G : gG} {V V1 : gV} {U : State} {H H1 : Heap} {c : Nat} (h : gP G V U H) (hT : gT G U) (hc : c < G.2.2.2.1) (oq : ∀ q : Nat, q ≠ G.1 c → H1[q]? = H[q]?) (hV : ∀ k, k ≠ c → V1 k = V k) (h1 : gat G V1 U H1 c) : gP G V1 U H1 := by
  intro k
  by_cases hk : k = c
  · subst hk; exact h1
  · exact gat_kept (h k) (oq _ (hT.2.2.1 c k hc hk)) (hV k hk)
theorem gsz {n : Nat} {i : Int32} {sz : Nat} (h : ¬ (i < 0 ∨ n ≤ i.toNatClampNeg)) (hz : n ≤ sz) : ¬ (i < 0 ∨ sz ≤ i.toNatClampNeg) := by
  intro q
  rcases q with q | q
  · exact h (Or.inl q)
  · exact h (Or.inr (Nat.le_trans hz q))
theorem glt_of {n : Nat} {i : Int32} (h : ¬ (i < 0 ∨ n ≤ i.toNatClampNeg)) : i.toNatClampNeg < n := Nat.not_le.mp fun q => h (Or.inr q)
/-! the words of the pure texts -/
section GW
variable {β : Type}
def gpu (V : gV) (c j : Nat) (v : Int32) (k : gV → Option β) : Option β := k (gup V c j v)
def gal (V : gV) (c : Nat) (i : Int32) (n : Nat) (k : Int32 → Option β) : Option β := if i < 0 ∨ n ≤ i.toNatClampNeg then none else k (V c i.toNatClampNeg)
def gas (V : gV) (c : Nat) (i : Int32) (n : Nat) (v : Int32) (k : gV → Option β) : Option β := if i < 0 ∨ n ≤ i.toNatClampNeg then none else k (gup V c i.toNatClampNeg v)
def gar (i : Int32) (n : Nat) (k : Option β) : Option β := if i < 0 ∨ n ≤ i.toNatClampNeg then none else k
def gdv (y : Int32) (k : Option β) : Option β := if y = 0 then none else k
def glt (e : Int32) (k : Int32 → Option β) : Option β := k e
def gzb (v : Int32) (k : Option β) : Option β := if v &&& 1 = v then k else none
def gbi (f : Option (Int32 × gV)) (k : Int32 → gV → Option β) : Option β := match f with
  | none => none
  | some q => k q.1 q.2
def gbr (f : Option (Nat × gV)) (k : Nat → gV → Option β) : Option β := match f with
  | none => none
  | some q => k q.1 q.2
def gbv (f : Option gV) (k : gV → Option β) : Option β := match f with
  | none => none
  | some q => k q
def gjn {γ : Type} (J : γ) (k : γ → Option β) : Option β := k J
def gcV (V : gV) (cf sp ct dp n : Nat) : gV := fun a b => if a = ct ∧ dp ≤ b ∧ b < dp + n then V cf (sp + (b - dp)) else V a b
def gcp (V : gV) (cf n0 : Nat) (i : Int32) (ct n1 : Nat) (j n : Int32) (k : gV → Option β) : Option β := if i < 0 ∨ j < 0 ∨ n < 0 ∨ n0 < i.toNatClampNeg + n.toNatClampNeg ∨ n1 < j.toNatClampNeg + n.toNatClampNeg then none else k (gcV V cf i.toNatClampNeg ct j.toNatClampNeg n.toNatClampNeg)
end GW
def gmx (x y : Int32) : Int32 := if x < y then y else x
def gmn (x y : Int32) : Int32 := if y < x then y else x
def gus (x y : Int32) : Int32 := (x.toUInt32 >>> (y.toUInt32 &&& Int32.toUInt32 31)).toInt32
def grm (x y : Int32) : Int32 := x - x / y * y
def gR (f lo : Nat) : Room := { frames := f, cells := 0, slots := 0, locals := lo }
def gFu : Nat := 5000
/-! contracts -/
def gQi (G : gG) (r : Int32) (V : gV) : Array Value → State → Outcome → State → Prop := va_Qi (fun x (_ : Unit) => x = r) (fun _ t => gP G V t t.heap) (gA G)
def gQv (G : gG) (V : gV) : Array Value → State → Outcome → State → Prop := va_Qv (fun (_ : Unit) => True) (fun _ t => gP G V t t.heap) (gA G)
def gQr (G : gG) (c : Nat) (V : gV) : Array Value → State → Outcome → State → Prop := va_Qr (fun (_ : Unit) => True) (fun _ a t => a = G.1 c ∧ gP G V t t.heap) (gA G)
def gMi (l : Launch) (G : gG) (y : MethodName) (b : ByteArray) (n : Nat) (ty : FieldType) (rm : Room) (av : List Value) (V : gV) (f : Option (Int32 × gV)) : Prop := ∀ r V', f = some (r, V') → Met l y (.code y b n (some ty) :: gB) rm (va_Pc av (gI G V)) (gQi G r V') 0 0 (gA G)
def gMv (l : Launch) (G : gG) (y : MethodName) (b : ByteArray) (n : Nat) (rm : Room) (av : List Value) (V : gV) (f : Option gV) : Prop := ∀ V', f = some V' → Met l y (.code y b n none :: gB) rm (va_Pc av (gI G V)) (gQv G V') 0 0 (gA G)
def gMr (l : Launch) (G : gG) (y : MethodName) (b : ByteArray) (n : Nat) (ty : FieldType) (rm : Room) (av : List Value) (V : gV) (f : Option (Nat × gV)) : Prop := ∀ c V', f = some (c, V') → Met l y (.code y b n (some ty) :: gB) rm (va_Pc av (gI G V)) (gQr G c V') 0 0 (gA G)
/-! a walk's place: p, e, s, m, args, below, meth, c, Q -/
abbrev gX : Type := Program × Env × State × MethodId × Array Value × List Frame × Method × Code × (State → Prop)
abbrev xs (X : gX) : State := X.2.2.1
abbrev xm (X : gX) : MethodId := X.2.2.2.1
abbrev xa (X : gX) : Array Value := X.2.2.2.2.1
abbrev xb (X : gX) : List Frame := X.2.2.2.2.2.1
abbrev xM (X : gX) : Method := X.2.2.2.2.2.2.1
abbrev xc (X : gX) : Code := X.2.2.2.2.2.2.2.1
abbrev xQ (X : gX) : State → Prop := X.2.2.2.2.2.2.2.2
def gC (cc : ByteArray) (nL : Nat) (own : String) (G : gG) (X : gX) : Prop := X.1.tables.exec = Jvm.exec ∧ (xc X).code = cc ∧ (xc X).maxLocals = nL ∧ (xs X).vm.findClass own = some (xm X).cls ∧ (∀ w ∈ gB, w.before (xa X) (xs X) = true) ∧ gT G (xs X) ∧ gZ G (xs X) (xs X).heap
def gSm {α : Type} (l : Launch) (R : Room) (nL : Nat) (G : gG) (X : gX) (k : Option α) (res : α) (V : gV) (pc : Nat) (L : List (Nat × Value)) (st : List Value) : Prop :=
  k = some res → ∀ (H : Heap) (locs : List Loc) (ls : Array Slot), gP G V (xs X) H → va_S (gA G) (xs X).heap H locs → lv_has ls nL L → W X.1 l X.2.1 R (xs X) (xm X) (xa X) (xb X) (xM X) (xc X) H locs 0 0 (xQ X) (F0 (xm X) pc ls st)
def gFL (own : String) (i : Nat) (a n d : String) : Prop := Cond.fieldLink own i a n d ∈ gB ∨ ∃ h, Cond.fieldLinkNest own i a n d h ∈ gN
def gML (own : String) (i : Nat) (y : MethodName) : Prop := Cond.methodLink own i y ∈ gB ∨ ∃ h, Cond.methodLinkNest own i y h ∈ gN
end
section
/-! ===== one instruction, one row ===== -/
section GR
variable {α : Type} {l : Launch} {R : Room} {nL : Nat} {G : gG} {X : gX} {k : Option α} {res : α} {V : gV} {pc q : Nat} {L : List (Nat × Value)} {st : List Value} {cc : ByteArray} {own : String}
theorem s_iconst (C : gC cc nL own G X) {n : Int} {v : Int32} (d : decode cc pc = .ok (.iconst n, 1)) (hq : pc + 1 = q) (hv : Int32.ofInt n = v) (kk : gSm l R nL G X k res V q L (.int v :: st)) : gSm l R nL G X k res V pc L (st) := by
  subst hq
  exact fun hk H locs ls hP hS hL => lv_iconst C.1 C.2.1 d hv (kk hk H locs ls hP hS hL)
theorem s_bipush (C : gC cc nL own G X) {n : Int} {v : Int32} (d : decode cc pc = .ok (.bipush n, 2)) (hq : pc + 2 = q) (hv : (Int8.ofInt n).toInt32 = v) (kk : gSm l R nL G X k res V q L (.int v :: st)) : gSm l R nL G X k res V pc L (st) := by
  subst hq
  exact fun hk H locs ls hP hS hL => lv_bipush C.1 C.2.1 d hv (kk hk H locs ls hP hS hL)
theorem s_sipush (C : gC cc nL own G X) {n : Int} {v : Int32} (d : decode cc pc = .ok (.sipush n, 3)) (hq : pc + 3 = q) (hv : (Int16.ofInt n).toInt32 = v) (kk : gSm l R nL G X k res V q L (.int v :: st)) : gSm l R nL G X k res V pc L (st) := by
  subst hq
  exact fun hk H locs ls hP hS hL => lv_sipush C.1 C.2.1 d hv (kk hk H locs ls hP hS hL)
theorem s_iload_n (C : gC cc nL own G X) {j : Fin 4} {i : Nat} {x : Int32} (p : Nat) (d : decode cc pc = .ok (.iload_n j, 1)) (hq : pc + 1 = q) (hi : (j : Nat) = i) (h : L[p]? = some (i, .int x)) (kk : gSm l R nL G X k res V q L (.int x :: st)) : gSm l R nL G X k res V pc L (st) := by
  subst hq
  exact fun hk H locs ls hP hS hL => lv_iload_n C.1 C.2.1 d hi (lv_at hL p h) (kk hk H locs ls hP hS hL)
theorem s_aload_n (C : gC cc nL own G X) {j : Fin 4} {i : Nat} {x : Nat} (p : Nat) (d : decode cc pc = .ok (.aload_n j, 1)) (hq : pc + 1 = q) (hi : (j : Nat) = i) (h : L[p]? = some (i, .ref x)) (kk : gSm l R nL G X k res V q L (.ref x :: st)) : gSm l R nL G X k res V pc L (st) := by
  subst hq
  exact fun hk H locs ls hP hS hL => lv_aload_n C.1 C.2.1 d hi (lv_at hL p h) (kk hk H locs ls hP hS hL)
theorem s_lload_n (C : gC cc nL own G X) {j : Fin 4} {i : Nat} {x : Int64} (p : Nat) (d : decode cc pc = .ok (.lload_n j, 1)) (hq : pc + 1 = q) (hi : (j : Nat) = i) (h : L[p]? = some (i, .long x)) (kk : gSm l R nL G X k res V q L (.long x :: st)) : gSm l R nL G X k res V pc L (st) := by
  subst hq
  exact fun hk H locs ls hP hS hL => lv_lload_n C.1 C.2.1 d hi (lv_at hL p h) (kk hk H locs ls hP hS hL)
theorem s_iload (C : gC cc nL own G X) {i : Nat} {x : Int32} (p : Nat) (d : decode cc pc = .ok (.iload i, 2)) (hq : pc + 2 = q) (h : L[p]? = some (i, .int x)) (kk : gSm l R nL G X k res V q L (.int x :: st)) : gSm l R nL G X k res V pc L (st) := by
  subst hq
  exact fun hk H locs ls hP hS hL => lv_iload C.1 C.2.1 d (lv_at hL p h) (kk hk H locs ls hP hS hL)
theorem s_aload (C : gC cc nL own G X) {i : Nat} {x : Nat} (p : Nat) (d : decode cc pc = .ok (.aload i, 2)) (hq : pc + 2 = q) (h : L[p]? = some (i, .ref x)) (kk : gSm l R nL G X k res V q L (.ref x :: st)) : gSm l R nL G X k res V pc L (st) := by
  subst hq
  exact fun hk H locs ls hP hS hL => lv_aload C.1 C.2.1 d (lv_at hL p h) (kk hk H locs ls hP hS hL)
theorem s_iadd (C : gC cc nL own G X) {x y : Int32} (d : decode cc pc = .ok (.iadd, 1)) (hq : pc + 1 = q) (kk : gSm l R nL G X k res V q L (.int (x + y) :: st)) : gSm l R nL G X k res V pc L (.int y :: .int x :: st) := by
  subst hq
  exact fun hk H locs ls hP hS hL => lv_iadd C.1 C.2.1 d  (kk hk H locs ls hP hS hL)
theorem s_isub (C : gC cc nL own G X) {x y : Int32} (d : decode cc pc = .ok (.isub, 1)) (hq : pc + 1 = q) (kk : gSm l R nL G X k res V q L (.int (x - y) :: st)) : gSm l R nL G X k res V pc L (.int y :: .int x :: st) := by
  subst hq
  exact fun hk H locs ls hP hS hL => lv_isub C.1 C.2.1 d  (kk hk H locs ls hP hS hL)
theorem s_imul (C : gC cc nL own G X) {x y : Int32} (d : decode cc pc = .ok (.imul, 1)) (hq : pc + 1 = q) (kk : gSm l R nL G X k res V q L (.int (x * y) :: st)) : gSm l R nL G X k res V pc L (.int y :: .int x :: st) := by
  subst hq
  exact fun hk H locs ls hP hS hL => lv_imul C.1 C.2.1 d  (kk hk H locs ls hP hS hL)
theorem s_iand (C : gC cc nL own G X) {x y : Int32} (d : decode cc pc = .ok (.iand, 1)) (hq : pc + 1 = q) (kk : gSm l R nL G X k res V q L (.int (x &&& y) :: st)) : gSm l R nL G X k res V pc L (.int y :: .int x :: st) := by
  subst hq
  exact fun hk H locs ls hP hS hL => lv_iand C.1 C.2.1 d  (kk hk H locs ls hP hS hL)
theorem s_ior (C : gC cc nL own G X) {x y : Int32} (d : decode cc pc = .ok (.ior, 1)) (hq : pc + 1 = q) (kk : gSm l R nL G X k res V q L (.int (x ||| y) :: st)) : gSm l R nL G X k res V pc L (.int y :: .int x :: st) := by
  subst hq
  exact fun hk H locs ls hP hS hL => lv_ior C.1 C.2.1 d  (kk hk H locs ls hP hS hL)
theorem s_ixor (C : gC cc nL own G X) {x y : Int32} (d : decode cc pc = .ok (.ixor, 1)) (hq : pc + 1 = q) (kk : gSm l R nL G X k res V q L (.int (x ^^^ y) :: st)) : gSm l R nL G X k res V pc L (.int y :: .int x :: st) := by
  subst hq
  exact fun hk H locs ls hP hS hL => lv_ixor C.1 C.2.1 d  (kk hk H locs ls hP hS hL)
theorem s_ineg (C : gC cc nL own G X) {x : Int32} (d : decode cc pc = .ok (.ineg, 1)) (hq : pc + 1 = q) (kk : gSm l R nL G X k res V q L (.int (-x) :: st)) : gSm l R nL G X k res V pc L (.int x :: st) := by
  subst hq
  exact fun hk H locs ls hP hS hL => lv_ineg C.1 C.2.1 d  (kk hk H locs ls hP hS hL)
theorem s_ishl (C : gC cc nL own G X) {x y : Int32} (d : decode cc pc = .ok (.ishl, 1)) (hq : pc + 1 = q) (kk : gSm l R nL G X k res V q L (.int (x <<< (y &&& 31)) :: st)) : gSm l R nL G X k res V pc L (.int y :: .int x :: st) := by
  subst hq
  exact fun hk H locs ls hP hS hL => lv_ishl C.1 C.2.1 d  (kk hk H locs ls hP hS hL)
theorem s_ishr (C : gC cc nL own G X) {x y : Int32} (d : decode cc pc = .ok (.ishr, 1)) (hq : pc + 1 = q) (kk : gSm l R nL G X k res V q L (.int (x >>> (y &&& 31)) :: st)) : gSm l R nL G X k res V pc L (.int y :: .int x :: st) := by
  subst hq
  exact fun hk H locs ls hP hS hL => lv_ishr C.1 C.2.1 d  (kk hk H locs ls hP hS hL)
theorem s_iushr (C : gC cc nL own G X) {x y : Int32} (d : decode cc pc = .ok (.iushr, 1)) (hq : pc + 1 = q) (kk : gSm l R nL G X k res V q L (.int (gus x y) :: st)) : gSm l R nL G X k res V pc L (.int y :: .int x :: st) := by
  subst hq
  exact fun hk H locs ls hP hS hL => lv_iushr C.1 C.2.1 d rfl (kk hk H locs ls hP hS hL)
theorem s_i2l (C : gC cc nL own G X) {x : Int32} (d : decode cc pc = .ok (.i2l, 1)) (hq : pc + 1 = q) (kk : gSm l R nL G X k res V q L (.long x.toInt64 :: st)) : gSm l R nL G X k res V pc L (.int x :: st) := by
  subst hq
  exact fun hk H locs ls hP hS hL => lv_i2l C.1 C.2.1 d rfl (kk hk H locs ls hP hS hL)
theorem s_l2i (C : gC cc nL own G X) {x : Int64} (d : decode cc pc = .ok (.l2i, 1)) (hq : pc + 1 = q) (kk : gSm l R nL G X k res V q L (.int x.toInt32 :: st)) : gSm l R nL G X k res V pc L (.long x :: st) := by
  subst hq
  exact fun hk H locs ls hP hS hL => lv_l2i C.1 C.2.1 d rfl (kk hk H locs ls hP hS hL)
theorem s_i2b (C : gC cc nL own G X) {x : Int32} (d : decode cc pc = .ok (.i2b, 1)) (hq : pc + 1 = q) (kk : gSm l R nL G X k res V q L (.int x.toInt8.toInt32 :: st)) : gSm l R nL G X k res V pc L (.int x :: st) := by
  subst hq
  exact fun hk H locs ls hP hS hL => lv_i2b C.1 C.2.1 d rfl (kk hk H locs ls hP hS hL)
theorem s_i2s (C : gC cc nL own G X) {x : Int32} (d : decode cc pc = .ok (.i2s, 1)) (hq : pc + 1 = q) (kk : gSm l R nL G X k res V q L (.int x.toInt16.toInt32 :: st)) : gSm l R nL G X k res V pc L (.int x :: st) := by
  subst hq
  exact fun hk H locs ls hP hS hL => lv_i2s C.1 C.2.1 d rfl (kk hk H locs ls hP hS hL)
theorem s_land (C : gC cc nL own G X) {x y : Int64} (d : decode cc pc = .ok (.land, 1)) (hq : pc + 1 = q) (kk : gSm l R nL G X k res V q L (.long (x &&& y) :: st)) : gSm l R nL G X k res V pc L (.long y :: .long x :: st) := by
  subst hq
  exact fun hk H locs ls hP hS hL => lv_land C.1 C.2.1 d  (kk hk H locs ls hP hS hL)
theorem s_lor (C : gC cc nL own G X) {x y : Int64} (d : decode cc pc = .ok (.lor, 1)) (hq : pc + 1 = q) (kk : gSm l R nL G X k res V q L (.long (x ||| y) :: st)) : gSm l R nL G X k res V pc L (.long y :: .long x :: st) := by
  subst hq
  exact fun hk H locs ls hP hS hL => lv_lor C.1 C.2.1 d  (kk hk H locs ls hP hS hL)
theorem s_lshl (C : gC cc nL own G X) {x : Int64} {y : Int32} (d : decode cc pc = .ok (.lshl, 1)) (hq : pc + 1 = q) (kk : gSm l R nL G X k res V q L (.long (x <<< (y.toInt64 &&& 63)) :: st)) : gSm l R nL G X k res V pc L (.int y :: .long x :: st) := by
  subst hq
  exact fun hk H locs ls hP hS hL => lv_lshl C.1 C.2.1 d rfl (kk hk H locs ls hP hS hL)
theorem s_lshr (C : gC cc nL own G X) {x : Int64} {y : Int32} (d : decode cc pc = .ok (.lshr, 1)) (hq : pc + 1 = q) (kk : gSm l R nL G X k res V q L (.long (x >>> (y.toInt64 &&& 63)) :: st)) : gSm l R nL G X k res V pc L (.int y :: .long x :: st) := by
  subst hq
  exact fun hk H locs ls hP hS hL => lv_lshr C.1 C.2.1 d rfl (kk hk H locs ls hP hS hL)
theorem s_lushr (C : gC cc nL own G X) {x : Int64} {y : Int32} (d : decode cc pc = .ok (.lushr, 1)) (hq : pc + 1 = q) (kk : gSm l R nL G X k res V q L (.long (x.toUInt64 >>> (y.toInt64.toUInt64 &&& Int64.toUInt64 63)).toInt64 :: st)) : gSm l R nL G X k res V pc L (.int y :: .long x :: st) := by
  subst hq
  exact fun hk H locs ls hP hS hL => lv_lushr C.1 C.2.1 d rfl (kk hk H locs ls hP hS hL)
theorem s_dup (C : gC cc nL own G X) {v : Value} (d : decode cc pc = .ok (.dup, 1)) (hq : pc + 1 = q) (hv : v.category = 1) (kk : gSm l R nL G X k res V q L (v :: v :: st)) : gSm l R nL G X k res V pc L (v :: st) := by
  subst hq
  exact fun hk H locs ls hP hS hL => lv_dup C.1 C.2.1 d hv (kk hk H locs ls hP hS hL)
theorem s_pop (C : gC cc nL own G X) {v : Value} (d : decode cc pc = .ok (.pop, 1)) (hq : pc + 1 = q) (hv : v.category = 1) (kk : gSm l R nL G X k res V q L (st)) : gSm l R nL G X k res V pc L (v :: st) := by
  subst hq
  exact fun hk H locs ls hP hS hL => lv_pop C.1 C.2.1 d hv (kk hk H locs ls hP hS hL)
theorem s_dup2_11 (C : gC cc nL own G X) {v w : Value} (d : decode cc pc = .ok (.dup2, 1)) (hq : pc + 1 = q) (hv : v.category = 1) (hw : w.category = 1) (kk : gSm l R nL G X k res V q L (v :: w :: v :: w :: st)) : gSm l R nL G X k res V pc L (v :: w :: st) := by
  subst hq
  exact fun hk H locs ls hP hS hL => lv_dup2_11 C.1 C.2.1 d hv hw (kk hk H locs ls hP hS hL)
theorem s_dup_x1 (C : gC cc nL own G X) {v w : Value} (d : decode cc pc = .ok (.dup_x1, 1)) (hq : pc + 1 = q) (hv : v.category = 1) (hw : w.category = 1) (kk : gSm l R nL G X k res V q L (v :: w :: v :: st)) : gSm l R nL G X k res V pc L (v :: w :: st) := by
  subst hq
  exact fun hk H locs ls hP hS hL => lv_dup_x1 C.1 C.2.1 d hv hw (kk hk H locs ls hP hS hL)
theorem s_dup_x2 (C : gC cc nL own G X) {v w u : Value} (d : decode cc pc = .ok (.dup_x2, 1)) (hq : pc + 1 = q) (hv : v.category = 1) (hw : w.category = 1) (hu : u.category = 1) (kk : gSm l R nL G X k res V q L (v :: w :: u :: v :: st)) : gSm l R nL G X k res V pc L (v :: w :: u :: st) := by
  subst hq
  exact fun hk H locs ls hP hS hL => lv_dup_x2 C.1 C.2.1 d hv hw hu (kk hk H locs ls hP hS hL)
theorem s_ldc (C : gC cc nL own G X) {i : Nat} {v : Int32} (d : decode cc pc = .ok (.ldc i, 2)) (hq : pc + 2 = q) (h : Cond.constant own i v ∈ gB) (kk : gSm l R nL G X k res V q L (.int v :: st)) : gSm l R nL G X k res V pc L (st) := by
  subst hq
  exact fun hk H locs ls hP hS hL => (fun a b dd kk => lv_ldc a b C.2.2.2.1 (C.2.2.2.2.1 _ h) dd kk) C.1 C.2.1 d  (kk hk H locs ls hP hS hL)
theorem s_ldc_w (C : gC cc nL own G X) {i : Nat} {v : Int32} (d : decode cc pc = .ok (.ldc_w i, 3)) (hq : pc + 3 = q) (h : Cond.constant own i v ∈ gB) (kk : gSm l R nL G X k res V q L (.int v :: st)) : gSm l R nL G X k res V pc L (st) := by
  subst hq
  exact fun hk H locs ls hP hS hL => (fun a b dd kk => lv_ldcw a b C.2.2.2.1 (C.2.2.2.2.1 _ h) dd kk) C.1 C.2.1 d  (kk hk H locs ls hP hS hL)
theorem s_ldc2 (C : gC cc nL own G X) {i : Nat} {v : Int64} (d : decode cc pc = .ok (.ldc2_w i, 3)) (hq : pc + 3 = q) (h : Cond.constantLong own i v ∈ gB) (kk : gSm l R nL G X k res V q L (.long v :: st)) : gSm l R nL G X k res V pc L (st) := by
  subst hq
  exact fun hk H locs ls hP hS hL => (fun a b dd kk => lv_ldc2 a b C.2.2.2.1 (C.2.2.2.2.1 _ h) dd kk) C.1 C.2.1 d  (kk hk H locs ls hP hS hL)
theorem s_goto (C : gC cc nL own G X) {off : Int} (d : decode cc pc = .ok (.goto off, 3)) (ht : (pc : Int) + off = (q : Int)) (kk : gSm l R nL G X k res V q L st) : gSm l R nL G X k res V pc L st := fun hk H locs ls hP hS hL => lv_goto C.1 C.2.1 d ht (kk hk H locs ls hP hS hL)
theorem s_istore_n (C : gC cc nL own G X) {j : Fin 4} {i : Nat} {x : Int32} {L' : List (Nat × Value)} (d : decode cc pc = .ok (.istore_n j, 1)) (hq : pc + 1 = q) (hi : (j : Nat) = i) (hn : i < nL) (hl : (i, Value.int x) :: L.filter (fun r => !(r.1 == i) && !(r.1 + 1 == i && r.2.category == 2)) = L') (kk : gSm l R nL G X k res V q L' st) : gSm l R nL G X k res V pc L (Value.int x :: st) := by
  subst hq
  exact fun hk H locs ls hP hS hL => lv_istore_n C.1 C.2.1 d hi hL hn hl (fun ls' hL' => kk hk H locs ls' hP hS hL')
theorem s_istore (C : gC cc nL own G X) {i : Nat} {x : Int32} {L' : List (Nat × Value)} (d : decode cc pc = .ok (.istore i, 2)) (hq : pc + 2 = q) (hn : i < nL) (hl : (i, Value.int x) :: L.filter (fun r => !(r.1 == i) && !(r.1 + 1 == i && r.2.category == 2)) = L') (kk : gSm l R nL G X k res V q L' st) : gSm l R nL G X k res V pc L (Value.int x :: st) := by
  subst hq
  exact fun hk H locs ls hP hS hL => lv_istore C.1 C.2.1 d hL hn hl (fun ls' hL' => kk hk H locs ls' hP hS hL')
theorem s_astore_n (C : gC cc nL own G X) {j : Fin 4} {i : Nat} {x : Nat} {L' : List (Nat × Value)} (d : decode cc pc = .ok (.astore_n j, 1)) (hq : pc + 1 = q) (hi : (j : Nat) = i) (hn : i < nL) (hl : (i, Value.ref x) :: L.filter (fun r => !(r.1 == i) && !(r.1 + 1 == i && r.2.category == 2)) = L') (kk : gSm l R nL G X k res V q L' st) : gSm l R nL G X k res V pc L (Value.ref x :: st) := by
  subst hq
  exact fun hk H locs ls hP hS hL => lv_astore_n C.1 C.2.1 d hi hL hn hl (fun ls' hL' => kk hk H locs ls' hP hS hL')
theorem s_astore (C : gC cc nL own G X) {i : Nat} {x : Nat} {L' : List (Nat × Value)} (d : decode cc pc = .ok (.astore i, 2)) (hq : pc + 2 = q) (hn : i < nL) (hl : (i, Value.ref x) :: L.filter (fun r => !(r.1 == i) && !(r.1 + 1 == i && r.2.category == 2)) = L') (kk : gSm l R nL G X k res V q L' st) : gSm l R nL G X k res V pc L (Value.ref x :: st) := by
  subst hq
  exact fun hk H locs ls hP hS hL => lv_astore C.1 C.2.1 d hL hn hl (fun ls' hL' => kk hk H locs ls' hP hS hL')
theorem s_iinc (C : gC cc nL own G X) {i : Nat} {n : Int} {x v w : Int32} {L' : List (Nat × Value)} (p : Nat) (d : decode cc pc = .ok (.iinc i n, 3)) (hq : pc + 3 = q) (hk : L[p]? = some (i, .int x)) (hw : Int32.ofInt n = w) (hv : x + w = v) (hn : i < nL) (hl : (i, Value.int v) :: L.filter (fun r => !(r.1 == i) && !(r.1 + 1 == i && r.2.category == 2)) = L') (kk : gSm l R nL G X k res V q L' st) : gSm l R nL G X k res V pc L st := by
  subst hq
  exact fun hk' H locs ls hP hS hL => lv_iinc C.1 C.2.1 d hL hk (by rw [hw]; exact hv) hn hl (fun ls' hL' => kk hk' H locs ls' hP hS hL')
theorem s_sub {L' : List (Nat × Value)} (ks : List Nat) (hl : lv_pick L ks = L') (kk : gSm l R nL G X k res V pc L' st) : gSm l R nL G X k res V pc L st := fun hk H locs ls hP hS hL => kk hk H locs ls hP hS (lv_sub hL ks hl)
theorem s_none {res : α} : gSm l R nL G X none res V pc L st := fun hk => by cases hk
theorem s_if_eq (C : gC cc nL own G X) {x : Int32} {k1 k2 : Option α} {off : Int} {tgt : Nat} {hD : Decidable (x = 0)} (d : decode cc pc = .ok (.ifCond .eq off, 3)) (ht : (pc : Int) + off = (tgt : Int)) (hq : pc + 3 = q) (kt : x = 0 → gSm l R nL G X k1 res V tgt L st) (kf : ¬ (x = 0) → gSm l R nL G X k2 res V q L st) : gSm l R nL G X (@ite _ (x = 0) hD k1 k2) res V pc L (.int x :: st) := by
  subst hq
  exact fun hk H locs ls hP hS hL => lv_if_eq C.1 C.2.1 d ht (fun c => kt c (by rw [if_pos c] at hk; exact hk) H locs ls hP hS hL) (fun c => kf c (by rw [if_neg c] at hk; exact hk) H locs ls hP hS hL)
theorem s_icmp_eq (C : gC cc nL own G X) {x y : Int32} {k1 k2 : Option α} {off : Int} {tgt : Nat} {hD : Decidable (x = y)} (d : decode cc pc = .ok (.if_icmp .eq off, 3)) (ht : (pc : Int) + off = (tgt : Int)) (hq : pc + 3 = q) (kt : x = y → gSm l R nL G X k1 res V tgt L st) (kf : ¬ (x = y) → gSm l R nL G X k2 res V q L st) : gSm l R nL G X (@ite _ (x = y) hD k1 k2) res V pc L (.int y :: .int x :: st) := by
  subst hq
  exact fun hk H locs ls hP hS hL => lv_icmp_eq C.1 C.2.1 d ht (fun c => kt c (by rw [if_pos c] at hk; exact hk) H locs ls hP hS hL) (fun c => kf c (by rw [if_neg c] at hk; exact hk) H locs ls hP hS hL)
theorem s_if_ne (C : gC cc nL own G X) {x : Int32} {k1 k2 : Option α} {off : Int} {tgt : Nat} {hD : Decidable (x = 0)} (d : decode cc pc = .ok (.ifCond .ne off, 3)) (ht : (pc : Int) + off = (tgt : Int)) (hq : pc + 3 = q) (kf : x = 0 → gSm l R nL G X k1 res V q L st) (kt : ¬ (x = 0) → gSm l R nL G X k2 res V tgt L st) : gSm l R nL G X (@ite _ (x = 0) hD k1 k2) res V pc L (.int x :: st) := by
  subst hq
  exact fun hk H locs ls hP hS hL => lv_if_ne C.1 C.2.1 d ht (fun c => kt c (by rw [if_neg c] at hk; exact hk) H locs ls hP hS hL) (fun c => kf c (by rw [if_pos c] at hk; exact hk) H locs ls hP hS hL)
theorem s_icmp_ne (C : gC cc nL own G X) {x y : Int32} {k1 k2 : Option α} {off : Int} {tgt : Nat} {hD : Decidable (x = y)} (d : decode cc pc = .ok (.if_icmp .ne off, 3)) (ht : (pc : Int) + off = (tgt : Int)) (hq : pc + 3 = q) (kf : x = y → gSm l R nL G X k1 res V q L st) (kt : ¬ (x = y) → gSm l R nL G X k2 res V tgt L st) : gSm l R nL G X (@ite _ (x = y) hD k1 k2) res V pc L (.int y :: .int x :: st) := by
  subst hq
  exact fun hk H locs ls hP hS hL => lv_icmp_ne C.1 C.2.1 d ht (fun c => kt c (by rw [if_neg c] at hk; exact hk) H locs ls hP hS hL) (fun c => kf c (by rw [if_pos c] at hk; exact hk) H locs ls hP hS hL)
theorem s_if_lt (C : gC cc nL own G X) {x : Int32} {k1 k2 : Option α} {off : Int} {tgt : Nat} {hD : Decidable (x < 0)} (d : decode cc pc = .ok (.ifCond .lt off, 3)) (ht : (pc : Int) + off = (tgt : Int)) (hq : pc + 3 = q) (kt : x < 0 → gSm l R nL G X k1 res V tgt L st) (kf : ¬ (x < 0) → gSm l R nL G X k2 res V q L st) : gSm l R nL G X (@ite _ (x < 0) hD k1 k2) res V pc L (.int x :: st) := by
  subst hq
  exact fun hk H locs ls hP hS hL => lv_if_lt C.1 C.2.1 d ht (fun c => kt c (by rw [if_pos c] at hk; exact hk) H locs ls hP hS hL) (fun c => kf c (by rw [if_neg c] at hk; exact hk) H locs ls hP hS hL)
theorem s_icmp_lt (C : gC cc nL own G X) {x y : Int32} {k1 k2 : Option α} {off : Int} {tgt : Nat} {hD : Decidable (x < y)} (d : decode cc pc = .ok (.if_icmp .lt off, 3)) (ht : (pc : Int) + off = (tgt : Int)) (hq : pc + 3 = q) (kt : x < y → gSm l R nL G X k1 res V tgt L st) (kf : ¬ (x < y) → gSm l R nL G X k2 res V q L st) : gSm l R nL G X (@ite _ (x < y) hD k1 k2) res V pc L (.int y :: .int x :: st) := by
  subst hq
  exact fun hk H locs ls hP hS hL => lv_icmp_lt C.1 C.2.1 d ht (fun c => kt c (by rw [if_pos c] at hk; exact hk) H locs ls hP hS hL) (fun c => kf c (by rw [if_neg c] at hk; exact hk) H locs ls hP hS hL)
theorem s_if_ge (C : gC cc nL own G X) {x : Int32} {k1 k2 : Option α} {off : Int} {tgt : Nat} {hD : Decidable (0 ≤ x)} (d : decode cc pc = .ok (.ifCond .ge off, 3)) (ht : (pc : Int) + off = (tgt : Int)) (hq : pc + 3 = q) (kt : 0 ≤ x → gSm l R nL G X k1 res V tgt L st) (kf : ¬ (0 ≤ x) → gSm l R nL G X k2 res V q L st) : gSm l R nL G X (@ite _ (0 ≤ x) hD k1 k2) res V pc L (.int x :: st) := by
  subst hq
  exact fun hk H locs ls hP hS hL => lv_if_ge C.1 C.2.1 d ht (fun c => kt c (by rw [if_pos c] at hk; exact hk) H locs ls hP hS hL) (fun c => kf c (by rw [if_neg c] at hk; exact hk) H locs ls hP hS hL)
theorem s_icmp_ge (C : gC cc nL own G X) {x y : Int32} {k1 k2 : Option α} {off : Int} {tgt : Nat} {hD : Decidable (y ≤ x)} (d : decode cc pc = .ok (.if_icmp .ge off, 3)) (ht : (pc : Int) + off = (tgt : Int)) (hq : pc + 3 = q) (kt : y ≤ x → gSm l R nL G X k1 res V tgt L st) (kf : ¬ (y ≤ x) → gSm l R nL G X k2 res V q L st) : gSm l R nL G X (@ite _ (y ≤ x) hD k1 k2) res V pc L (.int y :: .int x :: st) := by
  subst hq
  exact fun hk H locs ls hP hS hL => lv_icmp_ge C.1 C.2.1 d ht (fun c => kt c (by rw [if_pos c] at hk; exact hk) H locs ls hP hS hL) (fun c => kf c (by rw [if_neg c] at hk; exact hk) H locs ls hP hS hL)
theorem s_if_gt (C : gC cc nL own G X) {x : Int32} {k1 k2 : Option α} {off : Int} {tgt : Nat} {hD : Decidable (0 < x)} (d : decode cc pc = .ok (.ifCond .gt off, 3)) (ht : (pc : Int) + off = (tgt : Int)) (hq : pc + 3 = q) (kt : 0 < x → gSm l R nL G X k1 res V tgt L st) (kf : ¬ (0 < x) → gSm l R nL G X k2 res V q L st) : gSm l R nL G X (@ite _ (0 < x) hD k1 k2) res V pc L (.int x :: st) := by
  subst hq
  exact fun hk H locs ls hP hS hL => lv_if_gt C.1 C.2.1 d ht (fun c => kt c (by rw [if_pos c] at hk; exact hk) H locs ls hP hS hL) (fun c => kf c (by rw [if_neg c] at hk; exact hk) H locs ls hP hS hL)
theorem s_icmp_gt (C : gC cc nL own G X) {x y : Int32} {k1 k2 : Option α} {off : Int} {tgt : Nat} {hD : Decidable (y < x)} (d : decode cc pc = .ok (.if_icmp .gt off, 3)) (ht : (pc : Int) + off = (tgt : Int)) (hq : pc + 3 = q) (kt : y < x → gSm l R nL G X k1 res V tgt L st) (kf : ¬ (y < x) → gSm l R nL G X k2 res V q L st) : gSm l R nL G X (@ite _ (y < x) hD k1 k2) res V pc L (.int y :: .int x :: st) := by
  subst hq
  exact fun hk H locs ls hP hS hL => lv_icmp_gt C.1 C.2.1 d ht (fun c => kt c (by rw [if_pos c] at hk; exact hk) H locs ls hP hS hL) (fun c => kf c (by rw [if_neg c] at hk; exact hk) H locs ls hP hS hL)
theorem s_if_le (C : gC cc nL own G X) {x : Int32} {k1 k2 : Option α} {off : Int} {tgt : Nat} {hD : Decidable (x ≤ 0)} (d : decode cc pc = .ok (.ifCond .le off, 3)) (ht : (pc : Int) + off = (tgt : Int)) (hq : pc + 3 = q) (kt : x ≤ 0 → gSm l R nL G X k1 res V tgt L st) (kf : ¬ (x ≤ 0) → gSm l R nL G X k2 res V q L st) : gSm l R nL G X (@ite _ (x ≤ 0) hD k1 k2) res V pc L (.int x :: st) := by
  subst hq
  exact fun hk H locs ls hP hS hL => lv_if_le C.1 C.2.1 d ht (fun c => kt c (by rw [if_pos c] at hk; exact hk) H locs ls hP hS hL) (fun c => kf c (by rw [if_neg c] at hk; exact hk) H locs ls hP hS hL)
theorem s_icmp_le (C : gC cc nL own G X) {x y : Int32} {k1 k2 : Option α} {off : Int} {tgt : Nat} {hD : Decidable (x ≤ y)} (d : decode cc pc = .ok (.if_icmp .le off, 3)) (ht : (pc : Int) + off = (tgt : Int)) (hq : pc + 3 = q) (kt : x ≤ y → gSm l R nL G X k1 res V tgt L st) (kf : ¬ (x ≤ y) → gSm l R nL G X k2 res V q L st) : gSm l R nL G X (@ite _ (x ≤ y) hD k1 k2) res V pc L (.int y :: .int x :: st) := by
  subst hq
  exact fun hk H locs ls hP hS hL => lv_icmp_le C.1 C.2.1 d ht (fun c => kt c (by rw [if_pos c] at hk; exact hk) H locs ls hP hS hL) (fun c => kf c (by rw [if_neg c] at hk; exact hk) H locs ls hP hS hL)
theorem s_case {c : Prop} {hD : Decidable c} {k1 k2 : Option α} (kt : c → gSm l R nL G X k1 res V pc L st) (kf : ¬ c → gSm l R nL G X k2 res V pc L st) : gSm l R nL G X (@ite _ c hD k1 k2) res V pc L st := by
  intro hk
  by_cases h : c
  · exact kt h (by rw [if_pos h] at hk; exact hk)
  · exact kf h (by rw [if_neg h] at hk; exact hk)
theorem s_tin (C : gC cc nL own G X) {dflt lo hi : Int} {offs : Array Int} {len : Nat} {x c : Int32} {off : Int} (hx : x = c) (d : decode cc pc = .ok (.tableswitch dflt lo hi offs, len)) (h1 : ¬ c.toInt < lo) (h2 : ¬ hi < c.toInt) (ho : offs[(c.toInt - lo).toNat]? = some off) (ht : (pc : Int) + off = (q : Int)) (kk : gSm l R nL G X k res V q L st) : gSm l R nL G X k res V pc L (.int x :: st) := by
  subst hx
  exact fun hk H locs ls hP hS hL => lv_tableIn C.1 C.2.1 d h1 h2 ho ht (kk hk H locs ls hP hS hL)
theorem s_tout (C : gC cc nL own G X) {dflt lo hi : Int} {offs : Array Int} {len : Nat} {x : Int32} (d : decode cc pc = .ok (.tableswitch dflt lo hi offs, len)) (h : x.toInt < lo ∨ hi < x.toInt) (ht : (pc : Int) + dflt = (q : Int)) (kk : gSm l R nL G X k res V q L st) : gSm l R nL G X k res V pc L (.int x :: st) :=
  fun hk H locs ls hP hS hL => lv_tableOut C.1 C.2.1 d h ht (kk hk H locs ls hP hS hL)
theorem s_look (C : gC cc nL own G X) {dflt : Int} {ps : Array (Int × Int)} {len : Nat} {x : Int32} {off : Int} (d : decode cc pc = .ok (.lookupswitch dflt ps, len)) (hp : (ps.toList.zip (ps.toList.drop 1)).all (fun (a, next) => a.1 < next.1) = true) (ho : Op.lookupswitch.offset ps.toList dflt x.toInt = off) (ht : (pc : Int) + off = (q : Int)) (kk : gSm l R nL G X k res V q L st) : gSm l R nL G X k res V pc L (.int x :: st) :=
  fun hk H locs ls hP hS hL => lv_lookup C.1 C.2.1 d hp ho ht (kk hk H locs ls hP hS hL)
theorem s_idiv (C : gC cc nL own G X) {x y : Int32} (d : decode cc pc = .ok (.idiv, 1)) (hq : pc + 1 = q) (kk : gSm l R nL G X k res V q L (.int (x / y) :: st)) : gSm l R nL G X (gdv y k) res V pc L (.int y :: .int x :: st) := by
  subst hq
  intro hk
  unfold gdv at hk
  by_cases h : y = 0
  · rw [if_pos h] at hk; cases hk
  · rw [if_neg h] at hk
    exact fun H locs ls hP hS hL => lv_idiv C.1 C.2.1 d h (kk hk H locs ls hP hS hL)
theorem s_irem (C : gC cc nL own G X) {x y : Int32} (d : decode cc pc = .ok (.irem, 1)) (hq : pc + 1 = q) (kk : gSm l R nL G X k res V q L (.int (grm x y) :: st)) : gSm l R nL G X (gdv y k) res V pc L (.int y :: .int x :: st) := by
  subst hq
  intro hk
  unfold gdv at hk
  by_cases h : y = 0
  · rw [if_pos h] at hk; cases hk
  · rw [if_neg h] at hk
    exact fun H locs ls hP hS hL => lv_irem C.1 C.2.1 d h (kk hk H locs ls hP hS hL)
theorem s_lt {e : Int32} {f : Int32 → Option α} (kk : ∀ x, gSm l R nL G X (f x) res V pc L (.int x :: st)) : gSm l R nL G X (glt e f) res V pc L (.int e :: st) := kk e
theorem s_jn {γ : Type} {J : γ} {f : γ → Option α} (P : γ → Prop) (hJ : P J) (kk : ∀ J, P J → gSm l R nL G X (f J) res V pc L st) : gSm l R nL G X (gjn J f) res V pc L st := kk J hJ
theorem s_mmax (C : gC cc nL own G X) {i : Nat} {x y : Int32} (h1 : Cond.methodLink own i Lib.Math.max.name ∈ gB) (h2 : Cond.static Lib.Math.max.name ∈ gB) (h3 : Cond.initialized "java/lang/Math" ∈ gB) (h4 : Cond.code Lib.Math.max.name Lib.Math.max.code 2 (some .int) ∈ gB) (hR : 1 ≤ R.frames ∧ (st.map fun v => v.category).sum + 13 ≤ R.locals) (d : decode cc pc = .ok (.invokestatic i, 3)) (hq : pc + 3 = q) (kk : gSm l R nL G X k res V q L (.int (gmx x y) :: st)) : gSm l R nL G X k res V pc L (.int y :: .int x :: st) := by
  subst hq
  exact fun hk H locs ls hP hS hL => va_mmax C.1 C.2.1 (C.2.2.1.trans hL.1.symm) C.2.2.2.1 (C.2.2.2.2.1 _ h1) (C.2.2.2.2.1 _ h2) (C.2.2.2.2.1 _ h3) (C.2.2.2.2.1 _ h4) hR.1 hR.2 (Nat.zero_le _) (Nat.zero_le _) d (kk hk H locs ls hP hS hL)
theorem s_mmin (C : gC cc nL own G X) {i : Nat} {x y : Int32} (h1 : Cond.methodLink own i Lib.Math.min.name ∈ gB) (h2 : Cond.static Lib.Math.min.name ∈ gB) (h3 : Cond.initialized "java/lang/Math" ∈ gB) (h4 : Cond.code Lib.Math.min.name Lib.Math.min.code 2 (some .int) ∈ gB) (hR : 1 ≤ R.frames ∧ (st.map fun v => v.category).sum + 13 ≤ R.locals) (d : decode cc pc = .ok (.invokestatic i, 3)) (hq : pc + 3 = q) (kk : gSm l R nL G X k res V q L (.int (gmn x y) :: st)) : gSm l R nL G X k res V pc L (.int y :: .int x :: st) := by
  subst hq
  exact fun hk H locs ls hP hS hL => va_mmin C.1 C.2.1 (C.2.2.1.trans hL.1.symm) C.2.2.2.1 (C.2.2.2.2.1 _ h1) (C.2.2.2.2.1 _ h2) (C.2.2.2.2.1 _ h3) (C.2.2.2.2.1 _ h4) hR.1 hR.2 (Nat.zero_le _) (Nat.zero_le _) d (kk hk H locs ls hP hS hL)
end GR
end
section
/-! ===== fields, rows, statics ===== -/
section GH
variable {α : Type} {l : Launch} {R : Room} {nL : Nat} {G : gG} {X : gX} {k : Option α} {res : α} {V : gV} {pc q : Nat} {L : List (Nat × Value)} {st : List Value} {cc : ByteArray} {own : String}
theorem gf_get (C : gC cc nL own G X) {C0 : String} {T : u_T} {N ci : Nat} {index : Nat} {c : Nat} {fl : List (Option Nat)} (hc : gCl[ci]? = some (C0, T, N)) (hin : ∀ w ∈ u_ws C0 T N, w ∈ gB) (j : Nat) (hj : j < N) (hl : gFL own index (T j).1 (T j).2.1 (T j).2.2.1) (hs : G.2.2.1 c = some (.inr (.inl (ci, fl)))) {o : Option Nat} (ho : fl[j]? = some o) (d : decode cc pc = .ok (.getfield index, 3)) (hq : pc + 3 = q)
    (kk : gSm l R nL G X k res V q L (gfv G.1 (V c) j o :: st)) : gSm l R nL G X k res V pc L (.ref (G.1 c) :: st) := by
  subst hq
  intro hk H locs ls hP hS hL
  have K := kk hk H locs ls hP hS hL
  obtain ⟨hx, hb, hml, hown, hts, hT, hZ⟩ := C
  obtain ⟨r, h1, cell, q1, q2, q3, q4⟩ := (gat_o hs).mp (hP c)
  have hr : r = (C0, T, N) := Option.some.inj (h1.symm.trans hc)
  subst hr
  obtain ⟨hSl, hfc, kC, hkC, hkind⟩ := hT.1.1 ci _ hc
  obtain ⟨cf, kf, fi, f, hi, hsl⟩ := hSl j hj
  have hst := (u_facts hfc hkC (u_lays hts hin hj) hi).1
  have hv : cell.slots[f.slot]? = some (gfv G.1 (V c) j o) := by
    rw [hsl, q4 j hj]
    simp [vp_V, gfs_get ho]
  rcases hl with hl | ⟨h, hl⟩
  · exact W.getf hx hb hown (hts _ hl) hi hst q1 (by rw [q3]; exact fun h => by cases h) hv rfl rfl d K
  · exact va_Wgetf hx hb hown (va_Nw.use rfl (hT.2.1 _ hl)) hi hst q1 (by rw [q3]; exact fun h => by cases h) hv rfl rfl d K
theorem gf_put (C : gC cc nL own G X) {C0 : String} {T : u_T} {N ci : Nat} {index : Nat} {c : Nat} {fl : List (Option Nat)} (hc : gCl[ci]? = some (C0, T, N)) (hin : ∀ w ∈ u_ws C0 T N, w ∈ gB) (ty0 : Nat → FieldType) (hty : ∀ k, k < N → parseFieldDescriptor (T k).2.2.1 = some (ty0 k)) (hnm : ∀ a, a < N → ∀ b, b < N → a ≠ b → (T a).2.1 ≠ (T b).2.1) (j : Nat) (hj : j < N) (hl : gFL own index (T j).1 (T j).2.1 (T j).2.2.1) (hfin : (T j).2.2.2 = false) (hs : G.2.2.1 c = some (.inr (.inl (ci, fl)))) (ho : fl[j]? = some none) {v : Int32} (hn : narrow (ty0 j) (.int v) = .int v) (hfit : fits (ty0 j) (.int v) = true) (d : decode cc pc = .ok (.putfield index, 3)) (hq : pc + 3 = q)
    {f : gV → Option α} (kk : ∀ V1, gSm l R nL G X (f V1) res V1 q L st) : gSm l R nL G X (gpu V c j v f) res V pc L (.int v :: .ref (G.1 c) :: st) := by
  subst hq
  intro hk H locs ls hP hS hL
  have K := fun H1 locs1 hP1 hS1 => kk (gup V c j v) hk H1 locs1 ls hP1 hS1 hL
  obtain ⟨hx, hb, hml, hown, hts, hT, hZ⟩ := C
  have hap := va_apart (own := own) hts hin ty0 hty hnm hT.1 hc
  obtain ⟨r, h1, cell, q1, q2, q3, q4⟩ := (gat_o hs).mp (hP c)
  have hr : r = (C0, T, N) := Option.some.inj (h1.symm.trans hc)
  subst hr
  obtain ⟨hSl, hfc, kC, hkC, hkind⟩ := hT.1.1 ci _ hc
  obtain ⟨cf, kf, fi, f, hi, hsl⟩ := hSl j hj
  have hlay := hts _ (hin _ (u_in_lay hj))
  unfold u_lay at hlay
  rw [if_neg (by rw [hfin]; decide)] at hlay
  have hst := (u_facts hfc hkC (u_lays hts hin hj) hi).1
  have h6 := u_store hfc hkC hkind hlay hi (hty j hj) hn hfit
  have hM : c < G.2.2.2.1 := hT.2.2.2 c _ hs
  have hlen : j < (gfs G.1 (V c) fl).length := by
    have := (List.getElem?_eq_some_iff.mp (gfs_get (ad := G.1) (f := V c) ho)).1
    exact this
  have key : ∀ H', H'[G.1 c]? = some (cell.setSlot f.slot (.int v)) → H'.size = H.size → (∀ q, q ≠ G.1 c → H'[q]? = H[q]?) → W X.1 l X.2.1 R (xs X) (xm X) (xa X) (xb X) (xM X) (xc X) H' (locs ++ [⟨G.1 c, f.slot⟩]) 0 0 (xQ X) (F0 (xm X) (pc + 3) ls st) := by
    intro H' e1 e2 e3
    rw [hsl] at e1 ⊢
    refine K H' _ (gP_one hP hT hM e3 (fun k hk => gup_row V j v hk) ((gat_o hs).mpr ⟨_, hc, ?_⟩)) (hS.put e2 e3 (gA_of hM))
    rw [← gfs_set ho]
    exact t_OB.to (V := updV (vp_V (gfs G.1 (V c) fl)) j (.int v)) ⟨_, e1, q2, q3, t_set q4 hap hj (.int v)⟩ (fun i _ => vp_updV_set hlen (.int v) i)
  rcases hl with hl | ⟨h, hl⟩
  · exact W.putK hx hb (f := f) ⟨hown, hts _ hl, ⟨_, _, _, hi⟩, hst⟩ (by rw [q2]; exact h6) q1 q3 (by rw [hsl]; exact k2_hasslot (q4 j hj)) rfl rfl d key
  · exact va_WputK hx hb (f := f) hown (va_Nw.use rfl (hT.2.1 _ hl)) hi hst (by rw [q2]; exact h6) q1 q3 (by rw [hsl]; exact k2_hasslot (q4 j hj)) rfl rfl d key
theorem s_iald (C : gC cc nL own G X) {c n : Nat} {i : Int32} (hs : G.2.2.1 c = some (.inl n)) (d : decode cc pc = .ok (.iaload, 1)) (hq : pc + 1 = q) {f : Int32 → Option α} (kk : ∀ x, gSm l R nL G X (f x) res V q L (.int x :: st)) : gSm l R nL G X (gal V c i n f) res V pc L (.int i :: .ref (G.1 c) :: st) := by
  subst hq
  intro hk H locs ls hP hS hL
  unfold gal at hk
  by_cases hi : i < 0 ∨ n ≤ i.toNatClampNeg
  · rw [if_pos hi] at hk; cases hk
  · rw [if_neg hi] at hk
    obtain ⟨cell, h1, h2, h3, h4, h5, h6⟩ := (gat_i hs).mp (hP c)
    exact W.iald C.1 C.2.1 h1 h2 h3 (gsz hi h4) (h6 _ (glt_of hi)) rfl rfl d (kk _ hk H locs ls hP hS hL)
theorem s_iast (C : gC cc nL own G X) {c n : Nat} {i v : Int32} (hs : G.2.2.1 c = some (.inl n)) (hM : c < G.2.2.2.1) (d : decode cc pc = .ok (.iastore, 1)) (hq : pc + 1 = q) {f : gV → Option α} (kk : ∀ V1, gSm l R nL G X (f V1) res V1 q L st) : gSm l R nL G X (gas V c i n v f) res V pc L (.int v :: .int i :: .ref (G.1 c) :: st) := by
  subst hq
  intro hk H locs ls hP hS hL
  unfold gas at hk
  by_cases hi : i < 0 ∨ n ≤ i.toNatClampNeg
  · rw [if_pos hi] at hk; cases hk
  · rw [if_neg hi] at hk
    obtain ⟨cell, h1, h2, h3, h4, h5, h6⟩ := (gat_i hs).mp (hP c)
    refine W.iast C.1 C.2.1 h1 h2 h3 (gsz hi h4) rfl rfl d (fun H' e1 e2 e3 => ?_)
    refine kk _ hk H' _ ls (gP_one hP C.2.2.2.2.2.1 hM e3 (fun k hk => gup_row V _ v hk) ((gat_i hs).mpr ⟨_, e1, h2, h3, by simpa [Cell.setSlot] using h4, by simpa [Cell.setSlot] using h5, fun j hj => ?_⟩)) (hS.put e2 e3 (gA_of hM)) hL
    have hlt := glt_of hi
    by_cases hji : j = i.toNatClampNeg
    · subst hji
      simp only [Cell.setSlot]
      rw [Array.getElem?_setIfInBounds_self_of_lt (Nat.lt_of_lt_of_le hlt h4), gup_at]
    · simp only [Cell.setSlot]
      rw [Array.getElem?_setIfInBounds_ne (fun q => hji q.symm), gup_ne V v (fun q => hji q.2)]
      exact h6 j hj
theorem gTy_ref (t : Nat) : (gTy t).isReference = true := by
  unfold gTy
  split <;> rfl
theorem s_aald (C : gC cc nL own G X) {c ty n b dd : Nat} {i : Int32} (hs : G.2.2.1 c = some (.inr (.inr (ty, n, b, dd)))) (d : decode cc pc = .ok (.aaload, 1)) (hq : pc + 1 = q) (kk : i.toNatClampNeg < n → gSm l R nL G X k res V q L (.ref (G.1 (b + dd * i.toNatClampNeg)) :: st)) : gSm l R nL G X (gar i n k) res V pc L (.int i :: .ref (G.1 c) :: st) := by
  subst hq
  intro hk H locs ls hP hS hL
  unfold gar at hk
  by_cases hi : i < 0 ∨ n ≤ i.toNatClampNeg
  · rw [if_pos hi] at hk; cases hk
  · rw [if_neg hi] at hk
    obtain ⟨cell, h1, h2, h3, h4, h5⟩ := (gat_r hs).mp (hP c)
    exact W.aald C.1 C.2.1 h1 h2 (gTy_ref ty) h3 (gsz hi (Nat.le_of_eq h4.symm)) (h5 _ (glt_of hi)) rfl rfl d (kk (glt_of hi) hk H locs ls hP hS hL)
theorem s_alen (C : gC cc nL own G X) {c n : Nat} (hs : G.2.2.1 c = some (.inl n)) {v : Int32} (hv : Int32.ofNat n = v) (d : decode cc pc = .ok (.arraylength, 1)) (hq : pc + 1 = q) (kk : gSm l R nL G X k res V q L (.int v :: st)) : gSm l R nL G X k res V pc L (.ref (G.1 c) :: st) := by
  subst hq
  intro hk H locs ls hP hS hL
  obtain ⟨cell, h1, h2, h3, h4, h5, h6⟩ := (gat_i hs).mp (hP c)
  exact W.alen (n := v) C.1 C.2.1 h1 h2 (h5.trans hv) rfl rfl d (kk hk H locs ls hP hS hL)
theorem s_alenr (C : gC cc nL own G X) {c ty n b dd : Nat} (hs : G.2.2.1 c = some (.inr (.inr (ty, n, b, dd)))) {v : Int32} (hv : Int32.ofNat n = v) (d : decode cc pc = .ok (.arraylength, 1)) (hq : pc + 1 = q) (kk : gSm l R nL G X k res V q L (.int v :: st)) : gSm l R nL G X k res V pc L (.ref (G.1 c) :: st) := by
  subst hq
  intro hk H locs ls hP hS hL
  obtain ⟨cell, h1, h2, h3, h4, h5⟩ := (gat_r hs).mp (hP c)
  exact W.alen (n := v) C.1 C.2.1 h1 h2 (by rw [h4]; exact hv) rfl rfl d (kk hk H locs ls hP hS hL)
theorem s_ifnn (C : gC cc nL own G X) {x : Nat} {off : Int} (d : decode cc pc = .ok (.ifnonnull off, 3)) (ht : (pc : Int) + off = (q : Int)) (kk : gSm l R nL G X k res V q L st) : gSm l R nL G X k res V pc L (.ref x :: st) := fun hk H locs ls hP hS hL => lv_ifnonnull C.1 C.2.1 d ht (kk hk H locs ls hP hS hL)
theorem s_ifn (C : gC cc nL own G X) {x : Nat} {off : Int} (d : decode cc pc = .ok (.ifnull off, 3)) (hq : pc + 3 = q) (kk : gSm l R nL G X k res V q L st) : gSm l R nL G X k res V pc L (.ref x :: st) := by
  subst hq
  exact fun hk H locs ls hP hS hL => lv_ifnull C.1 C.2.1 d (kk hk H locs ls hP hS hL)
theorem s_gets (C : gC cc nL own G X) {A0 n : String} {c index : Nat} (hm : (A0, n, c) ∈ G.2.2.2.2) (hl : gFL own index A0 n "[I") (d : decode cc pc = .ok (.getstatic index, 3)) (hq : pc + 3 = q) (kk : gSm l R nL G X k res V q L (.ref (G.1 c) :: st)) : gSm l R nL G X k res V pc L st := by
  subst hq
  intro hk H locs ls hP hS hL
  have hz := C.2.2.2.2.2.2 _ hm
  rcases hl with hl | ⟨h, hl⟩
  · exact va_gets C.1 C.2.1 hz hS C.2.2.2.1 (C.2.2.2.2.1 _ hl) (fun _ h => h) d (kk hk H locs ls hP hS hL)
  · exact va_getsN C.1 C.2.1 hz hS C.2.2.2.1 (va_Nw.use rfl (C.2.2.2.2.2.1.2.1 _ hl)) (fun _ h => h) d (kk hk H locs ls hP hS hL)
theorem gcl_int {z : Int32} (hz : ¬ z < 0) : z.toInt = (z.toNatClampNeg : Int) := by
  have hz0 : (0 : Int) ≤ z.toInt := by
    have := Int32.not_lt.mp hz
    simpa using Int32.le_iff_toInt_le.mp this
  show z.toInt = ((z.toInt.toNat : Nat) : Int)
  omega
theorem s_copy (C : gC cc nL own G X) {cf n0 ct n1 : Nat} {i j n : Int32} {index : Nat} (h0 : G.2.2.1 cf = some (.inl n0)) (h1 : G.2.2.1 ct = some (.inl n1)) (hM : ct < G.2.2.2.1) (w1 : Cond.methodLink own index arraycopyName ∈ gB) (w2 : Cond.native arraycopyName ∈ gB) (w3 : Cond.static arraycopyName ∈ gB) (w4 : Cond.initialized "java/lang/System" ∈ gB) (hR : 1 ≤ R.frames ∧ (st.map fun v => v.category).sum + (nativeFrameWords "java/lang/System" "arraycopy" 5 + 11) ≤ R.locals) (d : decode cc pc = .ok (.invokestatic index, 3)) (hq : pc + 3 = q)
    {f : gV → Option α} (kk : ∀ V1, gSm l R nL G X (f V1) res V1 q L st) : gSm l R nL G X (gcp V cf n0 i ct n1 j n f) res V pc L (.int n :: .int j :: .ref (G.1 ct) :: .int i :: .ref (G.1 cf) :: st) := by
  subst hq
  intro hk H locs ls hP hS hL
  unfold gcp at hk
  by_cases hg : i < 0 ∨ j < 0 ∨ n < 0 ∨ n0 < i.toNatClampNeg + n.toNatClampNeg ∨ n1 < j.toNatClampNeg + n.toNatClampNeg
  · rw [if_pos hg] at hk; cases hk
  rw [if_neg hg] at hk
  have g1 : ¬ i < 0 := fun h => hg (Or.inl h)
  have g2 : ¬ j < 0 := fun h => hg (Or.inr (Or.inl h))
  have g3 : ¬ n < 0 := fun h => hg (Or.inr (Or.inr (Or.inl h)))
  have g4 : i.toNatClampNeg + n.toNatClampNeg ≤ n0 := Nat.not_lt.mp fun h => hg (Or.inr (Or.inr (Or.inr (Or.inl h))))
  have g5 : j.toNatClampNeg + n.toNatClampNeg ≤ n1 := Nat.not_lt.mp fun h => hg (Or.inr (Or.inr (Or.inr (Or.inr h))))
  have K := fun H1 locs1 hP1 hS1 => kk _ hk H1 locs1 ls hP1 hS1 hL
  obtain ⟨hx, hb, hml, hown, hts, hT, hZ⟩ := C
  obtain ⟨cs, a1, a2, a3, a4, a5, a6⟩ := (gat_i h0).mp (hP cf)
  obtain ⟨cd, b1, b2, b3, b4, b5, b6⟩ := (gat_i h1).mp (hP ct)
  obtain ⟨ks, hks, cms, hkks⟩ := a2.2
  obtain ⟨kd, hkd, cmd, hkkd⟩ := b2.2
  intro T hTH Y
  obtain ⟨vm', Y', step⟩ := Y.arraycopy hx hown (hts _ w1) (hts _ w2) (hts _ w3) (hts _ w4) (src := G.1 cf) (dst := G.1 ct) (cs := cs) (cd := cd) (srcPos := i) (destPos := j) (n := n) (by rw [hTH]; exact a1) (by rw [hTH]; exact b1) a2.1 b2.1 a3 b3 hks hkd hkks hkkd (by decide) g1 g2 g3 (by rw [gcl_int g1, gcl_int g3]; omega) (by rw [gcl_int g2, gcl_int g3]; omega)
    (fun vm₁ _ z hz => by
      have e : cs.slots.getD (i.toNatClampNeg + z) .null = .int (V cf (i.toNatClampNeg + z)) := by
        rw [Array.getD_eq_getD_getElem?, a6 _ (by omega)]
        rfl
      exact ⟨by rw [e]; rfl, by rw [e]; exact trivial⟩)
    (g := F0 (xm X) pc ls (.int n :: .int j :: .ref (G.1 ct) :: .int i :: .ref (G.1 cf) :: st)) rfl (by rw [hml]; exact hL.1) (rest := st) rfl (by rw [hb]; exact d) hR.1 (by have := hR.2; show 2 * 0 + _ + _ ≤ _; omega)
  have hl : G.1 ct < H.size := (Array.getElem?_eq_some_iff.mp b1).1
  have hheap : ((T.setVm vm').setCell (G.1 ct) (copied cs cd i j n)).heap = H.setIfInBounds (G.1 ct) (copied cs cd i j n) := by rw [← hTH]; rfl
  have oq : ∀ q : Nat, q ≠ G.1 ct → (H.setIfInBounds (G.1 ct) (copied cs cd i j n))[q]? = H[q]? := fun q hq => by simp [Array.getElem?_setIfInBounds, Ne.symm hq]
  have facts := Cell.storeRun_facts cd j.toNatClampNeg (cs.stretch i.toNatClampNeg n.toNatClampNeg)
  have hlen : (cs.stretch i.toNatClampNeg n.toNatClampNeg).length = n.toNatClampNeg := by simp [Cell.stretch]
  have gets := fun z => Cell.storeRun_get cd j.toNatClampNeg (cs.stretch i.toNatClampNeg n.toNatClampNeg) z (by rw [hlen]; omega)
  have e1 : copied cs cd i j n = cd.storeRun j.toNatClampNeg (cs.stretch i.toNatClampNeg n.toNatClampNeg) := rfl
  obtain ⟨t, z1, z2⟩ := K _ _ (gP_one hP hT hM oq (V1 := gcV V cf i.toNatClampNeg ct j.toNatClampNeg n.toNatClampNeg) (fun z hz => by funext w; exact if_neg (fun q => hz q.1)) ((gat_i h1).mpr ⟨copied cs cd i j n, by simp [Array.getElem?_setIfInBounds, hl], by rw [e1]; exact ⟨by rw [facts.2.1]; exact b2.1, by rw [facts.1]; exact b2.2⟩, by rw [e1, facts.2.1]; exact b3, by rw [e1, facts.2.2.1]; exact b4, by rw [e1, facts.2.2.1]; exact b5, fun z hz => by
      rw [e1, gets z, hlen]
      unfold gcV
      by_cases hh : j.toNatClampNeg ≤ z ∧ z < j.toNatClampNeg + n.toNatClampNeg
      · rw [if_pos hh, if_pos ⟨rfl, hh⟩]
        unfold Cell.stretch
        rw [List.getElem?_map, List.getElem?_range (by omega)]
        simp only [Option.map_some]
        rw [Array.getD_eq_getD_getElem?, a6 _ (by omega)]
        rfl
      · rw [if_neg hh, if_neg (fun q => hh q.2)]
        exact b6 z hz⟩)) ⟨by simp; exact hS.1, fun q g1 g2 => by
      rw [oq q (fun e => g2 (by rw [e]; exact gA_of hM))]
      exact hS.2.1 q g1 g2, fun q hq => by
      rcases List.mem_append.mp hq with h | h
      · exact hS.2.2 q h
      · obtain ⟨z, -, hz⟩ := List.mem_map.mp h
        rw [← hz]
        exact gA_of hM⟩ _ hheap Y'
  exact ⟨t, step t z1, z2⟩
end GH
end
section
/-! ===== calls ===== -/
def gNm (y : MethodName) (np : Nat) : Prop := y.cls ≠ "java/lang/invoke/MethodHandle" ∧ y.cls ≠ "java/lang/invoke/VarHandle" ∧ (parseMethodDescriptor y.desc).map (fun d => d.parameters.length) = some np
/-- what the tables say of a method of ours that is called on an object -/
def gYV (y : MethodName) (b : ByteArray) (n : Nat) (ret : Option FieldType) (np : Nat) : Prop := Cond.instanceMethod y ∈ gB ∧ Cond.selects y.cls y y ∈ gB ∧ Cond.initialized y.cls ∈ gB ∧ Cond.code y b n ret ∈ gB ∧ gNm y np
def gYS (y : MethodName) (b : ByteArray) (n : Nat) (ret : Option FieldType) (np : Nat) : Prop := Cond.static y ∈ gB ∧ Cond.initialized y.cls ∈ gB ∧ Cond.code y b n ret ∈ gB ∧ gNm y np
theorem gB_pay {b : ByteArray} {n : Nat} {ret : Option FieldType} {y : MethodName} {args : Array Value} {s : State} (hts : ∀ w ∈ gB, w.before args s = true) (hc : Cond.code y b n ret ∈ gB) : ∀ w ∈ Cond.code y b n ret :: gB, ∀ (a' : Array Value) (U : State), s.WarmedH U.vm → w.before a' U = true := by
  intro w hw a' U hW
  have hw' : w ∈ gB := by
    rcases List.mem_cons.mp hw with rfl | h
    · exact hc
    · exact h
  exact word_at hW (good_of_word (gB_good w hw')) (hts w hw')
section GCALL
variable {α : Type} {l : Launch} {R rm : Room} {nL : Nat} {G : gG} {X : gX} {k : Option α} {res : α} {V : gV} {pc q : Nat} {L : List (Nat × Value)} {st : List Value} {cc b : ByteArray} {own : String} {y : MethodName} {n np index cl : Nat} {ret : Option FieldType} {Qc : Array Value → State → Outcome → State → Prop} {As : List Value}
theorem gnp {sig : MethodDescriptor} (h : gNm y np) (hs : parseMethodDescriptor y.desc = some sig) : np = sig.parameters.length := by
  have h2 := h.2.2
  rw [hs] at h2
  exact (Option.some.inj h2).symm
theorem gB_call (C : gC cc nL own G X) (hy : Cond.initialized y.cls ∈ gB ∧ Cond.code y b n ret ∈ gB ∧ gNm y np) (hl : Cond.methodLink own index y ∈ gB) (hc0 : rm.cells = 0) (hs0 : rm.slots = 0) (hR : rm.frames + 1 ≤ R.frames ∧ 8 + (n + 11) + rm.locals ≤ R.locals) : CallB R (xs X) (xa X) own index y b n ret (Cond.code y b n ret :: gB) rm 0 0 np := by
  have hts := C.2.2.2.2.1
  exact ⟨hc0, hs0, hR.1, hR.2, gB_pay hts hy.2.1, List.mem_cons_self, hts _ hy.2.1, hts _ hy.1, ⟨hy.2.2.1, hy.2.2.2.1⟩, fun sig h => gnp hy.2.2 h, hts _ hl⟩
theorem gB_callN (C : gC cc nL own G X) {host : String} (hy : Cond.initialized y.cls ∈ gB ∧ Cond.code y b n ret ∈ gB ∧ gNm y np) (hl : Cond.methodLinkNest own index y host ∈ gN) (hc0 : rm.cells = 0) (hs0 : rm.slots = 0) (hR : rm.frames + 1 ≤ R.frames ∧ 8 + (n + 11) + rm.locals ≤ R.locals) : va_CN R (xs X) (xa X) own index y host b n ret (Cond.code y b n ret :: gB) rm 0 0 np := by
  have hts := C.2.2.2.2.1
  exact ⟨⟨hc0, hs0, hR.1, hR.2, gB_pay hts hy.2.1, List.mem_cons_self⟩, hts _ hy.2.1, hts _ hy.1, ⟨hy.2.2.1, hy.2.2.2.1⟩, fun sig h => gnp hy.2.2 h, va_Nw.use rfl (C.2.2.2.2.2.1.2.1 _ hl)⟩
/-- the world at a call is a start of the callee's -/
theorem gI_at (C : gC cc nL own G X) {H : Heap} {locs : List Loc} (hP : gP G V (xs X) H) (hS : va_S (gA G) (xs X).heap H locs) {U : State} (hU : U.heap = H) (hW : (xs X).WarmedH U.vm) : gI G V U :=
  ⟨by rw [hU]; exact gP_moved hW.alike hP, gT_warm hW C.2.2.2.2.2.1, by rw [hU]; exact gZ_moved hW.alike (gZ_kept C.2.2.2.2.2.2 hS)⟩
theorem gRunV (C : gC cc nL own G X) (hy : gYV y b n ret np) (hl : gML own index y) (hM : Met l y (.code y b n ret :: gB) rm (va_Pc (.ref (G.1 cl) :: As) (gI G V)) Qc 0 0 (gA G)) {ci : Nat} {fl : List (Option Nat)} (hs : G.2.2.1 cl = some (.inr (.inl (ci, fl)))) {r : vw_C} (hc : gCl[ci]? = some r) (hr : r.1 = y.cls) (hn : As.length = np) (hc0 : rm.cells = 0) (hs0 : rm.slots = 0) (hR : rm.frames + 1 ≤ R.frames ∧ 8 + (n + 11) + rm.locals ≤ R.locals) (hst : (st.map fun v => v.category).sum ≤ 8) (d : decode cc pc = .ok (.invokevirtual index, 3))
    {H : Heap} {locs : List Loc} {ls : Array Slot} (hP : gP G V (xs X) H) (hS : va_S (gA G) (xs X).heap H locs) (hL : lv_has ls nL L) {sk : List Value} (hsk : sk = As.reverse ++ .ref (G.1 cl) :: st) :
    va_Run X.1 l X.2.1 R (xs X) (xm X) (xa X) (xb X) (xM X) (xc X) H locs 0 0 0 0 (F0 (xm X) pc ls sk) st (Qc (Value.ref (G.1 cl) :: As).toArray) (gA G) := by
  have hts := C.2.2.2.2.1
  have hrecv : ∃ cellB : Cell, H[G.1 cl]? = some cellB ∧ cellB.vm.isStatics = false ∧ (xs X).vm.findClass y.cls = some cellB.cls := by
    obtain ⟨r', h1, cell, q1, q2, q3, q4⟩ := (gat_o hs).mp (hP cl)
    refine ⟨cell, q1, by rw [q3]; rfl, ?_⟩
    have h3 := (C.2.2.2.2.2.1.1.1 ci _ hc).2.1
    rw [q2, ← hr]
    exact h3
  have hp : PreV (xs X) H y.cls (G.1 cl) (va_Pc (.ref (G.1 cl) :: As) (gI G V)) As := ⟨gI_blind, hrecv, fun U hU hW => ⟨rfl, gI_at C hP hS hU hW⟩⟩
  have hS5 : CallFix X.1 (xm X) (xc X) cc nL (xs X) (xa X) gB own := ⟨C.1, C.2.1, C.2.2.1, C.2.2.2.1, hts⟩
  rcases hl with hl | ⟨h, hl⟩
  · exact va_runV hS5 hM ⟨gB_call C hy.2.2 hl hc0 hs0 hR, hts _ hy.1, hts _ hy.2.1⟩ hp rfl hn hL.1 hsk (lv_room hst) d ⟨Nat.zero_le _, Nat.zero_le _⟩
  · exact va_runVN hS5 hM ⟨gB_callN C hy.2.2 hl hc0 hs0 hR, hts _ hy.1, hts _ hy.2.1⟩ hp rfl hn hL.1 hsk (lv_room hst) d ⟨Nat.zero_le _, Nat.zero_le _⟩
theorem gRunS (C : gC cc nL own G X) (hy : gYS y b n ret np) (hl : gML own index y) (hM : Met l y (.code y b n ret :: gB) rm (va_Pc As (gI G V)) Qc 0 0 (gA G)) (hn : As.length = np) (hc0 : rm.cells = 0) (hs0 : rm.slots = 0) (hR : rm.frames + 1 ≤ R.frames ∧ 8 + (n + 11) + rm.locals ≤ R.locals) (hst : (st.map fun v => v.category).sum ≤ 8) (d : decode cc pc = .ok (.invokestatic index, 3))
    {H : Heap} {locs : List Loc} {ls : Array Slot} (hP : gP G V (xs X) H) (hS : va_S (gA G) (xs X).heap H locs) (hL : lv_has ls nL L) {sk : List Value} (hsk : sk = As.reverse ++ st) :
    va_Run X.1 l X.2.1 R (xs X) (xm X) (xa X) (xb X) (xM X) (xc X) H locs 0 0 0 0 (F0 (xm X) pc ls sk) st (Qc As.toArray) (gA G) := by
  have hts := C.2.2.2.2.1
  have hp : PreS (xs X) H (va_Pc As (gI G V)) As := ⟨gI_blind, fun U hU hW => ⟨rfl, gI_at C hP hS hU hW⟩⟩
  have hS5 : CallFix X.1 (xm X) (xc X) cc nL (xs X) (xa X) gB own := ⟨C.1, C.2.1, C.2.2.1, C.2.2.2.1, hts⟩
  rcases hl with hl | ⟨h, hl⟩
  · exact va_runS hS5 hM ⟨gB_call C hy.2 hl hc0 hs0 hR, hts _ hy.1⟩ hp rfl hn hL.1 hsk (lv_room hst) d ⟨Nat.zero_le _, Nat.zero_le _⟩
  · exact va_runSN hS5 hM ⟨gB_callN C hy.2 hl hc0 hs0 hR, hts _ hy.1, trivial⟩ hp rfl hn hL.1 hsk (lv_room hst) d ⟨Nat.zero_le _, Nat.zero_le _⟩
end GCALL
section GCALL2
variable {α : Type} {l : Launch} {R rm : Room} {nL : Nat} {G : gG} {X : gX} {res : α} {V : gV} {pc q : Nat} {L : List (Nat × Value)} {st sk : List Value} {cc b : ByteArray} {own : String} {y : MethodName} {n np index cl : Nat} {ty : FieldType} {As : List Value}
theorem s_Vi (C : gC cc nL own G X) {f : Option (Int32 × gV)} (hM : gMi l G y b n ty rm (.ref (G.1 cl) :: As) V f) (hy : gYV y b n (some ty) np) (hl : gML own index y) {ci : Nat} {fl : List (Option Nat)} (hs : G.2.2.1 cl = some (.inr (.inl (ci, fl)))) {r : vw_C} (hc : gCl[ci]? = some r) (hr : r.1 = y.cls) (hsk : sk = As.reverse ++ .ref (G.1 cl) :: st) (hn : As.length = np) (hc0 : rm.cells = 0) (hs0 : rm.slots = 0) (hR : rm.frames + 1 ≤ R.frames ∧ 8 + (n + 11) + rm.locals ≤ R.locals) (hst : (st.map fun v => v.category).sum ≤ 8) (d : decode cc pc = .ok (.invokevirtual index, 3)) (hq : pc + 3 = q)
    {k : Int32 → gV → Option α} (kk : ∀ r V1, gSm l R nL G X (k r V1) res V1 q L (.int r :: st)) : gSm l R nL G X (gbi f k) res V pc L sk := by
  subst hq
  intro hk H locs ls hP hS hL
  cases hf : f with
  | none => rw [hf] at hk; cases hk
  | some p =>
    rw [hf] at hk
    obtain ⟨r0, V0⟩ := p
    refine va_calli (gRunV C hy hl (hM r0 V0 hf) hs hc hr hn hc0 hs0 hR hst d hP hS hL hsk) hS (fun q _ h => h) (fun q h => h) (fun r1 u t H1 locs1 ht hvm hw hB hz1 hk1 hS1 => ?_)
    rw [show r1 = r0 from hw]
    exact kk r0 V0 hk H1 locs1 ls (by rw [← ht]; exact gP_moved hvm.symm hB) hS1 hL
theorem s_Vv (C : gC cc nL own G X) {f : Option gV} (hM : gMv l G y b n rm (.ref (G.1 cl) :: As) V f) (hy : gYV y b n none np) (hl : gML own index y) {ci : Nat} {fl : List (Option Nat)} (hs : G.2.2.1 cl = some (.inr (.inl (ci, fl)))) {r : vw_C} (hc : gCl[ci]? = some r) (hr : r.1 = y.cls) (hsk : sk = As.reverse ++ .ref (G.1 cl) :: st) (hn : As.length = np) (hc0 : rm.cells = 0) (hs0 : rm.slots = 0) (hR : rm.frames + 1 ≤ R.frames ∧ 8 + (n + 11) + rm.locals ≤ R.locals) (hst : (st.map fun v => v.category).sum ≤ 8) (d : decode cc pc = .ok (.invokevirtual index, 3)) (hq : pc + 3 = q)
    {k : gV → Option α} (kk : ∀ V1, gSm l R nL G X (k V1) res V1 q L st) : gSm l R nL G X (gbv f k) res V pc L sk := by
  subst hq
  intro hk H locs ls hP hS hL
  cases hf : f with
  | none => rw [hf] at hk; cases hk
  | some V0 =>
    rw [hf] at hk
    refine va_callv (gRunV C hy hl (hM V0 hf) hs hc hr hn hc0 hs0 hR hst d hP hS hL hsk) hS (fun q _ h => h) (fun q h => h) (fun u t H1 locs1 ht hvm hw hB hz1 hk1 hS1 => ?_)
    exact kk V0 hk H1 locs1 ls (by rw [← ht]; exact gP_moved hvm.symm hB) hS1 hL
theorem s_Vr (C : gC cc nL own G X) {f : Option (Nat × gV)} (hM : gMr l G y b n ty rm (.ref (G.1 cl) :: As) V f) (hy : gYV y b n (some ty) np) (hl : gML own index y) {ci : Nat} {fl : List (Option Nat)} (hs : G.2.2.1 cl = some (.inr (.inl (ci, fl)))) {r : vw_C} (hc : gCl[ci]? = some r) (hr : r.1 = y.cls) (P : Nat → Prop) (hf : ∀ c V', f = some (c, V') → P c) (hsk : sk = As.reverse ++ .ref (G.1 cl) :: st) (hn : As.length = np) (hc0 : rm.cells = 0) (hs0 : rm.slots = 0) (hR : rm.frames + 1 ≤ R.frames ∧ 8 + (n + 11) + rm.locals ≤ R.locals) (hst : (st.map fun v => v.category).sum ≤ 8) (d : decode cc pc = .ok (.invokevirtual index, 3)) (hq : pc + 3 = q)
    {k : Nat → gV → Option α} (kk : ∀ c V1, P c → gSm l R nL G X (k c V1) res V1 q L (.ref (G.1 c) :: st)) : gSm l R nL G X (gbr f k) res V pc L sk := by
  subst hq
  intro hk H locs ls hP hS hL
  cases hf' : f with
  | none => rw [hf'] at hk; cases hk
  | some p =>
    rw [hf'] at hk
    obtain ⟨c0, V0⟩ := p
    refine va_callr (gRunV C hy hl (hM c0 V0 hf') hs hc hr hn hc0 hs0 hR hst d hP hS hL hsk) hS (fun q _ h => h) (fun q h => h) (fun u ra t H1 locs1 ht hvm hw hB hz1 hk1 hS1 => ?_)
    rw [hB.1]
    exact kk c0 V0 (hf c0 V0 hf') hk H1 locs1 ls (by rw [← ht]; exact gP_moved hvm.symm hB.2) hS1 hL
theorem s_Si (C : gC cc nL own G X) {f : Option (Int32 × gV)} (hM : gMi l G y b n ty rm As V f) (hy : gYS y b n (some ty) np) (hl : gML own index y) (hsk : sk = As.reverse ++ st) (hn : As.length = np) (hc0 : rm.cells = 0) (hs0 : rm.slots = 0) (hR : rm.frames + 1 ≤ R.frames ∧ 8 + (n + 11) + rm.locals ≤ R.locals) (hst : (st.map fun v => v.category).sum ≤ 8) (d : decode cc pc = .ok (.invokestatic index, 3)) (hq : pc + 3 = q)
    {k : Int32 → gV → Option α} (kk : ∀ r V1, gSm l R nL G X (k r V1) res V1 q L (.int r :: st)) : gSm l R nL G X (gbi f k) res V pc L sk := by
  subst hq
  intro hk H locs ls hP hS hL
  cases hf : f with
  | none => rw [hf] at hk; cases hk
  | some p =>
    rw [hf] at hk
    obtain ⟨r0, V0⟩ := p
    refine va_calli (gRunS C hy hl (hM r0 V0 hf) hn hc0 hs0 hR hst d hP hS hL hsk) hS (fun q _ h => h) (fun q h => h) (fun r1 u t H1 locs1 ht hvm hw hB hz1 hk1 hS1 => ?_)
    rw [show r1 = r0 from hw]
    exact kk r0 V0 hk H1 locs1 ls (by rw [← ht]; exact gP_moved hvm.symm hB) hS1 hL
theorem s_Sv (C : gC cc nL own G X) {f : Option gV} (hM : gMv l G y b n rm As V f) (hy : gYS y b n none np) (hl : gML own index y) (hsk : sk = As.reverse ++ st) (hn : As.length = np) (hc0 : rm.cells = 0) (hs0 : rm.slots = 0) (hR : rm.frames + 1 ≤ R.frames ∧ 8 + (n + 11) + rm.locals ≤ R.locals) (hst : (st.map fun v => v.category).sum ≤ 8) (d : decode cc pc = .ok (.invokestatic index, 3)) (hq : pc + 3 = q)
    {k : gV → Option α} (kk : ∀ V1, gSm l R nL G X (k V1) res V1 q L st) : gSm l R nL G X (gbv f k) res V pc L sk := by
  subst hq
  intro hk H locs ls hP hS hL
  cases hf : f with
  | none => rw [hf] at hk; cases hk
  | some V0 =>
    rw [hf] at hk
    refine va_callv (gRunS C hy hl (hM V0 hf) hn hc0 hs0 hR hst d hP hS hL hsk) hS (fun q _ h => h) (fun q h => h) (fun u t H1 locs1 ht hvm hw hB hz1 hk1 hS1 => ?_)
    exact kk V0 hk H1 locs1 ls (by rw [← ht]; exact gP_moved hvm.symm hB) hS1 hL
end GCALL2
/-! ===== ends ===== -/
def gEi (G : gG) (X : gX) (ty : FieldType) (r : Int32) (V : gV) : Prop := (xM X).sig.returnType = some ty ∧ (xM X).locks = false ∧ xQ X = MQ (xb X) (gQi G r V) (xa X) (xs X) 0 0 (gA G)
def gEv (G : gG) (X : gX) (V : gV) : Prop := (xM X).sig.returnType = none ∧ (xM X).locks = false ∧ xQ X = MQ (xb X) (gQv G V) (xa X) (xs X) 0 0 (gA G)
def gEr (G : gG) (X : gX) (ty : FieldType) (c : Nat) (V : gV) : Prop := (xM X).sig.returnType = some ty ∧ (xM X).locks = false ∧ xQ X = MQ (xb X) (gQr G c V) (xa X) (xs X) 0 0 (gA G)
section GE
variable {l : Launch} {R : Room} {nL : Nat} {G : gG} {X : gX} {V V' : gV} {pc q : Nat} {L : List (Nat × Value)} {cc : ByteArray} {own : String}
theorem s_zret (C : gC cc nL own G X) {ty : FieldType} {r v : Int32} (E : gEi G X ty r V') (hn : narrow ty (.int v) = .int v) (d : decode cc pc = .ok (.ireturn, 1)) : gSm l R nL G X (some (v, V)) (r, V') V pc L [.int v] := by
  intro hk H locs ls hP hS hL
  cases hk
  obtain ⟨h1, h2, h3⟩ := E
  rw [h3]
  exact W.zret C.1 C.2.1 h1 hn (fun t ht hW => ⟨⟨_, (), rfl, rfl, by show gP G _ t t.heap; rw [ht]; exact gP_moved hW.alike hP⟩, hS.F ht⟩) hS.2.2 d h2
theorem s_iret (C : gC cc nL own G X) {r v : Int32} (E : gEi G X .int r V') (d : decode cc pc = .ok (.ireturn, 1)) : gSm l R nL G X (some (v, V)) (r, V') V pc L [.int v] := s_zret C E rfl d
theorem s_zret2 (C : gC cc nL own G X) {r v : Int32} (E : gEi G X .boolean r V') (d : decode cc pc = .ok (.ireturn, 1)) : gSm l R nL G X (gzb v (some (v, V))) (r, V') V pc L [.int v] := by
  intro hk
  unfold gzb at hk
  by_cases h : v &&& 1 = v
  · rw [if_pos h] at hk
    exact s_zret C E (by show Value.int (v &&& 1) = _; rw [h]) d hk
  · rw [if_neg h] at hk; cases hk
theorem s_vret (C : gC cc nL own G X) (E : gEv G X V') (d : decode cc pc = .ok (.return_, 1)) : gSm l R nL G X (some V) V' V pc L [] := by
  intro hk H locs ls hP hS hL
  cases hk
  obtain ⟨h1, h2, h3⟩ := E
  rw [h3]
  exact W.vret C.1 C.2.1 h1 (fun t ht hW => ⟨⟨(), rfl, trivial, by show gP G _ t t.heap; rw [ht]; exact gP_moved hW.alike hP⟩, hS.F ht⟩) hS.2.2 d h2
theorem s_aret (C : gC cc nL own G X) {ty : FieldType} {c c' : Nat} (hty : (∃ n, ty = .object n) ∨ ∃ t, ty = .array t) (E : gEr G X ty c' V') (d : decode cc pc = .ok (.areturn, 1)) : gSm l R nL G X (some (c, V)) (c', V') V pc L [.ref (G.1 c)] := by
  intro hk H locs ls hP hS hL
  cases hk
  obtain ⟨h1, h2, h3⟩ := E
  rw [h3]
  exact W.aret C.1 C.2.1 h1 hty (Or.inr ⟨_, rfl⟩) (fun t ht hW => ⟨⟨(), G.1 _, rfl, trivial, rfl, by show gP G _ t t.heap; rw [ht]; exact gP_moved hW.alike hP⟩, hS.F ht⟩) hS.2.2 d h2
end GE
/-! ===== beginnings ===== -/
section GBEG
variable {l : Launch} {G : gG} {V : gV} {y : MethodName} {b : ByteArray} {n : Nat} {ty : FieldType} {rm : Room} {av : List Value}
theorem gM_i {f : Option (Int32 × gV)} (hp : plainName y.cls = true) (hc0 : rm.cells = 0) (hs0 : rm.slots = 0) (ha : (lg_sl av).length ≤ n) (body : ∀ (X : gX) (r : Int32) (V' : gV), gC b n y.cls G X → gEi G X ty r V' → gSm l rm n G X f (r, V') V 0 (lv_args 0 av) []) : gMi l G y b n ty rm av V f := by
  intro r V' hf
  refine Met.ofW (cc := b) (maxL := n) (ret := some ty) hp rfl ?_
  intro p e s m args below meth c s₁ B hml hv
  obtain ⟨rfl, hP, hT, hZ⟩ := hv
  have hts := atoms_spec (ws := .code y b n (some ty) :: gB) B.pre
  have hown : s.vm.findClass y.cls = some m.cls := findClass_of_methodNamed B.named
  rw [lg_entry_eq]
  have hl := lv_entry av ha
  exact body (p, e, s, m, av.toArray, below, meth, c, _) r V' ⟨B.exec, B.bytes, hml, hown, fun w hw => hts w (List.mem_cons_of_mem _ hw), hT, hZ⟩ ⟨B.returns, B.notSynchronized, rfl⟩ hf s.heap [] _ hP va_S.rf hl
theorem gM_v {f : Option gV} (hp : plainName y.cls = true) (hc0 : rm.cells = 0) (hs0 : rm.slots = 0) (ha : (lg_sl av).length ≤ n) (body : ∀ (X : gX) (V' : gV), gC b n y.cls G X → gEv G X V' → gSm l rm n G X f V' V 0 (lv_args 0 av) []) : gMv l G y b n rm av V f := by
  intro V' hf
  refine Met.ofW (cc := b) (maxL := n) (ret := none) hp rfl ?_
  intro p e s m args below meth c s₁ B hml hv
  obtain ⟨rfl, hP, hT, hZ⟩ := hv
  have hts := atoms_spec (ws := .code y b n none :: gB) B.pre
  have hown : s.vm.findClass y.cls = some m.cls := findClass_of_methodNamed B.named
  rw [lg_entry_eq]
  have hl := lv_entry av ha
  exact body (p, e, s, m, av.toArray, below, meth, c, _) V' ⟨B.exec, B.bytes, hml, hown, fun w hw => hts w (List.mem_cons_of_mem _ hw), hT, hZ⟩ ⟨B.returns, B.notSynchronized, rfl⟩ hf s.heap [] _ hP va_S.rf hl
theorem gM_r {f : Option (Nat × gV)} (hp : plainName y.cls = true) (hc0 : rm.cells = 0) (hs0 : rm.slots = 0) (ha : (lg_sl av).length ≤ n) (body : ∀ (X : gX) (c' : Nat) (V' : gV), gC b n y.cls G X → gEr G X ty c' V' → gSm l rm n G X f (c', V') V 0 (lv_args 0 av) []) : gMr l G y b n ty rm av V f := by
  intro c' V' hf
  refine Met.ofW (cc := b) (maxL := n) (ret := some ty) hp rfl ?_
  intro p e s m args below meth c s₁ B hml hv
  obtain ⟨rfl, hP, hT, hZ⟩ := hv
  have hts := atoms_spec (ws := .code y b n (some ty) :: gB) B.pre
  have hown : s.vm.findClass y.cls = some m.cls := findClass_of_methodNamed B.named
  rw [lg_entry_eq]
  have hl := lv_entry av ha
  exact body (p, e, s, m, av.toArray, below, meth, c, _) c' V' ⟨B.exec, B.bytes, hml, hown, fun w hw => hts w (List.mem_cons_of_mem _ hw), hT, hZ⟩ ⟨B.returns, B.notSynchronized, rfl⟩ hf s.heap [] _ hP va_S.rf hl
end GBEG
end
