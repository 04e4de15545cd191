section
-- ===== PART A: goes FIRST, ahead of the names: the tables' words, and 'selects' of the private methods out of them =====
/-- a private method of a class that the tables say can be made, by its rows of tables_1 -/
def lw_okq (q : MethodName × Nat) : Prop := (q.1.cls ≠ "java/lang/invoke/MethodHandle" ∧ q.1.cls ≠ "java/lang/invoke/VarHandle") ∧ Cond.instantiable q.1.cls q.2 ∈ tables_1 ∧ Cond.privateMethod q.1 ∈ tables_1 ∧ Cond.instanceMethod q.1 ∈ tables_1
theorem lw_p0 : lw_okq (⟨"SmallFloats", "refused", "(I)I"⟩, 11) := ⟨⟨by decide +kernel, by decide +kernel⟩, List.mem_of_getElem? (i := 11) (by decide +kernel), List.mem_of_getElem? (i := 119) (by decide +kernel), List.mem_of_getElem? (i := 120) (by decide +kernel)⟩
theorem lw_p1 : lw_okq (⟨"SmallFloats", "formatAt", "(I)LSmallFloats$Format;"⟩, 11) := ⟨⟨by decide +kernel, by decide +kernel⟩, List.mem_of_getElem? (i := 11) (by decide +kernel), List.mem_of_getElem? (i := 155) (by decide +kernel), List.mem_of_getElem? (i := 156) (by decide +kernel)⟩
theorem lw_p2 : lw_okq (⟨"SmallFloats", "answered", "(I)I"⟩, 11) := ⟨⟨by decide +kernel, by decide +kernel⟩, List.mem_of_getElem? (i := 11) (by decide +kernel), List.mem_of_getElem? (i := 163) (by decide +kernel), List.mem_of_getElem? (i := 164) (by decide +kernel)⟩
theorem lw_p3 : lw_okq (⟨"SmallFloats$Arithmetic", "rounded", "(LSmallFloats$Format;ZJJI)I"⟩, 1) := ⟨⟨by decide +kernel, by decide +kernel⟩, List.mem_of_getElem? (i := 23) (by decide +kernel), List.mem_of_getElem? (i := 263) (by decide +kernel), List.mem_of_getElem? (i := 264) (by decide +kernel)⟩
theorem lw_p4 : lw_okq (⟨"SmallFloats", "settled", "(I)I"⟩, 11) := ⟨⟨by decide +kernel, by decide +kernel⟩, List.mem_of_getElem? (i := 11) (by decide +kernel), List.mem_of_getElem? (i := 285) (by decide +kernel), List.mem_of_getElem? (i := 286) (by decide +kernel)⟩
theorem lw_p5 : lw_okq (⟨"SmallFloats$Arithmetic", "invalid", "(LSmallFloats$Format;)I"⟩, 1) := ⟨⟨by decide +kernel, by decide +kernel⟩, List.mem_of_getElem? (i := 23) (by decide +kernel), List.mem_of_getElem? (i := 310) (by decide +kernel), List.mem_of_getElem? (i := 311) (by decide +kernel)⟩
theorem lw_p6 : lw_okq (⟨"SmallFloats$Arithmetic", "added", "(LSmallFloats$Format;IIZI)I"⟩, 1) := ⟨⟨by decide +kernel, by decide +kernel⟩, List.mem_of_getElem? (i := 23) (by decide +kernel), List.mem_of_getElem? (i := 327) (by decide +kernel), List.mem_of_getElem? (i := 328) (by decide +kernel)⟩
theorem lw_p7 : lw_okq (⟨"SmallFloats$Arithmetic", "endlessOfSum", "(LSmallFloats$Format;ZJZJ)I"⟩, 1) := ⟨⟨by decide +kernel, by decide +kernel⟩, List.mem_of_getElem? (i := 23) (by decide +kernel), List.mem_of_getElem? (i := 331) (by decide +kernel), List.mem_of_getElem? (i := 332) (by decide +kernel)⟩
theorem lw_p8 : lw_okq (⟨"SmallFloats$Arithmetic", "multiplied", "(LSmallFloats$Format;III)I"⟩, 1) := ⟨⟨by decide +kernel, by decide +kernel⟩, List.mem_of_getElem? (i := 23) (by decide +kernel), List.mem_of_getElem? (i := 338) (by decide +kernel), List.mem_of_getElem? (i := 339) (by decide +kernel)⟩
theorem lw_p9 : lw_okq (⟨"SmallFloats$Arithmetic", "divided", "(LSmallFloats$Format;III)I"⟩, 1) := ⟨⟨by decide +kernel, by decide +kernel⟩, List.mem_of_getElem? (i := 23) (by decide +kernel), List.mem_of_getElem? (i := 349) (by decide +kernel), List.mem_of_getElem? (i := 350) (by decide +kernel)⟩
theorem lw_p10 : lw_okq (⟨"SmallFloats$Arithmetic", "rootOf", "(LSmallFloats$Format;II)I"⟩, 1) := ⟨⟨by decide +kernel, by decide +kernel⟩, List.mem_of_getElem? (i := 23) (by decide +kernel), List.mem_of_getElem? (i := 353) (by decide +kernel), List.mem_of_getElem? (i := 354) (by decide +kernel)⟩
theorem lw_p11 : lw_okq (⟨"SmallFloats$Format", "magnitudesUpTo", "(J)I"⟩, 7) := ⟨⟨by decide +kernel, by decide +kernel⟩, List.mem_of_getElem? (i := 122) (by decide +kernel), List.mem_of_getElem? (i := 417) (by decide +kernel), List.mem_of_getElem? (i := 418) (by decide +kernel)⟩
theorem lw_p12 : lw_okq (⟨"SmallFloats", "rowAt", "(I)LSmallFloats$Row;"⟩, 11) := ⟨⟨by decide +kernel, by decide +kernel⟩, List.mem_of_getElem? (i := 11) (by decide +kernel), List.mem_of_getElem? (i := 437) (by decide +kernel), List.mem_of_getElem? (i := 438) (by decide +kernel)⟩
theorem lw_p13 : lw_okq (⟨"SmallFloatsModel", "refused", "(I)I"⟩, 26) := ⟨⟨by decide +kernel, by decide +kernel⟩, List.mem_of_getElem? (i := 541) (by decide +kernel), List.mem_of_getElem? (i := 638) (by decide +kernel), List.mem_of_getElem? (i := 639) (by decide +kernel)⟩
theorem lw_p14 : lw_okq (⟨"SmallFloatsModel", "fine", "(I)I"⟩, 26) := ⟨⟨by decide +kernel, by decide +kernel⟩, List.mem_of_getElem? (i := 541) (by decide +kernel), List.mem_of_getElem? (i := 642) (by decide +kernel), List.mem_of_getElem? (i := 643) (by decide +kernel)⟩
theorem lw_p15 : lw_okq (⟨"SmallFloatsModel", "isFormat", "(I)Z"⟩, 26) := ⟨⟨by decide +kernel, by decide +kernel⟩, List.mem_of_getElem? (i := 541) (by decide +kernel), List.mem_of_getElem? (i := 650) (by decide +kernel), List.mem_of_getElem? (i := 651) (by decide +kernel)⟩
def lw_privs_1 : List (MethodName × Nat) := [(⟨"SmallFloats", "refused", "(I)I"⟩, 11), (⟨"SmallFloats", "formatAt", "(I)LSmallFloats$Format;"⟩, 11), (⟨"SmallFloats", "answered", "(I)I"⟩, 11), (⟨"SmallFloats$Arithmetic", "rounded", "(LSmallFloats$Format;ZJJI)I"⟩, 1), (⟨"SmallFloats", "settled", "(I)I"⟩, 11), (⟨"SmallFloats$Arithmetic", "invalid", "(LSmallFloats$Format;)I"⟩, 1), (⟨"SmallFloats$Arithmetic", "added", "(LSmallFloats$Format;IIZI)I"⟩, 1), (⟨"SmallFloats$Arithmetic", "endlessOfSum", "(LSmallFloats$Format;ZJZJ)I"⟩, 1), (⟨"SmallFloats$Arithmetic", "multiplied", "(LSmallFloats$Format;III)I"⟩, 1), (⟨"SmallFloats$Arithmetic", "divided", "(LSmallFloats$Format;III)I"⟩, 1), (⟨"SmallFloats$Arithmetic", "rootOf", "(LSmallFloats$Format;II)I"⟩, 1), (⟨"SmallFloats$Format", "magnitudesUpTo", "(J)I"⟩, 7), (⟨"SmallFloats", "rowAt", "(I)LSmallFloats$Row;"⟩, 11), (⟨"SmallFloatsModel", "refused", "(I)I"⟩, 26), (⟨"SmallFloatsModel", "fine", "(I)I"⟩, 26), (⟨"SmallFloatsModel", "isFormat", "(I)Z"⟩, 26)]
theorem lw_r1 : ∀ q ∈ lw_privs_1, lw_okq q := List.forall_mem_cons.mpr ⟨lw_p0, List.forall_mem_cons.mpr ⟨lw_p1, List.forall_mem_cons.mpr ⟨lw_p2, List.forall_mem_cons.mpr ⟨lw_p3, List.forall_mem_cons.mpr ⟨lw_p4, List.forall_mem_cons.mpr ⟨lw_p5, List.forall_mem_cons.mpr ⟨lw_p6, List.forall_mem_cons.mpr ⟨lw_p7, List.forall_mem_cons.mpr ⟨lw_p8, List.forall_mem_cons.mpr ⟨lw_p9, List.forall_mem_cons.mpr ⟨lw_p10, List.forall_mem_cons.mpr ⟨lw_p11, List.forall_mem_cons.mpr ⟨lw_p12, List.forall_mem_cons.mpr ⟨lw_p13, List.forall_mem_cons.mpr ⟨lw_p14, List.forall_mem_cons.mpr ⟨lw_p15, fun _ h => absurd h List.not_mem_nil⟩⟩⟩⟩⟩⟩⟩⟩⟩⟩⟩⟩⟩⟩⟩⟩
theorem lw_p16 : lw_okq (⟨"SmallFloatsModel", "bits", "(I)I"⟩, 26) := ⟨⟨by decide +kernel, by decide +kernel⟩, List.mem_of_getElem? (i := 541) (by decide +kernel), List.mem_of_getElem? (i := 655) (by decide +kernel), List.mem_of_getElem? (i := 656) (by decide +kernel)⟩
theorem lw_p17 : lw_okq (⟨"SmallFloatsModel", "great", "(I)I"⟩, 26) := ⟨⟨by decide +kernel, by decide +kernel⟩, List.mem_of_getElem? (i := 541) (by decide +kernel), List.mem_of_getElem? (i := 659) (by decide +kernel), List.mem_of_getElem? (i := 660) (by decide +kernel)⟩
theorem lw_p18 : lw_okq (⟨"SmallFloatsModel", "allOnes", "(I)I"⟩, 26) := ⟨⟨by decide +kernel, by decide +kernel⟩, List.mem_of_getElem? (i := 541) (by decide +kernel), List.mem_of_getElem? (i := 663) (by decide +kernel), List.mem_of_getElem? (i := 664) (by decide +kernel)⟩
theorem lw_p19 : lw_okq (⟨"SmallFloatsModel", "signBit", "(I)I"⟩, 26) := ⟨⟨by decide +kernel, by decide +kernel⟩, List.mem_of_getElem? (i := 541) (by decide +kernel), List.mem_of_getElem? (i := 667) (by decide +kernel), List.mem_of_getElem? (i := 668) (by decide +kernel)⟩
theorem lw_p20 : lw_okq (⟨"SmallFloatsModel", "last", "(I)I"⟩, 26) := ⟨⟨by decide +kernel, by decide +kernel⟩, List.mem_of_getElem? (i := 541) (by decide +kernel), List.mem_of_getElem? (i := 671) (by decide +kernel), List.mem_of_getElem? (i := 672) (by decide +kernel)⟩
theorem lw_p21 : lw_okq (⟨"SmallFloatsModel", "noneOf", "(I)I"⟩, 26) := ⟨⟨by decide +kernel, by decide +kernel⟩, List.mem_of_getElem? (i := 541) (by decide +kernel), List.mem_of_getElem? (i := 675) (by decide +kernel), List.mem_of_getElem? (i := 676) (by decide +kernel)⟩
theorem lw_p22 : lw_okq (⟨"SmallFloatsModel", "endless", "(I)I"⟩, 26) := ⟨⟨by decide +kernel, by decide +kernel⟩, List.mem_of_getElem? (i := 541) (by decide +kernel), List.mem_of_getElem? (i := 679) (by decide +kernel), List.mem_of_getElem? (i := 680) (by decide +kernel)⟩
theorem lw_p23 : lw_okq (⟨"SmallFloatsModel", "isNumber", "(II)Z"⟩, 26) := ⟨⟨by decide +kernel, by decide +kernel⟩, List.mem_of_getElem? (i := 541) (by decide +kernel), List.mem_of_getElem? (i := 683) (by decide +kernel), List.mem_of_getElem? (i := 684) (by decide +kernel)⟩
theorem lw_p24 : lw_okq (⟨"SmallFloatsModel", "kindOf", "(II)I"⟩, 26) := ⟨⟨by decide +kernel, by decide +kernel⟩, List.mem_of_getElem? (i := 541) (by decide +kernel), List.mem_of_getElem? (i := 687) (by decide +kernel), List.mem_of_getElem? (i := 688) (by decide +kernel)⟩
theorem lw_p25 : lw_okq (⟨"SmallFloatsModel", "plain", "(II)I"⟩, 26) := ⟨⟨by decide +kernel, by decide +kernel⟩, List.mem_of_getElem? (i := 541) (by decide +kernel), List.mem_of_getElem? (i := 691) (by decide +kernel), List.mem_of_getElem? (i := 692) (by decide +kernel)⟩
theorem lw_p26 : lw_okq (⟨"SmallFloatsModel", "scale", "(I)I"⟩, 26) := ⟨⟨by decide +kernel, by decide +kernel⟩, List.mem_of_getElem? (i := 541) (by decide +kernel), List.mem_of_getElem? (i := 695) (by decide +kernel), List.mem_of_getElem? (i := 696) (by decide +kernel)⟩
theorem lw_p27 : lw_okq (⟨"SmallFloatsModel", "isCode", "(II)Z"⟩, 26) := ⟨⟨by decide +kernel, by decide +kernel⟩, List.mem_of_getElem? (i := 541) (by decide +kernel), List.mem_of_getElem? (i := 703) (by decide +kernel), List.mem_of_getElem? (i := 704) (by decide +kernel)⟩
theorem lw_p28 : lw_okq (⟨"SmallFloatsModel", "isMinus", "(II)Z"⟩, 26) := ⟨⟨by decide +kernel, by decide +kernel⟩, List.mem_of_getElem? (i := 541) (by decide +kernel), List.mem_of_getElem? (i := 707) (by decide +kernel), List.mem_of_getElem? (i := 708) (by decide +kernel)⟩
theorem lw_p29 : lw_okq (⟨"SmallFloatsModel", "unitsOf", "(II)J"⟩, 26) := ⟨⟨by decide +kernel, by decide +kernel⟩, List.mem_of_getElem? (i := 541) (by decide +kernel), List.mem_of_getElem? (i := 716) (by decide +kernel), List.mem_of_getElem? (i := 717) (by decide +kernel)⟩
theorem lw_p30 : lw_okq (⟨"SmallFloatsModel", "size", "(II)J"⟩, 26) := ⟨⟨by decide +kernel, by decide +kernel⟩, List.mem_of_getElem? (i := 541) (by decide +kernel), List.mem_of_getElem? (i := 720) (by decide +kernel), List.mem_of_getElem? (i := 721) (by decide +kernel)⟩
theorem lw_p31 : lw_okq (⟨"SmallFloatsModel", "begins", "()V"⟩, 26) := ⟨⟨by decide +kernel, by decide +kernel⟩, List.mem_of_getElem? (i := 541) (by decide +kernel), List.mem_of_getElem? (i := 731) (by decide +kernel), List.mem_of_getElem? (i := 732) (by decide +kernel)⟩
def lw_privs_2 : List (MethodName × Nat) := [(⟨"SmallFloatsModel", "bits", "(I)I"⟩, 26), (⟨"SmallFloatsModel", "great", "(I)I"⟩, 26), (⟨"SmallFloatsModel", "allOnes", "(I)I"⟩, 26), (⟨"SmallFloatsModel", "signBit", "(I)I"⟩, 26), (⟨"SmallFloatsModel", "last", "(I)I"⟩, 26), (⟨"SmallFloatsModel", "noneOf", "(I)I"⟩, 26), (⟨"SmallFloatsModel", "endless", "(I)I"⟩, 26), (⟨"SmallFloatsModel", "isNumber", "(II)Z"⟩, 26), (⟨"SmallFloatsModel", "kindOf", "(II)I"⟩, 26), (⟨"SmallFloatsModel", "plain", "(II)I"⟩, 26), (⟨"SmallFloatsModel", "scale", "(I)I"⟩, 26), (⟨"SmallFloatsModel", "isCode", "(II)Z"⟩, 26), (⟨"SmallFloatsModel", "isMinus", "(II)Z"⟩, 26), (⟨"SmallFloatsModel", "unitsOf", "(II)J"⟩, 26), (⟨"SmallFloatsModel", "size", "(II)J"⟩, 26), (⟨"SmallFloatsModel", "begins", "()V"⟩, 26)]
theorem lw_r2 : ∀ q ∈ lw_privs_2, lw_okq q := List.forall_mem_cons.mpr ⟨lw_p16, List.forall_mem_cons.mpr ⟨lw_p17, List.forall_mem_cons.mpr ⟨lw_p18, List.forall_mem_cons.mpr ⟨lw_p19, List.forall_mem_cons.mpr ⟨lw_p20, List.forall_mem_cons.mpr ⟨lw_p21, List.forall_mem_cons.mpr ⟨lw_p22, List.forall_mem_cons.mpr ⟨lw_p23, List.forall_mem_cons.mpr ⟨lw_p24, List.forall_mem_cons.mpr ⟨lw_p25, List.forall_mem_cons.mpr ⟨lw_p26, List.forall_mem_cons.mpr ⟨lw_p27, List.forall_mem_cons.mpr ⟨lw_p28, List.forall_mem_cons.mpr ⟨lw_p29, List.forall_mem_cons.mpr ⟨lw_p30, List.forall_mem_cons.mpr ⟨lw_p31, fun _ h => absurd h List.not_mem_nil⟩⟩⟩⟩⟩⟩⟩⟩⟩⟩⟩⟩⟩⟩⟩⟩
theorem lw_p32 : lw_okq (⟨"SmallFloatsModel", "roundedFraction", "(IJJIZ)I"⟩, 26) := ⟨⟨by decide +kernel, by decide +kernel⟩, List.mem_of_getElem? (i := 541) (by decide +kernel), List.mem_of_getElem? (i := 735) (by decide +kernel), List.mem_of_getElem? (i := 736) (by decide +kernel)⟩
theorem lw_p33 : lw_okq (⟨"SmallFloatsModel", "signed", "(IIZ)I"⟩, 26) := ⟨⟨by decide +kernel, by decide +kernel⟩, List.mem_of_getElem? (i := 541) (by decide +kernel), List.mem_of_getElem? (i := 739) (by decide +kernel), List.mem_of_getElem? (i := 740) (by decide +kernel)⟩
theorem lw_p34 : lw_okq (⟨"SmallFloatsModel", "rounded", "(IZI)I"⟩, 26) := ⟨⟨by decide +kernel, by decide +kernel⟩, List.mem_of_getElem? (i := 541) (by decide +kernel), List.mem_of_getElem? (i := 743) (by decide +kernel), List.mem_of_getElem? (i := 744) (by decide +kernel)⟩
theorem lw_p35 : lw_okq (⟨"SmallFloatsModel", "twiceBeside", "(J)I"⟩, 26) := ⟨⟨by decide +kernel, by decide +kernel⟩, List.mem_of_getElem? (i := 541) (by decide +kernel), List.mem_of_getElem? (i := 747) (by decide +kernel), List.mem_of_getElem? (i := 748) (by decide +kernel)⟩
theorem lw_p36 : lw_okq (⟨"SmallFloatsModel", "roundedAbove", "(IZI)I"⟩, 26) := ⟨⟨by decide +kernel, by decide +kernel⟩, List.mem_of_getElem? (i := 541) (by decide +kernel), List.mem_of_getElem? (i := 751) (by decide +kernel), List.mem_of_getElem? (i := 752) (by decide +kernel)⟩
theorem lw_p37 : lw_okq (⟨"SmallFloatsModel", "beyond", "(IZ)I"⟩, 26) := ⟨⟨by decide +kernel, by decide +kernel⟩, List.mem_of_getElem? (i := 541) (by decide +kernel), List.mem_of_getElem? (i := 756) (by decide +kernel), List.mem_of_getElem? (i := 757) (by decide +kernel)⟩
theorem lw_p38 : lw_okq (⟨"SmallFloatsModel", "ends", "(I)I"⟩, 26) := ⟨⟨by decide +kernel, by decide +kernel⟩, List.mem_of_getElem? (i := 541) (by decide +kernel), List.mem_of_getElem? (i := 760) (by decide +kernel), List.mem_of_getElem? (i := 761) (by decide +kernel)⟩
theorem lw_p39 : lw_okq (⟨"SmallFloatsModel", "crossed", "(IIII)I"⟩, 26) := ⟨⟨by decide +kernel, by decide +kernel⟩, List.mem_of_getElem? (i := 541) (by decide +kernel), List.mem_of_getElem? (i := 768) (by decide +kernel), List.mem_of_getElem? (i := 769) (by decide +kernel)⟩
theorem lw_p40 : lw_okq (⟨"SmallFloatsModel", "invalidIn", "(I)I"⟩, 26) := ⟨⟨by decide +kernel, by decide +kernel⟩, List.mem_of_getElem? (i := 541) (by decide +kernel), List.mem_of_getElem? (i := 772) (by decide +kernel), List.mem_of_getElem? (i := 773) (by decide +kernel)⟩
theorem lw_p41 : lw_okq (⟨"SmallFloatsModel", "acted", "(IIIII)I"⟩, 26) := ⟨⟨by decide +kernel, by decide +kernel⟩, List.mem_of_getElem? (i := 541) (by decide +kernel), List.mem_of_getElem? (i := 780) (by decide +kernel), List.mem_of_getElem? (i := 781) (by decide +kernel)⟩
theorem lw_p42 : lw_okq (⟨"SmallFloatsModel", "summed", "(IIIIZ)I"⟩, 26) := ⟨⟨by decide +kernel, by decide +kernel⟩, List.mem_of_getElem? (i := 541) (by decide +kernel), List.mem_of_getElem? (i := 784) (by decide +kernel), List.mem_of_getElem? (i := 785) (by decide +kernel)⟩
theorem lw_p43 : lw_okq (⟨"SmallFloatsModel", "isEndless", "(II)Z"⟩, 26) := ⟨⟨by decide +kernel, by decide +kernel⟩, List.mem_of_getElem? (i := 541) (by decide +kernel), List.mem_of_getElem? (i := 788) (by decide +kernel), List.mem_of_getElem? (i := 789) (by decide +kernel)⟩
theorem lw_p44 : lw_okq (⟨"SmallFloatsModel", "endlessSum", "(IIIZ)I"⟩, 26) := ⟨⟨by decide +kernel, by decide +kernel⟩, List.mem_of_getElem? (i := 541) (by decide +kernel), List.mem_of_getElem? (i := 792) (by decide +kernel), List.mem_of_getElem? (i := 793) (by decide +kernel)⟩
theorem lw_p45 : lw_okq (⟨"SmallFloatsModel", "endlessOr", "(IZ)I"⟩, 26) := ⟨⟨by decide +kernel, by decide +kernel⟩, List.mem_of_getElem? (i := 541) (by decide +kernel), List.mem_of_getElem? (i := 796) (by decide +kernel), List.mem_of_getElem? (i := 797) (by decide +kernel)⟩
theorem lw_p46 : lw_okq (⟨"SmallFloatsModel", "multiplied", "(IIII)I"⟩, 26) := ⟨⟨by decide +kernel, by decide +kernel⟩, List.mem_of_getElem? (i := 541) (by decide +kernel), List.mem_of_getElem? (i := 800) (by decide +kernel), List.mem_of_getElem? (i := 801) (by decide +kernel)⟩
theorem lw_p47 : lw_okq (⟨"SmallFloatsModel", "divided", "(IIII)I"⟩, 26) := ⟨⟨by decide +kernel, by decide +kernel⟩, List.mem_of_getElem? (i := 541) (by decide +kernel), List.mem_of_getElem? (i := 804) (by decide +kernel), List.mem_of_getElem? (i := 805) (by decide +kernel)⟩
def lw_privs_3 : List (MethodName × Nat) := [(⟨"SmallFloatsModel", "roundedFraction", "(IJJIZ)I"⟩, 26), (⟨"SmallFloatsModel", "signed", "(IIZ)I"⟩, 26), (⟨"SmallFloatsModel", "rounded", "(IZI)I"⟩, 26), (⟨"SmallFloatsModel", "twiceBeside", "(J)I"⟩, 26), (⟨"SmallFloatsModel", "roundedAbove", "(IZI)I"⟩, 26), (⟨"SmallFloatsModel", "beyond", "(IZ)I"⟩, 26), (⟨"SmallFloatsModel", "ends", "(I)I"⟩, 26), (⟨"SmallFloatsModel", "crossed", "(IIII)I"⟩, 26), (⟨"SmallFloatsModel", "invalidIn", "(I)I"⟩, 26), (⟨"SmallFloatsModel", "acted", "(IIIII)I"⟩, 26), (⟨"SmallFloatsModel", "summed", "(IIIIZ)I"⟩, 26), (⟨"SmallFloatsModel", "isEndless", "(II)Z"⟩, 26), (⟨"SmallFloatsModel", "endlessSum", "(IIIZ)I"⟩, 26), (⟨"SmallFloatsModel", "endlessOr", "(IZ)I"⟩, 26), (⟨"SmallFloatsModel", "multiplied", "(IIII)I"⟩, 26), (⟨"SmallFloatsModel", "divided", "(IIII)I"⟩, 26)]
theorem lw_r3 : ∀ q ∈ lw_privs_3, lw_okq q := List.forall_mem_cons.mpr ⟨lw_p32, List.forall_mem_cons.mpr ⟨lw_p33, List.forall_mem_cons.mpr ⟨lw_p34, List.forall_mem_cons.mpr ⟨lw_p35, List.forall_mem_cons.mpr ⟨lw_p36, List.forall_mem_cons.mpr ⟨lw_p37, List.forall_mem_cons.mpr ⟨lw_p38, List.forall_mem_cons.mpr ⟨lw_p39, List.forall_mem_cons.mpr ⟨lw_p40, List.forall_mem_cons.mpr ⟨lw_p41, List.forall_mem_cons.mpr ⟨lw_p42, List.forall_mem_cons.mpr ⟨lw_p43, List.forall_mem_cons.mpr ⟨lw_p44, List.forall_mem_cons.mpr ⟨lw_p45, List.forall_mem_cons.mpr ⟨lw_p46, List.forall_mem_cons.mpr ⟨lw_p47, fun _ h => absurd h List.not_mem_nil⟩⟩⟩⟩⟩⟩⟩⟩⟩⟩⟩⟩⟩⟩⟩⟩
theorem lw_p48 : lw_okq (⟨"SmallFloatsModel", "rooted", "(III)I"⟩, 26) := ⟨⟨by decide +kernel, by decide +kernel⟩, List.mem_of_getElem? (i := 541) (by decide +kernel), List.mem_of_getElem? (i := 808) (by decide +kernel), List.mem_of_getElem? (i := 809) (by decide +kernel)⟩
theorem lw_p49 : lw_okq (⟨"SmallFloatsModel", "lesser", "(IIIZ)I"⟩, 26) := ⟨⟨by decide +kernel, by decide +kernel⟩, List.mem_of_getElem? (i := 541) (by decide +kernel), List.mem_of_getElem? (i := 812) (by decide +kernel), List.mem_of_getElem? (i := 813) (by decide +kernel)⟩
theorem lw_p50 : lw_okq (⟨"SmallFloatsModel", "beside", "(III)I"⟩, 26) := ⟨⟨by decide +kernel, by decide +kernel⟩, List.mem_of_getElem? (i := 541) (by decide +kernel), List.mem_of_getElem? (i := 816) (by decide +kernel), List.mem_of_getElem? (i := 817) (by decide +kernel)⟩
theorem lw_p51 : lw_okq (⟨"SmallFloatsModel", "comesProduct", "(III)V"⟩, 26) := ⟨⟨by decide +kernel, by decide +kernel⟩, List.mem_of_getElem? (i := 541) (by decide +kernel), List.mem_of_getElem? (i := 824) (by decide +kernel), List.mem_of_getElem? (i := 825) (by decide +kernel)⟩
theorem lw_p52 : lw_okq (⟨"SmallFloatsModel", "comesNone", "(IZ)V"⟩, 26) := ⟨⟨by decide +kernel, by decide +kernel⟩, List.mem_of_getElem? (i := 541) (by decide +kernel), List.mem_of_getElem? (i := 828) (by decide +kernel), List.mem_of_getElem? (i := 829) (by decide +kernel)⟩
theorem lw_p53 : lw_okq (⟨"SmallFloatsModel", "comesEndless", "(IZ)V"⟩, 26) := ⟨⟨by decide +kernel, by decide +kernel⟩, List.mem_of_getElem? (i := 541) (by decide +kernel), List.mem_of_getElem? (i := 832) (by decide +kernel), List.mem_of_getElem? (i := 833) (by decide +kernel)⟩
theorem lw_p54 : lw_okq (⟨"SmallFloatsModel", "comes", "(IIJ)V"⟩, 26) := ⟨⟨by decide +kernel, by decide +kernel⟩, List.mem_of_getElem? (i := 541) (by decide +kernel), List.mem_of_getElem? (i := 836) (by decide +kernel), List.mem_of_getElem? (i := 837) (by decide +kernel)⟩
theorem lw_p55 : lw_okq (⟨"SmallFloatsModel", "whatCame", "(IJIZ)I"⟩, 26) := ⟨⟨by decide +kernel, by decide +kernel⟩, List.mem_of_getElem? (i := 541) (by decide +kernel), List.mem_of_getElem? (i := 840) (by decide +kernel), List.mem_of_getElem? (i := 841) (by decide +kernel)⟩
theorem lw_p56 : lw_okq (⟨"SmallFloatsModel", "isRow", "(I)Z"⟩, 26) := ⟨⟨by decide +kernel, by decide +kernel⟩, List.mem_of_getElem? (i := 541) (by decide +kernel), List.mem_of_getElem? (i := 865) (by decide +kernel), List.mem_of_getElem? (i := 866) (by decide +kernel)⟩
def lw_privs_4 : List (MethodName × Nat) := [(⟨"SmallFloatsModel", "rooted", "(III)I"⟩, 26), (⟨"SmallFloatsModel", "lesser", "(IIIZ)I"⟩, 26), (⟨"SmallFloatsModel", "beside", "(III)I"⟩, 26), (⟨"SmallFloatsModel", "comesProduct", "(III)V"⟩, 26), (⟨"SmallFloatsModel", "comesNone", "(IZ)V"⟩, 26), (⟨"SmallFloatsModel", "comesEndless", "(IZ)V"⟩, 26), (⟨"SmallFloatsModel", "comes", "(IIJ)V"⟩, 26), (⟨"SmallFloatsModel", "whatCame", "(IJIZ)I"⟩, 26), (⟨"SmallFloatsModel", "isRow", "(I)Z"⟩, 26)]
theorem lw_r4 : ∀ q ∈ lw_privs_4, lw_okq q := List.forall_mem_cons.mpr ⟨lw_p48, List.forall_mem_cons.mpr ⟨lw_p49, List.forall_mem_cons.mpr ⟨lw_p50, List.forall_mem_cons.mpr ⟨lw_p51, List.forall_mem_cons.mpr ⟨lw_p52, List.forall_mem_cons.mpr ⟨lw_p53, List.forall_mem_cons.mpr ⟨lw_p54, List.forall_mem_cons.mpr ⟨lw_p55, List.forall_mem_cons.mpr ⟨lw_p56, fun _ h => absurd h List.not_mem_nil⟩⟩⟩⟩⟩⟩⟩⟩⟩
def lw_privs : List (MethodName × Nat) := lw_privs_1 ++ (lw_privs_2 ++ (lw_privs_3 ++ (lw_privs_4)))
def lw_tbl : List Cond := k2_sels lw_privs ++ tables_1
theorem lw_privs_ok : ∀ q ∈ lw_privs, lw_okq q := by
  show ∀ q ∈ lw_privs_1 ++ (lw_privs_2 ++ (lw_privs_3 ++ (lw_privs_4))), lw_okq q
  exact List.forall_mem_append.mpr ⟨lw_r1, List.forall_mem_append.mpr ⟨lw_r2, List.forall_mem_append.mpr ⟨lw_r3, lw_r4⟩⟩⟩
end
section
def RX0 : String := "SmallFloats$Arithmetic"
def TX0 : u_T := fun k => match k with
  | _ => ("SmallFloats$Arithmetic", "met", "LSmallFloats$Tally;", true)
def tyX0 : Nat → FieldType := fun k => match k with
  | _ => .object "SmallFloats$Tally"
abbrev wsX00 : List Cond := u_ws RX0 TX0 1
theorem nmX0 : ∀ a, a < 1 → ∀ b, b < 1 → a ≠ b → (TX0 a).2.1 ≠ (TX0 b).2.1 := by decide +kernel
theorem tyX0_ok : ∀ k, k < 1 → parseFieldDescriptor (TX0 k).2.2.1 = some (tyX0 k) := by decide +kernel
abbrev cX0_init : ByteArray := prog_2_method_1_code
def yX0_init : MethodName := ⟨RX0, "<init>", "()V"⟩
abbrev cX0_invalid : ByteArray := prog_2_method_2_code
def yX0_invalid : MethodName := ⟨RX0, "invalid", "(LSmallFloats$Format;)I"⟩
abbrev cX0_rounded : ByteArray := prog_2_method_3_code
def yX0_rounded : MethodName := ⟨RX0, "rounded", "(LSmallFloats$Format;ZJJI)I"⟩
abbrev cX0_greatestUpTo : ByteArray := prog_2_method_4_code
def yX0_greatestUpTo : MethodName := ⟨RX0, "greatestUpTo", "(LSmallFloats$Format;JJ)I"⟩
abbrev cX0_goesOut : ByteArray := prog_2_method_5_code
def yX0_goesOut : MethodName := ⟨RX0, "goesOut", "(IZIZI)Z"⟩
abbrev cX0_fraction : ByteArray := prog_2_method_6_code
def yX0_fraction : MethodName := ⟨RX0, "fraction", "(LSmallFloats$Format;JJI)I"⟩
abbrev cX0_crossed : ByteArray := prog_2_method_7_code
def yX0_crossed : MethodName := ⟨RX0, "crossed", "(LSmallFloats$Format;ILSmallFloats$Format;I)I"⟩
abbrev cX0_acted : ByteArray := prog_2_method_8_code
def yX0_acted : MethodName := ⟨RX0, "acted", "(LSmallFloats$Format;IIII)I"⟩
abbrev cX0_added : ByteArray := prog_2_method_9_code
def yX0_added : MethodName := ⟨RX0, "added", "(LSmallFloats$Format;IIZI)I"⟩
abbrev cX0_fusedOf : ByteArray := prog_2_method_10_code
def yX0_fusedOf : MethodName := ⟨RX0, "fusedOf", "(LSmallFloats$Format;IIII)I"⟩
abbrev cX0_endlessOfSum : ByteArray := prog_2_method_11_code
def yX0_endlessOfSum : MethodName := ⟨RX0, "endlessOfSum", "(LSmallFloats$Format;ZJZJ)I"⟩
abbrev cX0_multiplied : ByteArray := prog_2_method_12_code
def yX0_multiplied : MethodName := ⟨RX0, "multiplied", "(LSmallFloats$Format;III)I"⟩
abbrev cX0_divided : ByteArray := prog_2_method_13_code
def yX0_divided : MethodName := ⟨RX0, "divided", "(LSmallFloats$Format;III)I"⟩
abbrev cX0_rootOf : ByteArray := prog_2_method_14_code
def yX0_rootOf : MethodName := ⟨RX0, "rootOf", "(LSmallFloats$Format;II)I"⟩
abbrev cX0_wholeRoot : ByteArray := prog_2_method_15_code
def yX0_wholeRoot : MethodName := ⟨RX0, "wholeRoot", "(J)J"⟩
abbrev cX0_exactTotal : ByteArray := prog_2_method_16_code
def yX0_exactTotal : MethodName := ⟨RX0, "exactTotal", "(LSmallFloats$Row;LSmallFloats$Row;I)I"⟩
abbrev cX0_stepwiseTotal : ByteArray := prog_2_method_17_code
def yX0_stepwiseTotal : MethodName := ⟨RX0, "stepwiseTotal", "(LSmallFloats$Row;LSmallFloats$Row;I)I"⟩
abbrev cX0_termCount : ByteArray := prog_2_method_18_code
def yX0_termCount : MethodName := ⟨RX0, "termCount", "(LSmallFloats$Row;LSmallFloats$Row;)I"⟩
abbrev cX0_signed : ByteArray := prog_2_method_19_code
def yX0_signed : MethodName := ⟨RX0, "signed", "(ZJ)J"⟩
def RX1 : String := "SmallFloats$Format"
def TX1 : u_T := fun k => match k with
  | 0 => ("SmallFloats$Format", "signBits", "I", true)
  | 1 => ("SmallFloats$Format", "exponentBits", "I", true)
  | 2 => ("SmallFloats$Format", "fractionBits", "I", true)
  | 3 => ("SmallFloats$Format", "bias", "I", true)
  | 4 => ("SmallFloats$Format", "subnormals", "Z", true)
  | 5 => ("SmallFloats$Format", "top", "I", true)
  | _ => ("SmallFloats$Format", "great", "I", true)
def tyX1 : Nat → FieldType := fun k => match k with
  | 0 => .int
  | 1 => .int
  | 2 => .int
  | 3 => .int
  | 4 => .boolean
  | 5 => .int
  | _ => .int
abbrev wsX10 : List Cond := u_ws RX1 TX1 7
theorem nmX1 : ∀ a, a < 7 → ∀ b, b < 7 → a ≠ b → (TX1 a).2.1 ≠ (TX1 b).2.1 := by decide +kernel
theorem tyX1_ok : ∀ k, k < 7 → parseFieldDescriptor (TX1 k).2.2.1 = some (tyX1 k) := by decide +kernel
abbrev cX1_init : ByteArray := prog_3_method_1_code
def yX1_init : MethodName := ⟨RX1, "<init>", "(IIIIZI)V"⟩
abbrev cX1_isAlike : ByteArray := prog_3_method_2_code
def yX1_isAlike : MethodName := ⟨RX1, "isAlike", "(LSmallFloats$Format;)Z"⟩
abbrev cX1_bits : ByteArray := prog_3_method_3_code
def yX1_bits : MethodName := ⟨RX1, "bits", "()I"⟩
abbrev cX1_scale : ByteArray := prog_3_method_4_code
def yX1_scale : MethodName := ⟨RX1, "scale", "()I"⟩
abbrev cX1_twiceMiddleAbove : ByteArray := prog_3_method_5_code
def yX1_twiceMiddleAbove : MethodName := ⟨RX1, "twiceMiddleAbove", "(I)J"⟩
abbrev cX1_noneCode : ByteArray := prog_3_method_6_code
def yX1_noneCode : MethodName := ⟨RX1, "noneCode", "()I"⟩
abbrev cX1_beyond : ByteArray := prog_3_method_7_code
def yX1_beyond : MethodName := ⟨RX1, "beyond", "(Z)I"⟩
abbrev cX1_hasCode : ByteArray := prog_3_method_8_code
def yX1_hasCode : MethodName := ⟨RX1, "hasCode", "(I)Z"⟩
abbrev cX1_magnitude : ByteArray := prog_3_method_9_code
def yX1_magnitude : MethodName := ⟨RX1, "magnitude", "(I)I"⟩
abbrev cX1_isMinus : ByteArray := prog_3_method_10_code
def yX1_isMinus : MethodName := ⟨RX1, "isMinus", "(I)Z"⟩
abbrev cX1_withSign : ByteArray := prog_3_method_11_code
def yX1_withSign : MethodName := ⟨RX1, "withSign", "(ZI)I"⟩
abbrev cX1_isNumber : ByteArray := prog_3_method_12_code
def yX1_isNumber : MethodName := ⟨RX1, "isNumber", "(I)Z"⟩
abbrev cX1_isEndless : ByteArray := prog_3_method_13_code
def yX1_isEndless : MethodName := ⟨RX1, "isEndless", "(I)Z"⟩
abbrev cX1_isNone : ByteArray := prog_3_method_14_code
def yX1_isNone : MethodName := ⟨RX1, "isNone", "(I)Z"⟩
abbrev cX1_kindOf : ByteArray := prog_3_method_15_code
def yX1_kindOf : MethodName := ⟨RX1, "kindOf", "(I)I"⟩
abbrev cX1_unitsOfMagnitude : ByteArray := prog_3_method_16_code
def yX1_unitsOfMagnitude : MethodName := ⟨RX1, "unitsOfMagnitude", "(I)J"⟩
abbrev cX1_unitsOf : ByteArray := prog_3_method_17_code
def yX1_unitsOf : MethodName := ⟨RX1, "unitsOf", "(I)J"⟩
abbrev cX1_sizeOf : ByteArray := prog_3_method_18_code
def yX1_sizeOf : MethodName := ⟨RX1, "sizeOf", "(I)J"⟩
abbrev cX1_sizeOfProduct : ByteArray := prog_3_method_19_code
def yX1_sizeOfProduct : MethodName := ⟨RX1, "sizeOfProduct", "(II)J"⟩
abbrev cX1_rank : ByteArray := prog_3_method_20_code
def yX1_rank : MethodName := ⟨RX1, "rank", "(I)I"⟩
abbrev cX1_lesser : ByteArray := prog_3_method_21_code
def yX1_lesser : MethodName := ⟨RX1, "lesser", "(II)I"⟩
abbrev cX1_greater : ByteArray := prog_3_method_22_code
def yX1_greater : MethodName := ⟨RX1, "greater", "(II)I"⟩
abbrev cX1_neighbour : ByteArray := prog_3_method_23_code
def yX1_neighbour : MethodName := ⟨RX1, "neighbour", "(IZ)I"⟩
abbrev cX1_numbersBetween : ByteArray := prog_3_method_24_code
def yX1_numbersBetween : MethodName := ⟨RX1, "numbersBetween", "(JJ)I"⟩
abbrev cX1_magnitudesUpTo : ByteArray := prog_3_method_25_code
def yX1_magnitudesUpTo : MethodName := ⟨RX1, "magnitudesUpTo", "(J)I"⟩
def RX2 : String := "SmallFloats$Row"
def TX2 : u_T := fun k => match k with
  | 0 => ("SmallFloats$Row", "format", "LSmallFloats$Format;", false)
  | 1 => ("SmallFloats$Row", "length", "I", false)
  | _ => ("SmallFloats$Row", "codes", "[I", true)
def tyX2 : Nat → FieldType := fun k => match k with
  | 0 => .object "SmallFloats$Format"
  | 1 => .int
  | _ => .array .int
abbrev wsX20 : List Cond := u_ws RX2 TX2 3
theorem nmX2 : ∀ a, a < 3 → ∀ b, b < 3 → a ≠ b → (TX2 a).2.1 ≠ (TX2 b).2.1 := by decide +kernel
theorem tyX2_ok : ∀ k, k < 3 → parseFieldDescriptor (TX2 k).2.2.1 = some (tyX2 k) := by decide +kernel
abbrev cX2_init : ByteArray := prog_4_method_1_code
def yX2_init : MethodName := ⟨RX2, "<init>", "()V"⟩
abbrev cX2_become : ByteArray := prog_4_method_2_code
def yX2_become : MethodName := ⟨RX2, "become", "(LSmallFloats$Format;I)V"⟩
abbrev cX2_hasPlace : ByteArray := prog_4_method_3_code
def yX2_hasPlace : MethodName := ⟨RX2, "hasPlace", "(I)Z"⟩
abbrev cX2_codeAt : ByteArray := prog_4_method_4_code
def yX2_codeAt : MethodName := ⟨RX2, "codeAt", "(I)I"⟩
abbrev cX2_setCode : ByteArray := prog_4_method_5_code
def yX2_setCode : MethodName := ⟨RX2, "setCode", "(II)V"⟩
abbrev cX2_byteCount : ByteArray := prog_4_method_6_code
def yX2_byteCount : MethodName := ⟨RX2, "byteCount", "()I"⟩
abbrev cX2_byteAt : ByteArray := prog_4_method_7_code
def yX2_byteAt : MethodName := ⟨RX2, "byteAt", "(I)I"⟩
abbrev cX2_areNumbers : ByteArray := prog_4_method_8_code
def yX2_areNumbers : MethodName := ⟨RX2, "areNumbers", "(LSmallFloats$Row;I)Z"⟩
abbrev cX2_distance : ByteArray := prog_4_method_9_code
def yX2_distance : MethodName := ⟨RX2, "distance", "(LSmallFloats$Row;I)J"⟩
abbrev cX2_worstPlace : ByteArray := prog_4_method_10_code
def yX2_worstPlace : MethodName := ⟨RX2, "worstPlace", "(LSmallFloats$Row;)I"⟩
abbrev cX2_differences : ByteArray := prog_4_method_11_code
def yX2_differences : MethodName := ⟨RX2, "differences", "(LSmallFloats$Row;)I"⟩
abbrev cX2_noNumbers : ByteArray := prog_4_method_12_code
def yX2_noNumbers : MethodName := ⟨RX2, "noNumbers", "(LSmallFloats$Row;)I"⟩
def RX3 : String := "SmallFloats$Tally"
def TX3 : u_T := fun k => match k with
  | 0 => ("SmallFloats$Tally", "inexact", "I", false)
  | 1 => ("SmallFloats$Tally", "over", "I", false)
  | _ => ("SmallFloats$Tally", "invalid", "I", false)
def tyX3 : Nat → FieldType := fun k => match k with
  | 0 => .int
  | 1 => .int
  | _ => .int
abbrev wsX30 : List Cond := u_ws RX3 TX3 3
theorem nmX3 : ∀ a, a < 3 → ∀ b, b < 3 → a ≠ b → (TX3 a).2.1 ≠ (TX3 b).2.1 := by decide +kernel
theorem tyX3_ok : ∀ k, k < 3 → parseFieldDescriptor (TX3 k).2.2.1 = some (tyX3 k) := by decide +kernel
abbrev cX3_init : ByteArray := prog_5_method_1_code
def yX3_init : MethodName := ⟨RX3, "<init>", "()V"⟩
abbrev cX3_clear : ByteArray := prog_5_method_2_code
def yX3_clear : MethodName := ⟨RX3, "clear", "()V"⟩
abbrev cX3_add : ByteArray := prog_5_method_3_code
def yX3_add : MethodName := ⟨RX3, "add", "(LSmallFloats$Tally;)V"⟩
def RX4 : String := "SmallFloats"
def TX4 : u_T := fun k => match k with
  | 0 => ("SmallFloats", "formats", "[LSmallFloats$Format;", true)
  | 1 => ("SmallFloats", "formatCount", "I", false)
  | 2 => ("SmallFloats", "rows", "[LSmallFloats$Row;", true)
  | 3 => ("SmallFloats", "scratch", "[I", true)
  | 4 => ("SmallFloats", "arithmetic", "LSmallFloats$Arithmetic;", true)
  | 5 => ("SmallFloats", "counted", "LSmallFloats$Tally;", true)
  | 6 => ("SmallFloats", "refusal", "I", false)
  | 7 => ("SmallFloats", "tableFormat", "LSmallFloats$Format;", false)
  | 8 => ("SmallFloats", "tableAct", "I", false)
  | 9 => ("SmallFloats", "tableMode", "I", false)
  | _ => ("SmallFloats", "tablesMade", "I", false)
def tyX4 : Nat → FieldType := fun k => match k with
  | 0 => .array (.object "SmallFloats$Format")
  | 1 => .int
  | 2 => .array (.object "SmallFloats$Row")
  | 3 => .array .int
  | 4 => .object "SmallFloats$Arithmetic"
  | 5 => .object "SmallFloats$Tally"
  | 6 => .int
  | 7 => .object "SmallFloats$Format"
  | 8 => .int
  | 9 => .int
  | _ => .int
abbrev wsX40 : List Cond := u_ws RX4 TX4 11
theorem nmX4 : ∀ a, a < 11 → ∀ b, b < 11 → a ≠ b → (TX4 a).2.1 ≠ (TX4 b).2.1 := by decide +kernel
theorem tyX4_ok : ∀ k, k < 11 → parseFieldDescriptor (TX4 k).2.2.1 = some (tyX4 k) := by decide +kernel
abbrev cX4_init : ByteArray := prog_1_method_1_code
def yX4_init : MethodName := ⟨RX4, "<init>", "()V"⟩
abbrev cX4_format : ByteArray := prog_1_method_2_code
def yX4_format : MethodName := ⟨RX4, "format", "(IIIIZI)I"⟩
abbrev cX4_about : ByteArray := prog_1_method_3_code
def yX4_about : MethodName := ⟨RX4, "about", "(II)I"⟩
abbrev cX4_kind : ByteArray := prog_1_method_4_code
def yX4_kind : MethodName := ⟨RX4, "kind", "(III)I"⟩
abbrev cX4_units : ByteArray := prog_1_method_5_code
def yX4_units : MethodName := ⟨RX4, "units", "(II)J"⟩
abbrev cX4_code : ByteArray := prog_1_method_6_code
def yX4_code : MethodName := ⟨RX4, "code", "(IJJI)I"⟩
abbrev cX4_cross : ByteArray := prog_1_method_7_code
def yX4_cross : MethodName := ⟨RX4, "cross", "(IIII)I"⟩
abbrev cX4_act : ByteArray := prog_1_method_8_code
def yX4_act : MethodName := ⟨RX4, "act", "(IIIII)I"⟩
abbrev cX4_fused : ByteArray := prog_1_method_9_code
def yX4_fused : MethodName := ⟨RX4, "fused", "(IIIII)I"⟩
abbrev cX4_next : ByteArray := prog_1_method_10_code
def yX4_next : MethodName := ⟨RX4, "next", "(IIZ)I"⟩
abbrev cX4_order : ByteArray := prog_1_method_11_code
def yX4_order : MethodName := ⟨RX4, "order", "(III)I"⟩
abbrev cX4_numbers : ByteArray := prog_1_method_12_code
def yX4_numbers : MethodName := ⟨RX4, "numbers", "(IJJ)I"⟩
abbrev cX4_row : ByteArray := prog_1_method_13_code
def yX4_row : MethodName := ⟨RX4, "row", "(III)I"⟩
abbrev cX4_put : ByteArray := prog_1_method_14_code
def yX4_put : MethodName := ⟨RX4, "put", "(III)I"⟩
abbrev cX4_at : ByteArray := prog_1_method_15_code
def yX4_at : MethodName := ⟨RX4, "at", "(II)I"⟩
abbrev cX4_packed : ByteArray := prog_1_method_16_code
def yX4_packed : MethodName := ⟨RX4, "packed", "(II)I"⟩
abbrev cX4_quantise : ByteArray := prog_1_method_17_code
def yX4_quantise : MethodName := ⟨RX4, "quantise", "(IIII)I"⟩
abbrev cX4_worst : ByteArray := prog_1_method_18_code
def yX4_worst : MethodName := ⟨RX4, "worst", "(III)I"⟩
abbrev cX4_sum : ByteArray := prog_1_method_19_code
def yX4_sum : MethodName := ⟨RX4, "sum", "(IIZ)I"⟩
abbrev cX4_dot : ByteArray := prog_1_method_20_code
def yX4_dot : MethodName := ⟨RX4, "dot", "(IIIZ)I"⟩
abbrev cX4_table : ByteArray := prog_1_method_21_code
def yX4_table : MethodName := ⟨RX4, "table", "(III)I"⟩
abbrev cX4_lookup : ByteArray := prog_1_method_22_code
def yX4_lookup : MethodName := ⟨RX4, "lookup", "(II)I"⟩
abbrev cX4_count : ByteArray := prog_1_method_23_code
def yX4_count : MethodName := ⟨RX4, "count", "(I)I"⟩
abbrev cX4_told : ByteArray := prog_1_method_24_code
def yX4_told : MethodName := ⟨RX4, "told", "()I"⟩
abbrev cX4_answered : ByteArray := prog_1_method_25_code
def yX4_answered : MethodName := ⟨RX4, "answered", "(I)I"⟩
abbrev cX4_refused : ByteArray := prog_1_method_26_code
def yX4_refused : MethodName := ⟨RX4, "refused", "(I)I"⟩
abbrev cX4_settled : ByteArray := prog_1_method_27_code
def yX4_settled : MethodName := ⟨RX4, "settled", "(I)I"⟩
abbrev cX4_formatAt : ByteArray := prog_1_method_28_code
def yX4_formatAt : MethodName := ⟨RX4, "formatAt", "(I)LSmallFloats$Format;"⟩
abbrev cX4_rowAt : ByteArray := prog_1_method_29_code
def yX4_rowAt : MethodName := ⟨RX4, "rowAt", "(I)LSmallFloats$Row;"⟩
abbrev cX4_isMode : ByteArray := prog_1_method_30_code
def yX4_isMode : MethodName := ⟨RX4, "isMode", "(I)Z"⟩
abbrev cX4_within : ByteArray := prog_1_method_31_code
def yX4_within : MethodName := ⟨RX4, "within", "(III)Z"⟩
def RX5 : String := "SmallFloatsModel"
def TX5 : u_T := fun k => match k with
  | 0 => ("SmallFloatsModel", "formats", "I", false)
  | 1 => ("SmallFloatsModel", "signs", "[I", true)
  | 2 => ("SmallFloatsModel", "exponents", "[I", true)
  | 3 => ("SmallFloatsModel", "fractions", "[I", true)
  | 4 => ("SmallFloatsModel", "biases", "[I", true)
  | 5 => ("SmallFloatsModel", "hasSubnormals", "[Z", true)
  | 6 => ("SmallFloatsModel", "tops", "[I", true)
  | 7 => ("SmallFloatsModel", "rowFormat", "[I", true)
  | 8 => ("SmallFloatsModel", "rowSize", "[I", true)
  | 9 => ("SmallFloatsModel", "rowCode", "[I", true)
  | 10 => ("SmallFloatsModel", "tables", "I", false)
  | 11 => ("SmallFloatsModel", "tableFormat", "I", false)
  | 12 => ("SmallFloatsModel", "tableAct", "I", false)
  | 13 => ("SmallFloatsModel", "tableMode", "I", false)
  | 14 => ("SmallFloatsModel", "inexact", "I", false)
  | 15 => ("SmallFloatsModel", "over", "I", false)
  | 16 => ("SmallFloatsModel", "invalid", "I", false)
  | 17 => ("SmallFloatsModel", "told", "I", false)
  | 18 => ("SmallFloatsModel", "nowInexact", "I", false)
  | 19 => ("SmallFloatsModel", "nowOver", "I", false)
  | 20 => ("SmallFloatsModel", "isSquare", "Z", false)
  | 21 => ("SmallFloatsModel", "top1", "J", false)
  | 22 => ("SmallFloatsModel", "bottom", "J", false)
  | 23 => ("SmallFloatsModel", "state", "I", false)
  | 24 => ("SmallFloatsModel", "exact", "J", false)
  | _ => ("SmallFloatsModel", "made", "[I", true)
def tyX5 : Nat → FieldType := fun k => match k with
  | 0 => .int
  | 1 => .array .int
  | 2 => .array .int
  | 3 => .array .int
  | 4 => .array .int
  | 5 => .array .boolean
  | 6 => .array .int
  | 7 => .array .int
  | 8 => .array .int
  | 9 => .array .int
  | 10 => .int
  | 11 => .int
  | 12 => .int
  | 13 => .int
  | 14 => .int
  | 15 => .int
  | 16 => .int
  | 17 => .int
  | 18 => .int
  | 19 => .int
  | 20 => .boolean
  | 21 => .long
  | 22 => .long
  | 23 => .int
  | 24 => .long
  | _ => .array .int
abbrev wsX50 : List Cond := u_ws RX5 TX5 26
theorem nmX5 : ∀ a, a < 26 → ∀ b, b < 26 → a ≠ b → (TX5 a).2.1 ≠ (TX5 b).2.1 := by decide +kernel
theorem tyX5_ok : ∀ k, k < 26 → parseFieldDescriptor (TX5 k).2.2.1 = some (tyX5 k) := by decide +kernel
abbrev cX5_init : ByteArray := prog_7_method_1_code
def yX5_init : MethodName := ⟨RX5, "<init>", "()V"⟩
abbrev cX5_in : ByteArray := prog_7_method_3_code
def yX5_in : MethodName := ⟨RX5, "in", "(JJJ)Z"⟩
abbrev cX5_refused : ByteArray := prog_7_method_4_code
def yX5_refused : MethodName := ⟨RX5, "refused", "(I)I"⟩
abbrev cX5_fine : ByteArray := prog_7_method_5_code
def yX5_fine : MethodName := ⟨RX5, "fine", "(I)I"⟩
abbrev cX5_begins : ByteArray := prog_7_method_6_code
def yX5_begins : MethodName := ⟨RX5, "begins", "()V"⟩
abbrev cX5_ends : ByteArray := prog_7_method_7_code
def yX5_ends : MethodName := ⟨RX5, "ends", "(I)I"⟩
abbrev cX5_isFormat : ByteArray := prog_7_method_8_code
def yX5_isFormat : MethodName := ⟨RX5, "isFormat", "(I)Z"⟩
abbrev cX5_bits : ByteArray := prog_7_method_9_code
def yX5_bits : MethodName := ⟨RX5, "bits", "(I)I"⟩
abbrev cX5_isCode : ByteArray := prog_7_method_10_code
def yX5_isCode : MethodName := ⟨RX5, "isCode", "(II)Z"⟩
abbrev cX5_signBit : ByteArray := prog_7_method_11_code
def yX5_signBit : MethodName := ⟨RX5, "signBit", "(I)I"⟩
abbrev cX5_isMinus : ByteArray := prog_7_method_12_code
def yX5_isMinus : MethodName := ⟨RX5, "isMinus", "(II)Z"⟩
abbrev cX5_plain : ByteArray := prog_7_method_13_code
def yX5_plain : MethodName := ⟨RX5, "plain", "(II)I"⟩
abbrev cX5_signed : ByteArray := prog_7_method_14_code
def yX5_signed : MethodName := ⟨RX5, "signed", "(IIZ)I"⟩
abbrev cX5_allOnes : ByteArray := prog_7_method_15_code
def yX5_allOnes : MethodName := ⟨RX5, "allOnes", "(I)I"⟩
abbrev cX5_kindOf : ByteArray := prog_7_method_16_code
def yX5_kindOf : MethodName := ⟨RX5, "kindOf", "(II)I"⟩
abbrev cX5_isNumber : ByteArray := prog_7_method_17_code
def yX5_isNumber : MethodName := ⟨RX5, "isNumber", "(II)Z"⟩
abbrev cX5_size : ByteArray := prog_7_method_18_code
def yX5_size : MethodName := ⟨RX5, "size", "(II)J"⟩
abbrev cX5_unitsOf : ByteArray := prog_7_method_19_code
def yX5_unitsOf : MethodName := ⟨RX5, "unitsOf", "(II)J"⟩
abbrev cX5_great : ByteArray := prog_7_method_20_code
def yX5_great : MethodName := ⟨RX5, "great", "(I)I"⟩
abbrev cX5_last : ByteArray := prog_7_method_21_code
def yX5_last : MethodName := ⟨RX5, "last", "(I)I"⟩
abbrev cX5_noneOf : ByteArray := prog_7_method_22_code
def yX5_noneOf : MethodName := ⟨RX5, "noneOf", "(I)I"⟩
abbrev cX5_endless : ByteArray := prog_7_method_23_code
def yX5_endless : MethodName := ⟨RX5, "endless", "(I)I"⟩
abbrev cX5_scale : ByteArray := prog_7_method_24_code
def yX5_scale : MethodName := ⟨RX5, "scale", "(I)I"⟩
abbrev cX5_format : ByteArray := prog_7_method_25_code
def yX5_format : MethodName := ⟨RX5, "format", "(IIIIZI)I"⟩
abbrev cX5_about : ByteArray := prog_7_method_26_code
def yX5_about : MethodName := ⟨RX5, "about", "(II)I"⟩
abbrev cX5_kind : ByteArray := prog_7_method_27_code
def yX5_kind : MethodName := ⟨RX5, "kind", "(III)I"⟩
abbrev cX5_units : ByteArray := prog_7_method_28_code
def yX5_units : MethodName := ⟨RX5, "units", "(II)J"⟩
abbrev cX5_twiceBeside : ByteArray := prog_7_method_29_code
def yX5_twiceBeside : MethodName := ⟨RX5, "twiceBeside", "(J)I"⟩
abbrev cX5_beyond : ByteArray := prog_7_method_30_code
def yX5_beyond : MethodName := ⟨RX5, "beyond", "(IZ)I"⟩
abbrev cX5_roundedAbove : ByteArray := prog_7_method_31_code
def yX5_roundedAbove : MethodName := ⟨RX5, "roundedAbove", "(IZI)I"⟩
abbrev cX5_rounded : ByteArray := prog_7_method_32_code
def yX5_rounded : MethodName := ⟨RX5, "rounded", "(IZI)I"⟩
abbrev cX5_roundedFraction : ByteArray := prog_7_method_33_code
def yX5_roundedFraction : MethodName := ⟨RX5, "roundedFraction", "(IJJIZ)I"⟩
abbrev cX5_code : ByteArray := prog_7_method_34_code
def yX5_code : MethodName := ⟨RX5, "code", "(IJJI)I"⟩
abbrev cX5_invalidIn : ByteArray := prog_7_method_35_code
def yX5_invalidIn : MethodName := ⟨RX5, "invalidIn", "(I)I"⟩
abbrev cX5_crossed : ByteArray := prog_7_method_36_code
def yX5_crossed : MethodName := ⟨RX5, "crossed", "(IIII)I"⟩
abbrev cX5_cross : ByteArray := prog_7_method_37_code
def yX5_cross : MethodName := ⟨RX5, "cross", "(IIII)I"⟩
abbrev cX5_beside : ByteArray := prog_7_method_38_code
def yX5_beside : MethodName := ⟨RX5, "beside", "(III)I"⟩
abbrev cX5_lesser : ByteArray := prog_7_method_39_code
def yX5_lesser : MethodName := ⟨RX5, "lesser", "(IIIZ)I"⟩
abbrev cX5_endlessOr : ByteArray := prog_7_method_40_code
def yX5_endlessOr : MethodName := ⟨RX5, "endlessOr", "(IZ)I"⟩
abbrev cX5_isEndless : ByteArray := prog_7_method_41_code
def yX5_isEndless : MethodName := ⟨RX5, "isEndless", "(II)Z"⟩
abbrev cX5_endlessSum : ByteArray := prog_7_method_42_code
def yX5_endlessSum : MethodName := ⟨RX5, "endlessSum", "(IIIZ)I"⟩
abbrev cX5_summed : ByteArray := prog_7_method_43_code
def yX5_summed : MethodName := ⟨RX5, "summed", "(IIIIZ)I"⟩
abbrev cX5_multiplied : ByteArray := prog_7_method_44_code
def yX5_multiplied : MethodName := ⟨RX5, "multiplied", "(IIII)I"⟩
abbrev cX5_divided : ByteArray := prog_7_method_45_code
def yX5_divided : MethodName := ⟨RX5, "divided", "(IIII)I"⟩
abbrev cX5_rooted : ByteArray := prog_7_method_46_code
def yX5_rooted : MethodName := ⟨RX5, "rooted", "(III)I"⟩
abbrev cX5_acted : ByteArray := prog_7_method_47_code
def yX5_acted : MethodName := ⟨RX5, "acted", "(IIIII)I"⟩
abbrev cX5_act : ByteArray := prog_7_method_48_code
def yX5_act : MethodName := ⟨RX5, "act", "(IIIII)I"⟩
abbrev cX5_comesNone : ByteArray := prog_7_method_49_code
def yX5_comesNone : MethodName := ⟨RX5, "comesNone", "(IZ)V"⟩
abbrev cX5_comesEndless : ByteArray := prog_7_method_50_code
def yX5_comesEndless : MethodName := ⟨RX5, "comesEndless", "(IZ)V"⟩
abbrev cX5_comes : ByteArray := prog_7_method_51_code
def yX5_comes : MethodName := ⟨RX5, "comes", "(IIJ)V"⟩
abbrev cX5_comesProduct : ByteArray := prog_7_method_52_code
def yX5_comesProduct : MethodName := ⟨RX5, "comesProduct", "(III)V"⟩
abbrev cX5_whatCame : ByteArray := prog_7_method_53_code
def yX5_whatCame : MethodName := ⟨RX5, "whatCame", "(IJIZ)I"⟩
abbrev cX5_fused : ByteArray := prog_7_method_54_code
def yX5_fused : MethodName := ⟨RX5, "fused", "(IIIII)I"⟩
abbrev cX5_next : ByteArray := prog_7_method_55_code
def yX5_next : MethodName := ⟨RX5, "next", "(IIZ)I"⟩
abbrev cX5_order : ByteArray := prog_7_method_56_code
def yX5_order : MethodName := ⟨RX5, "order", "(III)I"⟩
abbrev cX5_numbers : ByteArray := prog_7_method_57_code
def yX5_numbers : MethodName := ⟨RX5, "numbers", "(IJJ)I"⟩
abbrev cX5_isRow : ByteArray := prog_7_method_58_code
def yX5_isRow : MethodName := ⟨RX5, "isRow", "(I)Z"⟩
abbrev cX5_row : ByteArray := prog_7_method_59_code
def yX5_row : MethodName := ⟨RX5, "row", "(III)I"⟩
abbrev cX5_put : ByteArray := prog_7_method_60_code
def yX5_put : MethodName := ⟨RX5, "put", "(III)I"⟩
abbrev cX5_at : ByteArray := prog_7_method_61_code
def yX5_at : MethodName := ⟨RX5, "at", "(II)I"⟩
abbrev cX5_packed : ByteArray := prog_7_method_62_code
def yX5_packed : MethodName := ⟨RX5, "packed", "(II)I"⟩
abbrev cX5_quantise : ByteArray := prog_7_method_63_code
def yX5_quantise : MethodName := ⟨RX5, "quantise", "(IIII)I"⟩
abbrev cX5_worst : ByteArray := prog_7_method_64_code
def yX5_worst : MethodName := ⟨RX5, "worst", "(III)I"⟩
abbrev cX5_sum : ByteArray := prog_7_method_65_code
def yX5_sum : MethodName := ⟨RX5, "sum", "(IIZ)I"⟩
abbrev cX5_dot : ByteArray := prog_7_method_66_code
def yX5_dot : MethodName := ⟨RX5, "dot", "(IIIZ)I"⟩
abbrev cX5_table : ByteArray := prog_7_method_67_code
def yX5_table : MethodName := ⟨RX5, "table", "(III)I"⟩
abbrev cX5_lookup : ByteArray := prog_7_method_68_code
def yX5_lookup : MethodName := ⟨RX5, "lookup", "(II)I"⟩
abbrev cX5_count : ByteArray := prog_7_method_69_code
def yX5_count : MethodName := ⟨RX5, "count", "(I)I"⟩
abbrev cX5_told : ByteArray := prog_7_method_70_code
def yX5_told : MethodName := ⟨RX5, "told", "()I"⟩
def RJ6 : String := "java/lang/Integer"
def TJ6 : u_T := fun k => match k with
  | _ => ("", "", "", false)
def tyJ6 : Nat → FieldType := fun k => match k with
  | _ => .int
abbrev wsJ60 : List Cond := u_ws RJ6 TJ6 0
theorem nmJ6 : ∀ a, a < 0 → ∀ b, b < 0 → a ≠ b → (TJ6 a).2.1 ≠ (TJ6 b).2.1 := by decide +kernel
theorem tyJ6_ok : ∀ k, k < 0 → parseFieldDescriptor (TJ6 k).2.2.1 = some (tyJ6 k) := by decide +kernel
abbrev cJ6_compare_7cf53 : ByteArray := prog_8_method_40_code
def yJ6_compare_7cf53 : MethodName := ⟨RJ6, "compare", "(II)I"⟩
def RJ13 : String := "java/lang/Long"
def TJ13 : u_T := fun k => match k with
  | _ => ("", "", "", false)
def tyJ13 : Nat → FieldType := fun k => match k with
  | _ => .int
abbrev wsJ130 : List Cond := u_ws RJ13 TJ13 0
theorem nmJ13 : ∀ a, a < 0 → ∀ b, b < 0 → a ≠ b → (TJ13 a).2.1 ≠ (TJ13 b).2.1 := by decide +kernel
theorem tyJ13_ok : ∀ k, k < 0 → parseFieldDescriptor (TJ13 k).2.2.1 = some (tyJ13 k) := by decide +kernel
abbrev cJ13_compare_74951 : ByteArray := prog_9_method_42_code
def yJ13_compare_74951 : MethodName := ⟨RJ13, "compare", "(JJ)I"⟩
def RJ9 : String := "java/lang/Math"
def TJ9 : u_T := fun k => match k with
  | _ => ("", "", "", false)
def tyJ9 : Nat → FieldType := fun k => match k with
  | _ => .int
abbrev wsJ90 : List Cond := u_ws RJ9 TJ9 0
theorem nmJ9 : ∀ a, a < 0 → ∀ b, b < 0 → a ≠ b → (TJ9 a).2.1 ≠ (TJ9 b).2.1 := by decide +kernel
theorem tyJ9_ok : ∀ k, k < 0 → parseFieldDescriptor (TJ9 k).2.2.1 = some (tyJ9 k) := by decide +kernel
abbrev cJ9_abs_0f7a4 : ByteArray := prog_10_method_59_code
def yJ9_abs_0f7a4 : MethodName := ⟨RJ9, "abs", "(I)I"⟩
abbrev cJ9_abs_067f4 : ByteArray := prog_10_method_61_code
def yJ9_abs_067f4 : MethodName := ⟨RJ9, "abs", "(J)J"⟩
abbrev cJ9_max_7cf53 : ByteArray := prog_10_method_65_code
def yJ9_max_7cf53 : MethodName := ⟨RJ9, "max", "(II)I"⟩
abbrev cJ9_max_f86c9 : ByteArray := prog_10_method_66_code
def yJ9_max_f86c9 : MethodName := ⟨RJ9, "max", "(JJ)J"⟩
abbrev cJ9_min_7cf53 : ByteArray := prog_10_method_69_code
def yJ9_min_7cf53 : MethodName := ⟨RJ9, "min", "(II)I"⟩
abbrev cJ9_min_f86c9 : ByteArray := prog_10_method_70_code
def yJ9_min_f86c9 : MethodName := ⟨RJ9, "min", "(JJ)J"⟩
def RL : String := "SmallFloatsLaw"
abbrev cL_law : ByteArray := code
def yL_law : MethodName := ⟨RL, "law", "([I)Z"⟩
abbrev vwCl : List vw_C := [(RX0, TX0, 1), (RX1, TX1, 7), (RX2, TX2, 3), (RX3, TX3, 3), (RX4, TX4, 11), (RX5, TX5, 26)]
/-- the words that keep: every method asks for all of them -/
def xmTs : List Cond := lw_tbl.filter goodWord
theorem xmTs_tbl : ∀ w ∈ xmTs, w ∈ lw_tbl := fun w h => (List.mem_filter.mp h).1
theorem xmTs_good : ∀ w ∈ xmTs, goodWord w = true := fun w h => (List.mem_filter.mp h).2
end
section
theorem xw_sel_X4_refused : Cond.selects yX4_refused.cls yX4_refused yX4_refused ∈ xmTs := List.mem_filter.mpr ⟨List.mem_of_getElem? (i := 0) (by decide +kernel), by decide +kernel⟩
theorem xw_sel_X4_formatAt : Cond.selects yX4_formatAt.cls yX4_formatAt yX4_formatAt ∈ xmTs := List.mem_filter.mpr ⟨List.mem_of_getElem? (i := 1) (by decide +kernel), by decide +kernel⟩
theorem xw_sel_X4_answered : Cond.selects yX4_answered.cls yX4_answered yX4_answered ∈ xmTs := List.mem_filter.mpr ⟨List.mem_of_getElem? (i := 2) (by decide +kernel), by decide +kernel⟩
theorem xw_sel_X0_rounded : Cond.selects yX0_rounded.cls yX0_rounded yX0_rounded ∈ xmTs := List.mem_filter.mpr ⟨List.mem_of_getElem? (i := 3) (by decide +kernel), by decide +kernel⟩
theorem xw_sel_X4_settled : Cond.selects yX4_settled.cls yX4_settled yX4_settled ∈ xmTs := List.mem_filter.mpr ⟨List.mem_of_getElem? (i := 4) (by decide +kernel), by decide +kernel⟩
theorem xw_sel_X0_invalid : Cond.selects yX0_invalid.cls yX0_invalid yX0_invalid ∈ xmTs := List.mem_filter.mpr ⟨List.mem_of_getElem? (i := 5) (by decide +kernel), by decide +kernel⟩
theorem xw_sel_X0_added : Cond.selects yX0_added.cls yX0_added yX0_added ∈ xmTs := List.mem_filter.mpr ⟨List.mem_of_getElem? (i := 6) (by decide +kernel), by decide +kernel⟩
theorem xw_sel_X0_endlessOfSum : Cond.selects yX0_endlessOfSum.cls yX0_endlessOfSum yX0_endlessOfSum ∈ xmTs := List.mem_filter.mpr ⟨List.mem_of_getElem? (i := 7) (by decide +kernel), by decide +kernel⟩
theorem xw_sel_X0_multiplied : Cond.selects yX0_multiplied.cls yX0_multiplied yX0_multiplied ∈ xmTs := List.mem_filter.mpr ⟨List.mem_of_getElem? (i := 8) (by decide +kernel), by decide +kernel⟩
theorem xw_sel_X0_divided : Cond.selects yX0_divided.cls yX0_divided yX0_divided ∈ xmTs := List.mem_filter.mpr ⟨List.mem_of_getElem? (i := 9) (by decide +kernel), by decide +kernel⟩
theorem xw_sel_X0_rootOf : Cond.selects yX0_rootOf.cls yX0_rootOf yX0_rootOf ∈ xmTs := List.mem_filter.mpr ⟨List.mem_of_getElem? (i := 10) (by decide +kernel), by decide +kernel⟩
theorem xw_sel_X1_magnitudesUpTo : Cond.selects yX1_magnitudesUpTo.cls yX1_magnitudesUpTo yX1_magnitudesUpTo ∈ xmTs := List.mem_filter.mpr ⟨List.mem_of_getElem? (i := 11) (by decide +kernel), by decide +kernel⟩
theorem xw_sel_X4_rowAt : Cond.selects yX4_rowAt.cls yX4_rowAt yX4_rowAt ∈ xmTs := List.mem_filter.mpr ⟨List.mem_of_getElem? (i := 12) (by decide +kernel), by decide +kernel⟩
theorem xw_sel_X5_refused : Cond.selects yX5_refused.cls yX5_refused yX5_refused ∈ xmTs := List.mem_filter.mpr ⟨List.mem_of_getElem? (i := 13) (by decide +kernel), by decide +kernel⟩
theorem xw_sel_X5_fine : Cond.selects yX5_fine.cls yX5_fine yX5_fine ∈ xmTs := List.mem_filter.mpr ⟨List.mem_of_getElem? (i := 14) (by decide +kernel), by decide +kernel⟩
theorem xw_sel_X5_isFormat : Cond.selects yX5_isFormat.cls yX5_isFormat yX5_isFormat ∈ xmTs := List.mem_filter.mpr ⟨List.mem_of_getElem? (i := 15) (by decide +kernel), by decide +kernel⟩
theorem xw_sel_X5_bits : Cond.selects yX5_bits.cls yX5_bits yX5_bits ∈ xmTs := List.mem_filter.mpr ⟨List.mem_of_getElem? (i := 16) (by decide +kernel), by decide +kernel⟩
theorem xw_sel_X5_great : Cond.selects yX5_great.cls yX5_great yX5_great ∈ xmTs := List.mem_filter.mpr ⟨List.mem_of_getElem? (i := 17) (by decide +kernel), by decide +kernel⟩
theorem xw_sel_X5_allOnes : Cond.selects yX5_allOnes.cls yX5_allOnes yX5_allOnes ∈ xmTs := List.mem_filter.mpr ⟨List.mem_of_getElem? (i := 18) (by decide +kernel), by decide +kernel⟩
theorem xw_sel_X5_signBit : Cond.selects yX5_signBit.cls yX5_signBit yX5_signBit ∈ xmTs := List.mem_filter.mpr ⟨List.mem_of_getElem? (i := 19) (by decide +kernel), by decide +kernel⟩
theorem xw_sel_X5_last : Cond.selects yX5_last.cls yX5_last yX5_last ∈ xmTs := List.mem_filter.mpr ⟨List.mem_of_getElem? (i := 20) (by decide +kernel), by decide +kernel⟩
theorem xw_sel_X5_noneOf : Cond.selects yX5_noneOf.cls yX5_noneOf yX5_noneOf ∈ xmTs := List.mem_filter.mpr ⟨List.mem_of_getElem? (i := 21) (by decide +kernel), by decide +kernel⟩
theorem xw_sel_X5_endless : Cond.selects yX5_endless.cls yX5_endless yX5_endless ∈ xmTs := List.mem_filter.mpr ⟨List.mem_of_getElem? (i := 22) (by decide +kernel), by decide +kernel⟩
theorem xw_sel_X5_isNumber : Cond.selects yX5_isNumber.cls yX5_isNumber yX5_isNumber ∈ xmTs := List.mem_filter.mpr ⟨List.mem_of_getElem? (i := 23) (by decide +kernel), by decide +kernel⟩
theorem xw_sel_X5_kindOf : Cond.selects yX5_kindOf.cls yX5_kindOf yX5_kindOf ∈ xmTs := List.mem_filter.mpr ⟨List.mem_of_getElem? (i := 24) (by decide +kernel), by decide +kernel⟩
theorem xw_sel_X5_plain : Cond.selects yX5_plain.cls yX5_plain yX5_plain ∈ xmTs := List.mem_filter.mpr ⟨List.mem_of_getElem? (i := 25) (by decide +kernel), by decide +kernel⟩
theorem xw_sel_X5_scale : Cond.selects yX5_scale.cls yX5_scale yX5_scale ∈ xmTs := List.mem_filter.mpr ⟨List.mem_of_getElem? (i := 26) (by decide +kernel), by decide +kernel⟩
theorem xw_sel_X5_isCode : Cond.selects yX5_isCode.cls yX5_isCode yX5_isCode ∈ xmTs := List.mem_filter.mpr ⟨List.mem_of_getElem? (i := 27) (by decide +kernel), by decide +kernel⟩
theorem xw_sel_X5_isMinus : Cond.selects yX5_isMinus.cls yX5_isMinus yX5_isMinus ∈ xmTs := List.mem_filter.mpr ⟨List.mem_of_getElem? (i := 28) (by decide +kernel), by decide +kernel⟩
theorem xw_sel_X5_unitsOf : Cond.selects yX5_unitsOf.cls yX5_unitsOf yX5_unitsOf ∈ xmTs := List.mem_filter.mpr ⟨List.mem_of_getElem? (i := 29) (by decide +kernel), by decide +kernel⟩
theorem xw_sel_X5_size : Cond.selects yX5_size.cls yX5_size yX5_size ∈ xmTs := List.mem_filter.mpr ⟨List.mem_of_getElem? (i := 30) (by decide +kernel), by decide +kernel⟩
theorem xw_sel_X5_begins : Cond.selects yX5_begins.cls yX5_begins yX5_begins ∈ xmTs := List.mem_filter.mpr ⟨List.mem_of_getElem? (i := 31) (by decide +kernel), by decide +kernel⟩
theorem xw_sel_X5_roundedFraction : Cond.selects yX5_roundedFraction.cls yX5_roundedFraction yX5_roundedFraction ∈ xmTs := List.mem_filter.mpr ⟨List.mem_of_getElem? (i := 32) (by decide +kernel), by decide +kernel⟩
theorem xw_sel_X5_signed : Cond.selects yX5_signed.cls yX5_signed yX5_signed ∈ xmTs := List.mem_filter.mpr ⟨List.mem_of_getElem? (i := 33) (by decide +kernel), by decide +kernel⟩
theorem xw_sel_X5_rounded : Cond.selects yX5_rounded.cls yX5_rounded yX5_rounded ∈ xmTs := List.mem_filter.mpr ⟨List.mem_of_getElem? (i := 34) (by decide +kernel), by decide +kernel⟩
theorem xw_sel_X5_twiceBeside : Cond.selects yX5_twiceBeside.cls yX5_twiceBeside yX5_twiceBeside ∈ xmTs := List.mem_filter.mpr ⟨List.mem_of_getElem? (i := 35) (by decide +kernel), by decide +kernel⟩
theorem xw_sel_X5_roundedAbove : Cond.selects yX5_roundedAbove.cls yX5_roundedAbove yX5_roundedAbove ∈ xmTs := List.mem_filter.mpr ⟨List.mem_of_getElem? (i := 36) (by decide +kernel), by decide +kernel⟩
theorem xw_sel_X5_beyond : Cond.selects yX5_beyond.cls yX5_beyond yX5_beyond ∈ xmTs := List.mem_filter.mpr ⟨List.mem_of_getElem? (i := 37) (by decide +kernel), by decide +kernel⟩
theorem xw_sel_X5_ends : Cond.selects yX5_ends.cls yX5_ends yX5_ends ∈ xmTs := List.mem_filter.mpr ⟨List.mem_of_getElem? (i := 38) (by decide +kernel), by decide +kernel⟩
theorem xw_sel_X5_crossed : Cond.selects yX5_crossed.cls yX5_crossed yX5_crossed ∈ xmTs := List.mem_filter.mpr ⟨List.mem_of_getElem? (i := 39) (by decide +kernel), by decide +kernel⟩
theorem xw_sel_X5_invalidIn : Cond.selects yX5_invalidIn.cls yX5_invalidIn yX5_invalidIn ∈ xmTs := List.mem_filter.mpr ⟨List.mem_of_getElem? (i := 40) (by decide +kernel), by decide +kernel⟩
theorem xw_sel_X5_acted : Cond.selects yX5_acted.cls yX5_acted yX5_acted ∈ xmTs := List.mem_filter.mpr ⟨List.mem_of_getElem? (i := 41) (by decide +kernel), by decide +kernel⟩
theorem xw_sel_X5_summed : Cond.selects yX5_summed.cls yX5_summed yX5_summed ∈ xmTs := List.mem_filter.mpr ⟨List.mem_of_getElem? (i := 42) (by decide +kernel), by decide +kernel⟩
theorem xw_sel_X5_isEndless : Cond.selects yX5_isEndless.cls yX5_isEndless yX5_isEndless ∈ xmTs := List.mem_filter.mpr ⟨List.mem_of_getElem? (i := 43) (by decide +kernel), by decide +kernel⟩
theorem xw_sel_X5_endlessSum : Cond.selects yX5_endlessSum.cls yX5_endlessSum yX5_endlessSum ∈ xmTs := List.mem_filter.mpr ⟨List.mem_of_getElem? (i := 44) (by decide +kernel), by decide +kernel⟩
theorem xw_sel_X5_endlessOr : Cond.selects yX5_endlessOr.cls yX5_endlessOr yX5_endlessOr ∈ xmTs := List.mem_filter.mpr ⟨List.mem_of_getElem? (i := 45) (by decide +kernel), by decide +kernel⟩
theorem xw_sel_X5_multiplied : Cond.selects yX5_multiplied.cls yX5_multiplied yX5_multiplied ∈ xmTs := List.mem_filter.mpr ⟨List.mem_of_getElem? (i := 46) (by decide +kernel), by decide +kernel⟩
theorem xw_sel_X5_divided : Cond.selects yX5_divided.cls yX5_divided yX5_divided ∈ xmTs := List.mem_filter.mpr ⟨List.mem_of_getElem? (i := 47) (by decide +kernel), by decide +kernel⟩
theorem xw_sel_X5_rooted : Cond.selects yX5_rooted.cls yX5_rooted yX5_rooted ∈ xmTs := List.mem_filter.mpr ⟨List.mem_of_getElem? (i := 48) (by decide +kernel), by decide +kernel⟩
theorem xw_sel_X5_lesser : Cond.selects yX5_lesser.cls yX5_lesser yX5_lesser ∈ xmTs := List.mem_filter.mpr ⟨List.mem_of_getElem? (i := 49) (by decide +kernel), by decide +kernel⟩
theorem xw_sel_X5_beside : Cond.selects yX5_beside.cls yX5_beside yX5_beside ∈ xmTs := List.mem_filter.mpr ⟨List.mem_of_getElem? (i := 50) (by decide +kernel), by decide +kernel⟩
theorem xw_sel_X5_comesProduct : Cond.selects yX5_comesProduct.cls yX5_comesProduct yX5_comesProduct ∈ xmTs := List.mem_filter.mpr ⟨List.mem_of_getElem? (i := 51) (by decide +kernel), by decide +kernel⟩
theorem xw_sel_X5_comesNone : Cond.selects yX5_comesNone.cls yX5_comesNone yX5_comesNone ∈ xmTs := List.mem_filter.mpr ⟨List.mem_of_getElem? (i := 52) (by decide +kernel), by decide +kernel⟩
theorem xw_sel_X5_comesEndless : Cond.selects yX5_comesEndless.cls yX5_comesEndless yX5_comesEndless ∈ xmTs := List.mem_filter.mpr ⟨List.mem_of_getElem? (i := 53) (by decide +kernel), by decide +kernel⟩
theorem xw_sel_X5_comes : Cond.selects yX5_comes.cls yX5_comes yX5_comes ∈ xmTs := List.mem_filter.mpr ⟨List.mem_of_getElem? (i := 54) (by decide +kernel), by decide +kernel⟩
theorem xw_sel_X5_whatCame : Cond.selects yX5_whatCame.cls yX5_whatCame yX5_whatCame ∈ xmTs := List.mem_filter.mpr ⟨List.mem_of_getElem? (i := 55) (by decide +kernel), by decide +kernel⟩
theorem xw_sel_X5_isRow : Cond.selects yX5_isRow.cls yX5_isRow yX5_isRow ∈ xmTs := List.mem_filter.mpr ⟨List.mem_of_getElem? (i := 56) (by decide +kernel), by decide +kernel⟩
theorem xw_ini_L : Cond.initialized RL ∈ xmTs := List.mem_filter.mpr ⟨List.mem_of_getElem? (i := 57) (by decide +kernel), by decide +kernel⟩
theorem xw_ini_X4 : Cond.initialized RX4 ∈ xmTs := List.mem_filter.mpr ⟨List.mem_of_getElem? (i := 58) (by decide +kernel), by decide +kernel⟩
theorem xw_ini_X0 : Cond.initialized RX0 ∈ xmTs := List.mem_filter.mpr ⟨List.mem_of_getElem? (i := 59) (by decide +kernel), by decide +kernel⟩
theorem xw_ini_X3 : Cond.initialized RX3 ∈ xmTs := List.mem_filter.mpr ⟨List.mem_of_getElem? (i := 60) (by decide +kernel), by decide +kernel⟩
theorem xw_ini_X2 : Cond.initialized RX2 ∈ xmTs := List.mem_filter.mpr ⟨List.mem_of_getElem? (i := 61) (by decide +kernel), by decide +kernel⟩
theorem xw_ini_X5 : Cond.initialized RX5 ∈ xmTs := List.mem_filter.mpr ⟨List.mem_of_getElem? (i := 62) (by decide +kernel), by decide +kernel⟩
theorem xw_ini_X1 : Cond.initialized RX1 ∈ xmTs := List.mem_filter.mpr ⟨List.mem_of_getElem? (i := 63) (by decide +kernel), by decide +kernel⟩
theorem xw_ini_J9 : Cond.initialized RJ9 ∈ xmTs := List.mem_filter.mpr ⟨List.mem_of_getElem? (i := 64) (by decide +kernel), by decide +kernel⟩
theorem xw_ini_J13 : Cond.initialized RJ13 ∈ xmTs := List.mem_filter.mpr ⟨List.mem_of_getElem? (i := 65) (by decide +kernel), by decide +kernel⟩
theorem xw_ini_J6 : Cond.initialized RJ6 ∈ xmTs := List.mem_filter.mpr ⟨List.mem_of_getElem? (i := 66) (by decide +kernel), by decide +kernel⟩
theorem xw_cl_L_7 : Cond.classLink RL 7 RX4 ∈ xmTs := List.mem_filter.mpr ⟨List.mem_of_getElem? (i := 67) (by decide +kernel), by decide +kernel⟩
theorem xw_inst_X4 : Cond.instantiable RX4 11 ∈ xmTs := List.mem_filter.mpr ⟨List.mem_of_getElem? (i := 68) (by decide +kernel), by decide +kernel⟩
theorem xw_ml_L_9 : Cond.methodLink RL 9 yX4_init ∈ xmTs := List.mem_filter.mpr ⟨List.mem_of_getElem? (i := 69) (by decide +kernel), by decide +kernel⟩
theorem xw_ins_X4_init : Cond.instanceMethod yX4_init ∈ xmTs := List.mem_filter.mpr ⟨List.mem_of_getElem? (i := 70) (by decide +kernel), by decide +kernel⟩
theorem xw_cod_X4_init : Cond.code yX4_init cX4_init 2 none ∈ xmTs := List.mem_filter.mpr ⟨List.mem_of_getElem? (i := 71) (by decide +kernel), by decide +kernel⟩
theorem xw_ml_X4_3 : Cond.methodLink RX4 3 objectInit ∈ xmTs := List.mem_filter.mpr ⟨List.mem_of_getElem? (i := 72) (by decide +kernel), by decide +kernel⟩
theorem xw_ins_obj : Cond.instanceMethod objectInit ∈ xmTs := List.mem_filter.mpr ⟨List.mem_of_getElem? (i := 73) (by decide +kernel), by decide +kernel⟩
theorem xw_cod_obj : Cond.code objectInit ⟨#[0xb1]⟩ 1 none ∈ xmTs := List.mem_filter.mpr ⟨List.mem_of_getElem? (i := 74) (by decide +kernel), by decide +kernel⟩
theorem xw_cl_X4_11 : Cond.classLink RX4 11 RX1 ∈ xmTs := List.mem_filter.mpr ⟨List.mem_of_getElem? (i := 75) (by decide +kernel), by decide +kernel⟩
theorem xw_cl_X4_21 : Cond.classLink RX4 21 RX2 ∈ xmTs := List.mem_filter.mpr ⟨List.mem_of_getElem? (i := 77) (by decide +kernel), by decide +kernel⟩
theorem xw_cl_X4_31 : Cond.classLink RX4 31 RX0 ∈ xmTs := List.mem_filter.mpr ⟨List.mem_of_getElem? (i := 79) (by decide +kernel), by decide +kernel⟩
theorem xw_inst_X0 : Cond.instantiable RX0 1 ∈ xmTs := List.mem_filter.mpr ⟨List.mem_of_getElem? (i := 80) (by decide +kernel), by decide +kernel⟩
theorem xw_ins_X0_init : Cond.instanceMethod yX0_init ∈ xmTs := List.mem_filter.mpr ⟨List.mem_of_getElem? (i := 82) (by decide +kernel), by decide +kernel⟩
theorem xw_cod_X0_init : Cond.code yX0_init cX0_init 1 none ∈ xmTs := List.mem_filter.mpr ⟨List.mem_of_getElem? (i := 83) (by decide +kernel), by decide +kernel⟩
theorem xw_ml_X0_3 : Cond.methodLink RX0 3 objectInit ∈ xmTs := List.mem_filter.mpr ⟨List.mem_of_getElem? (i := 84) (by decide +kernel), by decide +kernel⟩
theorem xw_cl_X0_9 : Cond.classLink RX0 9 RX3 ∈ xmTs := List.mem_filter.mpr ⟨List.mem_of_getElem? (i := 85) (by decide +kernel), by decide +kernel⟩
theorem xw_inst_X3 : Cond.instantiable RX3 3 ∈ xmTs := List.mem_filter.mpr ⟨List.mem_of_getElem? (i := 86) (by decide +kernel), by decide +kernel⟩
theorem xw_ins_X3_init : Cond.instanceMethod yX3_init ∈ xmTs := List.mem_filter.mpr ⟨List.mem_of_getElem? (i := 88) (by decide +kernel), by decide +kernel⟩
theorem xw_cod_X3_init : Cond.code yX3_init cX3_init 1 none ∈ xmTs := List.mem_filter.mpr ⟨List.mem_of_getElem? (i := 89) (by decide +kernel), by decide +kernel⟩
theorem xw_ml_X3_1 : Cond.methodLink RX3 1 objectInit ∈ xmTs := List.mem_filter.mpr ⟨List.mem_of_getElem? (i := 90) (by decide +kernel), by decide +kernel⟩
theorem xw_fl_X3_7 : Cond.fieldLink RX3 7 (TX3 0).1 (TX3 0).2.1 (TX3 0).2.2.1 ∈ xmTs := List.mem_filter.mpr ⟨List.mem_of_getElem? (i := 91) (by decide +kernel), by decide +kernel⟩
theorem xw_fl_X0_31 : Cond.fieldLink RX0 31 (TX3 0).1 (TX3 0).2.1 (TX3 0).2.2.1 ∈ xmTs := List.mem_filter.mpr ⟨List.mem_of_getElem? (i := 92) (by decide +kernel), by decide +kernel⟩
theorem xw_fl_X4_226 : Cond.fieldLink RX4 226 (TX3 0).1 (TX3 0).2.1 (TX3 0).2.2.1 ∈ xmTs := List.mem_filter.mpr ⟨List.mem_of_getElem? (i := 93) (by decide +kernel), by decide +kernel⟩
theorem xw_fl_X3_13 : Cond.fieldLink RX3 13 (TX3 1).1 (TX3 1).2.1 (TX3 1).2.2.1 ∈ xmTs := List.mem_filter.mpr ⟨List.mem_of_getElem? (i := 94) (by decide +kernel), by decide +kernel⟩
theorem xw_fl_X0_49 : Cond.fieldLink RX0 49 (TX3 1).1 (TX3 1).2.1 (TX3 1).2.2.1 ∈ xmTs := List.mem_filter.mpr ⟨List.mem_of_getElem? (i := 95) (by decide +kernel), by decide +kernel⟩
theorem xw_fl_X4_229 : Cond.fieldLink RX4 229 (TX3 1).1 (TX3 1).2.1 (TX3 1).2.2.1 ∈ xmTs := List.mem_filter.mpr ⟨List.mem_of_getElem? (i := 96) (by decide +kernel), by decide +kernel⟩
theorem xw_fl_X3_16 : Cond.fieldLink RX3 16 (TX3 2).1 (TX3 2).2.1 (TX3 2).2.2.1 ∈ xmTs := List.mem_filter.mpr ⟨List.mem_of_getElem? (i := 97) (by decide +kernel), by decide +kernel⟩
theorem xw_fl_X0_18 : Cond.fieldLink RX0 18 (TX3 2).1 (TX3 2).2.1 (TX3 2).2.2.1 ∈ xmTs := List.mem_filter.mpr ⟨List.mem_of_getElem? (i := 98) (by decide +kernel), by decide +kernel⟩
theorem xw_fl_X4_232 : Cond.fieldLink RX4 232 (TX3 2).1 (TX3 2).2.1 (TX3 2).2.2.1 ∈ xmTs := List.mem_filter.mpr ⟨List.mem_of_getElem? (i := 99) (by decide +kernel), by decide +kernel⟩
theorem xw_lay_X3_0 : u_lay RX3 TX3 0 ∈ xmTs := List.mem_filter.mpr ⟨List.mem_of_getElem? (i := 100) (by decide +kernel), by decide +kernel⟩
theorem xw_lay_X3_1 : u_lay RX3 TX3 1 ∈ xmTs := List.mem_filter.mpr ⟨List.mem_of_getElem? (i := 102) (by decide +kernel), by decide +kernel⟩
theorem xw_lay_X3_2 : u_lay RX3 TX3 2 ∈ xmTs := List.mem_filter.mpr ⟨List.mem_of_getElem? (i := 104) (by decide +kernel), by decide +kernel⟩
theorem xw_arr_int : Cond.arrayClass (newarray.typeOf .int) ∈ xmTs := List.mem_filter.mpr ⟨List.mem_of_getElem? (i := 107) (by decide +kernel), by decide +kernel⟩
theorem xw_fl_X0_12 : Cond.fieldLink RX0 12 (TX0 0).1 (TX0 0).2.1 (TX0 0).2.2.1 ∈ xmTs := List.mem_filter.mpr ⟨List.mem_of_getElem? (i := 108) (by decide +kernel), by decide +kernel⟩
theorem xw_fl_X4_135 : Cond.fieldLink RX4 135 (TX0 0).1 (TX0 0).2.1 (TX0 0).2.2.1 ∈ xmTs := List.mem_filter.mpr ⟨List.mem_of_getElem? (i := 109) (by decide +kernel), by decide +kernel⟩
theorem xw_lay_X0_0 : u_lay RX0 TX0 0 ∈ xmTs := List.mem_filter.mpr ⟨List.mem_of_getElem? (i := 110) (by decide +kernel), by decide +kernel⟩
theorem xw_cl_X4_38 : Cond.classLink RX4 38 RX3 ∈ xmTs := List.mem_filter.mpr ⟨List.mem_of_getElem? (i := 113) (by decide +kernel), by decide +kernel⟩
theorem xw_inst_X2 : Cond.instantiable RX2 3 ∈ xmTs := List.mem_filter.mpr ⟨List.mem_of_getElem? (i := 115) (by decide +kernel), by decide +kernel⟩
theorem xw_ins_X2_init : Cond.instanceMethod yX2_init ∈ xmTs := List.mem_filter.mpr ⟨List.mem_of_getElem? (i := 117) (by decide +kernel), by decide +kernel⟩
theorem xw_cod_X2_init : Cond.code yX2_init cX2_init 1 none ∈ xmTs := List.mem_filter.mpr ⟨List.mem_of_getElem? (i := 118) (by decide +kernel), by decide +kernel⟩
theorem xw_ml_X2_3 : Cond.methodLink RX2 3 objectInit ∈ xmTs := List.mem_filter.mpr ⟨List.mem_of_getElem? (i := 119) (by decide +kernel), by decide +kernel⟩
theorem xw_fl_X2_9 : Cond.fieldLink RX2 9 (TX2 0).1 (TX2 0).2.1 (TX2 0).2.2.1 ∈ xmTs := List.mem_filter.mpr ⟨List.mem_of_getElem? (i := 120) (by decide +kernel), by decide +kernel⟩
theorem xw_fl_X4_190 : Cond.fieldLink RX4 190 (TX2 0).1 (TX2 0).2.1 (TX2 0).2.2.1 ∈ xmTs := List.mem_filter.mpr ⟨List.mem_of_getElem? (i := 121) (by decide +kernel), by decide +kernel⟩
theorem xw_fl_X0_147 : Cond.fieldLink RX0 147 (TX2 0).1 (TX2 0).2.1 (TX2 0).2.2.1 ∈ xmTs := List.mem_filter.mpr ⟨List.mem_of_getElem? (i := 122) (by decide +kernel), by decide +kernel⟩
theorem xw_fl_X2_15 : Cond.fieldLink RX2 15 (TX2 1).1 (TX2 1).2.1 (TX2 1).2.2.1 ∈ xmTs := List.mem_filter.mpr ⟨List.mem_of_getElem? (i := 123) (by decide +kernel), by decide +kernel⟩
theorem xw_fl_X4_206 : Cond.fieldLink RX4 206 (TX2 1).1 (TX2 1).2.1 (TX2 1).2.2.1 ∈ xmTs := List.mem_filter.mpr ⟨List.mem_of_getElem? (i := 124) (by decide +kernel), by decide +kernel⟩
theorem xw_fl_X0_165 : Cond.fieldLink RX0 165 (TX2 1).1 (TX2 1).2.1 (TX2 1).2.2.1 ∈ xmTs := List.mem_filter.mpr ⟨List.mem_of_getElem? (i := 125) (by decide +kernel), by decide +kernel⟩
theorem xw_fl_X2_19 : Cond.fieldLink RX2 19 (TX2 2).1 (TX2 2).2.1 (TX2 2).2.2.1 ∈ xmTs := List.mem_filter.mpr ⟨List.mem_of_getElem? (i := 126) (by decide +kernel), by decide +kernel⟩
theorem xw_lay_X2_0 : u_lay RX2 TX2 0 ∈ xmTs := List.mem_filter.mpr ⟨List.mem_of_getElem? (i := 127) (by decide +kernel), by decide +kernel⟩
theorem xw_lay_X2_1 : u_lay RX2 TX2 1 ∈ xmTs := List.mem_filter.mpr ⟨List.mem_of_getElem? (i := 129) (by decide +kernel), by decide +kernel⟩
theorem xw_lay_X2_2 : u_lay RX2 TX2 2 ∈ xmTs := List.mem_filter.mpr ⟨List.mem_of_getElem? (i := 131) (by decide +kernel), by decide +kernel⟩
theorem xw_fl_X4_13 : Cond.fieldLink RX4 13 (TX4 0).1 (TX4 0).2.1 (TX4 0).2.2.1 ∈ xmTs := List.mem_filter.mpr ⟨List.mem_of_getElem? (i := 134) (by decide +kernel), by decide +kernel⟩
theorem xw_fl_X4_17 : Cond.fieldLink RX4 17 (TX4 1).1 (TX4 1).2.1 (TX4 1).2.2.1 ∈ xmTs := List.mem_filter.mpr ⟨List.mem_of_getElem? (i := 135) (by decide +kernel), by decide +kernel⟩
theorem xw_fl_X4_23 : Cond.fieldLink RX4 23 (TX4 2).1 (TX4 2).2.1 (TX4 2).2.2.1 ∈ xmTs := List.mem_filter.mpr ⟨List.mem_of_getElem? (i := 136) (by decide +kernel), by decide +kernel⟩
theorem xw_fl_X4_27 : Cond.fieldLink RX4 27 (TX4 3).1 (TX4 3).2.1 (TX4 3).2.2.1 ∈ xmTs := List.mem_filter.mpr ⟨List.mem_of_getElem? (i := 137) (by decide +kernel), by decide +kernel⟩
theorem xw_fl_X4_34 : Cond.fieldLink RX4 34 (TX4 4).1 (TX4 4).2.1 (TX4 4).2.2.1 ∈ xmTs := List.mem_filter.mpr ⟨List.mem_of_getElem? (i := 138) (by decide +kernel), by decide +kernel⟩
theorem xw_fl_X4_41 : Cond.fieldLink RX4 41 (TX4 5).1 (TX4 5).2.1 (TX4 5).2.2.1 ∈ xmTs := List.mem_filter.mpr ⟨List.mem_of_getElem? (i := 139) (by decide +kernel), by decide +kernel⟩
theorem xw_fl_X4_45 : Cond.fieldLink RX4 45 (TX4 6).1 (TX4 6).2.1 (TX4 6).2.2.1 ∈ xmTs := List.mem_filter.mpr ⟨List.mem_of_getElem? (i := 140) (by decide +kernel), by decide +kernel⟩
theorem xw_fl_X4_48 : Cond.fieldLink RX4 48 (TX4 7).1 (TX4 7).2.1 (TX4 7).2.2.1 ∈ xmTs := List.mem_filter.mpr ⟨List.mem_of_getElem? (i := 141) (by decide +kernel), by decide +kernel⟩
theorem xw_fl_X4_52 : Cond.fieldLink RX4 52 (TX4 8).1 (TX4 8).2.1 (TX4 8).2.2.1 ∈ xmTs := List.mem_filter.mpr ⟨List.mem_of_getElem? (i := 142) (by decide +kernel), by decide +kernel⟩
theorem xw_fl_X4_55 : Cond.fieldLink RX4 55 (TX4 9).1 (TX4 9).2.1 (TX4 9).2.2.1 ∈ xmTs := List.mem_filter.mpr ⟨List.mem_of_getElem? (i := 143) (by decide +kernel), by decide +kernel⟩
theorem xw_fl_X4_58 : Cond.fieldLink RX4 58 (TX4 10).1 (TX4 10).2.1 (TX4 10).2.2.1 ∈ xmTs := List.mem_filter.mpr ⟨List.mem_of_getElem? (i := 144) (by decide +kernel), by decide +kernel⟩
theorem xw_lay_X4_0 : u_lay RX4 TX4 0 ∈ xmTs := List.mem_filter.mpr ⟨List.mem_of_getElem? (i := 145) (by decide +kernel), by decide +kernel⟩
theorem xw_lay_X4_1 : u_lay RX4 TX4 1 ∈ xmTs := List.mem_filter.mpr ⟨List.mem_of_getElem? (i := 147) (by decide +kernel), by decide +kernel⟩
theorem xw_lay_X4_2 : u_lay RX4 TX4 2 ∈ xmTs := List.mem_filter.mpr ⟨List.mem_of_getElem? (i := 149) (by decide +kernel), by decide +kernel⟩
theorem xw_lay_X4_3 : u_lay RX4 TX4 3 ∈ xmTs := List.mem_filter.mpr ⟨List.mem_of_getElem? (i := 151) (by decide +kernel), by decide +kernel⟩
theorem xw_lay_X4_4 : u_lay RX4 TX4 4 ∈ xmTs := List.mem_filter.mpr ⟨List.mem_of_getElem? (i := 153) (by decide +kernel), by decide +kernel⟩
theorem xw_lay_X4_5 : u_lay RX4 TX4 5 ∈ xmTs := List.mem_filter.mpr ⟨List.mem_of_getElem? (i := 155) (by decide +kernel), by decide +kernel⟩
theorem xw_lay_X4_6 : u_lay RX4 TX4 6 ∈ xmTs := List.mem_filter.mpr ⟨List.mem_of_getElem? (i := 157) (by decide +kernel), by decide +kernel⟩
theorem xw_lay_X4_7 : u_lay RX4 TX4 7 ∈ xmTs := List.mem_filter.mpr ⟨List.mem_of_getElem? (i := 159) (by decide +kernel), by decide +kernel⟩
theorem xw_lay_X4_8 : u_lay RX4 TX4 8 ∈ xmTs := List.mem_filter.mpr ⟨List.mem_of_getElem? (i := 161) (by decide +kernel), by decide +kernel⟩
theorem xw_lay_X4_9 : u_lay RX4 TX4 9 ∈ xmTs := List.mem_filter.mpr ⟨List.mem_of_getElem? (i := 163) (by decide +kernel), by decide +kernel⟩
theorem xw_lay_X4_10 : u_lay RX4 TX4 10 ∈ xmTs := List.mem_filter.mpr ⟨List.mem_of_getElem? (i := 165) (by decide +kernel), by decide +kernel⟩
theorem xw_ml_L_13 : Cond.methodLink RL 13 yX4_format ∈ xmTs := List.mem_filter.mpr ⟨List.mem_of_getElem? (i := 168) (by decide +kernel), by decide +kernel⟩
theorem xw_ins_X4_format : Cond.instanceMethod yX4_format ∈ xmTs := List.mem_filter.mpr ⟨List.mem_of_getElem? (i := 169) (by decide +kernel), by decide +kernel⟩
theorem xw_sel_X4_format : Cond.selects yX4_format.cls yX4_format yX4_format ∈ xmTs := List.mem_filter.mpr ⟨List.mem_of_getElem? (i := 170) (by decide +kernel), by decide +kernel⟩
theorem xw_cod_X4_format : Cond.code yX4_format cX4_format 10 (some (FieldType.int)) ∈ xmTs := List.mem_filter.mpr ⟨List.mem_of_getElem? (i := 171) (by decide +kernel), by decide +kernel⟩
theorem xw_ml_X4_62 : Cond.methodLink RX4 62 yX4_within ∈ xmTs := List.mem_filter.mpr ⟨List.mem_of_getElem? (i := 172) (by decide +kernel), by decide +kernel⟩
theorem xw_sta_X4_within : Cond.static yX4_within ∈ xmTs := List.mem_filter.mpr ⟨List.mem_of_getElem? (i := 173) (by decide +kernel), by decide +kernel⟩
theorem xw_cod_X4_within : Cond.code yX4_within cX4_within 3 (some (FieldType.boolean)) ∈ xmTs := List.mem_filter.mpr ⟨List.mem_of_getElem? (i := 174) (by decide +kernel), by decide +kernel⟩
theorem xw_ml_X4_66 : Cond.methodLink RX4 66 yX4_refused ∈ xmTs := List.mem_filter.mpr ⟨List.mem_of_getElem? (i := 175) (by decide +kernel), by decide +kernel⟩
theorem xw_ins_X4_refused : Cond.instanceMethod yX4_refused ∈ xmTs := List.mem_filter.mpr ⟨List.mem_of_getElem? (i := 177) (by decide +kernel), by decide +kernel⟩
theorem xw_cod_X4_refused : Cond.code yX4_refused cX4_refused 2 (some (FieldType.int)) ∈ xmTs := List.mem_filter.mpr ⟨List.mem_of_getElem? (i := 178) (by decide +kernel), by decide +kernel⟩
theorem xw_inst_X1 : Cond.instantiable RX1 7 ∈ xmTs := List.mem_filter.mpr ⟨List.mem_of_getElem? (i := 179) (by decide +kernel), by decide +kernel⟩
theorem xw_ml_X4_70 : Cond.methodLink RX4 70 yX1_init ∈ xmTs := List.mem_filter.mpr ⟨List.mem_of_getElem? (i := 180) (by decide +kernel), by decide +kernel⟩
theorem xw_ins_X1_init : Cond.instanceMethod yX1_init ∈ xmTs := List.mem_filter.mpr ⟨List.mem_of_getElem? (i := 181) (by decide +kernel), by decide +kernel⟩
theorem xw_cod_X1_init : Cond.code yX1_init cX1_init 8 none ∈ xmTs := List.mem_filter.mpr ⟨List.mem_of_getElem? (i := 182) (by decide +kernel), by decide +kernel⟩
theorem xw_ml_X1_3 : Cond.methodLink RX1 3 objectInit ∈ xmTs := List.mem_filter.mpr ⟨List.mem_of_getElem? (i := 183) (by decide +kernel), by decide +kernel⟩
theorem xw_fl_X1_9 : Cond.fieldLink RX1 9 (TX1 0).1 (TX1 0).2.1 (TX1 0).2.2.1 ∈ xmTs := List.mem_filter.mpr ⟨List.mem_of_getElem? (i := 184) (by decide +kernel), by decide +kernel⟩
theorem xw_fl_X0_28 : Cond.fieldLink RX0 28 (TX1 0).1 (TX1 0).2.1 (TX1 0).2.2.1 ∈ xmTs := List.mem_filter.mpr ⟨List.mem_of_getElem? (i := 185) (by decide +kernel), by decide +kernel⟩
theorem xw_fl_X4_101 : Cond.fieldLink RX4 101 (TX1 0).1 (TX1 0).2.1 (TX1 0).2.2.1 ∈ xmTs := List.mem_filter.mpr ⟨List.mem_of_getElem? (i := 186) (by decide +kernel), by decide +kernel⟩
theorem xw_fl_X1_15 : Cond.fieldLink RX1 15 (TX1 1).1 (TX1 1).2.1 (TX1 1).2.2.1 ∈ xmTs := List.mem_filter.mpr ⟨List.mem_of_getElem? (i := 187) (by decide +kernel), by decide +kernel⟩
theorem xw_fl_X1_18 : Cond.fieldLink RX1 18 (TX1 2).1 (TX1 2).2.1 (TX1 2).2.2.1 ∈ xmTs := List.mem_filter.mpr ⟨List.mem_of_getElem? (i := 188) (by decide +kernel), by decide +kernel⟩
theorem xw_fl_X1_21 : Cond.fieldLink RX1 21 (TX1 3).1 (TX1 3).2.1 (TX1 3).2.2.1 ∈ xmTs := List.mem_filter.mpr ⟨List.mem_of_getElem? (i := 189) (by decide +kernel), by decide +kernel⟩
theorem xw_fl_X1_24 : Cond.fieldLink RX1 24 (TX1 4).1 (TX1 4).2.1 (TX1 4).2.2.1 ∈ xmTs := List.mem_filter.mpr ⟨List.mem_of_getElem? (i := 190) (by decide +kernel), by decide +kernel⟩
theorem xw_fl_X1_28 : Cond.fieldLink RX1 28 (TX1 5).1 (TX1 5).2.1 (TX1 5).2.2.1 ∈ xmTs := List.mem_filter.mpr ⟨List.mem_of_getElem? (i := 191) (by decide +kernel), by decide +kernel⟩
theorem xw_fl_X4_94 : Cond.fieldLink RX4 94 (TX1 5).1 (TX1 5).2.1 (TX1 5).2.2.1 ∈ xmTs := List.mem_filter.mpr ⟨List.mem_of_getElem? (i := 192) (by decide +kernel), by decide +kernel⟩
theorem xw_fl_X1_31 : Cond.fieldLink RX1 31 (TX1 6).1 (TX1 6).2.1 (TX1 6).2.2.1 ∈ xmTs := List.mem_filter.mpr ⟨List.mem_of_getElem? (i := 193) (by decide +kernel), by decide +kernel⟩
theorem xw_fl_X0_46 : Cond.fieldLink RX0 46 (TX1 6).1 (TX1 6).2.1 (TX1 6).2.2.1 ∈ xmTs := List.mem_filter.mpr ⟨List.mem_of_getElem? (i := 194) (by decide +kernel), by decide +kernel⟩
theorem xw_fl_X4_88 : Cond.fieldLink RX4 88 (TX1 6).1 (TX1 6).2.1 (TX1 6).2.2.1 ∈ xmTs := List.mem_filter.mpr ⟨List.mem_of_getElem? (i := 195) (by decide +kernel), by decide +kernel⟩
theorem xw_lay_X1_0 : u_lay RX1 TX1 0 ∈ xmTs := List.mem_filter.mpr ⟨List.mem_of_getElem? (i := 196) (by decide +kernel), by decide +kernel⟩
theorem xw_lay_X1_1 : u_lay RX1 TX1 1 ∈ xmTs := List.mem_filter.mpr ⟨List.mem_of_getElem? (i := 198) (by decide +kernel), by decide +kernel⟩
theorem xw_lay_X1_2 : u_lay RX1 TX1 2 ∈ xmTs := List.mem_filter.mpr ⟨List.mem_of_getElem? (i := 200) (by decide +kernel), by decide +kernel⟩
theorem xw_lay_X1_3 : u_lay RX1 TX1 3 ∈ xmTs := List.mem_filter.mpr ⟨List.mem_of_getElem? (i := 202) (by decide +kernel), by decide +kernel⟩
theorem xw_lay_X1_4 : u_lay RX1 TX1 4 ∈ xmTs := List.mem_filter.mpr ⟨List.mem_of_getElem? (i := 204) (by decide +kernel), by decide +kernel⟩
theorem xw_lay_X1_5 : u_lay RX1 TX1 5 ∈ xmTs := List.mem_filter.mpr ⟨List.mem_of_getElem? (i := 206) (by decide +kernel), by decide +kernel⟩
theorem xw_lay_X1_6 : u_lay RX1 TX1 6 ∈ xmTs := List.mem_filter.mpr ⟨List.mem_of_getElem? (i := 208) (by decide +kernel), by decide +kernel⟩
theorem xw_ml_X4_73 : Cond.methodLink RX4 73 yX4_formatAt ∈ xmTs := List.mem_filter.mpr ⟨List.mem_of_getElem? (i := 211) (by decide +kernel), by decide +kernel⟩
theorem xw_ins_X4_formatAt : Cond.instanceMethod yX4_formatAt ∈ xmTs := List.mem_filter.mpr ⟨List.mem_of_getElem? (i := 213) (by decide +kernel), by decide +kernel⟩
theorem xw_cod_X4_formatAt : Cond.code yX4_formatAt cX4_formatAt 2 (some (FieldType.object "SmallFloats$Format")) ∈ xmTs := List.mem_filter.mpr ⟨List.mem_of_getElem? (i := 214) (by decide +kernel), by decide +kernel⟩
theorem xw_ml_X4_77 : Cond.methodLink RX4 77 yX1_isAlike ∈ xmTs := List.mem_filter.mpr ⟨List.mem_of_getElem? (i := 215) (by decide +kernel), by decide +kernel⟩
theorem xw_ins_X1_isAlike : Cond.instanceMethod yX1_isAlike ∈ xmTs := List.mem_filter.mpr ⟨List.mem_of_getElem? (i := 216) (by decide +kernel), by decide +kernel⟩
theorem xw_sel_X1_isAlike : Cond.selects yX1_isAlike.cls yX1_isAlike yX1_isAlike ∈ xmTs := List.mem_filter.mpr ⟨List.mem_of_getElem? (i := 217) (by decide +kernel), by decide +kernel⟩
theorem xw_cod_X1_isAlike : Cond.code yX1_isAlike cX1_isAlike 2 (some (FieldType.boolean)) ∈ xmTs := List.mem_filter.mpr ⟨List.mem_of_getElem? (i := 218) (by decide +kernel), by decide +kernel⟩
theorem xw_ml_X4_81 : Cond.methodLink RX4 81 yX4_answered ∈ xmTs := List.mem_filter.mpr ⟨List.mem_of_getElem? (i := 219) (by decide +kernel), by decide +kernel⟩
theorem xw_ins_X4_answered : Cond.instanceMethod yX4_answered ∈ xmTs := List.mem_filter.mpr ⟨List.mem_of_getElem? (i := 221) (by decide +kernel), by decide +kernel⟩
theorem xw_cod_X4_answered : Cond.code yX4_answered cX4_answered 2 (some (FieldType.int)) ∈ xmTs := List.mem_filter.mpr ⟨List.mem_of_getElem? (i := 222) (by decide +kernel), by decide +kernel⟩
theorem xw_ml_L_18 : Cond.methodLink RL 18 yX4_about ∈ xmTs := List.mem_filter.mpr ⟨List.mem_of_getElem? (i := 223) (by decide +kernel), by decide +kernel⟩
theorem xw_ins_X4_about : Cond.instanceMethod yX4_about ∈ xmTs := List.mem_filter.mpr ⟨List.mem_of_getElem? (i := 224) (by decide +kernel), by decide +kernel⟩
theorem xw_sel_X4_about : Cond.selects yX4_about.cls yX4_about yX4_about ∈ xmTs := List.mem_filter.mpr ⟨List.mem_of_getElem? (i := 225) (by decide +kernel), by decide +kernel⟩
theorem xw_cod_X4_about : Cond.code yX4_about cX4_about 4 (some (FieldType.int)) ∈ xmTs := List.mem_filter.mpr ⟨List.mem_of_getElem? (i := 226) (by decide +kernel), by decide +kernel⟩
theorem xw_ml_X4_84 : Cond.methodLink RX4 84 yX1_bits ∈ xmTs := List.mem_filter.mpr ⟨List.mem_of_getElem? (i := 227) (by decide +kernel), by decide +kernel⟩
theorem xw_ins_X1_bits : Cond.instanceMethod yX1_bits ∈ xmTs := List.mem_filter.mpr ⟨List.mem_of_getElem? (i := 228) (by decide +kernel), by decide +kernel⟩
theorem xw_sel_X1_bits : Cond.selects yX1_bits.cls yX1_bits yX1_bits ∈ xmTs := List.mem_filter.mpr ⟨List.mem_of_getElem? (i := 229) (by decide +kernel), by decide +kernel⟩
theorem xw_cod_X1_bits : Cond.code yX1_bits cX1_bits 1 (some (FieldType.int)) ∈ xmTs := List.mem_filter.mpr ⟨List.mem_of_getElem? (i := 230) (by decide +kernel), by decide +kernel⟩
theorem xw_ml_X4_91 : Cond.methodLink RX4 91 yX1_noneCode ∈ xmTs := List.mem_filter.mpr ⟨List.mem_of_getElem? (i := 231) (by decide +kernel), by decide +kernel⟩
theorem xw_ins_X1_noneCode : Cond.instanceMethod yX1_noneCode ∈ xmTs := List.mem_filter.mpr ⟨List.mem_of_getElem? (i := 232) (by decide +kernel), by decide +kernel⟩
theorem xw_sel_X1_noneCode : Cond.selects yX1_noneCode.cls yX1_noneCode yX1_noneCode ∈ xmTs := List.mem_filter.mpr ⟨List.mem_of_getElem? (i := 233) (by decide +kernel), by decide +kernel⟩
theorem xw_cod_X1_noneCode : Cond.code yX1_noneCode cX1_noneCode 2 (some (FieldType.int)) ∈ xmTs := List.mem_filter.mpr ⟨List.mem_of_getElem? (i := 234) (by decide +kernel), by decide +kernel⟩
theorem xw_ml_X4_97 : Cond.methodLink RX4 97 yX1_beyond ∈ xmTs := List.mem_filter.mpr ⟨List.mem_of_getElem? (i := 235) (by decide +kernel), by decide +kernel⟩
theorem xw_ins_X1_beyond : Cond.instanceMethod yX1_beyond ∈ xmTs := List.mem_filter.mpr ⟨List.mem_of_getElem? (i := 236) (by decide +kernel), by decide +kernel⟩
theorem xw_sel_X1_beyond : Cond.selects yX1_beyond.cls yX1_beyond yX1_beyond ∈ xmTs := List.mem_filter.mpr ⟨List.mem_of_getElem? (i := 237) (by decide +kernel), by decide +kernel⟩
theorem xw_cod_X1_beyond : Cond.code yX1_beyond cX1_beyond 2 (some (FieldType.int)) ∈ xmTs := List.mem_filter.mpr ⟨List.mem_of_getElem? (i := 238) (by decide +kernel), by decide +kernel⟩
theorem xw_ml_X1_40 : Cond.methodLink RX1 40 yX1_noneCode ∈ xmTs := List.mem_filter.mpr ⟨List.mem_of_getElem? (i := 239) (by decide +kernel), by decide +kernel⟩
theorem xw_ml_X1_44 : Cond.methodLink RX1 44 yX1_withSign ∈ xmTs := List.mem_filter.mpr ⟨List.mem_of_getElem? (i := 240) (by decide +kernel), by decide +kernel⟩
theorem xw_ins_X1_withSign : Cond.instanceMethod yX1_withSign ∈ xmTs := List.mem_filter.mpr ⟨List.mem_of_getElem? (i := 241) (by decide +kernel), by decide +kernel⟩
theorem xw_sel_X1_withSign : Cond.selects yX1_withSign.cls yX1_withSign yX1_withSign ∈ xmTs := List.mem_filter.mpr ⟨List.mem_of_getElem? (i := 242) (by decide +kernel), by decide +kernel⟩
theorem xw_cod_X1_withSign : Cond.code yX1_withSign cX1_withSign 3 (some (FieldType.int)) ∈ xmTs := List.mem_filter.mpr ⟨List.mem_of_getElem? (i := 243) (by decide +kernel), by decide +kernel⟩
theorem xw_ml_X4_104 : Cond.methodLink RX4 104 yX1_scale ∈ xmTs := List.mem_filter.mpr ⟨List.mem_of_getElem? (i := 244) (by decide +kernel), by decide +kernel⟩
theorem xw_ins_X1_scale : Cond.instanceMethod yX1_scale ∈ xmTs := List.mem_filter.mpr ⟨List.mem_of_getElem? (i := 245) (by decide +kernel), by decide +kernel⟩
theorem xw_sel_X1_scale : Cond.selects yX1_scale.cls yX1_scale yX1_scale ∈ xmTs := List.mem_filter.mpr ⟨List.mem_of_getElem? (i := 246) (by decide +kernel), by decide +kernel⟩
theorem xw_cod_X1_scale : Cond.code yX1_scale cX1_scale 1 (some (FieldType.int)) ∈ xmTs := List.mem_filter.mpr ⟨List.mem_of_getElem? (i := 247) (by decide +kernel), by decide +kernel⟩
theorem xw_ml_L_23 : Cond.methodLink RL 23 yX4_kind ∈ xmTs := List.mem_filter.mpr ⟨List.mem_of_getElem? (i := 248) (by decide +kernel), by decide +kernel⟩
theorem xw_ins_X4_kind : Cond.instanceMethod yX4_kind ∈ xmTs := List.mem_filter.mpr ⟨List.mem_of_getElem? (i := 249) (by decide +kernel), by decide +kernel⟩
theorem xw_sel_X4_kind : Cond.selects yX4_kind.cls yX4_kind yX4_kind ∈ xmTs := List.mem_filter.mpr ⟨List.mem_of_getElem? (i := 250) (by decide +kernel), by decide +kernel⟩
theorem xw_cod_X4_kind : Cond.code yX4_kind cX4_kind 5 (some (FieldType.int)) ∈ xmTs := List.mem_filter.mpr ⟨List.mem_of_getElem? (i := 251) (by decide +kernel), by decide +kernel⟩
theorem xw_ml_X4_107 : Cond.methodLink RX4 107 yX1_hasCode ∈ xmTs := List.mem_filter.mpr ⟨List.mem_of_getElem? (i := 252) (by decide +kernel), by decide +kernel⟩
theorem xw_ins_X1_hasCode : Cond.instanceMethod yX1_hasCode ∈ xmTs := List.mem_filter.mpr ⟨List.mem_of_getElem? (i := 253) (by decide +kernel), by decide +kernel⟩
theorem xw_sel_X1_hasCode : Cond.selects yX1_hasCode.cls yX1_hasCode yX1_hasCode ∈ xmTs := List.mem_filter.mpr ⟨List.mem_of_getElem? (i := 254) (by decide +kernel), by decide +kernel⟩
theorem xw_cod_X1_hasCode : Cond.code yX1_hasCode cX1_hasCode 2 (some (FieldType.boolean)) ∈ xmTs := List.mem_filter.mpr ⟨List.mem_of_getElem? (i := 255) (by decide +kernel), by decide +kernel⟩
theorem xw_ml_X1_48 : Cond.methodLink RX1 48 yX1_bits ∈ xmTs := List.mem_filter.mpr ⟨List.mem_of_getElem? (i := 256) (by decide +kernel), by decide +kernel⟩
theorem xw_ml_X4_111 : Cond.methodLink RX4 111 yX1_isMinus ∈ xmTs := List.mem_filter.mpr ⟨List.mem_of_getElem? (i := 257) (by decide +kernel), by decide +kernel⟩
theorem xw_ins_X1_isMinus : Cond.instanceMethod yX1_isMinus ∈ xmTs := List.mem_filter.mpr ⟨List.mem_of_getElem? (i := 258) (by decide +kernel), by decide +kernel⟩
theorem xw_sel_X1_isMinus : Cond.selects yX1_isMinus.cls yX1_isMinus yX1_isMinus ∈ xmTs := List.mem_filter.mpr ⟨List.mem_of_getElem? (i := 259) (by decide +kernel), by decide +kernel⟩
theorem xw_cod_X1_isMinus : Cond.code yX1_isMinus cX1_isMinus 2 (some (FieldType.boolean)) ∈ xmTs := List.mem_filter.mpr ⟨List.mem_of_getElem? (i := 260) (by decide +kernel), by decide +kernel⟩
theorem xw_ml_X4_114 : Cond.methodLink RX4 114 yX1_kindOf ∈ xmTs := List.mem_filter.mpr ⟨List.mem_of_getElem? (i := 261) (by decide +kernel), by decide +kernel⟩
theorem xw_ins_X1_kindOf : Cond.instanceMethod yX1_kindOf ∈ xmTs := List.mem_filter.mpr ⟨List.mem_of_getElem? (i := 262) (by decide +kernel), by decide +kernel⟩
theorem xw_sel_X1_kindOf : Cond.selects yX1_kindOf.cls yX1_kindOf yX1_kindOf ∈ xmTs := List.mem_filter.mpr ⟨List.mem_of_getElem? (i := 263) (by decide +kernel), by decide +kernel⟩
theorem xw_cod_X1_kindOf : Cond.code yX1_kindOf cX1_kindOf 3 (some (FieldType.int)) ∈ xmTs := List.mem_filter.mpr ⟨List.mem_of_getElem? (i := 264) (by decide +kernel), by decide +kernel⟩
theorem xw_ml_X1_51 : Cond.methodLink RX1 51 yX1_magnitude ∈ xmTs := List.mem_filter.mpr ⟨List.mem_of_getElem? (i := 265) (by decide +kernel), by decide +kernel⟩
theorem xw_ins_X1_magnitude : Cond.instanceMethod yX1_magnitude ∈ xmTs := List.mem_filter.mpr ⟨List.mem_of_getElem? (i := 266) (by decide +kernel), by decide +kernel⟩
theorem xw_sel_X1_magnitude : Cond.selects yX1_magnitude.cls yX1_magnitude yX1_magnitude ∈ xmTs := List.mem_filter.mpr ⟨List.mem_of_getElem? (i := 267) (by decide +kernel), by decide +kernel⟩
theorem xw_cod_X1_magnitude : Cond.code yX1_magnitude cX1_magnitude 2 (some (FieldType.int)) ∈ xmTs := List.mem_filter.mpr ⟨List.mem_of_getElem? (i := 268) (by decide +kernel), by decide +kernel⟩
theorem xw_ml_X1_62 : Cond.methodLink RX1 62 yX1_isNone ∈ xmTs := List.mem_filter.mpr ⟨List.mem_of_getElem? (i := 269) (by decide +kernel), by decide +kernel⟩
theorem xw_ins_X1_isNone : Cond.instanceMethod yX1_isNone ∈ xmTs := List.mem_filter.mpr ⟨List.mem_of_getElem? (i := 270) (by decide +kernel), by decide +kernel⟩
theorem xw_sel_X1_isNone : Cond.selects yX1_isNone.cls yX1_isNone yX1_isNone ∈ xmTs := List.mem_filter.mpr ⟨List.mem_of_getElem? (i := 271) (by decide +kernel), by decide +kernel⟩
theorem xw_cod_X1_isNone : Cond.code yX1_isNone cX1_isNone 2 (some (FieldType.boolean)) ∈ xmTs := List.mem_filter.mpr ⟨List.mem_of_getElem? (i := 272) (by decide +kernel), by decide +kernel⟩
theorem xw_ml_X1_55 : Cond.methodLink RX1 55 yX1_isNumber ∈ xmTs := List.mem_filter.mpr ⟨List.mem_of_getElem? (i := 273) (by decide +kernel), by decide +kernel⟩
theorem xw_ins_X1_isNumber : Cond.instanceMethod yX1_isNumber ∈ xmTs := List.mem_filter.mpr ⟨List.mem_of_getElem? (i := 274) (by decide +kernel), by decide +kernel⟩
theorem xw_sel_X1_isNumber : Cond.selects yX1_isNumber.cls yX1_isNumber yX1_isNumber ∈ xmTs := List.mem_filter.mpr ⟨List.mem_of_getElem? (i := 275) (by decide +kernel), by decide +kernel⟩
theorem xw_cod_X1_isNumber : Cond.code yX1_isNumber cX1_isNumber 2 (some (FieldType.boolean)) ∈ xmTs := List.mem_filter.mpr ⟨List.mem_of_getElem? (i := 276) (by decide +kernel), by decide +kernel⟩
theorem xw_ml_X1_59 : Cond.methodLink RX1 59 yX1_isEndless ∈ xmTs := List.mem_filter.mpr ⟨List.mem_of_getElem? (i := 277) (by decide +kernel), by decide +kernel⟩
theorem xw_ins_X1_isEndless : Cond.instanceMethod yX1_isEndless ∈ xmTs := List.mem_filter.mpr ⟨List.mem_of_getElem? (i := 278) (by decide +kernel), by decide +kernel⟩
theorem xw_sel_X1_isEndless : Cond.selects yX1_isEndless.cls yX1_isEndless yX1_isEndless ∈ xmTs := List.mem_filter.mpr ⟨List.mem_of_getElem? (i := 279) (by decide +kernel), by decide +kernel⟩
theorem xw_cod_X1_isEndless : Cond.code yX1_isEndless cX1_isEndless 2 (some (FieldType.boolean)) ∈ xmTs := List.mem_filter.mpr ⟨List.mem_of_getElem? (i := 280) (by decide +kernel), by decide +kernel⟩
theorem xw_ml_L_28 : Cond.methodLink RL 28 yX4_units ∈ xmTs := List.mem_filter.mpr ⟨List.mem_of_getElem? (i := 281) (by decide +kernel), by decide +kernel⟩
theorem xw_ins_X4_units : Cond.instanceMethod yX4_units ∈ xmTs := List.mem_filter.mpr ⟨List.mem_of_getElem? (i := 282) (by decide +kernel), by decide +kernel⟩
theorem xw_sel_X4_units : Cond.selects yX4_units.cls yX4_units yX4_units ∈ xmTs := List.mem_filter.mpr ⟨List.mem_of_getElem? (i := 283) (by decide +kernel), by decide +kernel⟩
theorem xw_cod_X4_units : Cond.code yX4_units cX4_units 4 (some (FieldType.long)) ∈ xmTs := List.mem_filter.mpr ⟨List.mem_of_getElem? (i := 284) (by decide +kernel), by decide +kernel⟩
theorem xw_cst_X4_117 : Cond.constantLong RX4 117 (-9223372036854775808) ∈ xmTs := List.mem_filter.mpr ⟨List.mem_of_getElem? (i := 285) (by decide +kernel), by decide +kernel⟩
theorem xw_ml_X4_119 : Cond.methodLink RX4 119 yX1_isNumber ∈ xmTs := List.mem_filter.mpr ⟨List.mem_of_getElem? (i := 286) (by decide +kernel), by decide +kernel⟩
theorem xw_ml_X4_122 : Cond.methodLink RX4 122 yX1_unitsOf ∈ xmTs := List.mem_filter.mpr ⟨List.mem_of_getElem? (i := 287) (by decide +kernel), by decide +kernel⟩
theorem xw_ins_X1_unitsOf : Cond.instanceMethod yX1_unitsOf ∈ xmTs := List.mem_filter.mpr ⟨List.mem_of_getElem? (i := 288) (by decide +kernel), by decide +kernel⟩
theorem xw_sel_X1_unitsOf : Cond.selects yX1_unitsOf.cls yX1_unitsOf yX1_unitsOf ∈ xmTs := List.mem_filter.mpr ⟨List.mem_of_getElem? (i := 289) (by decide +kernel), by decide +kernel⟩
theorem xw_cod_X1_unitsOf : Cond.code yX1_unitsOf cX1_unitsOf 4 (some (FieldType.long)) ∈ xmTs := List.mem_filter.mpr ⟨List.mem_of_getElem? (i := 290) (by decide +kernel), by decide +kernel⟩
theorem xw_ml_X1_34 : Cond.methodLink RX1 34 yX1_unitsOfMagnitude ∈ xmTs := List.mem_filter.mpr ⟨List.mem_of_getElem? (i := 291) (by decide +kernel), by decide +kernel⟩
theorem xw_ins_X1_unitsOfMagnitude : Cond.instanceMethod yX1_unitsOfMagnitude ∈ xmTs := List.mem_filter.mpr ⟨List.mem_of_getElem? (i := 292) (by decide +kernel), by decide +kernel⟩
theorem xw_sel_X1_unitsOfMagnitude : Cond.selects yX1_unitsOfMagnitude.cls yX1_unitsOfMagnitude yX1_unitsOfMagnitude ∈ xmTs := List.mem_filter.mpr ⟨List.mem_of_getElem? (i := 293) (by decide +kernel), by decide +kernel⟩
theorem xw_cod_X1_unitsOfMagnitude : Cond.code yX1_unitsOfMagnitude cX1_unitsOfMagnitude 5 (some (FieldType.long)) ∈ xmTs := List.mem_filter.mpr ⟨List.mem_of_getElem? (i := 294) (by decide +kernel), by decide +kernel⟩
theorem xw_cst_X1_65 : Cond.constantLong RX1 65 (2) ∈ xmTs := List.mem_filter.mpr ⟨List.mem_of_getElem? (i := 295) (by decide +kernel), by decide +kernel⟩
theorem xw_ml_X1_67 : Cond.methodLink RX1 67 yX1_isMinus ∈ xmTs := List.mem_filter.mpr ⟨List.mem_of_getElem? (i := 296) (by decide +kernel), by decide +kernel⟩
theorem xw_ml_L_35 : Cond.methodLink RL 35 yX4_code ∈ xmTs := List.mem_filter.mpr ⟨List.mem_of_getElem? (i := 297) (by decide +kernel), by decide +kernel⟩
theorem xw_ins_X4_code : Cond.instanceMethod yX4_code ∈ xmTs := List.mem_filter.mpr ⟨List.mem_of_getElem? (i := 298) (by decide +kernel), by decide +kernel⟩
theorem xw_sel_X4_code : Cond.selects yX4_code.cls yX4_code yX4_code ∈ xmTs := List.mem_filter.mpr ⟨List.mem_of_getElem? (i := 299) (by decide +kernel), by decide +kernel⟩
theorem xw_cod_X4_code : Cond.code yX4_code cX4_code 8 (some (FieldType.int)) ∈ xmTs := List.mem_filter.mpr ⟨List.mem_of_getElem? (i := 300) (by decide +kernel), by decide +kernel⟩
theorem xw_cst_X4_126 : Cond.constantLong RX4 126 (-1099511627776) ∈ xmTs := List.mem_filter.mpr ⟨List.mem_of_getElem? (i := 301) (by decide +kernel), by decide +kernel⟩
theorem xw_cst_X4_128 : Cond.constantLong RX4 128 (1099511627776) ∈ xmTs := List.mem_filter.mpr ⟨List.mem_of_getElem? (i := 302) (by decide +kernel), by decide +kernel⟩
theorem xw_cst_X4_130 : Cond.constantLong RX4 130 (1048576) ∈ xmTs := List.mem_filter.mpr ⟨List.mem_of_getElem? (i := 303) (by decide +kernel), by decide +kernel⟩
theorem xw_ml_X4_132 : Cond.methodLink RX4 132 yX4_isMode ∈ xmTs := List.mem_filter.mpr ⟨List.mem_of_getElem? (i := 304) (by decide +kernel), by decide +kernel⟩
theorem xw_sta_X4_isMode : Cond.static yX4_isMode ∈ xmTs := List.mem_filter.mpr ⟨List.mem_of_getElem? (i := 305) (by decide +kernel), by decide +kernel⟩
theorem xw_cod_X4_isMode : Cond.code yX4_isMode cX4_isMode 1 (some (FieldType.boolean)) ∈ xmTs := List.mem_filter.mpr ⟨List.mem_of_getElem? (i := 306) (by decide +kernel), by decide +kernel⟩
theorem xw_ml_X4_138 : Cond.methodLink RX4 138 yX3_clear ∈ xmTs := List.mem_filter.mpr ⟨List.mem_of_getElem? (i := 307) (by decide +kernel), by decide +kernel⟩
theorem xw_ins_X3_clear : Cond.instanceMethod yX3_clear ∈ xmTs := List.mem_filter.mpr ⟨List.mem_of_getElem? (i := 308) (by decide +kernel), by decide +kernel⟩
theorem xw_sel_X3_clear : Cond.selects yX3_clear.cls yX3_clear yX3_clear ∈ xmTs := List.mem_filter.mpr ⟨List.mem_of_getElem? (i := 309) (by decide +kernel), by decide +kernel⟩
theorem xw_cod_X3_clear : Cond.code yX3_clear cX3_clear 1 none ∈ xmTs := List.mem_filter.mpr ⟨List.mem_of_getElem? (i := 310) (by decide +kernel), by decide +kernel⟩
theorem xw_ml_X4_141 : Cond.methodLink RX4 141 yX0_fraction ∈ xmTs := List.mem_filter.mpr ⟨List.mem_of_getElem? (i := 311) (by decide +kernel), by decide +kernel⟩
theorem xw_ins_X0_fraction : Cond.instanceMethod yX0_fraction ∈ xmTs := List.mem_filter.mpr ⟨List.mem_of_getElem? (i := 312) (by decide +kernel), by decide +kernel⟩
theorem xw_sel_X0_fraction : Cond.selects yX0_fraction.cls yX0_fraction yX0_fraction ∈ xmTs := List.mem_filter.mpr ⟨List.mem_of_getElem? (i := 313) (by decide +kernel), by decide +kernel⟩
theorem xw_cod_X0_fraction : Cond.code yX0_fraction cX0_fraction 7 (some (FieldType.int)) ∈ xmTs := List.mem_filter.mpr ⟨List.mem_of_getElem? (i := 314) (by decide +kernel), by decide +kernel⟩
theorem xw_ml_X0_71 : Cond.methodLink RX0 71 Lib.MathLoose.abs_long.x ∈ xmTs := List.mem_filter.mpr ⟨List.mem_of_getElem? (i := 315) (by decide +kernel), by decide +kernel⟩
theorem xw_sta_J9_abs_l : Cond.static Lib.MathLoose.abs_long.x ∈ xmTs := List.mem_filter.mpr ⟨List.mem_of_getElem? (i := 316) (by decide +kernel), by decide +kernel⟩
theorem xw_cod_J9_abs_l : Cond.code Lib.MathLoose.abs_long.x Lib.MathLoose.abs_long.code 2 (some (FieldType.long)) ∈ xmTs := List.mem_filter.mpr ⟨List.mem_of_getElem? (i := 317) (by decide +kernel), by decide +kernel⟩
theorem xw_ml_X0_77 : Cond.methodLink RX0 77 yX1_scale ∈ xmTs := List.mem_filter.mpr ⟨List.mem_of_getElem? (i := 318) (by decide +kernel), by decide +kernel⟩
theorem xw_ml_X0_80 : Cond.methodLink RX0 80 yX0_rounded ∈ xmTs := List.mem_filter.mpr ⟨List.mem_of_getElem? (i := 319) (by decide +kernel), by decide +kernel⟩
theorem xw_ins_X0_rounded : Cond.instanceMethod yX0_rounded ∈ xmTs := List.mem_filter.mpr ⟨List.mem_of_getElem? (i := 321) (by decide +kernel), by decide +kernel⟩
theorem xw_cod_X0_rounded : Cond.code yX0_rounded cX0_rounded 12 (some (FieldType.int)) ∈ xmTs := List.mem_filter.mpr ⟨List.mem_of_getElem? (i := 322) (by decide +kernel), by decide +kernel⟩
theorem xw_ml_X0_34 : Cond.methodLink RX0 34 yX0_greatestUpTo ∈ xmTs := List.mem_filter.mpr ⟨List.mem_of_getElem? (i := 323) (by decide +kernel), by decide +kernel⟩
theorem xw_sta_X0_greatestUpTo : Cond.static yX0_greatestUpTo ∈ xmTs := List.mem_filter.mpr ⟨List.mem_of_getElem? (i := 324) (by decide +kernel), by decide +kernel⟩
theorem xw_cod_X0_greatestUpTo : Cond.code yX0_greatestUpTo cX0_greatestUpTo 7 (some (FieldType.int)) ∈ xmTs := List.mem_filter.mpr ⟨List.mem_of_getElem? (i := 325) (by decide +kernel), by decide +kernel⟩
theorem xw_ml_X0_38 : Cond.methodLink RX0 38 yX1_unitsOfMagnitude ∈ xmTs := List.mem_filter.mpr ⟨List.mem_of_getElem? (i := 326) (by decide +kernel), by decide +kernel⟩
theorem xw_ml_X0_42 : Cond.methodLink RX0 42 yX1_withSign ∈ xmTs := List.mem_filter.mpr ⟨List.mem_of_getElem? (i := 327) (by decide +kernel), by decide +kernel⟩
theorem xw_cst_X0_52 : Cond.constantLong RX0 52 (2) ∈ xmTs := List.mem_filter.mpr ⟨List.mem_of_getElem? (i := 328) (by decide +kernel), by decide +kernel⟩
theorem xw_ml_X0_54 : Cond.methodLink RX0 54 yX1_twiceMiddleAbove ∈ xmTs := List.mem_filter.mpr ⟨List.mem_of_getElem? (i := 329) (by decide +kernel), by decide +kernel⟩
theorem xw_ins_X1_twiceMiddleAbove : Cond.instanceMethod yX1_twiceMiddleAbove ∈ xmTs := List.mem_filter.mpr ⟨List.mem_of_getElem? (i := 330) (by decide +kernel), by decide +kernel⟩
theorem xw_sel_X1_twiceMiddleAbove : Cond.selects yX1_twiceMiddleAbove.cls yX1_twiceMiddleAbove yX1_twiceMiddleAbove ∈ xmTs := List.mem_filter.mpr ⟨List.mem_of_getElem? (i := 331) (by decide +kernel), by decide +kernel⟩
theorem xw_cod_X1_twiceMiddleAbove : Cond.code yX1_twiceMiddleAbove cX1_twiceMiddleAbove 4 (some (FieldType.long)) ∈ xmTs := List.mem_filter.mpr ⟨List.mem_of_getElem? (i := 332) (by decide +kernel), by decide +kernel⟩
theorem xw_cst_X1_38 : Cond.constantLong RX1 38 (3) ∈ xmTs := List.mem_filter.mpr ⟨List.mem_of_getElem? (i := 333) (by decide +kernel), by decide +kernel⟩
theorem xw_ml_X0_57 : Cond.methodLink RX0 57 yJ13_compare_74951 ∈ xmTs := List.mem_filter.mpr ⟨List.mem_of_getElem? (i := 334) (by decide +kernel), by decide +kernel⟩
theorem xw_sta_J13_compare_74951 : Cond.static yJ13_compare_74951 ∈ xmTs := List.mem_filter.mpr ⟨List.mem_of_getElem? (i := 335) (by decide +kernel), by decide +kernel⟩
theorem xw_cod_J13_compare_74951 : Cond.code yJ13_compare_74951 cJ13_compare_74951 4 (some (FieldType.int)) ∈ xmTs := List.mem_filter.mpr ⟨List.mem_of_getElem? (i := 336) (by decide +kernel), by decide +kernel⟩
theorem xw_ml_X0_63 : Cond.methodLink RX0 63 yX0_goesOut ∈ xmTs := List.mem_filter.mpr ⟨List.mem_of_getElem? (i := 337) (by decide +kernel), by decide +kernel⟩
theorem xw_sta_X0_goesOut : Cond.static yX0_goesOut ∈ xmTs := List.mem_filter.mpr ⟨List.mem_of_getElem? (i := 338) (by decide +kernel), by decide +kernel⟩
theorem xw_cod_X0_goesOut : Cond.code yX0_goesOut cX0_goesOut 5 (some (FieldType.boolean)) ∈ xmTs := List.mem_filter.mpr ⟨List.mem_of_getElem? (i := 339) (by decide +kernel), by decide +kernel⟩
theorem xw_ml_X0_67 : Cond.methodLink RX0 67 yX1_beyond ∈ xmTs := List.mem_filter.mpr ⟨List.mem_of_getElem? (i := 340) (by decide +kernel), by decide +kernel⟩
theorem xw_ml_X4_145 : Cond.methodLink RX4 145 yX4_settled ∈ xmTs := List.mem_filter.mpr ⟨List.mem_of_getElem? (i := 341) (by decide +kernel), by decide +kernel⟩
theorem xw_ins_X4_settled : Cond.instanceMethod yX4_settled ∈ xmTs := List.mem_filter.mpr ⟨List.mem_of_getElem? (i := 343) (by decide +kernel), by decide +kernel⟩
theorem xw_cod_X4_settled : Cond.code yX4_settled cX4_settled 2 (some (FieldType.int)) ∈ xmTs := List.mem_filter.mpr ⟨List.mem_of_getElem? (i := 344) (by decide +kernel), by decide +kernel⟩
theorem xw_ml_X4_235 : Cond.methodLink RX4 235 yX3_add ∈ xmTs := List.mem_filter.mpr ⟨List.mem_of_getElem? (i := 345) (by decide +kernel), by decide +kernel⟩
theorem xw_ins_X3_add : Cond.instanceMethod yX3_add ∈ xmTs := List.mem_filter.mpr ⟨List.mem_of_getElem? (i := 346) (by decide +kernel), by decide +kernel⟩
theorem xw_sel_X3_add : Cond.selects yX3_add.cls yX3_add yX3_add ∈ xmTs := List.mem_filter.mpr ⟨List.mem_of_getElem? (i := 347) (by decide +kernel), by decide +kernel⟩
theorem xw_cod_X3_add : Cond.code yX3_add cX3_add 2 none ∈ xmTs := List.mem_filter.mpr ⟨List.mem_of_getElem? (i := 348) (by decide +kernel), by decide +kernel⟩
theorem xw_ml_L_40 : Cond.methodLink RL 40 yX4_cross ∈ xmTs := List.mem_filter.mpr ⟨List.mem_of_getElem? (i := 349) (by decide +kernel), by decide +kernel⟩
theorem xw_ins_X4_cross : Cond.instanceMethod yX4_cross ∈ xmTs := List.mem_filter.mpr ⟨List.mem_of_getElem? (i := 350) (by decide +kernel), by decide +kernel⟩
theorem xw_sel_X4_cross : Cond.selects yX4_cross.cls yX4_cross yX4_cross ∈ xmTs := List.mem_filter.mpr ⟨List.mem_of_getElem? (i := 351) (by decide +kernel), by decide +kernel⟩
theorem xw_cod_X4_cross : Cond.code yX4_cross cX4_cross 7 (some (FieldType.int)) ∈ xmTs := List.mem_filter.mpr ⟨List.mem_of_getElem? (i := 352) (by decide +kernel), by decide +kernel⟩
theorem xw_ml_X4_148 : Cond.methodLink RX4 148 yX0_crossed ∈ xmTs := List.mem_filter.mpr ⟨List.mem_of_getElem? (i := 353) (by decide +kernel), by decide +kernel⟩
theorem xw_ins_X0_crossed : Cond.instanceMethod yX0_crossed ∈ xmTs := List.mem_filter.mpr ⟨List.mem_of_getElem? (i := 354) (by decide +kernel), by decide +kernel⟩
theorem xw_sel_X0_crossed : Cond.selects yX0_crossed.cls yX0_crossed yX0_crossed ∈ xmTs := List.mem_filter.mpr ⟨List.mem_of_getElem? (i := 355) (by decide +kernel), by decide +kernel⟩
theorem xw_cod_X0_crossed : Cond.code yX0_crossed cX0_crossed 10 (some (FieldType.int)) ∈ xmTs := List.mem_filter.mpr ⟨List.mem_of_getElem? (i := 356) (by decide +kernel), by decide +kernel⟩
theorem xw_ml_X0_84 : Cond.methodLink RX0 84 yX1_sizeOf ∈ xmTs := List.mem_filter.mpr ⟨List.mem_of_getElem? (i := 357) (by decide +kernel), by decide +kernel⟩
theorem xw_ins_X1_sizeOf : Cond.instanceMethod yX1_sizeOf ∈ xmTs := List.mem_filter.mpr ⟨List.mem_of_getElem? (i := 358) (by decide +kernel), by decide +kernel⟩
theorem xw_sel_X1_sizeOf : Cond.selects yX1_sizeOf.cls yX1_sizeOf yX1_sizeOf ∈ xmTs := List.mem_filter.mpr ⟨List.mem_of_getElem? (i := 359) (by decide +kernel), by decide +kernel⟩
theorem xw_cod_X1_sizeOf : Cond.code yX1_sizeOf cX1_sizeOf 3 (some (FieldType.long)) ∈ xmTs := List.mem_filter.mpr ⟨List.mem_of_getElem? (i := 360) (by decide +kernel), by decide +kernel⟩
theorem xw_cst_X1_70 : Cond.constantLong RX1 70 (-1) ∈ xmTs := List.mem_filter.mpr ⟨List.mem_of_getElem? (i := 361) (by decide +kernel), by decide +kernel⟩
theorem xw_cst_X1_72 : Cond.constantLong RX1 72 (-2) ∈ xmTs := List.mem_filter.mpr ⟨List.mem_of_getElem? (i := 362) (by decide +kernel), by decide +kernel⟩
theorem xw_ml_X0_87 : Cond.methodLink RX0 87 yX1_isMinus ∈ xmTs := List.mem_filter.mpr ⟨List.mem_of_getElem? (i := 363) (by decide +kernel), by decide +kernel⟩
theorem xw_cst_X0_91 : Cond.constantLong RX0 91 (-2) ∈ xmTs := List.mem_filter.mpr ⟨List.mem_of_getElem? (i := 364) (by decide +kernel), by decide +kernel⟩
theorem xw_ml_X0_22 : Cond.methodLink RX0 22 yX1_noneCode ∈ xmTs := List.mem_filter.mpr ⟨List.mem_of_getElem? (i := 365) (by decide +kernel), by decide +kernel⟩
theorem xw_ml_X0_93 : Cond.methodLink RX0 93 yX0_invalid ∈ xmTs := List.mem_filter.mpr ⟨List.mem_of_getElem? (i := 366) (by decide +kernel), by decide +kernel⟩
theorem xw_ins_X0_invalid : Cond.instanceMethod yX0_invalid ∈ xmTs := List.mem_filter.mpr ⟨List.mem_of_getElem? (i := 368) (by decide +kernel), by decide +kernel⟩
theorem xw_cod_X0_invalid : Cond.code yX0_invalid cX0_invalid 3 (some (FieldType.int)) ∈ xmTs := List.mem_filter.mpr ⟨List.mem_of_getElem? (i := 369) (by decide +kernel), by decide +kernel⟩
theorem xw_cst_X0_96 : Cond.constantLong RX0 96 (-1) ∈ xmTs := List.mem_filter.mpr ⟨List.mem_of_getElem? (i := 370) (by decide +kernel), by decide +kernel⟩
theorem xw_ml_X0_98 : Cond.methodLink RX0 98 Lib.Math.max.name ∈ xmTs := List.mem_filter.mpr ⟨List.mem_of_getElem? (i := 371) (by decide +kernel), by decide +kernel⟩
theorem xw_sta_J9_max_i : Cond.static Lib.Math.max.name ∈ xmTs := List.mem_filter.mpr ⟨List.mem_of_getElem? (i := 372) (by decide +kernel), by decide +kernel⟩
theorem xw_cod_J9_max_i : Cond.code Lib.Math.max.name Lib.Math.max.code 2 (some (FieldType.int)) ∈ xmTs := List.mem_filter.mpr ⟨List.mem_of_getElem? (i := 373) (by decide +kernel), by decide +kernel⟩
theorem xw_ml_L_45 : Cond.methodLink RL 45 yX4_act ∈ xmTs := List.mem_filter.mpr ⟨List.mem_of_getElem? (i := 374) (by decide +kernel), by decide +kernel⟩
theorem xw_ins_X4_act : Cond.instanceMethod yX4_act ∈ xmTs := List.mem_filter.mpr ⟨List.mem_of_getElem? (i := 375) (by decide +kernel), by decide +kernel⟩
theorem xw_sel_X4_act : Cond.selects yX4_act.cls yX4_act yX4_act ∈ xmTs := List.mem_filter.mpr ⟨List.mem_of_getElem? (i := 376) (by decide +kernel), by decide +kernel⟩
theorem xw_cod_X4_act : Cond.code yX4_act cX4_act 7 (some (FieldType.int)) ∈ xmTs := List.mem_filter.mpr ⟨List.mem_of_getElem? (i := 377) (by decide +kernel), by decide +kernel⟩
theorem xw_ml_X4_152 : Cond.methodLink RX4 152 yX0_acted ∈ xmTs := List.mem_filter.mpr ⟨List.mem_of_getElem? (i := 378) (by decide +kernel), by decide +kernel⟩
theorem xw_ins_X0_acted : Cond.instanceMethod yX0_acted ∈ xmTs := List.mem_filter.mpr ⟨List.mem_of_getElem? (i := 379) (by decide +kernel), by decide +kernel⟩
theorem xw_sel_X0_acted : Cond.selects yX0_acted.cls yX0_acted yX0_acted ∈ xmTs := List.mem_filter.mpr ⟨List.mem_of_getElem? (i := 380) (by decide +kernel), by decide +kernel⟩
theorem xw_cod_X0_acted : Cond.code yX0_acted cX0_acted 6 (some (FieldType.int)) ∈ xmTs := List.mem_filter.mpr ⟨List.mem_of_getElem? (i := 381) (by decide +kernel), by decide +kernel⟩
theorem xw_ml_X0_102 : Cond.methodLink RX0 102 yX1_isNone ∈ xmTs := List.mem_filter.mpr ⟨List.mem_of_getElem? (i := 382) (by decide +kernel), by decide +kernel⟩
theorem xw_ml_X0_105 : Cond.methodLink RX0 105 yX0_added ∈ xmTs := List.mem_filter.mpr ⟨List.mem_of_getElem? (i := 383) (by decide +kernel), by decide +kernel⟩
theorem xw_ins_X0_added : Cond.instanceMethod yX0_added ∈ xmTs := List.mem_filter.mpr ⟨List.mem_of_getElem? (i := 385) (by decide +kernel), by decide +kernel⟩
theorem xw_cod_X0_added : Cond.code yX0_added cX0_added 14 (some (FieldType.int)) ∈ xmTs := List.mem_filter.mpr ⟨List.mem_of_getElem? (i := 386) (by decide +kernel), by decide +kernel⟩
theorem xw_ml_X0_126 : Cond.methodLink RX0 126 yX0_endlessOfSum ∈ xmTs := List.mem_filter.mpr ⟨List.mem_of_getElem? (i := 387) (by decide +kernel), by decide +kernel⟩
theorem xw_ins_X0_endlessOfSum : Cond.instanceMethod yX0_endlessOfSum ∈ xmTs := List.mem_filter.mpr ⟨List.mem_of_getElem? (i := 389) (by decide +kernel), by decide +kernel⟩
theorem xw_cod_X0_endlessOfSum : Cond.code yX0_endlessOfSum cX0_endlessOfSum 10 (some (FieldType.int)) ∈ xmTs := List.mem_filter.mpr ⟨List.mem_of_getElem? (i := 390) (by decide +kernel), by decide +kernel⟩
theorem xw_ml_X0_130 : Cond.methodLink RX0 130 yX0_signed ∈ xmTs := List.mem_filter.mpr ⟨List.mem_of_getElem? (i := 391) (by decide +kernel), by decide +kernel⟩
theorem xw_sta_X0_signed : Cond.static yX0_signed ∈ xmTs := List.mem_filter.mpr ⟨List.mem_of_getElem? (i := 392) (by decide +kernel), by decide +kernel⟩
theorem xw_cod_X0_signed : Cond.code yX0_signed cX0_signed 3 (some (FieldType.long)) ∈ xmTs := List.mem_filter.mpr ⟨List.mem_of_getElem? (i := 393) (by decide +kernel), by decide +kernel⟩
theorem xw_ml_X0_109 : Cond.methodLink RX0 109 yX0_multiplied ∈ xmTs := List.mem_filter.mpr ⟨List.mem_of_getElem? (i := 394) (by decide +kernel), by decide +kernel⟩
theorem xw_ins_X0_multiplied : Cond.instanceMethod yX0_multiplied ∈ xmTs := List.mem_filter.mpr ⟨List.mem_of_getElem? (i := 396) (by decide +kernel), by decide +kernel⟩
theorem xw_cod_X0_multiplied : Cond.code yX0_multiplied cX0_multiplied 8 (some (FieldType.int)) ∈ xmTs := List.mem_filter.mpr ⟨List.mem_of_getElem? (i := 397) (by decide +kernel), by decide +kernel⟩
theorem xw_ml_X0_134 : Cond.methodLink RX0 134 yX1_sizeOfProduct ∈ xmTs := List.mem_filter.mpr ⟨List.mem_of_getElem? (i := 398) (by decide +kernel), by decide +kernel⟩
theorem xw_ins_X1_sizeOfProduct : Cond.instanceMethod yX1_sizeOfProduct ∈ xmTs := List.mem_filter.mpr ⟨List.mem_of_getElem? (i := 399) (by decide +kernel), by decide +kernel⟩
theorem xw_sel_X1_sizeOfProduct : Cond.selects yX1_sizeOfProduct.cls yX1_sizeOfProduct yX1_sizeOfProduct ∈ xmTs := List.mem_filter.mpr ⟨List.mem_of_getElem? (i := 400) (by decide +kernel), by decide +kernel⟩
theorem xw_cod_X1_sizeOfProduct : Cond.code yX1_sizeOfProduct cX1_sizeOfProduct 7 (some (FieldType.long)) ∈ xmTs := List.mem_filter.mpr ⟨List.mem_of_getElem? (i := 401) (by decide +kernel), by decide +kernel⟩
theorem xw_ml_X1_74 : Cond.methodLink RX1 74 yX1_sizeOf ∈ xmTs := List.mem_filter.mpr ⟨List.mem_of_getElem? (i := 402) (by decide +kernel), by decide +kernel⟩
theorem xw_cst_X1_77 : Cond.constantLong RX1 77 (-3) ∈ xmTs := List.mem_filter.mpr ⟨List.mem_of_getElem? (i := 403) (by decide +kernel), by decide +kernel⟩
theorem xw_cst_X0_138 : Cond.constantLong RX0 138 (-3) ∈ xmTs := List.mem_filter.mpr ⟨List.mem_of_getElem? (i := 404) (by decide +kernel), by decide +kernel⟩
theorem xw_ml_X0_113 : Cond.methodLink RX0 113 yX0_divided ∈ xmTs := List.mem_filter.mpr ⟨List.mem_of_getElem? (i := 405) (by decide +kernel), by decide +kernel⟩
theorem xw_ins_X0_divided : Cond.instanceMethod yX0_divided ∈ xmTs := List.mem_filter.mpr ⟨List.mem_of_getElem? (i := 407) (by decide +kernel), by decide +kernel⟩
theorem xw_cod_X0_divided : Cond.code yX0_divided cX0_divided 10 (some (FieldType.int)) ∈ xmTs := List.mem_filter.mpr ⟨List.mem_of_getElem? (i := 408) (by decide +kernel), by decide +kernel⟩
theorem xw_ml_X0_116 : Cond.methodLink RX0 116 yX0_rootOf ∈ xmTs := List.mem_filter.mpr ⟨List.mem_of_getElem? (i := 409) (by decide +kernel), by decide +kernel⟩
theorem xw_ins_X0_rootOf : Cond.instanceMethod yX0_rootOf ∈ xmTs := List.mem_filter.mpr ⟨List.mem_of_getElem? (i := 411) (by decide +kernel), by decide +kernel⟩
theorem xw_cod_X0_rootOf : Cond.code yX0_rootOf cX0_rootOf 12 (some (FieldType.int)) ∈ xmTs := List.mem_filter.mpr ⟨List.mem_of_getElem? (i := 412) (by decide +kernel), by decide +kernel⟩
theorem xw_cst_X0_140 : Cond.constantLong RX0 140 (4) ∈ xmTs := List.mem_filter.mpr ⟨List.mem_of_getElem? (i := 413) (by decide +kernel), by decide +kernel⟩
theorem xw_ml_X0_142 : Cond.methodLink RX0 142 yX0_wholeRoot ∈ xmTs := List.mem_filter.mpr ⟨List.mem_of_getElem? (i := 414) (by decide +kernel), by decide +kernel⟩
theorem xw_sta_X0_wholeRoot : Cond.static yX0_wholeRoot ∈ xmTs := List.mem_filter.mpr ⟨List.mem_of_getElem? (i := 415) (by decide +kernel), by decide +kernel⟩
theorem xw_cod_X0_wholeRoot : Cond.code yX0_wholeRoot cX0_wholeRoot 6 (some (FieldType.long)) ∈ xmTs := List.mem_filter.mpr ⟨List.mem_of_getElem? (i := 416) (by decide +kernel), by decide +kernel⟩
theorem xw_cst_X0_145 : Cond.constantLong RX0 145 (2097152) ∈ xmTs := List.mem_filter.mpr ⟨List.mem_of_getElem? (i := 417) (by decide +kernel), by decide +kernel⟩
theorem xw_ml_X0_120 : Cond.methodLink RX0 120 yX1_lesser ∈ xmTs := List.mem_filter.mpr ⟨List.mem_of_getElem? (i := 418) (by decide +kernel), by decide +kernel⟩
theorem xw_ins_X1_lesser : Cond.instanceMethod yX1_lesser ∈ xmTs := List.mem_filter.mpr ⟨List.mem_of_getElem? (i := 419) (by decide +kernel), by decide +kernel⟩
theorem xw_sel_X1_lesser : Cond.selects yX1_lesser.cls yX1_lesser yX1_lesser ∈ xmTs := List.mem_filter.mpr ⟨List.mem_of_getElem? (i := 420) (by decide +kernel), by decide +kernel⟩
theorem xw_cod_X1_lesser : Cond.code yX1_lesser cX1_lesser 3 (some (FieldType.int)) ∈ xmTs := List.mem_filter.mpr ⟨List.mem_of_getElem? (i := 421) (by decide +kernel), by decide +kernel⟩
theorem xw_ml_X1_79 : Cond.methodLink RX1 79 yX1_rank ∈ xmTs := List.mem_filter.mpr ⟨List.mem_of_getElem? (i := 422) (by decide +kernel), by decide +kernel⟩
theorem xw_ins_X1_rank : Cond.instanceMethod yX1_rank ∈ xmTs := List.mem_filter.mpr ⟨List.mem_of_getElem? (i := 423) (by decide +kernel), by decide +kernel⟩
theorem xw_sel_X1_rank : Cond.selects yX1_rank.cls yX1_rank yX1_rank ∈ xmTs := List.mem_filter.mpr ⟨List.mem_of_getElem? (i := 424) (by decide +kernel), by decide +kernel⟩
theorem xw_cod_X1_rank : Cond.code yX1_rank cX1_rank 2 (some (FieldType.int)) ∈ xmTs := List.mem_filter.mpr ⟨List.mem_of_getElem? (i := 425) (by decide +kernel), by decide +kernel⟩
theorem xw_ml_X0_123 : Cond.methodLink RX0 123 yX1_greater ∈ xmTs := List.mem_filter.mpr ⟨List.mem_of_getElem? (i := 426) (by decide +kernel), by decide +kernel⟩
theorem xw_ins_X1_greater : Cond.instanceMethod yX1_greater ∈ xmTs := List.mem_filter.mpr ⟨List.mem_of_getElem? (i := 427) (by decide +kernel), by decide +kernel⟩
theorem xw_sel_X1_greater : Cond.selects yX1_greater.cls yX1_greater yX1_greater ∈ xmTs := List.mem_filter.mpr ⟨List.mem_of_getElem? (i := 428) (by decide +kernel), by decide +kernel⟩
theorem xw_cod_X1_greater : Cond.code yX1_greater cX1_greater 3 (some (FieldType.int)) ∈ xmTs := List.mem_filter.mpr ⟨List.mem_of_getElem? (i := 429) (by decide +kernel), by decide +kernel⟩
theorem xw_ml_L_50 : Cond.methodLink RL 50 yX4_fused ∈ xmTs := List.mem_filter.mpr ⟨List.mem_of_getElem? (i := 430) (by decide +kernel), by decide +kernel⟩
theorem xw_ins_X4_fused : Cond.instanceMethod yX4_fused ∈ xmTs := List.mem_filter.mpr ⟨List.mem_of_getElem? (i := 431) (by decide +kernel), by decide +kernel⟩
theorem xw_sel_X4_fused : Cond.selects yX4_fused.cls yX4_fused yX4_fused ∈ xmTs := List.mem_filter.mpr ⟨List.mem_of_getElem? (i := 432) (by decide +kernel), by decide +kernel⟩
theorem xw_cod_X4_fused : Cond.code yX4_fused cX4_fused 7 (some (FieldType.int)) ∈ xmTs := List.mem_filter.mpr ⟨List.mem_of_getElem? (i := 433) (by decide +kernel), by decide +kernel⟩
theorem xw_ml_X4_156 : Cond.methodLink RX4 156 yX0_fusedOf ∈ xmTs := List.mem_filter.mpr ⟨List.mem_of_getElem? (i := 434) (by decide +kernel), by decide +kernel⟩
theorem xw_ins_X0_fusedOf : Cond.instanceMethod yX0_fusedOf ∈ xmTs := List.mem_filter.mpr ⟨List.mem_of_getElem? (i := 435) (by decide +kernel), by decide +kernel⟩
theorem xw_sel_X0_fusedOf : Cond.selects yX0_fusedOf.cls yX0_fusedOf yX0_fusedOf ∈ xmTs := List.mem_filter.mpr ⟨List.mem_of_getElem? (i := 436) (by decide +kernel), by decide +kernel⟩
theorem xw_cod_X0_fusedOf : Cond.code yX0_fusedOf cX0_fusedOf 15 (some (FieldType.int)) ∈ xmTs := List.mem_filter.mpr ⟨List.mem_of_getElem? (i := 437) (by decide +kernel), by decide +kernel⟩
theorem xw_ml_L_54 : Cond.methodLink RL 54 yX4_next ∈ xmTs := List.mem_filter.mpr ⟨List.mem_of_getElem? (i := 438) (by decide +kernel), by decide +kernel⟩
theorem xw_ins_X4_next : Cond.instanceMethod yX4_next ∈ xmTs := List.mem_filter.mpr ⟨List.mem_of_getElem? (i := 439) (by decide +kernel), by decide +kernel⟩
theorem xw_sel_X4_next : Cond.selects yX4_next.cls yX4_next yX4_next ∈ xmTs := List.mem_filter.mpr ⟨List.mem_of_getElem? (i := 440) (by decide +kernel), by decide +kernel⟩
theorem xw_cod_X4_next : Cond.code yX4_next cX4_next 5 (some (FieldType.int)) ∈ xmTs := List.mem_filter.mpr ⟨List.mem_of_getElem? (i := 441) (by decide +kernel), by decide +kernel⟩
theorem xw_ml_X4_159 : Cond.methodLink RX4 159 yX1_neighbour ∈ xmTs := List.mem_filter.mpr ⟨List.mem_of_getElem? (i := 442) (by decide +kernel), by decide +kernel⟩
theorem xw_ins_X1_neighbour : Cond.instanceMethod yX1_neighbour ∈ xmTs := List.mem_filter.mpr ⟨List.mem_of_getElem? (i := 443) (by decide +kernel), by decide +kernel⟩
theorem xw_sel_X1_neighbour : Cond.selects yX1_neighbour.cls yX1_neighbour yX1_neighbour ∈ xmTs := List.mem_filter.mpr ⟨List.mem_of_getElem? (i := 444) (by decide +kernel), by decide +kernel⟩
theorem xw_cod_X1_neighbour : Cond.code yX1_neighbour cX1_neighbour 6 (some (FieldType.int)) ∈ xmTs := List.mem_filter.mpr ⟨List.mem_of_getElem? (i := 445) (by decide +kernel), by decide +kernel⟩
theorem xw_ml_X1_82 : Cond.methodLink RX1 82 Lib.Math.abs.name ∈ xmTs := List.mem_filter.mpr ⟨List.mem_of_getElem? (i := 446) (by decide +kernel), by decide +kernel⟩
theorem xw_sta_J9_abs_i : Cond.static Lib.Math.abs.name ∈ xmTs := List.mem_filter.mpr ⟨List.mem_of_getElem? (i := 447) (by decide +kernel), by decide +kernel⟩
theorem xw_cod_J9_abs_i : Cond.code Lib.Math.abs.name Lib.Math.abs.code 1 (some (FieldType.int)) ∈ xmTs := List.mem_filter.mpr ⟨List.mem_of_getElem? (i := 448) (by decide +kernel), by decide +kernel⟩
theorem xw_ml_L_59 : Cond.methodLink RL 59 yX4_order ∈ xmTs := List.mem_filter.mpr ⟨List.mem_of_getElem? (i := 449) (by decide +kernel), by decide +kernel⟩
theorem xw_ins_X4_order : Cond.instanceMethod yX4_order ∈ xmTs := List.mem_filter.mpr ⟨List.mem_of_getElem? (i := 450) (by decide +kernel), by decide +kernel⟩
theorem xw_sel_X4_order : Cond.selects yX4_order.cls yX4_order yX4_order ∈ xmTs := List.mem_filter.mpr ⟨List.mem_of_getElem? (i := 451) (by decide +kernel), by decide +kernel⟩
theorem xw_cod_X4_order : Cond.code yX4_order cX4_order 5 (some (FieldType.int)) ∈ xmTs := List.mem_filter.mpr ⟨List.mem_of_getElem? (i := 452) (by decide +kernel), by decide +kernel⟩
theorem xw_ml_X4_163 : Cond.methodLink RX4 163 yX1_isNone ∈ xmTs := List.mem_filter.mpr ⟨List.mem_of_getElem? (i := 453) (by decide +kernel), by decide +kernel⟩
theorem xw_ml_X4_166 : Cond.methodLink RX4 166 yX1_rank ∈ xmTs := List.mem_filter.mpr ⟨List.mem_of_getElem? (i := 454) (by decide +kernel), by decide +kernel⟩
theorem xw_ml_X4_169 : Cond.methodLink RX4 169 yJ6_compare_7cf53 ∈ xmTs := List.mem_filter.mpr ⟨List.mem_of_getElem? (i := 455) (by decide +kernel), by decide +kernel⟩
theorem xw_sta_J6_compare_7cf53 : Cond.static yJ6_compare_7cf53 ∈ xmTs := List.mem_filter.mpr ⟨List.mem_of_getElem? (i := 456) (by decide +kernel), by decide +kernel⟩
theorem xw_cod_J6_compare_7cf53 : Cond.code yJ6_compare_7cf53 cJ6_compare_7cf53 2 (some (FieldType.int)) ∈ xmTs := List.mem_filter.mpr ⟨List.mem_of_getElem? (i := 457) (by decide +kernel), by decide +kernel⟩
theorem xw_ml_L_63 : Cond.methodLink RL 63 yX4_numbers ∈ xmTs := List.mem_filter.mpr ⟨List.mem_of_getElem? (i := 458) (by decide +kernel), by decide +kernel⟩
theorem xw_ins_X4_numbers : Cond.instanceMethod yX4_numbers ∈ xmTs := List.mem_filter.mpr ⟨List.mem_of_getElem? (i := 459) (by decide +kernel), by decide +kernel⟩
theorem xw_sel_X4_numbers : Cond.selects yX4_numbers.cls yX4_numbers yX4_numbers ∈ xmTs := List.mem_filter.mpr ⟨List.mem_of_getElem? (i := 460) (by decide +kernel), by decide +kernel⟩
theorem xw_cod_X4_numbers : Cond.code yX4_numbers cX4_numbers 7 (some (FieldType.int)) ∈ xmTs := List.mem_filter.mpr ⟨List.mem_of_getElem? (i := 461) (by decide +kernel), by decide +kernel⟩
theorem xw_ml_X4_175 : Cond.methodLink RX4 175 yX1_numbersBetween ∈ xmTs := List.mem_filter.mpr ⟨List.mem_of_getElem? (i := 462) (by decide +kernel), by decide +kernel⟩
theorem xw_ins_X1_numbersBetween : Cond.instanceMethod yX1_numbersBetween ∈ xmTs := List.mem_filter.mpr ⟨List.mem_of_getElem? (i := 463) (by decide +kernel), by decide +kernel⟩
theorem xw_sel_X1_numbersBetween : Cond.selects yX1_numbersBetween.cls yX1_numbersBetween yX1_numbersBetween ∈ xmTs := List.mem_filter.mpr ⟨List.mem_of_getElem? (i := 464) (by decide +kernel), by decide +kernel⟩
theorem xw_cod_X1_numbersBetween : Cond.code yX1_numbersBetween cX1_numbersBetween 13 (some (FieldType.int)) ∈ xmTs := List.mem_filter.mpr ⟨List.mem_of_getElem? (i := 465) (by decide +kernel), by decide +kernel⟩
theorem xw_cst_X1_87 : Cond.constantLong RX1 87 (1099511627776) ∈ xmTs := List.mem_filter.mpr ⟨List.mem_of_getElem? (i := 466) (by decide +kernel), by decide +kernel⟩
theorem xw_ml_X1_89 : Cond.methodLink RX1 89 Lib.MathLoose.min_long.x ∈ xmTs := List.mem_filter.mpr ⟨List.mem_of_getElem? (i := 467) (by decide +kernel), by decide +kernel⟩
theorem xw_sta_J9_min_l : Cond.static Lib.MathLoose.min_long.x ∈ xmTs := List.mem_filter.mpr ⟨List.mem_of_getElem? (i := 468) (by decide +kernel), by decide +kernel⟩
theorem xw_cod_J9_min_l : Cond.code Lib.MathLoose.min_long.x Lib.MathLoose.min_long.code 4 (some (FieldType.long)) ∈ xmTs := List.mem_filter.mpr ⟨List.mem_of_getElem? (i := 469) (by decide +kernel), by decide +kernel⟩
theorem xw_ml_X1_93 : Cond.methodLink RX1 93 Lib.MathLoose.max_long.x ∈ xmTs := List.mem_filter.mpr ⟨List.mem_of_getElem? (i := 470) (by decide +kernel), by decide +kernel⟩
theorem xw_sta_J9_max_l : Cond.static Lib.MathLoose.max_long.x ∈ xmTs := List.mem_filter.mpr ⟨List.mem_of_getElem? (i := 471) (by decide +kernel), by decide +kernel⟩
theorem xw_cod_J9_max_l : Cond.code Lib.MathLoose.max_long.x Lib.MathLoose.max_long.code 4 (some (FieldType.long)) ∈ xmTs := List.mem_filter.mpr ⟨List.mem_of_getElem? (i := 472) (by decide +kernel), by decide +kernel⟩
theorem xw_ml_X1_96 : Cond.methodLink RX1 96 yX1_magnitudesUpTo ∈ xmTs := List.mem_filter.mpr ⟨List.mem_of_getElem? (i := 473) (by decide +kernel), by decide +kernel⟩
theorem xw_ins_X1_magnitudesUpTo : Cond.instanceMethod yX1_magnitudesUpTo ∈ xmTs := List.mem_filter.mpr ⟨List.mem_of_getElem? (i := 475) (by decide +kernel), by decide +kernel⟩
theorem xw_cod_X1_magnitudesUpTo : Cond.code yX1_magnitudesUpTo cX1_magnitudesUpTo 5 (some (FieldType.int)) ∈ xmTs := List.mem_filter.mpr ⟨List.mem_of_getElem? (i := 476) (by decide +kernel), by decide +kernel⟩
theorem xw_ml_L_68 : Cond.methodLink RL 68 yX4_row ∈ xmTs := List.mem_filter.mpr ⟨List.mem_of_getElem? (i := 477) (by decide +kernel), by decide +kernel⟩
theorem xw_ins_X4_row : Cond.instanceMethod yX4_row ∈ xmTs := List.mem_filter.mpr ⟨List.mem_of_getElem? (i := 478) (by decide +kernel), by decide +kernel⟩
theorem xw_sel_X4_row : Cond.selects yX4_row.cls yX4_row yX4_row ∈ xmTs := List.mem_filter.mpr ⟨List.mem_of_getElem? (i := 479) (by decide +kernel), by decide +kernel⟩
theorem xw_cod_X4_row : Cond.code yX4_row cX4_row 5 (some (FieldType.int)) ∈ xmTs := List.mem_filter.mpr ⟨List.mem_of_getElem? (i := 480) (by decide +kernel), by decide +kernel⟩
theorem xw_ml_X4_179 : Cond.methodLink RX4 179 yX2_become ∈ xmTs := List.mem_filter.mpr ⟨List.mem_of_getElem? (i := 481) (by decide +kernel), by decide +kernel⟩
theorem xw_ins_X2_become : Cond.instanceMethod yX2_become ∈ xmTs := List.mem_filter.mpr ⟨List.mem_of_getElem? (i := 482) (by decide +kernel), by decide +kernel⟩
theorem xw_sel_X2_become : Cond.selects yX2_become.cls yX2_become yX2_become ∈ xmTs := List.mem_filter.mpr ⟨List.mem_of_getElem? (i := 483) (by decide +kernel), by decide +kernel⟩
theorem xw_cod_X2_become : Cond.code yX2_become cX2_become 4 none ∈ xmTs := List.mem_filter.mpr ⟨List.mem_of_getElem? (i := 484) (by decide +kernel), by decide +kernel⟩
theorem xw_ml_X2_23 : Cond.methodLink RX2 23 Lib.Math.min.name ∈ xmTs := List.mem_filter.mpr ⟨List.mem_of_getElem? (i := 485) (by decide +kernel), by decide +kernel⟩
theorem xw_sta_J9_min_i : Cond.static Lib.Math.min.name ∈ xmTs := List.mem_filter.mpr ⟨List.mem_of_getElem? (i := 486) (by decide +kernel), by decide +kernel⟩
theorem xw_cod_J9_min_i : Cond.code Lib.Math.min.name Lib.Math.min.code 2 (some (FieldType.int)) ∈ xmTs := List.mem_filter.mpr ⟨List.mem_of_getElem? (i := 487) (by decide +kernel), by decide +kernel⟩
theorem xw_ml_X2_29 : Cond.methodLink RX2 29 Lib.Math.max.name ∈ xmTs := List.mem_filter.mpr ⟨List.mem_of_getElem? (i := 488) (by decide +kernel), by decide +kernel⟩
theorem xw_ml_L_72 : Cond.methodLink RL 72 yX4_put ∈ xmTs := List.mem_filter.mpr ⟨List.mem_of_getElem? (i := 489) (by decide +kernel), by decide +kernel⟩
theorem xw_ins_X4_put : Cond.instanceMethod yX4_put ∈ xmTs := List.mem_filter.mpr ⟨List.mem_of_getElem? (i := 490) (by decide +kernel), by decide +kernel⟩
theorem xw_sel_X4_put : Cond.selects yX4_put.cls yX4_put yX4_put ∈ xmTs := List.mem_filter.mpr ⟨List.mem_of_getElem? (i := 491) (by decide +kernel), by decide +kernel⟩
theorem xw_cod_X4_put : Cond.code yX4_put cX4_put 6 (some (FieldType.int)) ∈ xmTs := List.mem_filter.mpr ⟨List.mem_of_getElem? (i := 492) (by decide +kernel), by decide +kernel⟩
theorem xw_ml_X4_183 : Cond.methodLink RX4 183 yX4_rowAt ∈ xmTs := List.mem_filter.mpr ⟨List.mem_of_getElem? (i := 493) (by decide +kernel), by decide +kernel⟩
theorem xw_ins_X4_rowAt : Cond.instanceMethod yX4_rowAt ∈ xmTs := List.mem_filter.mpr ⟨List.mem_of_getElem? (i := 495) (by decide +kernel), by decide +kernel⟩
theorem xw_cod_X4_rowAt : Cond.code yX4_rowAt cX4_rowAt 2 (some (FieldType.object "SmallFloats$Row")) ∈ xmTs := List.mem_filter.mpr ⟨List.mem_of_getElem? (i := 496) (by decide +kernel), by decide +kernel⟩
theorem xw_ml_X4_187 : Cond.methodLink RX4 187 yX2_hasPlace ∈ xmTs := List.mem_filter.mpr ⟨List.mem_of_getElem? (i := 497) (by decide +kernel), by decide +kernel⟩
theorem xw_ins_X2_hasPlace : Cond.instanceMethod yX2_hasPlace ∈ xmTs := List.mem_filter.mpr ⟨List.mem_of_getElem? (i := 498) (by decide +kernel), by decide +kernel⟩
theorem xw_sel_X2_hasPlace : Cond.selects yX2_hasPlace.cls yX2_hasPlace yX2_hasPlace ∈ xmTs := List.mem_filter.mpr ⟨List.mem_of_getElem? (i := 499) (by decide +kernel), by decide +kernel⟩
theorem xw_cod_X2_hasPlace : Cond.code yX2_hasPlace cX2_hasPlace 2 (some (FieldType.boolean)) ∈ xmTs := List.mem_filter.mpr ⟨List.mem_of_getElem? (i := 500) (by decide +kernel), by decide +kernel⟩
theorem xw_ml_X4_193 : Cond.methodLink RX4 193 yX2_codeAt ∈ xmTs := List.mem_filter.mpr ⟨List.mem_of_getElem? (i := 501) (by decide +kernel), by decide +kernel⟩
theorem xw_ins_X2_codeAt : Cond.instanceMethod yX2_codeAt ∈ xmTs := List.mem_filter.mpr ⟨List.mem_of_getElem? (i := 502) (by decide +kernel), by decide +kernel⟩
theorem xw_sel_X2_codeAt : Cond.selects yX2_codeAt.cls yX2_codeAt yX2_codeAt ∈ xmTs := List.mem_filter.mpr ⟨List.mem_of_getElem? (i := 503) (by decide +kernel), by decide +kernel⟩
theorem xw_cod_X2_codeAt : Cond.code yX2_codeAt cX2_codeAt 2 (some (FieldType.int)) ∈ xmTs := List.mem_filter.mpr ⟨List.mem_of_getElem? (i := 504) (by decide +kernel), by decide +kernel⟩
theorem xw_ml_X4_196 : Cond.methodLink RX4 196 yX2_setCode ∈ xmTs := List.mem_filter.mpr ⟨List.mem_of_getElem? (i := 505) (by decide +kernel), by decide +kernel⟩
theorem xw_ins_X2_setCode : Cond.instanceMethod yX2_setCode ∈ xmTs := List.mem_filter.mpr ⟨List.mem_of_getElem? (i := 506) (by decide +kernel), by decide +kernel⟩
theorem xw_sel_X2_setCode : Cond.selects yX2_setCode.cls yX2_setCode yX2_setCode ∈ xmTs := List.mem_filter.mpr ⟨List.mem_of_getElem? (i := 507) (by decide +kernel), by decide +kernel⟩
theorem xw_cod_X2_setCode : Cond.code yX2_setCode cX2_setCode 3 none ∈ xmTs := List.mem_filter.mpr ⟨List.mem_of_getElem? (i := 508) (by decide +kernel), by decide +kernel⟩
theorem xw_ml_L_76 : Cond.methodLink RL 76 yX4_at ∈ xmTs := List.mem_filter.mpr ⟨List.mem_of_getElem? (i := 509) (by decide +kernel), by decide +kernel⟩
theorem xw_ins_X4_at : Cond.instanceMethod yX4_at ∈ xmTs := List.mem_filter.mpr ⟨List.mem_of_getElem? (i := 510) (by decide +kernel), by decide +kernel⟩
theorem xw_sel_X4_at : Cond.selects yX4_at.cls yX4_at yX4_at ∈ xmTs := List.mem_filter.mpr ⟨List.mem_of_getElem? (i := 511) (by decide +kernel), by decide +kernel⟩
theorem xw_cod_X4_at : Cond.code yX4_at cX4_at 4 (some (FieldType.int)) ∈ xmTs := List.mem_filter.mpr ⟨List.mem_of_getElem? (i := 512) (by decide +kernel), by decide +kernel⟩
theorem xw_ml_L_80 : Cond.methodLink RL 80 yX4_packed ∈ xmTs := List.mem_filter.mpr ⟨List.mem_of_getElem? (i := 513) (by decide +kernel), by decide +kernel⟩
theorem xw_ins_X4_packed : Cond.instanceMethod yX4_packed ∈ xmTs := List.mem_filter.mpr ⟨List.mem_of_getElem? (i := 514) (by decide +kernel), by decide +kernel⟩
theorem xw_sel_X4_packed : Cond.selects yX4_packed.cls yX4_packed yX4_packed ∈ xmTs := List.mem_filter.mpr ⟨List.mem_of_getElem? (i := 515) (by decide +kernel), by decide +kernel⟩
theorem xw_cod_X4_packed : Cond.code yX4_packed cX4_packed 4 (some (FieldType.int)) ∈ xmTs := List.mem_filter.mpr ⟨List.mem_of_getElem? (i := 516) (by decide +kernel), by decide +kernel⟩
theorem xw_ml_X4_200 : Cond.methodLink RX4 200 yX2_byteCount ∈ xmTs := List.mem_filter.mpr ⟨List.mem_of_getElem? (i := 517) (by decide +kernel), by decide +kernel⟩
theorem xw_ins_X2_byteCount : Cond.instanceMethod yX2_byteCount ∈ xmTs := List.mem_filter.mpr ⟨List.mem_of_getElem? (i := 518) (by decide +kernel), by decide +kernel⟩
theorem xw_sel_X2_byteCount : Cond.selects yX2_byteCount.cls yX2_byteCount yX2_byteCount ∈ xmTs := List.mem_filter.mpr ⟨List.mem_of_getElem? (i := 519) (by decide +kernel), by decide +kernel⟩
theorem xw_cod_X2_byteCount : Cond.code yX2_byteCount cX2_byteCount 1 (some (FieldType.int)) ∈ xmTs := List.mem_filter.mpr ⟨List.mem_of_getElem? (i := 520) (by decide +kernel), by decide +kernel⟩
theorem xw_ml_X2_32 : Cond.methodLink RX2 32 yX1_bits ∈ xmTs := List.mem_filter.mpr ⟨List.mem_of_getElem? (i := 521) (by decide +kernel), by decide +kernel⟩
theorem xw_ml_X4_203 : Cond.methodLink RX4 203 yX2_byteAt ∈ xmTs := List.mem_filter.mpr ⟨List.mem_of_getElem? (i := 522) (by decide +kernel), by decide +kernel⟩
theorem xw_ins_X2_byteAt : Cond.instanceMethod yX2_byteAt ∈ xmTs := List.mem_filter.mpr ⟨List.mem_of_getElem? (i := 523) (by decide +kernel), by decide +kernel⟩
theorem xw_sel_X2_byteAt : Cond.selects yX2_byteAt.cls yX2_byteAt yX2_byteAt ∈ xmTs := List.mem_filter.mpr ⟨List.mem_of_getElem? (i := 524) (by decide +kernel), by decide +kernel⟩
theorem xw_cod_X2_byteAt : Cond.code yX2_byteAt cX2_byteAt 5 (some (FieldType.int)) ∈ xmTs := List.mem_filter.mpr ⟨List.mem_of_getElem? (i := 525) (by decide +kernel), by decide +kernel⟩
theorem xw_ml_X2_38 : Cond.methodLink RX2 38 yX2_codeAt ∈ xmTs := List.mem_filter.mpr ⟨List.mem_of_getElem? (i := 526) (by decide +kernel), by decide +kernel⟩
theorem xw_ml_L_84 : Cond.methodLink RL 84 yX4_quantise ∈ xmTs := List.mem_filter.mpr ⟨List.mem_of_getElem? (i := 527) (by decide +kernel), by decide +kernel⟩
theorem xw_ins_X4_quantise : Cond.instanceMethod yX4_quantise ∈ xmTs := List.mem_filter.mpr ⟨List.mem_of_getElem? (i := 528) (by decide +kernel), by decide +kernel⟩
theorem xw_sel_X4_quantise : Cond.selects yX4_quantise.cls yX4_quantise yX4_quantise ∈ xmTs := List.mem_filter.mpr ⟨List.mem_of_getElem? (i := 529) (by decide +kernel), by decide +kernel⟩
theorem xw_cod_X4_quantise : Cond.code yX4_quantise cX4_quantise 9 (some (FieldType.int)) ∈ xmTs := List.mem_filter.mpr ⟨List.mem_of_getElem? (i := 530) (by decide +kernel), by decide +kernel⟩
theorem xw_ml_L_88 : Cond.methodLink RL 88 yX4_worst ∈ xmTs := List.mem_filter.mpr ⟨List.mem_of_getElem? (i := 531) (by decide +kernel), by decide +kernel⟩
theorem xw_ins_X4_worst : Cond.instanceMethod yX4_worst ∈ xmTs := List.mem_filter.mpr ⟨List.mem_of_getElem? (i := 532) (by decide +kernel), by decide +kernel⟩
theorem xw_sel_X4_worst : Cond.selects yX4_worst.cls yX4_worst yX4_worst ∈ xmTs := List.mem_filter.mpr ⟨List.mem_of_getElem? (i := 533) (by decide +kernel), by decide +kernel⟩
theorem xw_cod_X4_worst : Cond.code yX4_worst cX4_worst 6 (some (FieldType.int)) ∈ xmTs := List.mem_filter.mpr ⟨List.mem_of_getElem? (i := 534) (by decide +kernel), by decide +kernel⟩
theorem xw_ml_X4_209 : Cond.methodLink RX4 209 yX2_worstPlace ∈ xmTs := List.mem_filter.mpr ⟨List.mem_of_getElem? (i := 535) (by decide +kernel), by decide +kernel⟩
theorem xw_ins_X2_worstPlace : Cond.instanceMethod yX2_worstPlace ∈ xmTs := List.mem_filter.mpr ⟨List.mem_of_getElem? (i := 536) (by decide +kernel), by decide +kernel⟩
theorem xw_sel_X2_worstPlace : Cond.selects yX2_worstPlace.cls yX2_worstPlace yX2_worstPlace ∈ xmTs := List.mem_filter.mpr ⟨List.mem_of_getElem? (i := 537) (by decide +kernel), by decide +kernel⟩
theorem xw_cod_X2_worstPlace : Cond.code yX2_worstPlace cX2_worstPlace 6 (some (FieldType.int)) ∈ xmTs := List.mem_filter.mpr ⟨List.mem_of_getElem? (i := 538) (by decide +kernel), by decide +kernel⟩
theorem xw_ml_X2_57 : Cond.methodLink RX2 57 yX2_areNumbers ∈ xmTs := List.mem_filter.mpr ⟨List.mem_of_getElem? (i := 539) (by decide +kernel), by decide +kernel⟩
theorem xw_ins_X2_areNumbers : Cond.instanceMethod yX2_areNumbers ∈ xmTs := List.mem_filter.mpr ⟨List.mem_of_getElem? (i := 540) (by decide +kernel), by decide +kernel⟩
theorem xw_sel_X2_areNumbers : Cond.selects yX2_areNumbers.cls yX2_areNumbers yX2_areNumbers ∈ xmTs := List.mem_filter.mpr ⟨List.mem_of_getElem? (i := 541) (by decide +kernel), by decide +kernel⟩
theorem xw_cod_X2_areNumbers : Cond.code yX2_areNumbers cX2_areNumbers 3 (some (FieldType.boolean)) ∈ xmTs := List.mem_filter.mpr ⟨List.mem_of_getElem? (i := 542) (by decide +kernel), by decide +kernel⟩
theorem xw_ml_X2_42 : Cond.methodLink RX2 42 yX1_isNumber ∈ xmTs := List.mem_filter.mpr ⟨List.mem_of_getElem? (i := 543) (by decide +kernel), by decide +kernel⟩
theorem xw_ml_X2_61 : Cond.methodLink RX2 61 yX2_distance ∈ xmTs := List.mem_filter.mpr ⟨List.mem_of_getElem? (i := 544) (by decide +kernel), by decide +kernel⟩
theorem xw_ins_X2_distance : Cond.instanceMethod yX2_distance ∈ xmTs := List.mem_filter.mpr ⟨List.mem_of_getElem? (i := 545) (by decide +kernel), by decide +kernel⟩
theorem xw_sel_X2_distance : Cond.selects yX2_distance.cls yX2_distance yX2_distance ∈ xmTs := List.mem_filter.mpr ⟨List.mem_of_getElem? (i := 546) (by decide +kernel), by decide +kernel⟩
theorem xw_cod_X2_distance : Cond.code yX2_distance cX2_distance 8 (some (FieldType.long)) ∈ xmTs := List.mem_filter.mpr ⟨List.mem_of_getElem? (i := 547) (by decide +kernel), by decide +kernel⟩
theorem xw_ml_X2_46 : Cond.methodLink RX2 46 yX1_scale ∈ xmTs := List.mem_filter.mpr ⟨List.mem_of_getElem? (i := 548) (by decide +kernel), by decide +kernel⟩
theorem xw_ml_X2_49 : Cond.methodLink RX2 49 yX1_unitsOf ∈ xmTs := List.mem_filter.mpr ⟨List.mem_of_getElem? (i := 549) (by decide +kernel), by decide +kernel⟩
theorem xw_ml_X2_53 : Cond.methodLink RX2 53 Lib.MathLoose.abs_long.x ∈ xmTs := List.mem_filter.mpr ⟨List.mem_of_getElem? (i := 550) (by decide +kernel), by decide +kernel⟩
theorem xw_ml_X4_213 : Cond.methodLink RX4 213 yX2_differences ∈ xmTs := List.mem_filter.mpr ⟨List.mem_of_getElem? (i := 551) (by decide +kernel), by decide +kernel⟩
theorem xw_ins_X2_differences : Cond.instanceMethod yX2_differences ∈ xmTs := List.mem_filter.mpr ⟨List.mem_of_getElem? (i := 552) (by decide +kernel), by decide +kernel⟩
theorem xw_sel_X2_differences : Cond.selects yX2_differences.cls yX2_differences yX2_differences ∈ xmTs := List.mem_filter.mpr ⟨List.mem_of_getElem? (i := 553) (by decide +kernel), by decide +kernel⟩
theorem xw_cod_X2_differences : Cond.code yX2_differences cX2_differences 4 (some (FieldType.int)) ∈ xmTs := List.mem_filter.mpr ⟨List.mem_of_getElem? (i := 554) (by decide +kernel), by decide +kernel⟩
theorem xw_ml_X4_216 : Cond.methodLink RX4 216 yX2_noNumbers ∈ xmTs := List.mem_filter.mpr ⟨List.mem_of_getElem? (i := 555) (by decide +kernel), by decide +kernel⟩
theorem xw_ins_X2_noNumbers : Cond.instanceMethod yX2_noNumbers ∈ xmTs := List.mem_filter.mpr ⟨List.mem_of_getElem? (i := 556) (by decide +kernel), by decide +kernel⟩
theorem xw_sel_X2_noNumbers : Cond.selects yX2_noNumbers.cls yX2_noNumbers yX2_noNumbers ∈ xmTs := List.mem_filter.mpr ⟨List.mem_of_getElem? (i := 557) (by decide +kernel), by decide +kernel⟩
theorem xw_cod_X2_noNumbers : Cond.code yX2_noNumbers cX2_noNumbers 4 (some (FieldType.int)) ∈ xmTs := List.mem_filter.mpr ⟨List.mem_of_getElem? (i := 558) (by decide +kernel), by decide +kernel⟩
theorem xw_ml_L_92 : Cond.methodLink RL 92 yX4_sum ∈ xmTs := List.mem_filter.mpr ⟨List.mem_of_getElem? (i := 559) (by decide +kernel), by decide +kernel⟩
theorem xw_ins_X4_sum : Cond.instanceMethod yX4_sum ∈ xmTs := List.mem_filter.mpr ⟨List.mem_of_getElem? (i := 560) (by decide +kernel), by decide +kernel⟩
theorem xw_sel_X4_sum : Cond.selects yX4_sum.cls yX4_sum yX4_sum ∈ xmTs := List.mem_filter.mpr ⟨List.mem_of_getElem? (i := 561) (by decide +kernel), by decide +kernel⟩
theorem xw_cod_X4_sum : Cond.code yX4_sum cX4_sum 5 (some (FieldType.int)) ∈ xmTs := List.mem_filter.mpr ⟨List.mem_of_getElem? (i := 562) (by decide +kernel), by decide +kernel⟩
theorem xw_ml_X4_219 : Cond.methodLink RX4 219 yX0_stepwiseTotal ∈ xmTs := List.mem_filter.mpr ⟨List.mem_of_getElem? (i := 563) (by decide +kernel), by decide +kernel⟩
theorem xw_ins_X0_stepwiseTotal : Cond.instanceMethod yX0_stepwiseTotal ∈ xmTs := List.mem_filter.mpr ⟨List.mem_of_getElem? (i := 564) (by decide +kernel), by decide +kernel⟩
theorem xw_sel_X0_stepwiseTotal : Cond.selects yX0_stepwiseTotal.cls yX0_stepwiseTotal yX0_stepwiseTotal ∈ xmTs := List.mem_filter.mpr ⟨List.mem_of_getElem? (i := 565) (by decide +kernel), by decide +kernel⟩
theorem xw_cod_X0_stepwiseTotal : Cond.code yX0_stepwiseTotal cX0_stepwiseTotal 9 (some (FieldType.int)) ∈ xmTs := List.mem_filter.mpr ⟨List.mem_of_getElem? (i := 566) (by decide +kernel), by decide +kernel⟩
theorem xw_ml_X0_153 : Cond.methodLink RX0 153 yX0_termCount ∈ xmTs := List.mem_filter.mpr ⟨List.mem_of_getElem? (i := 567) (by decide +kernel), by decide +kernel⟩
theorem xw_sta_X0_termCount : Cond.static yX0_termCount ∈ xmTs := List.mem_filter.mpr ⟨List.mem_of_getElem? (i := 568) (by decide +kernel), by decide +kernel⟩
theorem xw_cod_X0_termCount : Cond.code yX0_termCount cX0_termCount 2 (some (FieldType.int)) ∈ xmTs := List.mem_filter.mpr ⟨List.mem_of_getElem? (i := 569) (by decide +kernel), by decide +kernel⟩
theorem xw_ml_X0_168 : Cond.methodLink RX0 168 Lib.Math.min.name ∈ xmTs := List.mem_filter.mpr ⟨List.mem_of_getElem? (i := 570) (by decide +kernel), by decide +kernel⟩
theorem xw_ml_X0_157 : Cond.methodLink RX0 157 yX2_codeAt ∈ xmTs := List.mem_filter.mpr ⟨List.mem_of_getElem? (i := 571) (by decide +kernel), by decide +kernel⟩
theorem xw_ml_X0_161 : Cond.methodLink RX0 161 yX0_acted ∈ xmTs := List.mem_filter.mpr ⟨List.mem_of_getElem? (i := 572) (by decide +kernel), by decide +kernel⟩
theorem xw_ml_X4_223 : Cond.methodLink RX4 223 yX0_exactTotal ∈ xmTs := List.mem_filter.mpr ⟨List.mem_of_getElem? (i := 573) (by decide +kernel), by decide +kernel⟩
theorem xw_ins_X0_exactTotal : Cond.instanceMethod yX0_exactTotal ∈ xmTs := List.mem_filter.mpr ⟨List.mem_of_getElem? (i := 574) (by decide +kernel), by decide +kernel⟩
theorem xw_sel_X0_exactTotal : Cond.selects yX0_exactTotal.cls yX0_exactTotal yX0_exactTotal ∈ xmTs := List.mem_filter.mpr ⟨List.mem_of_getElem? (i := 575) (by decide +kernel), by decide +kernel⟩
theorem xw_cod_X0_exactTotal : Cond.code yX0_exactTotal cX0_exactTotal 15 (some (FieldType.int)) ∈ xmTs := List.mem_filter.mpr ⟨List.mem_of_getElem? (i := 576) (by decide +kernel), by decide +kernel⟩
theorem xw_ml_L_96 : Cond.methodLink RL 96 yX4_dot ∈ xmTs := List.mem_filter.mpr ⟨List.mem_of_getElem? (i := 577) (by decide +kernel), by decide +kernel⟩
theorem xw_ins_X4_dot : Cond.instanceMethod yX4_dot ∈ xmTs := List.mem_filter.mpr ⟨List.mem_of_getElem? (i := 578) (by decide +kernel), by decide +kernel⟩
theorem xw_sel_X4_dot : Cond.selects yX4_dot.cls yX4_dot yX4_dot ∈ xmTs := List.mem_filter.mpr ⟨List.mem_of_getElem? (i := 579) (by decide +kernel), by decide +kernel⟩
theorem xw_cod_X4_dot : Cond.code yX4_dot cX4_dot 7 (some (FieldType.int)) ∈ xmTs := List.mem_filter.mpr ⟨List.mem_of_getElem? (i := 580) (by decide +kernel), by decide +kernel⟩
theorem xw_ml_L_101 : Cond.methodLink RL 101 yX4_table ∈ xmTs := List.mem_filter.mpr ⟨List.mem_of_getElem? (i := 581) (by decide +kernel), by decide +kernel⟩
theorem xw_ins_X4_table : Cond.instanceMethod yX4_table ∈ xmTs := List.mem_filter.mpr ⟨List.mem_of_getElem? (i := 582) (by decide +kernel), by decide +kernel⟩
theorem xw_sel_X4_table : Cond.selects yX4_table.cls yX4_table yX4_table ∈ xmTs := List.mem_filter.mpr ⟨List.mem_of_getElem? (i := 583) (by decide +kernel), by decide +kernel⟩
theorem xw_cod_X4_table : Cond.code yX4_table cX4_table 5 (some (FieldType.int)) ∈ xmTs := List.mem_filter.mpr ⟨List.mem_of_getElem? (i := 584) (by decide +kernel), by decide +kernel⟩
theorem xw_ml_L_105 : Cond.methodLink RL 105 yX4_lookup ∈ xmTs := List.mem_filter.mpr ⟨List.mem_of_getElem? (i := 585) (by decide +kernel), by decide +kernel⟩
theorem xw_ins_X4_lookup : Cond.instanceMethod yX4_lookup ∈ xmTs := List.mem_filter.mpr ⟨List.mem_of_getElem? (i := 586) (by decide +kernel), by decide +kernel⟩
theorem xw_sel_X4_lookup : Cond.selects yX4_lookup.cls yX4_lookup yX4_lookup ∈ xmTs := List.mem_filter.mpr ⟨List.mem_of_getElem? (i := 587) (by decide +kernel), by decide +kernel⟩
theorem xw_cod_X4_lookup : Cond.code yX4_lookup cX4_lookup 4 (some (FieldType.int)) ∈ xmTs := List.mem_filter.mpr ⟨List.mem_of_getElem? (i := 588) (by decide +kernel), by decide +kernel⟩
theorem xw_ml_L_109 : Cond.methodLink RL 109 yX4_count ∈ xmTs := List.mem_filter.mpr ⟨List.mem_of_getElem? (i := 589) (by decide +kernel), by decide +kernel⟩
theorem xw_ins_X4_count : Cond.instanceMethod yX4_count ∈ xmTs := List.mem_filter.mpr ⟨List.mem_of_getElem? (i := 590) (by decide +kernel), by decide +kernel⟩
theorem xw_sel_X4_count : Cond.selects yX4_count.cls yX4_count yX4_count ∈ xmTs := List.mem_filter.mpr ⟨List.mem_of_getElem? (i := 591) (by decide +kernel), by decide +kernel⟩
theorem xw_cod_X4_count : Cond.code yX4_count cX4_count 2 (some (FieldType.int)) ∈ xmTs := List.mem_filter.mpr ⟨List.mem_of_getElem? (i := 592) (by decide +kernel), by decide +kernel⟩
theorem xw_ml_L_114 : Cond.methodLink RL 114 yX4_told ∈ xmTs := List.mem_filter.mpr ⟨List.mem_of_getElem? (i := 593) (by decide +kernel), by decide +kernel⟩
theorem xw_ins_X4_told : Cond.instanceMethod yX4_told ∈ xmTs := List.mem_filter.mpr ⟨List.mem_of_getElem? (i := 594) (by decide +kernel), by decide +kernel⟩
theorem xw_sel_X4_told : Cond.selects yX4_told.cls yX4_told yX4_told ∈ xmTs := List.mem_filter.mpr ⟨List.mem_of_getElem? (i := 595) (by decide +kernel), by decide +kernel⟩
theorem xw_cod_X4_told : Cond.code yX4_told cX4_told 1 (some (FieldType.int)) ∈ xmTs := List.mem_filter.mpr ⟨List.mem_of_getElem? (i := 596) (by decide +kernel), by decide +kernel⟩
theorem xw_cl_L_10 : Cond.classLink RL 10 RX5 ∈ xmTs := List.mem_filter.mpr ⟨List.mem_of_getElem? (i := 597) (by decide +kernel), by decide +kernel⟩
theorem xw_inst_X5 : Cond.instantiable RX5 26 ∈ xmTs := List.mem_filter.mpr ⟨List.mem_of_getElem? (i := 598) (by decide +kernel), by decide +kernel⟩
theorem xw_ml_L_12 : Cond.methodLink RL 12 yX5_init ∈ xmTs := List.mem_filter.mpr ⟨List.mem_of_getElem? (i := 599) (by decide +kernel), by decide +kernel⟩
theorem xw_ins_X5_init : Cond.instanceMethod yX5_init ∈ xmTs := List.mem_filter.mpr ⟨List.mem_of_getElem? (i := 600) (by decide +kernel), by decide +kernel⟩
theorem xw_cod_X5_init : Cond.code yX5_init cX5_init 1 none ∈ xmTs := List.mem_filter.mpr ⟨List.mem_of_getElem? (i := 601) (by decide +kernel), by decide +kernel⟩
theorem xw_ml_X5_1 : Cond.methodLink RX5 1 objectInit ∈ xmTs := List.mem_filter.mpr ⟨List.mem_of_getElem? (i := 602) (by decide +kernel), by decide +kernel⟩
theorem xw_fl_X5_45 : Cond.fieldLink RX5 45 (TX5 0).1 (TX5 0).2.1 (TX5 0).2.2.1 ∈ xmTs := List.mem_filter.mpr ⟨List.mem_of_getElem? (i := 603) (by decide +kernel), by decide +kernel⟩
theorem xw_fl_X5_7 : Cond.fieldLink RX5 7 (TX5 1).1 (TX5 1).2.1 (TX5 1).2.2.1 ∈ xmTs := List.mem_filter.mpr ⟨List.mem_of_getElem? (i := 604) (by decide +kernel), by decide +kernel⟩
theorem xw_fl_X5_13 : Cond.fieldLink RX5 13 (TX5 2).1 (TX5 2).2.1 (TX5 2).2.2.1 ∈ xmTs := List.mem_filter.mpr ⟨List.mem_of_getElem? (i := 605) (by decide +kernel), by decide +kernel⟩
theorem xw_fl_X5_16 : Cond.fieldLink RX5 16 (TX5 3).1 (TX5 3).2.1 (TX5 3).2.2.1 ∈ xmTs := List.mem_filter.mpr ⟨List.mem_of_getElem? (i := 606) (by decide +kernel), by decide +kernel⟩
theorem xw_fl_X5_19 : Cond.fieldLink RX5 19 (TX5 4).1 (TX5 4).2.1 (TX5 4).2.2.1 ∈ xmTs := List.mem_filter.mpr ⟨List.mem_of_getElem? (i := 607) (by decide +kernel), by decide +kernel⟩
theorem xw_fl_X5_22 : Cond.fieldLink RX5 22 (TX5 5).1 (TX5 5).2.1 (TX5 5).2.2.1 ∈ xmTs := List.mem_filter.mpr ⟨List.mem_of_getElem? (i := 608) (by decide +kernel), by decide +kernel⟩
theorem xw_fl_X5_26 : Cond.fieldLink RX5 26 (TX5 6).1 (TX5 6).2.1 (TX5 6).2.2.1 ∈ xmTs := List.mem_filter.mpr ⟨List.mem_of_getElem? (i := 609) (by decide +kernel), by decide +kernel⟩
theorem xw_fl_X5_29 : Cond.fieldLink RX5 29 (TX5 7).1 (TX5 7).2.1 (TX5 7).2.2.1 ∈ xmTs := List.mem_filter.mpr ⟨List.mem_of_getElem? (i := 610) (by decide +kernel), by decide +kernel⟩
theorem xw_fl_X5_32 : Cond.fieldLink RX5 32 (TX5 8).1 (TX5 8).2.1 (TX5 8).2.2.1 ∈ xmTs := List.mem_filter.mpr ⟨List.mem_of_getElem? (i := 611) (by decide +kernel), by decide +kernel⟩
theorem xw_fl_X5_35 : Cond.fieldLink RX5 35 (TX5 9).1 (TX5 9).2.1 (TX5 9).2.2.1 ∈ xmTs := List.mem_filter.mpr ⟨List.mem_of_getElem? (i := 612) (by decide +kernel), by decide +kernel⟩
theorem xw_fl_X5_260 : Cond.fieldLink RX5 260 (TX5 10).1 (TX5 10).2.1 (TX5 10).2.2.1 ∈ xmTs := List.mem_filter.mpr ⟨List.mem_of_getElem? (i := 613) (by decide +kernel), by decide +kernel⟩
theorem xw_fl_X5_38 : Cond.fieldLink RX5 38 (TX5 11).1 (TX5 11).2.1 (TX5 11).2.2.1 ∈ xmTs := List.mem_filter.mpr ⟨List.mem_of_getElem? (i := 614) (by decide +kernel), by decide +kernel⟩
theorem xw_fl_X5_263 : Cond.fieldLink RX5 263 (TX5 12).1 (TX5 12).2.1 (TX5 12).2.2.1 ∈ xmTs := List.mem_filter.mpr ⟨List.mem_of_getElem? (i := 615) (by decide +kernel), by decide +kernel⟩
theorem xw_fl_X5_266 : Cond.fieldLink RX5 266 (TX5 13).1 (TX5 13).2.1 (TX5 13).2.2.1 ∈ xmTs := List.mem_filter.mpr ⟨List.mem_of_getElem? (i := 616) (by decide +kernel), by decide +kernel⟩
theorem xw_fl_X5_61 : Cond.fieldLink RX5 61 (TX5 14).1 (TX5 14).2.1 (TX5 14).2.2.1 ∈ xmTs := List.mem_filter.mpr ⟨List.mem_of_getElem? (i := 617) (by decide +kernel), by decide +kernel⟩
theorem xw_fl_X5_64 : Cond.fieldLink RX5 64 (TX5 15).1 (TX5 15).2.1 (TX5 15).2.2.1 ∈ xmTs := List.mem_filter.mpr ⟨List.mem_of_getElem? (i := 618) (by decide +kernel), by decide +kernel⟩
theorem xw_fl_X5_186 : Cond.fieldLink RX5 186 (TX5 16).1 (TX5 16).2.1 (TX5 16).2.2.1 ∈ xmTs := List.mem_filter.mpr ⟨List.mem_of_getElem? (i := 619) (by decide +kernel), by decide +kernel⟩
theorem xw_fl_X5_48 : Cond.fieldLink RX5 48 (TX5 17).1 (TX5 17).2.1 (TX5 17).2.2.1 ∈ xmTs := List.mem_filter.mpr ⟨List.mem_of_getElem? (i := 620) (by decide +kernel), by decide +kernel⟩
theorem xw_fl_X5_51 : Cond.fieldLink RX5 51 (TX5 18).1 (TX5 18).2.1 (TX5 18).2.2.1 ∈ xmTs := List.mem_filter.mpr ⟨List.mem_of_getElem? (i := 621) (by decide +kernel), by decide +kernel⟩
theorem xw_fl_X5_54 : Cond.fieldLink RX5 54 (TX5 19).1 (TX5 19).2.1 (TX5 19).2.2.1 ∈ xmTs := List.mem_filter.mpr ⟨List.mem_of_getElem? (i := 622) (by decide +kernel), by decide +kernel⟩
theorem xw_fl_X5_138 : Cond.fieldLink RX5 138 (TX5 20).1 (TX5 20).2.1 (TX5 20).2.2.1 ∈ xmTs := List.mem_filter.mpr ⟨List.mem_of_getElem? (i := 623) (by decide +kernel), by decide +kernel⟩
theorem xw_fl_X5_142 : Cond.fieldLink RX5 142 (TX5 21).1 (TX5 21).2.1 (TX5 21).2.2.1 ∈ xmTs := List.mem_filter.mpr ⟨List.mem_of_getElem? (i := 624) (by decide +kernel), by decide +kernel⟩
theorem xw_fl_X5_146 : Cond.fieldLink RX5 146 (TX5 22).1 (TX5 22).2.1 (TX5 22).2.2.1 ∈ xmTs := List.mem_filter.mpr ⟨List.mem_of_getElem? (i := 625) (by decide +kernel), by decide +kernel⟩
theorem xw_fl_X5_230 : Cond.fieldLink RX5 230 (TX5 23).1 (TX5 23).2.1 (TX5 23).2.2.1 ∈ xmTs := List.mem_filter.mpr ⟨List.mem_of_getElem? (i := 626) (by decide +kernel), by decide +kernel⟩
theorem xw_fl_X5_240 : Cond.fieldLink RX5 240 (TX5 24).1 (TX5 24).2.1 (TX5 24).2.2.1 ∈ xmTs := List.mem_filter.mpr ⟨List.mem_of_getElem? (i := 627) (by decide +kernel), by decide +kernel⟩
theorem xw_fl_X5_42 : Cond.fieldLink RX5 42 (TX5 25).1 (TX5 25).2.1 (TX5 25).2.2.1 ∈ xmTs := List.mem_filter.mpr ⟨List.mem_of_getElem? (i := 628) (by decide +kernel), by decide +kernel⟩
theorem xw_lay_X5_0 : u_lay RX5 TX5 0 ∈ xmTs := List.mem_filter.mpr ⟨List.mem_of_getElem? (i := 629) (by decide +kernel), by decide +kernel⟩
theorem xw_lay_X5_1 : u_lay RX5 TX5 1 ∈ xmTs := List.mem_filter.mpr ⟨List.mem_of_getElem? (i := 631) (by decide +kernel), by decide +kernel⟩
theorem xw_lay_X5_2 : u_lay RX5 TX5 2 ∈ xmTs := List.mem_filter.mpr ⟨List.mem_of_getElem? (i := 633) (by decide +kernel), by decide +kernel⟩
theorem xw_lay_X5_3 : u_lay RX5 TX5 3 ∈ xmTs := List.mem_filter.mpr ⟨List.mem_of_getElem? (i := 635) (by decide +kernel), by decide +kernel⟩
theorem xw_lay_X5_4 : u_lay RX5 TX5 4 ∈ xmTs := List.mem_filter.mpr ⟨List.mem_of_getElem? (i := 637) (by decide +kernel), by decide +kernel⟩
theorem xw_lay_X5_5 : u_lay RX5 TX5 5 ∈ xmTs := List.mem_filter.mpr ⟨List.mem_of_getElem? (i := 639) (by decide +kernel), by decide +kernel⟩
theorem xw_lay_X5_6 : u_lay RX5 TX5 6 ∈ xmTs := List.mem_filter.mpr ⟨List.mem_of_getElem? (i := 641) (by decide +kernel), by decide +kernel⟩
theorem xw_lay_X5_7 : u_lay RX5 TX5 7 ∈ xmTs := List.mem_filter.mpr ⟨List.mem_of_getElem? (i := 643) (by decide +kernel), by decide +kernel⟩
theorem xw_lay_X5_8 : u_lay RX5 TX5 8 ∈ xmTs := List.mem_filter.mpr ⟨List.mem_of_getElem? (i := 645) (by decide +kernel), by decide +kernel⟩
theorem xw_lay_X5_9 : u_lay RX5 TX5 9 ∈ xmTs := List.mem_filter.mpr ⟨List.mem_of_getElem? (i := 647) (by decide +kernel), by decide +kernel⟩
theorem xw_lay_X5_10 : u_lay RX5 TX5 10 ∈ xmTs := List.mem_filter.mpr ⟨List.mem_of_getElem? (i := 649) (by decide +kernel), by decide +kernel⟩
theorem xw_lay_X5_11 : u_lay RX5 TX5 11 ∈ xmTs := List.mem_filter.mpr ⟨List.mem_of_getElem? (i := 651) (by decide +kernel), by decide +kernel⟩
theorem xw_lay_X5_12 : u_lay RX5 TX5 12 ∈ xmTs := List.mem_filter.mpr ⟨List.mem_of_getElem? (i := 653) (by decide +kernel), by decide +kernel⟩
theorem xw_lay_X5_13 : u_lay RX5 TX5 13 ∈ xmTs := List.mem_filter.mpr ⟨List.mem_of_getElem? (i := 655) (by decide +kernel), by decide +kernel⟩
theorem xw_lay_X5_14 : u_lay RX5 TX5 14 ∈ xmTs := List.mem_filter.mpr ⟨List.mem_of_getElem? (i := 657) (by decide +kernel), by decide +kernel⟩
theorem xw_lay_X5_15 : u_lay RX5 TX5 15 ∈ xmTs := List.mem_filter.mpr ⟨List.mem_of_getElem? (i := 659) (by decide +kernel), by decide +kernel⟩
theorem xw_lay_X5_16 : u_lay RX5 TX5 16 ∈ xmTs := List.mem_filter.mpr ⟨List.mem_of_getElem? (i := 661) (by decide +kernel), by decide +kernel⟩
theorem xw_lay_X5_17 : u_lay RX5 TX5 17 ∈ xmTs := List.mem_filter.mpr ⟨List.mem_of_getElem? (i := 663) (by decide +kernel), by decide +kernel⟩
theorem xw_lay_X5_18 : u_lay RX5 TX5 18 ∈ xmTs := List.mem_filter.mpr ⟨List.mem_of_getElem? (i := 665) (by decide +kernel), by decide +kernel⟩
theorem xw_lay_X5_19 : u_lay RX5 TX5 19 ∈ xmTs := List.mem_filter.mpr ⟨List.mem_of_getElem? (i := 667) (by decide +kernel), by decide +kernel⟩
theorem xw_lay_X5_20 : u_lay RX5 TX5 20 ∈ xmTs := List.mem_filter.mpr ⟨List.mem_of_getElem? (i := 669) (by decide +kernel), by decide +kernel⟩
theorem xw_lay_X5_21 : u_lay RX5 TX5 21 ∈ xmTs := List.mem_filter.mpr ⟨List.mem_of_getElem? (i := 671) (by decide +kernel), by decide +kernel⟩
theorem xw_lay_X5_22 : u_lay RX5 TX5 22 ∈ xmTs := List.mem_filter.mpr ⟨List.mem_of_getElem? (i := 673) (by decide +kernel), by decide +kernel⟩
theorem xw_lay_X5_23 : u_lay RX5 TX5 23 ∈ xmTs := List.mem_filter.mpr ⟨List.mem_of_getElem? (i := 675) (by decide +kernel), by decide +kernel⟩
theorem xw_lay_X5_24 : u_lay RX5 TX5 24 ∈ xmTs := List.mem_filter.mpr ⟨List.mem_of_getElem? (i := 677) (by decide +kernel), by decide +kernel⟩
theorem xw_lay_X5_25 : u_lay RX5 TX5 25 ∈ xmTs := List.mem_filter.mpr ⟨List.mem_of_getElem? (i := 679) (by decide +kernel), by decide +kernel⟩
theorem xw_arr_boolean : Cond.arrayClass (newarray.typeOf .boolean) ∈ xmTs := List.mem_filter.mpr ⟨List.mem_of_getElem? (i := 682) (by decide +kernel), by decide +kernel⟩
theorem xw_ml_L_17 : Cond.methodLink RL 17 yX5_format ∈ xmTs := List.mem_filter.mpr ⟨List.mem_of_getElem? (i := 683) (by decide +kernel), by decide +kernel⟩
theorem xw_ins_X5_format : Cond.instanceMethod yX5_format ∈ xmTs := List.mem_filter.mpr ⟨List.mem_of_getElem? (i := 684) (by decide +kernel), by decide +kernel⟩
theorem xw_sel_X5_format : Cond.selects yX5_format.cls yX5_format yX5_format ∈ xmTs := List.mem_filter.mpr ⟨List.mem_of_getElem? (i := 685) (by decide +kernel), by decide +kernel⟩
theorem xw_cod_X5_format : Cond.code yX5_format cX5_format 8 (some (FieldType.int)) ∈ xmTs := List.mem_filter.mpr ⟨List.mem_of_getElem? (i := 686) (by decide +kernel), by decide +kernel⟩
theorem xw_ml_X5_70 : Cond.methodLink RX5 70 yX5_in ∈ xmTs := List.mem_filter.mpr ⟨List.mem_of_getElem? (i := 687) (by decide +kernel), by decide +kernel⟩
theorem xw_sta_X5_in : Cond.static yX5_in ∈ xmTs := List.mem_filter.mpr ⟨List.mem_of_getElem? (i := 688) (by decide +kernel), by decide +kernel⟩
theorem xw_cod_X5_in : Cond.code yX5_in cX5_in 6 (some (FieldType.boolean)) ∈ xmTs := List.mem_filter.mpr ⟨List.mem_of_getElem? (i := 689) (by decide +kernel), by decide +kernel⟩
theorem xw_cst_X5_103 : Cond.constantLong RX5 103 (4) ∈ xmTs := List.mem_filter.mpr ⟨List.mem_of_getElem? (i := 690) (by decide +kernel), by decide +kernel⟩
theorem xw_cst_X5_105 : Cond.constantLong RX5 105 (5) ∈ xmTs := List.mem_filter.mpr ⟨List.mem_of_getElem? (i := 691) (by decide +kernel), by decide +kernel⟩
theorem xw_cst_X5_107 : Cond.constantLong RX5 107 (15) ∈ xmTs := List.mem_filter.mpr ⟨List.mem_of_getElem? (i := 692) (by decide +kernel), by decide +kernel⟩
theorem xw_cst_X5_90 : Cond.constantLong RX5 90 (2) ∈ xmTs := List.mem_filter.mpr ⟨List.mem_of_getElem? (i := 693) (by decide +kernel), by decide +kernel⟩
theorem xw_ml_X5_57 : Cond.methodLink RX5 57 yX5_refused ∈ xmTs := List.mem_filter.mpr ⟨List.mem_of_getElem? (i := 694) (by decide +kernel), by decide +kernel⟩
theorem xw_ins_X5_refused : Cond.instanceMethod yX5_refused ∈ xmTs := List.mem_filter.mpr ⟨List.mem_of_getElem? (i := 696) (by decide +kernel), by decide +kernel⟩
theorem xw_cod_X5_refused : Cond.code yX5_refused cX5_refused 2 (some (FieldType.int)) ∈ xmTs := List.mem_filter.mpr ⟨List.mem_of_getElem? (i := 697) (by decide +kernel), by decide +kernel⟩
theorem xw_ml_X5_67 : Cond.methodLink RX5 67 yX5_fine ∈ xmTs := List.mem_filter.mpr ⟨List.mem_of_getElem? (i := 698) (by decide +kernel), by decide +kernel⟩
theorem xw_ins_X5_fine : Cond.instanceMethod yX5_fine ∈ xmTs := List.mem_filter.mpr ⟨List.mem_of_getElem? (i := 700) (by decide +kernel), by decide +kernel⟩
theorem xw_cod_X5_fine : Cond.code yX5_fine cX5_fine 2 (some (FieldType.int)) ∈ xmTs := List.mem_filter.mpr ⟨List.mem_of_getElem? (i := 701) (by decide +kernel), by decide +kernel⟩
theorem xw_ml_L_22 : Cond.methodLink RL 22 yX5_about ∈ xmTs := List.mem_filter.mpr ⟨List.mem_of_getElem? (i := 702) (by decide +kernel), by decide +kernel⟩
theorem xw_ins_X5_about : Cond.instanceMethod yX5_about ∈ xmTs := List.mem_filter.mpr ⟨List.mem_of_getElem? (i := 703) (by decide +kernel), by decide +kernel⟩
theorem xw_sel_X5_about : Cond.selects yX5_about.cls yX5_about yX5_about ∈ xmTs := List.mem_filter.mpr ⟨List.mem_of_getElem? (i := 704) (by decide +kernel), by decide +kernel⟩
theorem xw_cod_X5_about : Cond.code yX5_about cX5_about 5 (some (FieldType.int)) ∈ xmTs := List.mem_filter.mpr ⟨List.mem_of_getElem? (i := 705) (by decide +kernel), by decide +kernel⟩
theorem xw_ml_X5_109 : Cond.methodLink RX5 109 yX5_isFormat ∈ xmTs := List.mem_filter.mpr ⟨List.mem_of_getElem? (i := 706) (by decide +kernel), by decide +kernel⟩
theorem xw_ins_X5_isFormat : Cond.instanceMethod yX5_isFormat ∈ xmTs := List.mem_filter.mpr ⟨List.mem_of_getElem? (i := 708) (by decide +kernel), by decide +kernel⟩
theorem xw_cod_X5_isFormat : Cond.code yX5_isFormat cX5_isFormat 2 (some (FieldType.boolean)) ∈ xmTs := List.mem_filter.mpr ⟨List.mem_of_getElem? (i := 709) (by decide +kernel), by decide +kernel⟩
theorem xw_cst_X5_113 : Cond.constantLong RX5 113 (6) ∈ xmTs := List.mem_filter.mpr ⟨List.mem_of_getElem? (i := 710) (by decide +kernel), by decide +kernel⟩
theorem xw_ml_X5_74 : Cond.methodLink RX5 74 yX5_bits ∈ xmTs := List.mem_filter.mpr ⟨List.mem_of_getElem? (i := 711) (by decide +kernel), by decide +kernel⟩
theorem xw_ins_X5_bits : Cond.instanceMethod yX5_bits ∈ xmTs := List.mem_filter.mpr ⟨List.mem_of_getElem? (i := 713) (by decide +kernel), by decide +kernel⟩
theorem xw_cod_X5_bits : Cond.code yX5_bits cX5_bits 2 (some (FieldType.int)) ∈ xmTs := List.mem_filter.mpr ⟨List.mem_of_getElem? (i := 714) (by decide +kernel), by decide +kernel⟩
theorem xw_ml_X5_100 : Cond.methodLink RX5 100 yX5_great ∈ xmTs := List.mem_filter.mpr ⟨List.mem_of_getElem? (i := 715) (by decide +kernel), by decide +kernel⟩
theorem xw_ins_X5_great : Cond.instanceMethod yX5_great ∈ xmTs := List.mem_filter.mpr ⟨List.mem_of_getElem? (i := 717) (by decide +kernel), by decide +kernel⟩
theorem xw_cod_X5_great : Cond.code yX5_great cX5_great 2 (some (FieldType.int)) ∈ xmTs := List.mem_filter.mpr ⟨List.mem_of_getElem? (i := 718) (by decide +kernel), by decide +kernel⟩
theorem xw_ml_X5_84 : Cond.methodLink RX5 84 yX5_allOnes ∈ xmTs := List.mem_filter.mpr ⟨List.mem_of_getElem? (i := 719) (by decide +kernel), by decide +kernel⟩
theorem xw_ins_X5_allOnes : Cond.instanceMethod yX5_allOnes ∈ xmTs := List.mem_filter.mpr ⟨List.mem_of_getElem? (i := 721) (by decide +kernel), by decide +kernel⟩
theorem xw_cod_X5_allOnes : Cond.code yX5_allOnes cX5_allOnes 2 (some (FieldType.int)) ∈ xmTs := List.mem_filter.mpr ⟨List.mem_of_getElem? (i := 722) (by decide +kernel), by decide +kernel⟩
theorem xw_ml_X5_77 : Cond.methodLink RX5 77 yX5_signBit ∈ xmTs := List.mem_filter.mpr ⟨List.mem_of_getElem? (i := 723) (by decide +kernel), by decide +kernel⟩
theorem xw_ins_X5_signBit : Cond.instanceMethod yX5_signBit ∈ xmTs := List.mem_filter.mpr ⟨List.mem_of_getElem? (i := 725) (by decide +kernel), by decide +kernel⟩
theorem xw_cod_X5_signBit : Cond.code yX5_signBit cX5_signBit 2 (some (FieldType.int)) ∈ xmTs := List.mem_filter.mpr ⟨List.mem_of_getElem? (i := 726) (by decide +kernel), by decide +kernel⟩
theorem xw_ml_X5_115 : Cond.methodLink RX5 115 yX5_last ∈ xmTs := List.mem_filter.mpr ⟨List.mem_of_getElem? (i := 727) (by decide +kernel), by decide +kernel⟩
theorem xw_ins_X5_last : Cond.instanceMethod yX5_last ∈ xmTs := List.mem_filter.mpr ⟨List.mem_of_getElem? (i := 729) (by decide +kernel), by decide +kernel⟩
theorem xw_cod_X5_last : Cond.code yX5_last cX5_last 2 (some (FieldType.int)) ∈ xmTs := List.mem_filter.mpr ⟨List.mem_of_getElem? (i := 730) (by decide +kernel), by decide +kernel⟩
theorem xw_ml_X5_118 : Cond.methodLink RX5 118 yX5_noneOf ∈ xmTs := List.mem_filter.mpr ⟨List.mem_of_getElem? (i := 731) (by decide +kernel), by decide +kernel⟩
theorem xw_ins_X5_noneOf : Cond.instanceMethod yX5_noneOf ∈ xmTs := List.mem_filter.mpr ⟨List.mem_of_getElem? (i := 733) (by decide +kernel), by decide +kernel⟩
theorem xw_cod_X5_noneOf : Cond.code yX5_noneOf cX5_noneOf 2 (some (FieldType.int)) ∈ xmTs := List.mem_filter.mpr ⟨List.mem_of_getElem? (i := 734) (by decide +kernel), by decide +kernel⟩
theorem xw_ml_X5_121 : Cond.methodLink RX5 121 yX5_endless ∈ xmTs := List.mem_filter.mpr ⟨List.mem_of_getElem? (i := 735) (by decide +kernel), by decide +kernel⟩
theorem xw_ins_X5_endless : Cond.instanceMethod yX5_endless ∈ xmTs := List.mem_filter.mpr ⟨List.mem_of_getElem? (i := 737) (by decide +kernel), by decide +kernel⟩
theorem xw_cod_X5_endless : Cond.code yX5_endless cX5_endless 2 (some (FieldType.int)) ∈ xmTs := List.mem_filter.mpr ⟨List.mem_of_getElem? (i := 738) (by decide +kernel), by decide +kernel⟩
theorem xw_ml_X5_124 : Cond.methodLink RX5 124 yX5_isNumber ∈ xmTs := List.mem_filter.mpr ⟨List.mem_of_getElem? (i := 739) (by decide +kernel), by decide +kernel⟩
theorem xw_ins_X5_isNumber : Cond.instanceMethod yX5_isNumber ∈ xmTs := List.mem_filter.mpr ⟨List.mem_of_getElem? (i := 741) (by decide +kernel), by decide +kernel⟩
theorem xw_cod_X5_isNumber : Cond.code yX5_isNumber cX5_isNumber 3 (some (FieldType.boolean)) ∈ xmTs := List.mem_filter.mpr ⟨List.mem_of_getElem? (i := 742) (by decide +kernel), by decide +kernel⟩
theorem xw_ml_X5_87 : Cond.methodLink RX5 87 yX5_kindOf ∈ xmTs := List.mem_filter.mpr ⟨List.mem_of_getElem? (i := 743) (by decide +kernel), by decide +kernel⟩
theorem xw_ins_X5_kindOf : Cond.instanceMethod yX5_kindOf ∈ xmTs := List.mem_filter.mpr ⟨List.mem_of_getElem? (i := 745) (by decide +kernel), by decide +kernel⟩
theorem xw_cod_X5_kindOf : Cond.code yX5_kindOf cX5_kindOf 5 (some (FieldType.int)) ∈ xmTs := List.mem_filter.mpr ⟨List.mem_of_getElem? (i := 746) (by decide +kernel), by decide +kernel⟩
theorem xw_ml_X5_80 : Cond.methodLink RX5 80 yX5_plain ∈ xmTs := List.mem_filter.mpr ⟨List.mem_of_getElem? (i := 747) (by decide +kernel), by decide +kernel⟩
theorem xw_ins_X5_plain : Cond.instanceMethod yX5_plain ∈ xmTs := List.mem_filter.mpr ⟨List.mem_of_getElem? (i := 749) (by decide +kernel), by decide +kernel⟩
theorem xw_cod_X5_plain : Cond.code yX5_plain cX5_plain 3 (some (FieldType.int)) ∈ xmTs := List.mem_filter.mpr ⟨List.mem_of_getElem? (i := 750) (by decide +kernel), by decide +kernel⟩
theorem xw_ml_X5_127 : Cond.methodLink RX5 127 yX5_scale ∈ xmTs := List.mem_filter.mpr ⟨List.mem_of_getElem? (i := 751) (by decide +kernel), by decide +kernel⟩
theorem xw_ins_X5_scale : Cond.instanceMethod yX5_scale ∈ xmTs := List.mem_filter.mpr ⟨List.mem_of_getElem? (i := 753) (by decide +kernel), by decide +kernel⟩
theorem xw_cod_X5_scale : Cond.code yX5_scale cX5_scale 2 (some (FieldType.int)) ∈ xmTs := List.mem_filter.mpr ⟨List.mem_of_getElem? (i := 754) (by decide +kernel), by decide +kernel⟩
theorem xw_ml_L_27 : Cond.methodLink RL 27 yX5_kind ∈ xmTs := List.mem_filter.mpr ⟨List.mem_of_getElem? (i := 755) (by decide +kernel), by decide +kernel⟩
theorem xw_ins_X5_kind : Cond.instanceMethod yX5_kind ∈ xmTs := List.mem_filter.mpr ⟨List.mem_of_getElem? (i := 756) (by decide +kernel), by decide +kernel⟩
theorem xw_sel_X5_kind : Cond.selects yX5_kind.cls yX5_kind yX5_kind ∈ xmTs := List.mem_filter.mpr ⟨List.mem_of_getElem? (i := 757) (by decide +kernel), by decide +kernel⟩
theorem xw_cod_X5_kind : Cond.code yX5_kind cX5_kind 4 (some (FieldType.int)) ∈ xmTs := List.mem_filter.mpr ⟨List.mem_of_getElem? (i := 758) (by decide +kernel), by decide +kernel⟩
theorem xw_ml_X5_130 : Cond.methodLink RX5 130 yX5_isCode ∈ xmTs := List.mem_filter.mpr ⟨List.mem_of_getElem? (i := 759) (by decide +kernel), by decide +kernel⟩
theorem xw_ins_X5_isCode : Cond.instanceMethod yX5_isCode ∈ xmTs := List.mem_filter.mpr ⟨List.mem_of_getElem? (i := 761) (by decide +kernel), by decide +kernel⟩
theorem xw_cod_X5_isCode : Cond.code yX5_isCode cX5_isCode 3 (some (FieldType.boolean)) ∈ xmTs := List.mem_filter.mpr ⟨List.mem_of_getElem? (i := 762) (by decide +kernel), by decide +kernel⟩
theorem xw_ml_X5_96 : Cond.methodLink RX5 96 yX5_isMinus ∈ xmTs := List.mem_filter.mpr ⟨List.mem_of_getElem? (i := 763) (by decide +kernel), by decide +kernel⟩
theorem xw_ins_X5_isMinus : Cond.instanceMethod yX5_isMinus ∈ xmTs := List.mem_filter.mpr ⟨List.mem_of_getElem? (i := 765) (by decide +kernel), by decide +kernel⟩
theorem xw_cod_X5_isMinus : Cond.code yX5_isMinus cX5_isMinus 3 (some (FieldType.boolean)) ∈ xmTs := List.mem_filter.mpr ⟨List.mem_of_getElem? (i := 766) (by decide +kernel), by decide +kernel⟩
theorem xw_ml_L_32 : Cond.methodLink RL 32 yX5_units ∈ xmTs := List.mem_filter.mpr ⟨List.mem_of_getElem? (i := 767) (by decide +kernel), by decide +kernel⟩
theorem xw_ins_X5_units : Cond.instanceMethod yX5_units ∈ xmTs := List.mem_filter.mpr ⟨List.mem_of_getElem? (i := 768) (by decide +kernel), by decide +kernel⟩
theorem xw_sel_X5_units : Cond.selects yX5_units.cls yX5_units yX5_units ∈ xmTs := List.mem_filter.mpr ⟨List.mem_of_getElem? (i := 769) (by decide +kernel), by decide +kernel⟩
theorem xw_cod_X5_units : Cond.code yX5_units cX5_units 4 (some (FieldType.long)) ∈ xmTs := List.mem_filter.mpr ⟨List.mem_of_getElem? (i := 770) (by decide +kernel), by decide +kernel⟩
theorem xw_cst_X5_133 : Cond.constantLong RX5 133 (-9223372036854775808) ∈ xmTs := List.mem_filter.mpr ⟨List.mem_of_getElem? (i := 771) (by decide +kernel), by decide +kernel⟩
theorem xw_ml_X5_135 : Cond.methodLink RX5 135 yX5_unitsOf ∈ xmTs := List.mem_filter.mpr ⟨List.mem_of_getElem? (i := 772) (by decide +kernel), by decide +kernel⟩
theorem xw_ins_X5_unitsOf : Cond.instanceMethod yX5_unitsOf ∈ xmTs := List.mem_filter.mpr ⟨List.mem_of_getElem? (i := 774) (by decide +kernel), by decide +kernel⟩
theorem xw_cod_X5_unitsOf : Cond.code yX5_unitsOf cX5_unitsOf 5 (some (FieldType.long)) ∈ xmTs := List.mem_filter.mpr ⟨List.mem_of_getElem? (i := 775) (by decide +kernel), by decide +kernel⟩
theorem xw_ml_X5_92 : Cond.methodLink RX5 92 yX5_size ∈ xmTs := List.mem_filter.mpr ⟨List.mem_of_getElem? (i := 776) (by decide +kernel), by decide +kernel⟩
theorem xw_ins_X5_size : Cond.instanceMethod yX5_size ∈ xmTs := List.mem_filter.mpr ⟨List.mem_of_getElem? (i := 778) (by decide +kernel), by decide +kernel⟩
theorem xw_cod_X5_size : Cond.code yX5_size cX5_size 6 (some (FieldType.long)) ∈ xmTs := List.mem_filter.mpr ⟨List.mem_of_getElem? (i := 779) (by decide +kernel), by decide +kernel⟩
theorem xw_ml_L_39 : Cond.methodLink RL 39 yX5_code ∈ xmTs := List.mem_filter.mpr ⟨List.mem_of_getElem? (i := 780) (by decide +kernel), by decide +kernel⟩
theorem xw_ins_X5_code : Cond.instanceMethod yX5_code ∈ xmTs := List.mem_filter.mpr ⟨List.mem_of_getElem? (i := 781) (by decide +kernel), by decide +kernel⟩
theorem xw_sel_X5_code : Cond.selects yX5_code.cls yX5_code yX5_code ∈ xmTs := List.mem_filter.mpr ⟨List.mem_of_getElem? (i := 782) (by decide +kernel), by decide +kernel⟩
theorem xw_cod_X5_code : Cond.code yX5_code cX5_code 7 (some (FieldType.int)) ∈ xmTs := List.mem_filter.mpr ⟨List.mem_of_getElem? (i := 783) (by decide +kernel), by decide +kernel⟩
theorem xw_cst_X5_170 : Cond.constantLong RX5 170 (-1099511627776) ∈ xmTs := List.mem_filter.mpr ⟨List.mem_of_getElem? (i := 784) (by decide +kernel), by decide +kernel⟩
theorem xw_cst_X5_172 : Cond.constantLong RX5 172 (1099511627776) ∈ xmTs := List.mem_filter.mpr ⟨List.mem_of_getElem? (i := 785) (by decide +kernel), by decide +kernel⟩
theorem xw_cst_X5_174 : Cond.constantLong RX5 174 (1048576) ∈ xmTs := List.mem_filter.mpr ⟨List.mem_of_getElem? (i := 786) (by decide +kernel), by decide +kernel⟩
theorem xw_ml_X5_176 : Cond.methodLink RX5 176 yX5_begins ∈ xmTs := List.mem_filter.mpr ⟨List.mem_of_getElem? (i := 787) (by decide +kernel), by decide +kernel⟩
theorem xw_ins_X5_begins : Cond.instanceMethod yX5_begins ∈ xmTs := List.mem_filter.mpr ⟨List.mem_of_getElem? (i := 789) (by decide +kernel), by decide +kernel⟩
theorem xw_cod_X5_begins : Cond.code yX5_begins cX5_begins 1 none ∈ xmTs := List.mem_filter.mpr ⟨List.mem_of_getElem? (i := 790) (by decide +kernel), by decide +kernel⟩
theorem xw_ml_X5_179 : Cond.methodLink RX5 179 yX5_roundedFraction ∈ xmTs := List.mem_filter.mpr ⟨List.mem_of_getElem? (i := 791) (by decide +kernel), by decide +kernel⟩
theorem xw_ins_X5_roundedFraction : Cond.instanceMethod yX5_roundedFraction ∈ xmTs := List.mem_filter.mpr ⟨List.mem_of_getElem? (i := 793) (by decide +kernel), by decide +kernel⟩
theorem xw_cod_X5_roundedFraction : Cond.code yX5_roundedFraction cX5_roundedFraction 8 (some (FieldType.int)) ∈ xmTs := List.mem_filter.mpr ⟨List.mem_of_getElem? (i := 794) (by decide +kernel), by decide +kernel⟩
theorem xw_ml_X5_149 : Cond.methodLink RX5 149 yX5_signed ∈ xmTs := List.mem_filter.mpr ⟨List.mem_of_getElem? (i := 795) (by decide +kernel), by decide +kernel⟩
theorem xw_ins_X5_signed : Cond.instanceMethod yX5_signed ∈ xmTs := List.mem_filter.mpr ⟨List.mem_of_getElem? (i := 797) (by decide +kernel), by decide +kernel⟩
theorem xw_cod_X5_signed : Cond.code yX5_signed cX5_signed 4 (some (FieldType.int)) ∈ xmTs := List.mem_filter.mpr ⟨List.mem_of_getElem? (i := 798) (by decide +kernel), by decide +kernel⟩
theorem xw_ml_X5_167 : Cond.methodLink RX5 167 yX5_rounded ∈ xmTs := List.mem_filter.mpr ⟨List.mem_of_getElem? (i := 799) (by decide +kernel), by decide +kernel⟩
theorem xw_ins_X5_rounded : Cond.instanceMethod yX5_rounded ∈ xmTs := List.mem_filter.mpr ⟨List.mem_of_getElem? (i := 801) (by decide +kernel), by decide +kernel⟩
theorem xw_cod_X5_rounded : Cond.code yX5_rounded cX5_rounded 9 (some (FieldType.int)) ∈ xmTs := List.mem_filter.mpr ⟨List.mem_of_getElem? (i := 802) (by decide +kernel), by decide +kernel⟩
theorem xw_ml_X5_155 : Cond.methodLink RX5 155 yX5_twiceBeside ∈ xmTs := List.mem_filter.mpr ⟨List.mem_of_getElem? (i := 803) (by decide +kernel), by decide +kernel⟩
theorem xw_ins_X5_twiceBeside : Cond.instanceMethod yX5_twiceBeside ∈ xmTs := List.mem_filter.mpr ⟨List.mem_of_getElem? (i := 805) (by decide +kernel), by decide +kernel⟩
theorem xw_cod_X5_twiceBeside : Cond.code yX5_twiceBeside cX5_twiceBeside 7 (some (FieldType.int)) ∈ xmTs := List.mem_filter.mpr ⟨List.mem_of_getElem? (i := 806) (by decide +kernel), by decide +kernel⟩
theorem xw_ml_X5_163 : Cond.methodLink RX5 163 yX5_roundedAbove ∈ xmTs := List.mem_filter.mpr ⟨List.mem_of_getElem? (i := 807) (by decide +kernel), by decide +kernel⟩
theorem xw_ins_X5_roundedAbove : Cond.instanceMethod yX5_roundedAbove ∈ xmTs := List.mem_filter.mpr ⟨List.mem_of_getElem? (i := 809) (by decide +kernel), by decide +kernel⟩
theorem xw_cod_X5_roundedAbove : Cond.code yX5_roundedAbove cX5_roundedAbove 7 (some (FieldType.int)) ∈ xmTs := List.mem_filter.mpr ⟨List.mem_of_getElem? (i := 810) (by decide +kernel), by decide +kernel⟩
theorem xw_cst_X5_153 : Cond.constantLong RX5 153 (3) ∈ xmTs := List.mem_filter.mpr ⟨List.mem_of_getElem? (i := 811) (by decide +kernel), by decide +kernel⟩
theorem xw_ml_X5_159 : Cond.methodLink RX5 159 yX5_beyond ∈ xmTs := List.mem_filter.mpr ⟨List.mem_of_getElem? (i := 812) (by decide +kernel), by decide +kernel⟩
theorem xw_ins_X5_beyond : Cond.instanceMethod yX5_beyond ∈ xmTs := List.mem_filter.mpr ⟨List.mem_of_getElem? (i := 814) (by decide +kernel), by decide +kernel⟩
theorem xw_cod_X5_beyond : Cond.code yX5_beyond cX5_beyond 3 (some (FieldType.int)) ∈ xmTs := List.mem_filter.mpr ⟨List.mem_of_getElem? (i := 815) (by decide +kernel), by decide +kernel⟩
theorem xw_ml_X5_183 : Cond.methodLink RX5 183 yX5_ends ∈ xmTs := List.mem_filter.mpr ⟨List.mem_of_getElem? (i := 816) (by decide +kernel), by decide +kernel⟩
theorem xw_ins_X5_ends : Cond.instanceMethod yX5_ends ∈ xmTs := List.mem_filter.mpr ⟨List.mem_of_getElem? (i := 818) (by decide +kernel), by decide +kernel⟩
theorem xw_cod_X5_ends : Cond.code yX5_ends cX5_ends 2 (some (FieldType.int)) ∈ xmTs := List.mem_filter.mpr ⟨List.mem_of_getElem? (i := 819) (by decide +kernel), by decide +kernel⟩
theorem xw_ml_L_44 : Cond.methodLink RL 44 yX5_cross ∈ xmTs := List.mem_filter.mpr ⟨List.mem_of_getElem? (i := 820) (by decide +kernel), by decide +kernel⟩
theorem xw_ins_X5_cross : Cond.instanceMethod yX5_cross ∈ xmTs := List.mem_filter.mpr ⟨List.mem_of_getElem? (i := 821) (by decide +kernel), by decide +kernel⟩
theorem xw_sel_X5_cross : Cond.selects yX5_cross.cls yX5_cross yX5_cross ∈ xmTs := List.mem_filter.mpr ⟨List.mem_of_getElem? (i := 822) (by decide +kernel), by decide +kernel⟩
theorem xw_cod_X5_cross : Cond.code yX5_cross cX5_cross 5 (some (FieldType.int)) ∈ xmTs := List.mem_filter.mpr ⟨List.mem_of_getElem? (i := 823) (by decide +kernel), by decide +kernel⟩
theorem xw_ml_X5_192 : Cond.methodLink RX5 192 yX5_crossed ∈ xmTs := List.mem_filter.mpr ⟨List.mem_of_getElem? (i := 824) (by decide +kernel), by decide +kernel⟩
theorem xw_ins_X5_crossed : Cond.instanceMethod yX5_crossed ∈ xmTs := List.mem_filter.mpr ⟨List.mem_of_getElem? (i := 826) (by decide +kernel), by decide +kernel⟩
theorem xw_cod_X5_crossed : Cond.code yX5_crossed cX5_crossed 10 (some (FieldType.int)) ∈ xmTs := List.mem_filter.mpr ⟨List.mem_of_getElem? (i := 827) (by decide +kernel), by decide +kernel⟩
theorem xw_ml_X5_189 : Cond.methodLink RX5 189 yX5_invalidIn ∈ xmTs := List.mem_filter.mpr ⟨List.mem_of_getElem? (i := 828) (by decide +kernel), by decide +kernel⟩
theorem xw_ins_X5_invalidIn : Cond.instanceMethod yX5_invalidIn ∈ xmTs := List.mem_filter.mpr ⟨List.mem_of_getElem? (i := 830) (by decide +kernel), by decide +kernel⟩
theorem xw_cod_X5_invalidIn : Cond.code yX5_invalidIn cX5_invalidIn 2 (some (FieldType.int)) ∈ xmTs := List.mem_filter.mpr ⟨List.mem_of_getElem? (i := 831) (by decide +kernel), by decide +kernel⟩
theorem xw_ml_L_49 : Cond.methodLink RL 49 yX5_act ∈ xmTs := List.mem_filter.mpr ⟨List.mem_of_getElem? (i := 832) (by decide +kernel), by decide +kernel⟩
theorem xw_ins_X5_act : Cond.instanceMethod yX5_act ∈ xmTs := List.mem_filter.mpr ⟨List.mem_of_getElem? (i := 833) (by decide +kernel), by decide +kernel⟩
theorem xw_sel_X5_act : Cond.selects yX5_act.cls yX5_act yX5_act ∈ xmTs := List.mem_filter.mpr ⟨List.mem_of_getElem? (i := 834) (by decide +kernel), by decide +kernel⟩
theorem xw_cod_X5_act : Cond.code yX5_act cX5_act 6 (some (FieldType.int)) ∈ xmTs := List.mem_filter.mpr ⟨List.mem_of_getElem? (i := 835) (by decide +kernel), by decide +kernel⟩
theorem xw_ml_X5_226 : Cond.methodLink RX5 226 yX5_acted ∈ xmTs := List.mem_filter.mpr ⟨List.mem_of_getElem? (i := 836) (by decide +kernel), by decide +kernel⟩
theorem xw_ins_X5_acted : Cond.instanceMethod yX5_acted ∈ xmTs := List.mem_filter.mpr ⟨List.mem_of_getElem? (i := 838) (by decide +kernel), by decide +kernel⟩
theorem xw_cod_X5_acted : Cond.code yX5_acted cX5_acted 6 (some (FieldType.int)) ∈ xmTs := List.mem_filter.mpr ⟨List.mem_of_getElem? (i := 839) (by decide +kernel), by decide +kernel⟩
theorem xw_ml_X5_210 : Cond.methodLink RX5 210 yX5_summed ∈ xmTs := List.mem_filter.mpr ⟨List.mem_of_getElem? (i := 840) (by decide +kernel), by decide +kernel⟩
theorem xw_ins_X5_summed : Cond.instanceMethod yX5_summed ∈ xmTs := List.mem_filter.mpr ⟨List.mem_of_getElem? (i := 842) (by decide +kernel), by decide +kernel⟩
theorem xw_cod_X5_summed : Cond.code yX5_summed cX5_summed 12 (some (FieldType.int)) ∈ xmTs := List.mem_filter.mpr ⟨List.mem_of_getElem? (i := 843) (by decide +kernel), by decide +kernel⟩
theorem xw_ml_X5_200 : Cond.methodLink RX5 200 yX5_isEndless ∈ xmTs := List.mem_filter.mpr ⟨List.mem_of_getElem? (i := 844) (by decide +kernel), by decide +kernel⟩
theorem xw_ins_X5_isEndless : Cond.instanceMethod yX5_isEndless ∈ xmTs := List.mem_filter.mpr ⟨List.mem_of_getElem? (i := 846) (by decide +kernel), by decide +kernel⟩
theorem xw_cod_X5_isEndless : Cond.code yX5_isEndless cX5_isEndless 3 (some (FieldType.boolean)) ∈ xmTs := List.mem_filter.mpr ⟨List.mem_of_getElem? (i := 847) (by decide +kernel), by decide +kernel⟩
theorem xw_ml_X5_206 : Cond.methodLink RX5 206 yX5_endlessSum ∈ xmTs := List.mem_filter.mpr ⟨List.mem_of_getElem? (i := 848) (by decide +kernel), by decide +kernel⟩
theorem xw_ins_X5_endlessSum : Cond.instanceMethod yX5_endlessSum ∈ xmTs := List.mem_filter.mpr ⟨List.mem_of_getElem? (i := 850) (by decide +kernel), by decide +kernel⟩
theorem xw_cod_X5_endlessSum : Cond.code yX5_endlessSum cX5_endlessSum 6 (some (FieldType.int)) ∈ xmTs := List.mem_filter.mpr ⟨List.mem_of_getElem? (i := 851) (by decide +kernel), by decide +kernel⟩
theorem xw_ml_X5_203 : Cond.methodLink RX5 203 yX5_endlessOr ∈ xmTs := List.mem_filter.mpr ⟨List.mem_of_getElem? (i := 852) (by decide +kernel), by decide +kernel⟩
theorem xw_ins_X5_endlessOr : Cond.instanceMethod yX5_endlessOr ∈ xmTs := List.mem_filter.mpr ⟨List.mem_of_getElem? (i := 854) (by decide +kernel), by decide +kernel⟩
theorem xw_cod_X5_endlessOr : Cond.code yX5_endlessOr cX5_endlessOr 3 (some (FieldType.int)) ∈ xmTs := List.mem_filter.mpr ⟨List.mem_of_getElem? (i := 855) (by decide +kernel), by decide +kernel⟩
theorem xw_ml_X5_214 : Cond.methodLink RX5 214 yX5_multiplied ∈ xmTs := List.mem_filter.mpr ⟨List.mem_of_getElem? (i := 856) (by decide +kernel), by decide +kernel⟩
theorem xw_ins_X5_multiplied : Cond.instanceMethod yX5_multiplied ∈ xmTs := List.mem_filter.mpr ⟨List.mem_of_getElem? (i := 858) (by decide +kernel), by decide +kernel⟩
theorem xw_cod_X5_multiplied : Cond.code yX5_multiplied cX5_multiplied 6 (some (FieldType.int)) ∈ xmTs := List.mem_filter.mpr ⟨List.mem_of_getElem? (i := 859) (by decide +kernel), by decide +kernel⟩
theorem xw_ml_X5_217 : Cond.methodLink RX5 217 yX5_divided ∈ xmTs := List.mem_filter.mpr ⟨List.mem_of_getElem? (i := 860) (by decide +kernel), by decide +kernel⟩
theorem xw_ins_X5_divided : Cond.instanceMethod yX5_divided ∈ xmTs := List.mem_filter.mpr ⟨List.mem_of_getElem? (i := 862) (by decide +kernel), by decide +kernel⟩
theorem xw_cod_X5_divided : Cond.code yX5_divided cX5_divided 12 (some (FieldType.int)) ∈ xmTs := List.mem_filter.mpr ⟨List.mem_of_getElem? (i := 863) (by decide +kernel), by decide +kernel⟩
theorem xw_ml_X5_220 : Cond.methodLink RX5 220 yX5_rooted ∈ xmTs := List.mem_filter.mpr ⟨List.mem_of_getElem? (i := 864) (by decide +kernel), by decide +kernel⟩
theorem xw_ins_X5_rooted : Cond.instanceMethod yX5_rooted ∈ xmTs := List.mem_filter.mpr ⟨List.mem_of_getElem? (i := 866) (by decide +kernel), by decide +kernel⟩
theorem xw_cod_X5_rooted : Cond.code yX5_rooted cX5_rooted 4 (some (FieldType.int)) ∈ xmTs := List.mem_filter.mpr ⟨List.mem_of_getElem? (i := 867) (by decide +kernel), by decide +kernel⟩
theorem xw_ml_X5_223 : Cond.methodLink RX5 223 yX5_lesser ∈ xmTs := List.mem_filter.mpr ⟨List.mem_of_getElem? (i := 868) (by decide +kernel), by decide +kernel⟩
theorem xw_ins_X5_lesser : Cond.instanceMethod yX5_lesser ∈ xmTs := List.mem_filter.mpr ⟨List.mem_of_getElem? (i := 870) (by decide +kernel), by decide +kernel⟩
theorem xw_cod_X5_lesser : Cond.code yX5_lesser cX5_lesser 6 (some (FieldType.int)) ∈ xmTs := List.mem_filter.mpr ⟨List.mem_of_getElem? (i := 871) (by decide +kernel), by decide +kernel⟩
theorem xw_ml_X5_196 : Cond.methodLink RX5 196 yX5_beside ∈ xmTs := List.mem_filter.mpr ⟨List.mem_of_getElem? (i := 872) (by decide +kernel), by decide +kernel⟩
theorem xw_ins_X5_beside : Cond.instanceMethod yX5_beside ∈ xmTs := List.mem_filter.mpr ⟨List.mem_of_getElem? (i := 874) (by decide +kernel), by decide +kernel⟩
theorem xw_cod_X5_beside : Cond.code yX5_beside cX5_beside 8 (some (FieldType.int)) ∈ xmTs := List.mem_filter.mpr ⟨List.mem_of_getElem? (i := 875) (by decide +kernel), by decide +kernel⟩
theorem xw_ml_L_53 : Cond.methodLink RL 53 yX5_fused ∈ xmTs := List.mem_filter.mpr ⟨List.mem_of_getElem? (i := 876) (by decide +kernel), by decide +kernel⟩
theorem xw_ins_X5_fused : Cond.instanceMethod yX5_fused ∈ xmTs := List.mem_filter.mpr ⟨List.mem_of_getElem? (i := 877) (by decide +kernel), by decide +kernel⟩
theorem xw_sel_X5_fused : Cond.selects yX5_fused.cls yX5_fused yX5_fused ∈ xmTs := List.mem_filter.mpr ⟨List.mem_of_getElem? (i := 878) (by decide +kernel), by decide +kernel⟩
theorem xw_cod_X5_fused : Cond.code yX5_fused cX5_fused 9 (some (FieldType.int)) ∈ xmTs := List.mem_filter.mpr ⟨List.mem_of_getElem? (i := 879) (by decide +kernel), by decide +kernel⟩
theorem xw_ml_X5_243 : Cond.methodLink RX5 243 yX5_comesProduct ∈ xmTs := List.mem_filter.mpr ⟨List.mem_of_getElem? (i := 880) (by decide +kernel), by decide +kernel⟩
theorem xw_ins_X5_comesProduct : Cond.instanceMethod yX5_comesProduct ∈ xmTs := List.mem_filter.mpr ⟨List.mem_of_getElem? (i := 882) (by decide +kernel), by decide +kernel⟩
theorem xw_cod_X5_comesProduct : Cond.code yX5_comesProduct cX5_comesProduct 6 none ∈ xmTs := List.mem_filter.mpr ⟨List.mem_of_getElem? (i := 883) (by decide +kernel), by decide +kernel⟩
theorem xw_ml_X5_233 : Cond.methodLink RX5 233 yX5_comesNone ∈ xmTs := List.mem_filter.mpr ⟨List.mem_of_getElem? (i := 884) (by decide +kernel), by decide +kernel⟩
theorem xw_ins_X5_comesNone : Cond.instanceMethod yX5_comesNone ∈ xmTs := List.mem_filter.mpr ⟨List.mem_of_getElem? (i := 886) (by decide +kernel), by decide +kernel⟩
theorem xw_cod_X5_comesNone : Cond.code yX5_comesNone cX5_comesNone 3 none ∈ xmTs := List.mem_filter.mpr ⟨List.mem_of_getElem? (i := 887) (by decide +kernel), by decide +kernel⟩
theorem xw_ml_X5_237 : Cond.methodLink RX5 237 yX5_comesEndless ∈ xmTs := List.mem_filter.mpr ⟨List.mem_of_getElem? (i := 888) (by decide +kernel), by decide +kernel⟩
theorem xw_ins_X5_comesEndless : Cond.instanceMethod yX5_comesEndless ∈ xmTs := List.mem_filter.mpr ⟨List.mem_of_getElem? (i := 890) (by decide +kernel), by decide +kernel⟩
theorem xw_cod_X5_comesEndless : Cond.code yX5_comesEndless cX5_comesEndless 3 none ∈ xmTs := List.mem_filter.mpr ⟨List.mem_of_getElem? (i := 891) (by decide +kernel), by decide +kernel⟩
theorem xw_ml_X5_247 : Cond.methodLink RX5 247 yX5_comes ∈ xmTs := List.mem_filter.mpr ⟨List.mem_of_getElem? (i := 892) (by decide +kernel), by decide +kernel⟩
theorem xw_ins_X5_comes : Cond.instanceMethod yX5_comes ∈ xmTs := List.mem_filter.mpr ⟨List.mem_of_getElem? (i := 894) (by decide +kernel), by decide +kernel⟩
theorem xw_cod_X5_comes : Cond.code yX5_comes cX5_comes 6 none ∈ xmTs := List.mem_filter.mpr ⟨List.mem_of_getElem? (i := 895) (by decide +kernel), by decide +kernel⟩
theorem xw_ml_X5_251 : Cond.methodLink RX5 251 yX5_whatCame ∈ xmTs := List.mem_filter.mpr ⟨List.mem_of_getElem? (i := 896) (by decide +kernel), by decide +kernel⟩
theorem xw_ins_X5_whatCame : Cond.instanceMethod yX5_whatCame ∈ xmTs := List.mem_filter.mpr ⟨List.mem_of_getElem? (i := 898) (by decide +kernel), by decide +kernel⟩
theorem xw_cod_X5_whatCame : Cond.code yX5_whatCame cX5_whatCame 6 (some (FieldType.int)) ∈ xmTs := List.mem_filter.mpr ⟨List.mem_of_getElem? (i := 899) (by decide +kernel), by decide +kernel⟩
theorem xw_ml_L_58 : Cond.methodLink RL 58 yX5_next ∈ xmTs := List.mem_filter.mpr ⟨List.mem_of_getElem? (i := 900) (by decide +kernel), by decide +kernel⟩
theorem xw_ins_X5_next : Cond.instanceMethod yX5_next ∈ xmTs := List.mem_filter.mpr ⟨List.mem_of_getElem? (i := 901) (by decide +kernel), by decide +kernel⟩
theorem xw_sel_X5_next : Cond.selects yX5_next.cls yX5_next yX5_next ∈ xmTs := List.mem_filter.mpr ⟨List.mem_of_getElem? (i := 902) (by decide +kernel), by decide +kernel⟩
theorem xw_cod_X5_next : Cond.code yX5_next cX5_next 7 (some (FieldType.int)) ∈ xmTs := List.mem_filter.mpr ⟨List.mem_of_getElem? (i := 903) (by decide +kernel), by decide +kernel⟩
theorem xw_ml_L_62 : Cond.methodLink RL 62 yX5_order ∈ xmTs := List.mem_filter.mpr ⟨List.mem_of_getElem? (i := 904) (by decide +kernel), by decide +kernel⟩
theorem xw_ins_X5_order : Cond.instanceMethod yX5_order ∈ xmTs := List.mem_filter.mpr ⟨List.mem_of_getElem? (i := 905) (by decide +kernel), by decide +kernel⟩
theorem xw_sel_X5_order : Cond.selects yX5_order.cls yX5_order yX5_order ∈ xmTs := List.mem_filter.mpr ⟨List.mem_of_getElem? (i := 906) (by decide +kernel), by decide +kernel⟩
theorem xw_cod_X5_order : Cond.code yX5_order cX5_order 4 (some (FieldType.int)) ∈ xmTs := List.mem_filter.mpr ⟨List.mem_of_getElem? (i := 907) (by decide +kernel), by decide +kernel⟩
theorem xw_ml_L_67 : Cond.methodLink RL 67 yX5_numbers ∈ xmTs := List.mem_filter.mpr ⟨List.mem_of_getElem? (i := 908) (by decide +kernel), by decide +kernel⟩
theorem xw_ins_X5_numbers : Cond.instanceMethod yX5_numbers ∈ xmTs := List.mem_filter.mpr ⟨List.mem_of_getElem? (i := 909) (by decide +kernel), by decide +kernel⟩
theorem xw_sel_X5_numbers : Cond.selects yX5_numbers.cls yX5_numbers yX5_numbers ∈ xmTs := List.mem_filter.mpr ⟨List.mem_of_getElem? (i := 910) (by decide +kernel), by decide +kernel⟩
theorem xw_cod_X5_numbers : Cond.code yX5_numbers cX5_numbers 8 (some (FieldType.int)) ∈ xmTs := List.mem_filter.mpr ⟨List.mem_of_getElem? (i := 911) (by decide +kernel), by decide +kernel⟩
theorem xw_ml_L_71 : Cond.methodLink RL 71 yX5_row ∈ xmTs := List.mem_filter.mpr ⟨List.mem_of_getElem? (i := 912) (by decide +kernel), by decide +kernel⟩
theorem xw_ins_X5_row : Cond.instanceMethod yX5_row ∈ xmTs := List.mem_filter.mpr ⟨List.mem_of_getElem? (i := 913) (by decide +kernel), by decide +kernel⟩
theorem xw_sel_X5_row : Cond.selects yX5_row.cls yX5_row yX5_row ∈ xmTs := List.mem_filter.mpr ⟨List.mem_of_getElem? (i := 914) (by decide +kernel), by decide +kernel⟩
theorem xw_cod_X5_row : Cond.code yX5_row cX5_row 5 (some (FieldType.int)) ∈ xmTs := List.mem_filter.mpr ⟨List.mem_of_getElem? (i := 915) (by decide +kernel), by decide +kernel⟩
theorem xw_cst_X5_255 : Cond.constantLong RX5 255 (16) ∈ xmTs := List.mem_filter.mpr ⟨List.mem_of_getElem? (i := 916) (by decide +kernel), by decide +kernel⟩
theorem xw_ml_L_75 : Cond.methodLink RL 75 yX5_put ∈ xmTs := List.mem_filter.mpr ⟨List.mem_of_getElem? (i := 917) (by decide +kernel), by decide +kernel⟩
theorem xw_ins_X5_put : Cond.instanceMethod yX5_put ∈ xmTs := List.mem_filter.mpr ⟨List.mem_of_getElem? (i := 918) (by decide +kernel), by decide +kernel⟩
theorem xw_sel_X5_put : Cond.selects yX5_put.cls yX5_put yX5_put ∈ xmTs := List.mem_filter.mpr ⟨List.mem_of_getElem? (i := 919) (by decide +kernel), by decide +kernel⟩
theorem xw_cod_X5_put : Cond.code yX5_put cX5_put 5 (some (FieldType.int)) ∈ xmTs := List.mem_filter.mpr ⟨List.mem_of_getElem? (i := 920) (by decide +kernel), by decide +kernel⟩
theorem xw_ml_X5_257 : Cond.methodLink RX5 257 yX5_isRow ∈ xmTs := List.mem_filter.mpr ⟨List.mem_of_getElem? (i := 921) (by decide +kernel), by decide +kernel⟩
theorem xw_ins_X5_isRow : Cond.instanceMethod yX5_isRow ∈ xmTs := List.mem_filter.mpr ⟨List.mem_of_getElem? (i := 923) (by decide +kernel), by decide +kernel⟩
theorem xw_cod_X5_isRow : Cond.code yX5_isRow cX5_isRow 2 (some (FieldType.boolean)) ∈ xmTs := List.mem_filter.mpr ⟨List.mem_of_getElem? (i := 924) (by decide +kernel), by decide +kernel⟩
theorem xw_ml_L_79 : Cond.methodLink RL 79 yX5_at ∈ xmTs := List.mem_filter.mpr ⟨List.mem_of_getElem? (i := 925) (by decide +kernel), by decide +kernel⟩
theorem xw_ins_X5_at : Cond.instanceMethod yX5_at ∈ xmTs := List.mem_filter.mpr ⟨List.mem_of_getElem? (i := 926) (by decide +kernel), by decide +kernel⟩
theorem xw_sel_X5_at : Cond.selects yX5_at.cls yX5_at yX5_at ∈ xmTs := List.mem_filter.mpr ⟨List.mem_of_getElem? (i := 927) (by decide +kernel), by decide +kernel⟩
theorem xw_cod_X5_at : Cond.code yX5_at cX5_at 3 (some (FieldType.int)) ∈ xmTs := List.mem_filter.mpr ⟨List.mem_of_getElem? (i := 928) (by decide +kernel), by decide +kernel⟩
theorem xw_ml_L_83 : Cond.methodLink RL 83 yX5_packed ∈ xmTs := List.mem_filter.mpr ⟨List.mem_of_getElem? (i := 929) (by decide +kernel), by decide +kernel⟩
theorem xw_ins_X5_packed : Cond.instanceMethod yX5_packed ∈ xmTs := List.mem_filter.mpr ⟨List.mem_of_getElem? (i := 930) (by decide +kernel), by decide +kernel⟩
theorem xw_sel_X5_packed : Cond.selects yX5_packed.cls yX5_packed yX5_packed ∈ xmTs := List.mem_filter.mpr ⟨List.mem_of_getElem? (i := 931) (by decide +kernel), by decide +kernel⟩
theorem xw_cod_X5_packed : Cond.code yX5_packed cX5_packed 9 (some (FieldType.int)) ∈ xmTs := List.mem_filter.mpr ⟨List.mem_of_getElem? (i := 932) (by decide +kernel), by decide +kernel⟩
theorem xw_ml_L_87 : Cond.methodLink RL 87 yX5_quantise ∈ xmTs := List.mem_filter.mpr ⟨List.mem_of_getElem? (i := 933) (by decide +kernel), by decide +kernel⟩
theorem xw_ins_X5_quantise : Cond.instanceMethod yX5_quantise ∈ xmTs := List.mem_filter.mpr ⟨List.mem_of_getElem? (i := 934) (by decide +kernel), by decide +kernel⟩
theorem xw_sel_X5_quantise : Cond.selects yX5_quantise.cls yX5_quantise yX5_quantise ∈ xmTs := List.mem_filter.mpr ⟨List.mem_of_getElem? (i := 935) (by decide +kernel), by decide +kernel⟩
theorem xw_cod_X5_quantise : Cond.code yX5_quantise cX5_quantise 6 (some (FieldType.int)) ∈ xmTs := List.mem_filter.mpr ⟨List.mem_of_getElem? (i := 936) (by decide +kernel), by decide +kernel⟩
theorem xw_ml_L_91 : Cond.methodLink RL 91 yX5_worst ∈ xmTs := List.mem_filter.mpr ⟨List.mem_of_getElem? (i := 937) (by decide +kernel), by decide +kernel⟩
theorem xw_ins_X5_worst : Cond.instanceMethod yX5_worst ∈ xmTs := List.mem_filter.mpr ⟨List.mem_of_getElem? (i := 938) (by decide +kernel), by decide +kernel⟩
theorem xw_sel_X5_worst : Cond.selects yX5_worst.cls yX5_worst yX5_worst ∈ xmTs := List.mem_filter.mpr ⟨List.mem_of_getElem? (i := 939) (by decide +kernel), by decide +kernel⟩
theorem xw_cod_X5_worst : Cond.code yX5_worst cX5_worst 14 (some (FieldType.int)) ∈ xmTs := List.mem_filter.mpr ⟨List.mem_of_getElem? (i := 940) (by decide +kernel), by decide +kernel⟩
theorem xw_ml_L_95 : Cond.methodLink RL 95 yX5_sum ∈ xmTs := List.mem_filter.mpr ⟨List.mem_of_getElem? (i := 941) (by decide +kernel), by decide +kernel⟩
theorem xw_ins_X5_sum : Cond.instanceMethod yX5_sum ∈ xmTs := List.mem_filter.mpr ⟨List.mem_of_getElem? (i := 942) (by decide +kernel), by decide +kernel⟩
theorem xw_sel_X5_sum : Cond.selects yX5_sum.cls yX5_sum yX5_sum ∈ xmTs := List.mem_filter.mpr ⟨List.mem_of_getElem? (i := 943) (by decide +kernel), by decide +kernel⟩
theorem xw_cod_X5_sum : Cond.code yX5_sum cX5_sum 7 (some (FieldType.int)) ∈ xmTs := List.mem_filter.mpr ⟨List.mem_of_getElem? (i := 944) (by decide +kernel), by decide +kernel⟩
theorem xw_ml_L_100 : Cond.methodLink RL 100 yX5_dot ∈ xmTs := List.mem_filter.mpr ⟨List.mem_of_getElem? (i := 945) (by decide +kernel), by decide +kernel⟩
theorem xw_ins_X5_dot : Cond.instanceMethod yX5_dot ∈ xmTs := List.mem_filter.mpr ⟨List.mem_of_getElem? (i := 946) (by decide +kernel), by decide +kernel⟩
theorem xw_sel_X5_dot : Cond.selects yX5_dot.cls yX5_dot yX5_dot ∈ xmTs := List.mem_filter.mpr ⟨List.mem_of_getElem? (i := 947) (by decide +kernel), by decide +kernel⟩
theorem xw_cod_X5_dot : Cond.code yX5_dot cX5_dot 10 (some (FieldType.int)) ∈ xmTs := List.mem_filter.mpr ⟨List.mem_of_getElem? (i := 948) (by decide +kernel), by decide +kernel⟩
theorem xw_ml_L_104 : Cond.methodLink RL 104 yX5_table ∈ xmTs := List.mem_filter.mpr ⟨List.mem_of_getElem? (i := 949) (by decide +kernel), by decide +kernel⟩
theorem xw_ins_X5_table : Cond.instanceMethod yX5_table ∈ xmTs := List.mem_filter.mpr ⟨List.mem_of_getElem? (i := 950) (by decide +kernel), by decide +kernel⟩
theorem xw_sel_X5_table : Cond.selects yX5_table.cls yX5_table yX5_table ∈ xmTs := List.mem_filter.mpr ⟨List.mem_of_getElem? (i := 951) (by decide +kernel), by decide +kernel⟩
theorem xw_cod_X5_table : Cond.code yX5_table cX5_table 4 (some (FieldType.int)) ∈ xmTs := List.mem_filter.mpr ⟨List.mem_of_getElem? (i := 952) (by decide +kernel), by decide +kernel⟩
theorem xw_ml_L_108 : Cond.methodLink RL 108 yX5_lookup ∈ xmTs := List.mem_filter.mpr ⟨List.mem_of_getElem? (i := 953) (by decide +kernel), by decide +kernel⟩
theorem xw_ins_X5_lookup : Cond.instanceMethod yX5_lookup ∈ xmTs := List.mem_filter.mpr ⟨List.mem_of_getElem? (i := 954) (by decide +kernel), by decide +kernel⟩
theorem xw_sel_X5_lookup : Cond.selects yX5_lookup.cls yX5_lookup yX5_lookup ∈ xmTs := List.mem_filter.mpr ⟨List.mem_of_getElem? (i := 955) (by decide +kernel), by decide +kernel⟩
theorem xw_cod_X5_lookup : Cond.code yX5_lookup cX5_lookup 5 (some (FieldType.int)) ∈ xmTs := List.mem_filter.mpr ⟨List.mem_of_getElem? (i := 956) (by decide +kernel), by decide +kernel⟩
theorem xw_ml_L_113 : Cond.methodLink RL 113 yX5_count ∈ xmTs := List.mem_filter.mpr ⟨List.mem_of_getElem? (i := 957) (by decide +kernel), by decide +kernel⟩
theorem xw_ins_X5_count : Cond.instanceMethod yX5_count ∈ xmTs := List.mem_filter.mpr ⟨List.mem_of_getElem? (i := 958) (by decide +kernel), by decide +kernel⟩
theorem xw_sel_X5_count : Cond.selects yX5_count.cls yX5_count yX5_count ∈ xmTs := List.mem_filter.mpr ⟨List.mem_of_getElem? (i := 959) (by decide +kernel), by decide +kernel⟩
theorem xw_cod_X5_count : Cond.code yX5_count cX5_count 2 (some (FieldType.int)) ∈ xmTs := List.mem_filter.mpr ⟨List.mem_of_getElem? (i := 960) (by decide +kernel), by decide +kernel⟩
theorem xw_ml_L_118 : Cond.methodLink RL 118 yX5_told ∈ xmTs := List.mem_filter.mpr ⟨List.mem_of_getElem? (i := 961) (by decide +kernel), by decide +kernel⟩
theorem xw_ins_X5_told : Cond.instanceMethod yX5_told ∈ xmTs := List.mem_filter.mpr ⟨List.mem_of_getElem? (i := 962) (by decide +kernel), by decide +kernel⟩
theorem xw_sel_X5_told : Cond.selects yX5_told.cls yX5_told yX5_told ∈ xmTs := List.mem_filter.mpr ⟨List.mem_of_getElem? (i := 963) (by decide +kernel), by decide +kernel⟩
theorem xw_cod_X5_told : Cond.code yX5_told cX5_told 1 (some (FieldType.int)) ∈ xmTs := List.mem_filter.mpr ⟨List.mem_of_getElem? (i := 964) (by decide +kernel), by decide +kernel⟩
theorem xw_cst_L_33 : Cond.constantLong RL 33 (4294967295) ∈ xmTs := List.mem_filter.mpr ⟨List.mem_of_getElem? (i := 965) (by decide +kernel), by decide +kernel⟩
theorem xin_0 : ∀ w ∈ u_ws RX0 TX0 1, w ∈ xmTs := by
  intro w hw
  obtain ⟨k, hk, rfl⟩ := List.mem_map.mp hw
  have hk := List.mem_range.mp hk
  match k, hk with
  | 0, _ => exact xw_lay_X0_0
  | k + 1, h => exact absurd h (by omega)
theorem xin_1 : ∀ w ∈ u_ws RX1 TX1 7, w ∈ xmTs := by
  intro w hw
  obtain ⟨k, hk, rfl⟩ := List.mem_map.mp hw
  have hk := List.mem_range.mp hk
  match k, hk with
  | 0, _ => exact xw_lay_X1_0
  | 1, _ => exact xw_lay_X1_1
  | 2, _ => exact xw_lay_X1_2
  | 3, _ => exact xw_lay_X1_3
  | 4, _ => exact xw_lay_X1_4
  | 5, _ => exact xw_lay_X1_5
  | 6, _ => exact xw_lay_X1_6
  | k + 7, h => exact absurd h (by omega)
theorem xin_2 : ∀ w ∈ u_ws RX2 TX2 3, w ∈ xmTs := by
  intro w hw
  obtain ⟨k, hk, rfl⟩ := List.mem_map.mp hw
  have hk := List.mem_range.mp hk
  match k, hk with
  | 0, _ => exact xw_lay_X2_0
  | 1, _ => exact xw_lay_X2_1
  | 2, _ => exact xw_lay_X2_2
  | k + 3, h => exact absurd h (by omega)
theorem xin_3 : ∀ w ∈ u_ws RX3 TX3 3, w ∈ xmTs := by
  intro w hw
  obtain ⟨k, hk, rfl⟩ := List.mem_map.mp hw
  have hk := List.mem_range.mp hk
  match k, hk with
  | 0, _ => exact xw_lay_X3_0
  | 1, _ => exact xw_lay_X3_1
  | 2, _ => exact xw_lay_X3_2
  | k + 3, h => exact absurd h (by omega)
theorem xin_4 : ∀ w ∈ u_ws RX4 TX4 11, w ∈ xmTs := by
  intro w hw
  obtain ⟨k, hk, rfl⟩ := List.mem_map.mp hw
  have hk := List.mem_range.mp hk
  match k, hk with
  | 0, _ => exact xw_lay_X4_0
  | 1, _ => exact xw_lay_X4_1
  | 2, _ => exact xw_lay_X4_2
  | 3, _ => exact xw_lay_X4_3
  | 4, _ => exact xw_lay_X4_4
  | 5, _ => exact xw_lay_X4_5
  | 6, _ => exact xw_lay_X4_6
  | 7, _ => exact xw_lay_X4_7
  | 8, _ => exact xw_lay_X4_8
  | 9, _ => exact xw_lay_X4_9
  | 10, _ => exact xw_lay_X4_10
  | k + 11, h => exact absurd h (by omega)
theorem xin_5 : ∀ w ∈ u_ws RX5 TX5 26, w ∈ xmTs := by
  intro w hw
  obtain ⟨k, hk, rfl⟩ := List.mem_map.mp hw
  have hk := List.mem_range.mp hk
  match k, hk with
  | 0, _ => exact xw_lay_X5_0
  | 1, _ => exact xw_lay_X5_1
  | 2, _ => exact xw_lay_X5_2
  | 3, _ => exact xw_lay_X5_3
  | 4, _ => exact xw_lay_X5_4
  | 5, _ => exact xw_lay_X5_5
  | 6, _ => exact xw_lay_X5_6
  | 7, _ => exact xw_lay_X5_7
  | 8, _ => exact xw_lay_X5_8
  | 9, _ => exact xw_lay_X5_9
  | 10, _ => exact xw_lay_X5_10
  | 11, _ => exact xw_lay_X5_11
  | 12, _ => exact xw_lay_X5_12
  | 13, _ => exact xw_lay_X5_13
  | 14, _ => exact xw_lay_X5_14
  | 15, _ => exact xw_lay_X5_15
  | 16, _ => exact xw_lay_X5_16
  | 17, _ => exact xw_lay_X5_17
  | 18, _ => exact xw_lay_X5_18
  | 19, _ => exact xw_lay_X5_19
  | 20, _ => exact xw_lay_X5_20
  | 21, _ => exact xw_lay_X5_21
  | 22, _ => exact xw_lay_X5_22
  | 23, _ => exact xw_lay_X5_23
  | 24, _ => exact xw_lay_X5_24
  | 25, _ => exact xw_lay_X5_25
  | k + 26, h => exact absurd h (by omega)
end
