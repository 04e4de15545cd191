section
-- ===== PART A: goes FIRST, ahead of the names: the tables' words, and 'selects' of the private methods out of them =====
/-- a private method of a class that the tables say can be made, by its rows of tables_1 -/
def lw_okq (q : MethodName × Nat) : Prop := (q.1.cls ≠ "java/lang/invoke/MethodHandle" ∧ q.1.cls ≠ "java/lang/invoke/VarHandle") ∧ Cond.instantiable q.1.cls q.2 ∈ tables_1 ∧ Cond.privateMethod q.1 ∈ tables_1 ∧ Cond.instanceMethod q.1 ∈ tables_1
theorem lw_p0 : lw_okq (⟨"SmallFloats", "refused", "(I)I"⟩, 11) := ⟨⟨by decide +kernel, by decide +kernel⟩, List.mem_of_getElem? (i := 11) (by decide +kernel), List.mem_of_getElem? (i := 119) (by decide +kernel), List.mem_of_getElem? (i := 120) (by decide +kernel)⟩
theorem lw_p1 : lw_okq (⟨"SmallFloats", "formatAt", "(I)LSmallFloats$Format;"⟩, 11) := ⟨⟨by decide +kernel, by decide +kernel⟩, List.mem_of_getElem? (i := 11) (by decide +kernel), List.mem_of_getElem? (i := 155) (by decide +kernel), List.mem_of_getElem? (i := 156) (by decide +kernel)⟩
theorem lw_p2 : lw_okq (⟨"SmallFloats", "answered", "(I)I"⟩, 11) := ⟨⟨by decide +kernel, by decide +kernel⟩, List.mem_of_getElem? (i := 11) (by decide +kernel), List.mem_of_getElem? (i := 163) (by decide +kernel), List.mem_of_getElem? (i := 164) (by decide +kernel)⟩
theorem lw_p3 : lw_okq (⟨"SmallFloats$Arithmetic", "rounded", "(LSmallFloats$Format;ZJJI)I"⟩, 1) := ⟨⟨by decide +kernel, by decide +kernel⟩, List.mem_of_getElem? (i := 23) (by decide +kernel), List.mem_of_getElem? (i := 263) (by decide +kernel), List.mem_of_getElem? (i := 264) (by decide +kernel)⟩
theorem lw_p4 : lw_okq (⟨"SmallFloats", "settled", "(I)I"⟩, 11) := ⟨⟨by decide +kernel, by decide +kernel⟩, List.mem_of_getElem? (i := 11) (by decide +kernel), List.mem_of_getElem? (i := 285) (by decide +kernel), List.mem_of_getElem? (i := 286) (by decide +kernel)⟩
theorem lw_p5 : lw_okq (⟨"SmallFloats$Arithmetic", "invalid", "(LSmallFloats$Format;)I"⟩, 1) := ⟨⟨by decide +kernel, by decide +kernel⟩, List.mem_of_getElem? (i := 23) (by decide +kernel), List.mem_of_getElem? (i := 310) (by decide +kernel), List.mem_of_getElem? (i := 311) (by decide +kernel)⟩
theorem lw_p6 : lw_okq (⟨"SmallFloats$Arithmetic", "added", "(LSmallFloats$Format;IIZI)I"⟩, 1) := ⟨⟨by decide +kernel, by decide +kernel⟩, List.mem_of_getElem? (i := 23) (by decide +kernel), List.mem_of_getElem? (i := 327) (by decide +kernel), List.mem_of_getElem? (i := 328) (by decide +kernel)⟩
theorem lw_p7 : lw_okq (⟨"SmallFloats$Arithmetic", "endlessOfSum", "(LSmallFloats$Format;ZJZJ)I"⟩, 1) := ⟨⟨by decide +kernel, by decide +kernel⟩, List.mem_of_getElem? (i := 23) (by decide +kernel), List.mem_of_getElem? (i := 331) (by decide +kernel), List.mem_of_getElem? (i := 332) (by decide +kernel)⟩
theorem lw_p8 : lw_okq (⟨"SmallFloats$Arithmetic", "multiplied", "(LSmallFloats$Format;III)I"⟩, 1) := ⟨⟨by decide +kernel, by decide +kernel⟩, List.mem_of_getElem? (i := 23) (by decide +kernel), List.mem_of_getElem? (i := 338) (by decide +kernel), List.mem_of_getElem? (i := 339) (by decide +kernel)⟩
theorem lw_p9 : lw_okq (⟨"SmallFloats$Arithmetic", "divided", "(LSmallFloats$Format;III)I"⟩, 1) := ⟨⟨by decide +kernel, by decide +kernel⟩, List.mem_of_getElem? (i := 23) (by decide +kernel), List.mem_of_getElem? (i := 349) (by decide +kernel), List.mem_of_getElem? (i := 350) (by decide +kernel)⟩
theorem lw_p10 : lw_okq (⟨"SmallFloats$Arithmetic", "rootOf", "(LSmallFloats$Format;II)I"⟩, 1) := ⟨⟨by decide +kernel, by decide +kernel⟩, List.mem_of_getElem? (i := 23) (by decide +kernel), List.mem_of_getElem? (i := 353) (by decide +kernel), List.mem_of_getElem? (i := 354) (by decide +kernel)⟩
theorem lw_p11 : lw_okq (⟨"SmallFloats$Format", "magnitudesUpTo", "(J)I"⟩, 7) := ⟨⟨by decide +kernel, by decide +kernel⟩, List.mem_of_getElem? (i := 122) (by decide +kernel), List.mem_of_getElem? (i := 417) (by decide +kernel), List.mem_of_getElem? (i := 418) (by decide +kernel)⟩
theorem lw_p12 : lw_okq (⟨"SmallFloats", "rowAt", "(I)LSmallFloats$Row;"⟩, 11) := ⟨⟨by decide +kernel, by decide +kernel⟩, List.mem_of_getElem? (i := 11) (by decide +kernel), List.mem_of_getElem? (i := 437) (by decide +kernel), List.mem_of_getElem? (i := 438) (by decide +kernel)⟩
theorem lw_p13 : lw_okq (⟨"SmallFloatsModel", "refused", "(I)I"⟩, 26) := ⟨⟨by decide +kernel, by decide +kernel⟩, List.mem_of_getElem? (i := 541) (by decide +kernel), List.mem_of_getElem? (i := 638) (by decide +kernel), List.mem_of_getElem? (i := 639) (by decide +kernel)⟩
theorem lw_p14 : lw_okq (⟨"SmallFloatsModel", "fine", "(I)I"⟩, 26) := ⟨⟨by decide +kernel, by decide +kernel⟩, List.mem_of_getElem? (i := 541) (by decide +kernel), List.mem_of_getElem? (i := 642) (by decide +kernel), List.mem_of_getElem? (i := 643) (by decide +kernel)⟩
theorem lw_p15 : lw_okq (⟨"SmallFloatsModel", "isFormat", "(I)Z"⟩, 26) := ⟨⟨by decide +kernel, by decide +kernel⟩, List.mem_of_getElem? (i := 541) (by decide +kernel), List.mem_of_getElem? (i := 650) (by decide +kernel), List.mem_of_getElem? (i := 651) (by decide +kernel)⟩
def lw_privs_1 : List (MethodName × Nat) := [(⟨"SmallFloats", "refused", "(I)I"⟩, 11), (⟨"SmallFloats", "formatAt", "(I)LSmallFloats$Format;"⟩, 11), (⟨"SmallFloats", "answered", "(I)I"⟩, 11), (⟨"SmallFloats$Arithmetic", "rounded", "(LSmallFloats$Format;ZJJI)I"⟩, 1), (⟨"SmallFloats", "settled", "(I)I"⟩, 11), (⟨"SmallFloats$Arithmetic", "invalid", "(LSmallFloats$Format;)I"⟩, 1), (⟨"SmallFloats$Arithmetic", "added", "(LSmallFloats$Format;IIZI)I"⟩, 1), (⟨"SmallFloats$Arithmetic", "endlessOfSum", "(LSmallFloats$Format;ZJZJ)I"⟩, 1), (⟨"SmallFloats$Arithmetic", "multiplied", "(LSmallFloats$Format;III)I"⟩, 1), (⟨"SmallFloats$Arithmetic", "divided", "(LSmallFloats$Format;III)I"⟩, 1), (⟨"SmallFloats$Arithmetic", "rootOf", "(LSmallFloats$Format;II)I"⟩, 1), (⟨"SmallFloats$Format", "magnitudesUpTo", "(J)I"⟩, 7), (⟨"SmallFloats", "rowAt", "(I)LSmallFloats$Row;"⟩, 11), (⟨"SmallFloatsModel", "refused", "(I)I"⟩, 26), (⟨"SmallFloatsModel", "fine", "(I)I"⟩, 26), (⟨"SmallFloatsModel", "isFormat", "(I)Z"⟩, 26)]
theorem lw_r1 : ∀ q ∈ lw_privs_1, lw_okq q := List.forall_mem_cons.mpr ⟨lw_p0, List.forall_mem_cons.mpr ⟨lw_p1, List.forall_mem_cons.mpr ⟨lw_p2, List.forall_mem_cons.mpr ⟨lw_p3, List.forall_mem_cons.mpr ⟨lw_p4, List.forall_mem_cons.mpr ⟨lw_p5, List.forall_mem_cons.mpr ⟨lw_p6, List.forall_mem_cons.mpr ⟨lw_p7, List.forall_mem_cons.mpr ⟨lw_p8, List.forall_mem_cons.mpr ⟨lw_p9, List.forall_mem_cons.mpr ⟨lw_p10, List.forall_mem_cons.mpr ⟨lw_p11, List.forall_mem_cons.mpr ⟨lw_p12, List.forall_mem_cons.mpr ⟨lw_p13, List.forall_mem_cons.mpr ⟨lw_p14, List.forall_mem_cons.mpr ⟨lw_p15, fun _ h => absurd h List.not_mem_nil⟩⟩⟩⟩⟩⟩⟩⟩⟩⟩⟩⟩⟩⟩⟩⟩
theorem lw_p16 : lw_okq (⟨"SmallFloatsModel", "bits", "(I)I"⟩, 26) := ⟨⟨by decide +kernel, by decide +kernel⟩, List.mem_of_getElem? (i := 541) (by decide +kernel), List.mem_of_getElem? (i := 655) (by decide +kernel), List.mem_of_getElem? (i := 656) (by decide +kernel)⟩
theorem lw_p17 : lw_okq (⟨"SmallFloatsModel", "great", "(I)I"⟩, 26) := ⟨⟨by decide +kernel, by decide +kernel⟩, List.mem_of_getElem? (i := 541) (by decide +kernel), List.mem_of_getElem? (i := 659) (by decide +kernel), List.mem_of_getElem? (i := 660) (by decide +kernel)⟩
theorem lw_p18 : lw_okq (⟨"SmallFloatsModel", "allOnes", "(I)I"⟩, 26) := ⟨⟨by decide +kernel, by decide +kernel⟩, List.mem_of_getElem? (i := 541) (by decide +kernel), List.mem_of_getElem? (i := 663) (by decide +kernel), List.mem_of_getElem? (i := 664) (by decide +kernel)⟩
theorem lw_p19 : lw_okq (⟨"SmallFloatsModel", "signBit", "(I)I"⟩, 26) := ⟨⟨by decide +kernel, by decide +kernel⟩, List.mem_of_getElem? (i := 541) (by decide +kernel), List.mem_of_getElem? (i := 667) (by decide +kernel), List.mem_of_getElem? (i := 668) (by decide +kernel)⟩
theorem lw_p20 : lw_okq (⟨"SmallFloatsModel", "last", "(I)I"⟩, 26) := ⟨⟨by decide +kernel, by decide +kernel⟩, List.mem_of_getElem? (i := 541) (by decide +kernel), List.mem_of_getElem? (i := 671) (by decide +kernel), List.mem_of_getElem? (i := 672) (by decide +kernel)⟩
theorem lw_p21 : lw_okq (⟨"SmallFloatsModel", "noneOf", "(I)I"⟩, 26) := ⟨⟨by decide +kernel, by decide +kernel⟩, List.mem_of_getElem? (i := 541) (by decide +kernel), List.mem_of_getElem? (i := 675) (by decide +kernel), List.mem_of_getElem? (i := 676) (by decide +kernel)⟩
theorem lw_p22 : lw_okq (⟨"SmallFloatsModel", "endless", "(I)I"⟩, 26) := ⟨⟨by decide +kernel, by decide +kernel⟩, List.mem_of_getElem? (i := 541) (by decide +kernel), List.mem_of_getElem? (i := 679) (by decide +kernel), List.mem_of_getElem? (i := 680) (by decide +kernel)⟩
theorem lw_p23 : lw_okq (⟨"SmallFloatsModel", "isNumber", "(II)Z"⟩, 26) := ⟨⟨by decide +kernel, by decide +kernel⟩, List.mem_of_getElem? (i := 541) (by decide +kernel), List.mem_of_getElem? (i := 683) (by decide +kernel), List.mem_of_getElem? (i := 684) (by decide +kernel)⟩
theorem lw_p24 : lw_okq (⟨"SmallFloatsModel", "kindOf", "(II)I"⟩, 26) := ⟨⟨by decide +kernel, by decide +kernel⟩, List.mem_of_getElem? (i := 541) (by decide +kernel), List.mem_of_getElem? (i := 687) (by decide +kernel), List.mem_of_getElem? (i := 688) (by decide +kernel)⟩
theorem lw_p25 : lw_okq (⟨"SmallFloatsModel", "plain", "(II)I"⟩, 26) := ⟨⟨by decide +kernel, by decide +kernel⟩, List.mem_of_getElem? (i := 541) (by decide +kernel), List.mem_of_getElem? (i := 691) (by decide +kernel), List.mem_of_getElem? (i := 692) (by decide +kernel)⟩
theorem lw_p26 : lw_okq (⟨"SmallFloatsModel", "scale", "(I)I"⟩, 26) := ⟨⟨by decide +kernel, by decide +kernel⟩, List.mem_of_getElem? (i := 541) (by decide +kernel), List.mem_of_getElem? (i := 695) (by decide +kernel), List.mem_of_getElem? (i := 696) (by decide +kernel)⟩
theorem lw_p27 : lw_okq (⟨"SmallFloatsModel", "isCode", "(II)Z"⟩, 26) := ⟨⟨by decide +kernel, by decide +kernel⟩, List.mem_of_getElem? (i := 541) (by decide +kernel), List.mem_of_getElem? (i := 703) (by decide +kernel), List.mem_of_getElem? (i := 704) (by decide +kernel)⟩
theorem lw_p28 : lw_okq (⟨"SmallFloatsModel", "isMinus", "(II)Z"⟩, 26) := ⟨⟨by decide +kernel, by decide +kernel⟩, List.mem_of_getElem? (i := 541) (by decide +kernel), List.mem_of_getElem? (i := 707) (by decide +kernel), List.mem_of_getElem? (i := 708) (by decide +kernel)⟩
theorem lw_p29 : lw_okq (⟨"SmallFloatsModel", "unitsOf", "(II)J"⟩, 26) := ⟨⟨by decide +kernel, by decide +kernel⟩, List.mem_of_getElem? (i := 541) (by decide +kernel), List.mem_of_getElem? (i := 716) (by decide +kernel), List.mem_of_getElem? (i := 717) (by decide +kernel)⟩
theorem lw_p30 : lw_okq (⟨"SmallFloatsModel", "size", "(II)J"⟩, 26) := ⟨⟨by decide +kernel, by decide +kernel⟩, List.mem_of_getElem? (i := 541) (by decide +kernel), List.mem_of_getElem? (i := 720) (by decide +kernel), List.mem_of_getElem? (i := 721) (by decide +kernel)⟩
theorem lw_p31 : lw_okq (⟨"SmallFloatsModel", "begins", "()V"⟩, 26) := ⟨⟨by decide +kernel, by decide +kernel⟩, List.mem_of_getElem? (i := 541) (by decide +kernel), List.mem_of_getElem? (i := 731) (by decide +kernel), List.mem_of_getElem? (i := 732) (by decide +kernel)⟩
def lw_privs_2 : List (MethodName × Nat) := [(⟨"SmallFloatsModel", "bits", "(I)I"⟩, 26), (⟨"SmallFloatsModel", "great", "(I)I"⟩, 26), (⟨"SmallFloatsModel", "allOnes", "(I)I"⟩, 26), (⟨"SmallFloatsModel", "signBit", "(I)I"⟩, 26), (⟨"SmallFloatsModel", "last", "(I)I"⟩, 26), (⟨"SmallFloatsModel", "noneOf", "(I)I"⟩, 26), (⟨"SmallFloatsModel", "endless", "(I)I"⟩, 26), (⟨"SmallFloatsModel", "isNumber", "(II)Z"⟩, 26), (⟨"SmallFloatsModel", "kindOf", "(II)I"⟩, 26), (⟨"SmallFloatsModel", "plain", "(II)I"⟩, 26), (⟨"SmallFloatsModel", "scale", "(I)I"⟩, 26), (⟨"SmallFloatsModel", "isCode", "(II)Z"⟩, 26), (⟨"SmallFloatsModel", "isMinus", "(II)Z"⟩, 26), (⟨"SmallFloatsModel", "unitsOf", "(II)J"⟩, 26), (⟨"SmallFloatsModel", "size", "(II)J"⟩, 26), (⟨"SmallFloatsModel", "begins", "()V"⟩, 26)]
theorem lw_r2 : ∀ q ∈ lw_privs_2, lw_okq q := List.forall_mem_cons.mpr ⟨lw_p16, List.forall_mem_cons.mpr ⟨lw_p17, List.forall_mem_cons.mpr ⟨lw_p18, List.forall_mem_cons.mpr ⟨lw_p19, List.forall_mem_cons.mpr ⟨lw_p20, List.forall_mem_cons.mpr ⟨lw_p21, List.forall_mem_cons.mpr ⟨lw_p22, List.forall_mem_cons.mpr ⟨lw_p23, List.forall_mem_cons.mpr ⟨lw_p24, List.forall_mem_cons.mpr ⟨lw_p25, List.forall_mem_cons.mpr ⟨lw_p26, List.forall_mem_cons.mpr ⟨lw_p27, List.forall_mem_cons.mpr ⟨lw_p28, List.forall_mem_cons.mpr ⟨lw_p29, List.forall_mem_cons.mpr ⟨lw_p30, List.forall_mem_cons.mpr ⟨lw_p31, fun _ h => absurd h List.not_mem_nil⟩⟩⟩⟩⟩⟩⟩⟩⟩⟩⟩⟩⟩⟩⟩⟩
theorem lw_p32 : lw_okq (⟨"SmallFloatsModel", "roundedFraction", "(IJJIZ)I"⟩, 26) := ⟨⟨by decide +kernel, by decide +kernel⟩, List.mem_of_getElem? (i := 541) (by decide +kernel), List.mem_of_getElem? (i := 735) (by decide +kernel), List.mem_of_getElem? (i := 736) (by decide +kernel)⟩
theorem lw_p33 : lw_okq (⟨"SmallFloatsModel", "signed", "(IIZ)I"⟩, 26) := ⟨⟨by decide +kernel, by decide +kernel⟩, List.mem_of_getElem? (i := 541) (by decide +kernel), List.mem_of_getElem? (i := 739) (by decide +kernel), List.mem_of_getElem? (i := 740) (by decide +kernel)⟩
theorem lw_p34 : lw_okq (⟨"SmallFloatsModel", "rounded", "(IZI)I"⟩, 26) := ⟨⟨by decide +kernel, by decide +kernel⟩, List.mem_of_getElem? (i := 541) (by decide +kernel), List.mem_of_getElem? (i := 743) (by decide +kernel), List.mem_of_getElem? (i := 744) (by decide +kernel)⟩
theorem lw_p35 : lw_okq (⟨"SmallFloatsModel", "twiceBeside", "(J)I"⟩, 26) := ⟨⟨by decide +kernel, by decide +kernel⟩, List.mem_of_getElem? (i := 541) (by decide +kernel), List.mem_of_getElem? (i := 747) (by decide +kernel), List.mem_of_getElem? (i := 748) (by decide +kernel)⟩
theorem lw_p36 : lw_okq (⟨"SmallFloatsModel", "roundedAbove", "(IZI)I"⟩, 26) := ⟨⟨by decide +kernel, by decide +kernel⟩, List.mem_of_getElem? (i := 541) (by decide +kernel), List.mem_of_getElem? (i := 751) (by decide +kernel), List.mem_of_getElem? (i := 752) (by decide +kernel)⟩
theorem lw_p37 : lw_okq (⟨"SmallFloatsModel", "beyond", "(IZ)I"⟩, 26) := ⟨⟨by decide +kernel, by decide +kernel⟩, List.mem_of_getElem? (i := 541) (by decide +kernel), List.mem_of_getElem? (i := 756) (by decide +kernel), List.mem_of_getElem? (i := 757) (by decide +kernel)⟩
theorem lw_p38 : lw_okq (⟨"SmallFloatsModel", "ends", "(I)I"⟩, 26) := ⟨⟨by decide +kernel, by decide +kernel⟩, List.mem_of_getElem? (i := 541) (by decide +kernel), List.mem_of_getElem? (i := 760) (by decide +kernel), List.mem_of_getElem? (i := 761) (by decide +kernel)⟩
theorem lw_p39 : lw_okq (⟨"SmallFloatsModel", "crossed", "(IIII)I"⟩, 26) := ⟨⟨by decide +kernel, by decide +kernel⟩, List.mem_of_getElem? (i := 541) (by decide +kernel), List.mem_of_getElem? (i := 768) (by decide +kernel), List.mem_of_getElem? (i := 769) (by decide +kernel)⟩
theorem lw_p40 : lw_okq (⟨"SmallFloatsModel", "invalidIn", "(I)I"⟩, 26) := ⟨⟨by decide +kernel, by decide +kernel⟩, List.mem_of_getElem? (i := 541) (by decide +kernel), List.mem_of_getElem? (i := 772) (by decide +kernel), List.mem_of_getElem? (i := 773) (by decide +kernel)⟩
theorem lw_p41 : lw_okq (⟨"SmallFloatsModel", "acted", "(IIIII)I"⟩, 26) := ⟨⟨by decide +kernel, by decide +kernel⟩, List.mem_of_getElem? (i := 541) (by decide +kernel), List.mem_of_getElem? (i := 780) (by decide +kernel), List.mem_of_getElem? (i := 781) (by decide +kernel)⟩
theorem lw_p42 : lw_okq (⟨"SmallFloatsModel", "summed", "(IIIIZ)I"⟩, 26) := ⟨⟨by decide +kernel, by decide +kernel⟩, List.mem_of_getElem? (i := 541) (by decide +kernel), List.mem_of_getElem? (i := 784) (by decide +kernel), List.mem_of_getElem? (i := 785) (by decide +kernel)⟩
theorem lw_p43 : lw_okq (⟨"SmallFloatsModel", "isEndless", "(II)Z"⟩, 26) := ⟨⟨by decide +kernel, by decide +kernel⟩, List.mem_of_getElem? (i := 541) (by decide +kernel), List.mem_of_getElem? (i := 788) (by decide +kernel), List.mem_of_getElem? (i := 789) (by decide +kernel)⟩
theorem lw_p44 : lw_okq (⟨"SmallFloatsModel", "endlessSum", "(IIIZ)I"⟩, 26) := ⟨⟨by decide +kernel, by decide +kernel⟩, List.mem_of_getElem? (i := 541) (by decide +kernel), List.mem_of_getElem? (i := 792) (by decide +kernel), List.mem_of_getElem? (i := 793) (by decide +kernel)⟩
theorem lw_p45 : lw_okq (⟨"SmallFloatsModel", "endlessOr", "(IZ)I"⟩, 26) := ⟨⟨by decide +kernel, by decide +kernel⟩, List.mem_of_getElem? (i := 541) (by decide +kernel), List.mem_of_getElem? (i := 796) (by decide +kernel), List.mem_of_getElem? (i := 797) (by decide +kernel)⟩
theorem lw_p46 : lw_okq (⟨"SmallFloatsModel", "multiplied", "(IIII)I"⟩, 26) := ⟨⟨by decide +kernel, by decide +kernel⟩, List.mem_of_getElem? (i := 541) (by decide +kernel), List.mem_of_getElem? (i := 800) (by decide +kernel), List.mem_of_getElem? (i := 801) (by decide +kernel)⟩
theorem lw_p47 : lw_okq (⟨"SmallFloatsModel", "divided", "(IIII)I"⟩, 26) := ⟨⟨by decide +kernel, by decide +kernel⟩, List.mem_of_getElem? (i := 541) (by decide +kernel), List.mem_of_getElem? (i := 804) (by decide +kernel), List.mem_of_getElem? (i := 805) (by decide +kernel)⟩
def lw_privs_3 : List (MethodName × Nat) := [(⟨"SmallFloatsModel", "roundedFraction", "(IJJIZ)I"⟩, 26), (⟨"SmallFloatsModel", "signed", "(IIZ)I"⟩, 26), (⟨"SmallFloatsModel", "rounded", "(IZI)I"⟩, 26), (⟨"SmallFloatsModel", "twiceBeside", "(J)I"⟩, 26), (⟨"SmallFloatsModel", "roundedAbove", "(IZI)I"⟩, 26), (⟨"SmallFloatsModel", "beyond", "(IZ)I"⟩, 26), (⟨"SmallFloatsModel", "ends", "(I)I"⟩, 26), (⟨"SmallFloatsModel", "crossed", "(IIII)I"⟩, 26), (⟨"SmallFloatsModel", "invalidIn", "(I)I"⟩, 26), (⟨"SmallFloatsModel", "acted", "(IIIII)I"⟩, 26), (⟨"SmallFloatsModel", "summed", "(IIIIZ)I"⟩, 26), (⟨"SmallFloatsModel", "isEndless", "(II)Z"⟩, 26), (⟨"SmallFloatsModel", "endlessSum", "(IIIZ)I"⟩, 26), (⟨"SmallFloatsModel", "endlessOr", "(IZ)I"⟩, 26), (⟨"SmallFloatsModel", "multiplied", "(IIII)I"⟩, 26), (⟨"SmallFloatsModel", "divided", "(IIII)I"⟩, 26)]
theorem lw_r3 : ∀ q ∈ lw_privs_3, lw_okq q := List.forall_mem_cons.mpr ⟨lw_p32, List.forall_mem_cons.mpr ⟨lw_p33, List.forall_mem_cons.mpr ⟨lw_p34, List.forall_mem_cons.mpr ⟨lw_p35, List.forall_mem_cons.mpr ⟨lw_p36, List.forall_mem_cons.mpr ⟨lw_p37, List.forall_mem_cons.mpr ⟨lw_p38, List.forall_mem_cons.mpr ⟨lw_p39, List.forall_mem_cons.mpr ⟨lw_p40, List.forall_mem_cons.mpr ⟨lw_p41, List.forall_mem_cons.mpr ⟨lw_p42, List.forall_mem_cons.mpr ⟨lw_p43, List.forall_mem_cons.mpr ⟨lw_p44, List.forall_mem_cons.mpr ⟨lw_p45, List.forall_mem_cons.mpr ⟨lw_p46, List.forall_mem_cons.mpr ⟨lw_p47, fun _ h => absurd h List.not_mem_nil⟩⟩⟩⟩⟩⟩⟩⟩⟩⟩⟩⟩⟩⟩⟩⟩
theorem lw_p48 : lw_okq (⟨"SmallFloatsModel", "rooted", "(III)I"⟩, 26) := ⟨⟨by decide +kernel, by decide +kernel⟩, List.mem_of_getElem? (i := 541) (by decide +kernel), List.mem_of_getElem? (i := 808) (by decide +kernel), List.mem_of_getElem? (i := 809) (by decide +kernel)⟩
theorem lw_p49 : lw_okq (⟨"SmallFloatsModel", "lesser", "(IIIZ)I"⟩, 26) := ⟨⟨by decide +kernel, by decide +kernel⟩, List.mem_of_getElem? (i := 541) (by decide +kernel), List.mem_of_getElem? (i := 812) (by decide +kernel), List.mem_of_getElem? (i := 813) (by decide +kernel)⟩
theorem lw_p50 : lw_okq (⟨"SmallFloatsModel", "beside", "(III)I"⟩, 26) := ⟨⟨by decide +kernel, by decide +kernel⟩, List.mem_of_getElem? (i := 541) (by decide +kernel), List.mem_of_getElem? (i := 816) (by decide +kernel), List.mem_of_getElem? (i := 817) (by decide +kernel)⟩
theorem lw_p51 : lw_okq (⟨"SmallFloatsModel", "comesProduct", "(III)V"⟩, 26) := ⟨⟨by decide +kernel, by decide +kernel⟩, List.mem_of_getElem? (i := 541) (by decide +kernel), List.mem_of_getElem? (i := 824) (by decide +kernel), List.mem_of_getElem? (i := 825) (by decide +kernel)⟩
theorem lw_p52 : lw_okq (⟨"SmallFloatsModel", "comesNone", "(IZ)V"⟩, 26) := ⟨⟨by decide +kernel, by decide +kernel⟩, List.mem_of_getElem? (i := 541) (by decide +kernel), List.mem_of_getElem? (i := 828) (by decide +kernel), List.mem_of_getElem? (i := 829) (by decide +kernel)⟩
theorem lw_p53 : lw_okq (⟨"SmallFloatsModel", "comesEndless", "(IZ)V"⟩, 26) := ⟨⟨by decide +kernel, by decide +kernel⟩, List.mem_of_getElem? (i := 541) (by decide +kernel), List.mem_of_getElem? (i := 832) (by decide +kernel), List.mem_of_getElem? (i := 833) (by decide +kernel)⟩
theorem lw_p54 : lw_okq (⟨"SmallFloatsModel", "comes", "(IIJ)V"⟩, 26) := ⟨⟨by decide +kernel, by decide +kernel⟩, List.mem_of_getElem? (i := 541) (by decide +kernel), List.mem_of_getElem? (i := 836) (by decide +kernel), List.mem_of_getElem? (i := 837) (by decide +kernel)⟩
theorem lw_p55 : lw_okq (⟨"SmallFloatsModel", "whatCame", "(IJIZ)I"⟩, 26) := ⟨⟨by decide +kernel, by decide +kernel⟩, List.mem_of_getElem? (i := 541) (by decide +kernel), List.mem_of_getElem? (i := 840) (by decide +kernel), List.mem_of_getElem? (i := 841) (by decide +kernel)⟩
theorem lw_p56 : lw_okq (⟨"SmallFloatsModel", "isRow", "(I)Z"⟩, 26) := ⟨⟨by decide +kernel, by decide +kernel⟩, List.mem_of_getElem? (i := 541) (by decide +kernel), List.mem_of_getElem? (i := 865) (by decide +kernel), List.mem_of_getElem? (i := 866) (by decide +kernel)⟩
def lw_privs_4 : List (MethodName × Nat) := [(⟨"SmallFloatsModel", "rooted", "(III)I"⟩, 26), (⟨"SmallFloatsModel", "lesser", "(IIIZ)I"⟩, 26), (⟨"SmallFloatsModel", "beside", "(III)I"⟩, 26), (⟨"SmallFloatsModel", "comesProduct", "(III)V"⟩, 26), (⟨"SmallFloatsModel", "comesNone", "(IZ)V"⟩, 26), (⟨"SmallFloatsModel", "comesEndless", "(IZ)V"⟩, 26), (⟨"SmallFloatsModel", "comes", "(IIJ)V"⟩, 26), (⟨"SmallFloatsModel", "whatCame", "(IJIZ)I"⟩, 26), (⟨"SmallFloatsModel", "isRow", "(I)Z"⟩, 26)]
theorem lw_r4 : ∀ q ∈ lw_privs_4, lw_okq q := List.forall_mem_cons.mpr ⟨lw_p48, List.forall_mem_cons.mpr ⟨lw_p49, List.forall_mem_cons.mpr ⟨lw_p50, List.forall_mem_cons.mpr ⟨lw_p51, List.forall_mem_cons.mpr ⟨lw_p52, List.forall_mem_cons.mpr ⟨lw_p53, List.forall_mem_cons.mpr ⟨lw_p54, List.forall_mem_cons.mpr ⟨lw_p55, List.forall_mem_cons.mpr ⟨lw_p56, fun _ h => absurd h List.not_mem_nil⟩⟩⟩⟩⟩⟩⟩⟩⟩
def lw_privs : List (MethodName × Nat) := lw_privs_1 ++ (lw_privs_2 ++ (lw_privs_3 ++ (lw_privs_4)))
def lw_tbl : List Cond := k2_sels lw_privs ++ tables_1
theorem lw_privs_ok : ∀ q ∈ lw_privs, lw_okq q := by
  show ∀ q ∈ lw_privs_1 ++ (lw_privs_2 ++ (lw_privs_3 ++ (lw_privs_4))), lw_okq q
  exact List.forall_mem_append.mpr ⟨lw_r1, List.forall_mem_append.mpr ⟨lw_r2, List.forall_mem_append.mpr ⟨lw_r3, lw_r4⟩⟩⟩
end
section
def RX0 : String := "SmallFloats$Arithmetic"
def TX0 : u_T := fun k => match k with
  | _ => ("SmallFloats$Arithmetic", "met", "LSmallFloats$Tally;", true)
def tyX0 : Nat → FieldType := fun k => match k with
  | _ => .object "SmallFloats$Tally"
abbrev wsX00 : List Cond := u_ws RX0 TX0 1
theorem nmX0 : ∀ a, a < 1 → ∀ b, b < 1 → a ≠ b → (TX0 a).2.1 ≠ (TX0 b).2.1 := by decide +kernel
theorem tyX0_ok : ∀ k, k < 1 → parseFieldDescriptor (TX0 k).2.2.1 = some (tyX0 k) := by decide +kernel
abbrev cX0_init : ByteArray := prog_2_method_1_code
def yX0_init : MethodName := ⟨RX0, "<init>", "()V"⟩
abbrev cX0_invalid : ByteArray := prog_2_method_2_code
def yX0_invalid : MethodName := ⟨RX0, "invalid", "(LSmallFloats$Format;)I"⟩
abbrev cX0_rounded : ByteArray := prog_2_method_3_code
def yX0_rounded : MethodName := ⟨RX0, "rounded", "(LSmallFloats$Format;ZJJI)I"⟩
abbrev cX0_greatestUpTo : ByteArray := prog_2_method_4_code
def yX0_greatestUpTo : MethodName := ⟨RX0, "greatestUpTo", "(LSmallFloats$Format;JJ)I"⟩
abbrev cX0_goesOut : ByteArray := prog_2_method_5_code
def yX0_goesOut : MethodName := ⟨RX0, "goesOut", "(IZIZI)Z"⟩
abbrev cX0_fraction : ByteArray := prog_2_method_6_code
def yX0_fraction : MethodName := ⟨RX0, "fraction", "(LSmallFloats$Format;JJI)I"⟩
abbrev cX0_crossed : ByteArray := prog_2_method_7_code
def yX0_crossed : MethodName := ⟨RX0, "crossed", "(LSmallFloats$Format;ILSmallFloats$Format;I)I"⟩
abbrev cX0_acted : ByteArray := prog_2_method_8_code
def yX0_acted : MethodName := ⟨RX0, "acted", "(LSmallFloats$Format;IIII)I"⟩
abbrev cX0_added : ByteArray := prog_2_method_9_code
def yX0_added : MethodName := ⟨RX0, "added", "(LSmallFloats$Format;IIZI)I"⟩
abbrev cX0_fusedOf : ByteArray := prog_2_method_10_code
def yX0_fusedOf : MethodName := ⟨RX0, "fusedOf", "(LSmallFloats$Format;IIII)I"⟩
abbrev cX0_endlessOfSum : ByteArray := prog_2_method_11_code
def yX0_endlessOfSum : MethodName := ⟨RX0, "endlessOfSum", "(LSmallFloats$Format;ZJZJ)I"⟩
abbrev cX0_multiplied : ByteArray := prog_2_method_12_code
def yX0_multiplied : MethodName := ⟨RX0, "multiplied", "(LSmallFloats$Format;III)I"⟩
abbrev cX0_divided : ByteArray := prog_2_method_13_code
def yX0_divided : MethodName := ⟨RX0, "divided", "(LSmallFloats$Format;III)I"⟩
abbrev cX0_rootOf : ByteArray := prog_2_method_14_code
def yX0_rootOf : MethodName := ⟨RX0, "rootOf", "(LSmallFloats$Format;II)I"⟩
abbrev cX0_wholeRoot : ByteArray := prog_2_method_15_code
def yX0_wholeRoot : MethodName := ⟨RX0, "wholeRoot", "(J)J"⟩
abbrev cX0_exactTotal : ByteArray := prog_2_method_16_code
def yX0_exactTotal : MethodName := ⟨RX0, "exactTotal", "(LSmallFloats$Row;LSmallFloats$Row;I)I"⟩
abbrev cX0_stepwiseTotal : ByteArray := prog_2_method_17_code
def yX0_stepwiseTotal : MethodName := ⟨RX0, "stepwiseTotal", "(LSmallFloats$Row;LSmallFloats$Row;I)I"⟩
abbrev cX0_termCount : ByteArray := prog_2_method_18_code
def yX0_termCount : MethodName := ⟨RX0, "termCount", "(LSmallFloats$Row;LSmallFloats$Row;)I"⟩
abbrev cX0_signed : ByteArray := prog_2_method_19_code
def yX0_signed : MethodName := ⟨RX0, "signed", "(ZJ)J"⟩
def RX1 : String := "SmallFloats$Format"
def TX1 : u_T := fun k => match k with
  | 0 => ("SmallFloats$Format", "signBits", "I", true)
  | 1 => ("SmallFloats$Format", "exponentBits", "I", true)
  | 2 => ("SmallFloats$Format", "fractionBits", "I", true)
  | 3 => ("SmallFloats$Format", "bias", "I", true)
  | 4 => ("SmallFloats$Format", "subnormals", "Z", true)
  | 5 => ("SmallFloats$Format", "top", "I", true)
  | _ => ("SmallFloats$Format", "great", "I", true)
def tyX1 : Nat → FieldType := fun k => match k with
  | 0 => .int
  | 1 => .int
  | 2 => .int
  | 3 => .int
  | 4 => .boolean
  | 5 => .int
  | _ => .int
abbrev wsX10 : List Cond := u_ws RX1 TX1 7
theorem nmX1 : ∀ a, a < 7 → ∀ b, b < 7 → a ≠ b → (TX1 a).2.1 ≠ (TX1 b).2.1 := by decide +kernel
theorem tyX1_ok : ∀ k, k < 7 → parseFieldDescriptor (TX1 k).2.2.1 = some (tyX1 k) := by decide +kernel
abbrev cX1_init : ByteArray := prog_3_method_1_code
def yX1_init : MethodName := ⟨RX1, "<init>", "(IIIIZI)V"⟩
abbrev cX1_isAlike : ByteArray := prog_3_method_2_code
def yX1_isAlike : MethodName := ⟨RX1, "isAlike", "(LSmallFloats$Format;)Z"⟩
abbrev cX1_bits : ByteArray := prog_3_method_3_code
def yX1_bits : MethodName := ⟨RX1, "bits", "()I"⟩
abbrev cX1_scale : ByteArray := prog_3_method_4_code
def yX1_scale : MethodName := ⟨RX1, "scale", "()I"⟩
abbrev cX1_twiceMiddleAbove : ByteArray := prog_3_method_5_code
def yX1_twiceMiddleAbove : MethodName := ⟨RX1, "twiceMiddleAbove", "(I)J"⟩
abbrev cX1_noneCode : ByteArray := prog_3_method_6_code
def yX1_noneCode : MethodName := ⟨RX1, "noneCode", "()I"⟩
abbrev cX1_beyond : ByteArray := prog_3_method_7_code
def yX1_beyond : MethodName := ⟨RX1, "beyond", "(Z)I"⟩
abbrev cX1_hasCode : ByteArray := prog_3_method_8_code
def yX1_hasCode : MethodName := ⟨RX1, "hasCode", "(I)Z"⟩
abbrev cX1_magnitude : ByteArray := prog_3_method_9_code
def yX1_magnitude : MethodName := ⟨RX1, "magnitude", "(I)I"⟩
abbrev cX1_isMinus : ByteArray := prog_3_method_10_code
def yX1_isMinus : MethodName := ⟨RX1, "isMinus", "(I)Z"⟩
abbrev cX1_withSign : ByteArray := prog_3_method_11_code
def yX1_withSign : MethodName := ⟨RX1, "withSign", "(ZI)I"⟩
abbrev cX1_isNumber : ByteArray := prog_3_method_12_code
def yX1_isNumber : MethodName := ⟨RX1, "isNumber", "(I)Z"⟩
abbrev cX1_isEndless : ByteArray := prog_3_method_13_code
def yX1_isEndless : MethodName := ⟨RX1, "isEndless", "(I)Z"⟩
abbrev cX1_isNone : ByteArray := prog_3_method_14_code
def yX1_isNone : MethodName := ⟨RX1, "isNone", "(I)Z"⟩
abbrev cX1_kindOf : ByteArray := prog_3_method_15_code
def yX1_kindOf : MethodName := ⟨RX1, "kindOf", "(I)I"⟩
abbrev cX1_unitsOfMagnitude : ByteArray := prog_3_method_16_code
def yX1_unitsOfMagnitude : MethodName := ⟨RX1, "unitsOfMagnitude", "(I)J"⟩
abbrev cX1_unitsOf : ByteArray := prog_3_method_17_code
def yX1_unitsOf : MethodName := ⟨RX1, "unitsOf", "(I)J"⟩
abbrev cX1_sizeOf : ByteArray := prog_3_method_18_code
def yX1_sizeOf : MethodName := ⟨RX1, "sizeOf", "(I)J"⟩
abbrev cX1_sizeOfProduct : ByteArray := prog_3_method_19_code
def yX1_sizeOfProduct : MethodName := ⟨RX1, "sizeOfProduct", "(II)J"⟩
abbrev cX1_rank : ByteArray := prog_3_method_20_code
def yX1_rank : MethodName := ⟨RX1, "rank", "(I)I"⟩
abbrev cX1_lesser : ByteArray := prog_3_method_21_code
def yX1_lesser : MethodName := ⟨RX1, "lesser", "(II)I"⟩
abbrev cX1_greater : ByteArray := prog_3_method_22_code
def yX1_greater : MethodName := ⟨RX1, "greater", "(II)I"⟩
abbrev cX1_neighbour : ByteArray := prog_3_method_23_code
def yX1_neighbour : MethodName := ⟨RX1, "neighbour", "(IZ)I"⟩
abbrev cX1_numbersBetween : ByteArray := prog_3_method_24_code
def yX1_numbersBetween : MethodName := ⟨RX1, "numbersBetween", "(JJ)I"⟩
abbrev cX1_magnitudesUpTo : ByteArray := prog_3_method_25_code
def yX1_magnitudesUpTo : MethodName := ⟨RX1, "magnitudesUpTo", "(J)I"⟩
def RX2 : String := "SmallFloats$Row"
def TX2 : u_T := fun k => match k with
  | 0 => ("SmallFloats$Row", "format", "LSmallFloats$Format;", false)
  | 1 => ("SmallFloats$Row", "length", "I", false)
  | _ => ("SmallFloats$Row", "codes", "[I", true)
def tyX2 : Nat → FieldType := fun k => match k with
  | 0 => .object "SmallFloats$Format"
  | 1 => .int
  | _ => .array .int
abbrev wsX20 : List Cond := u_ws RX2 TX2 3
theorem nmX2 : ∀ a, a < 3 → ∀ b, b < 3 → a ≠ b → (TX2 a).2.1 ≠ (TX2 b).2.1 := by decide +kernel
theorem tyX2_ok : ∀ k, k < 3 → parseFieldDescriptor (TX2 k).2.2.1 = some (tyX2 k) := by decide +kernel
abbrev cX2_init : ByteArray := prog_4_method_1_code
def yX2_init : MethodName := ⟨RX2, "<init>", "()V"⟩
abbrev cX2_become : ByteArray := prog_4_method_2_code
def yX2_become : MethodName := ⟨RX2, "become", "(LSmallFloats$Format;I)V"⟩
abbrev cX2_hasPlace : ByteArray := prog_4_method_3_code
def yX2_hasPlace : MethodName := ⟨RX2, "hasPlace", "(I)Z"⟩
abbrev cX2_codeAt : ByteArray := prog_4_method_4_code
def yX2_codeAt : MethodName := ⟨RX2, "codeAt", "(I)I"⟩
abbrev cX2_setCode : ByteArray := prog_4_method_5_code
def yX2_setCode : MethodName := ⟨RX2, "setCode", "(II)V"⟩
abbrev cX2_byteCount : ByteArray := prog_4_method_6_code
def yX2_byteCount : MethodName := ⟨RX2, "byteCount", "()I"⟩
abbrev cX2_byteAt : ByteArray := prog_4_method_7_code
def yX2_byteAt : MethodName := ⟨RX2, "byteAt", "(I)I"⟩
abbrev cX2_areNumbers : ByteArray := prog_4_method_8_code
def yX2_areNumbers : MethodName := ⟨RX2, "areNumbers", "(LSmallFloats$Row;I)Z"⟩
abbrev cX2_distance : ByteArray := prog_4_method_9_code
def yX2_distance : MethodName := ⟨RX2, "distance", "(LSmallFloats$Row;I)J"⟩
abbrev cX2_worstPlace : ByteArray := prog_4_method_10_code
def yX2_worstPlace : MethodName := ⟨RX2, "worstPlace", "(LSmallFloats$Row;)I"⟩
abbrev cX2_differences : ByteArray := prog_4_method_11_code
def yX2_differences : MethodName := ⟨RX2, "differences", "(LSmallFloats$Row;)I"⟩
abbrev cX2_noNumbers : ByteArray := prog_4_method_12_code
def yX2_noNumbers : MethodName := ⟨RX2, "noNumbers", "(LSmallFloats$Row;)I"⟩
def RX3 : String := "SmallFloats$Tally"
def TX3 : u_T := fun k => match k with
  | 0 => ("SmallFloats$Tally", "inexact", "I", false)
  | 1 => ("SmallFloats$Tally", "over", "I", false)
  | _ => ("SmallFloats$Tally", "invalid", "I", false)
def tyX3 : Nat → FieldType := fun k => match k with
  | 0 => .int
  | 1 => .int
  | _ => .int
abbrev wsX30 : List Cond := u_ws RX3 TX3 3
theorem nmX3 : ∀ a, a < 3 → ∀ b, b < 3 → a ≠ b → (TX3 a).2.1 ≠ (TX3 b).2.1 := by decide +kernel
theorem tyX3_ok : ∀ k, k < 3 → parseFieldDescriptor (TX3 k).2.2.1 = some (tyX3 k) := by decide +kernel
abbrev cX3_init : ByteArray := prog_5_method_1_code
def yX3_init : MethodName := ⟨RX3, "<init>", "()V"⟩
abbrev cX3_clear : ByteArray := prog_5_method_2_code
def yX3_clear : MethodName := ⟨RX3, "clear", "()V"⟩
abbrev cX3_add : ByteArray := prog_5_method_3_code
def yX3_add : MethodName := ⟨RX3, "add", "(LSmallFloats$Tally;)V"⟩
def RX4 : String := "SmallFloats"
def TX4 : u_T := fun k => match k with
  | 0 => ("SmallFloats", "formats", "[LSmallFloats$Format;", true)
  | 1 => ("SmallFloats", "formatCount", "I", false)
  | 2 => ("SmallFloats", "rows", "[LSmallFloats$Row;", true)
  | 3 => ("SmallFloats", "scratch", "[I", true)
  | 4 => ("SmallFloats", "arithmetic", "LSmallFloats$Arithmetic;", true)
  | 5 => ("SmallFloats", "counted", "LSmallFloats$Tally;", true)
  | 6 => ("SmallFloats", "refusal", "I", false)
  | 7 => ("SmallFloats", "tableFormat", "LSmallFloats$Format;", false)
  | 8 => ("SmallFloats", "tableAct", "I", false)
  | 9 => ("SmallFloats", "tableMode", "I", false)
  | _ => ("SmallFloats", "tablesMade", "I", false)
def tyX4 : Nat → FieldType := fun k => match k with
  | 0 => .array (.object "SmallFloats$Format")
  | 1 => .int
  | 2 => .array (.object "SmallFloats$Row")
  | 3 => .array .int
  | 4 => .object "SmallFloats$Arithmetic"
  | 5 => .object "SmallFloats$Tally"
  | 6 => .int
  | 7 => .object "SmallFloats$Format"
  | 8 => .int
  | 9 => .int
  | _ => .int
abbrev wsX40 : List Cond := u_ws RX4 TX4 11
theorem nmX4 : ∀ a, a < 11 → ∀ b, b < 11 → a ≠ b → (TX4 a).2.1 ≠ (TX4 b).2.1 := by decide +kernel
theorem tyX4_ok : ∀ k, k < 11 → parseFieldDescriptor (TX4 k).2.2.1 = some (tyX4 k) := by decide +kernel
abbrev cX4_init : ByteArray := prog_1_method_1_code
def yX4_init : MethodName := ⟨RX4, "<init>", "()V"⟩
abbrev cX4_format : ByteArray := prog_1_method_2_code
def yX4_format : MethodName := ⟨RX4, "format", "(IIIIZI)I"⟩
abbrev cX4_about : ByteArray := prog_1_method_3_code
def yX4_about : MethodName := ⟨RX4, "about", "(II)I"⟩
abbrev cX4_kind : ByteArray := prog_1_method_4_code
def yX4_kind : MethodName := ⟨RX4, "kind", "(III)I"⟩
abbrev cX4_units : ByteArray := prog_1_method_5_code
def yX4_units : MethodName := ⟨RX4, "units", "(II)J"⟩
abbrev cX4_code : ByteArray := prog_1_method_6_code
def yX4_code : MethodName := ⟨RX4, "code", "(IJJI)I"⟩
abbrev cX4_cross : ByteArray := prog_1_method_7_code
def yX4_cross : MethodName := ⟨RX4, "cross", "(IIII)I"⟩
abbrev cX4_act : ByteArray := prog_1_method_8_code
def yX4_act : MethodName := ⟨RX4, "act", "(IIIII)I"⟩
abbrev cX4_fused : ByteArray := prog_1_method_9_code
def yX4_fused : MethodName := ⟨RX4, "fused", "(IIIII)I"⟩
abbrev cX4_next : ByteArray := prog_1_method_10_code
def yX4_next : MethodName := ⟨RX4, "next", "(IIZ)I"⟩
abbrev cX4_order : ByteArray := prog_1_method_11_code
def yX4_order : MethodName := ⟨RX4, "order", "(III)I"⟩
abbrev cX4_numbers : ByteArray := prog_1_method_12_code
def yX4_numbers : MethodName := ⟨RX4, "numbers", "(IJJ)I"⟩
abbrev cX4_row : ByteArray := prog_1_method_13_code
def yX4_row : MethodName := ⟨RX4, "row", "(III)I"⟩
abbrev cX4_put : ByteArray := prog_1_method_14_code
def yX4_put : MethodName := ⟨RX4, "put", "(III)I"⟩
abbrev cX4_at : ByteArray := prog_1_method_15_code
def yX4_at : MethodName := ⟨RX4, "at", "(II)I"⟩
abbrev cX4_packed : ByteArray := prog_1_method_16_code
def yX4_packed : MethodName := ⟨RX4, "packed", "(II)I"⟩
abbrev cX4_quantise : ByteArray := prog_1_method_17_code
def yX4_quantise : MethodName := ⟨RX4, "quantise", "(IIII)I"⟩
abbrev cX4_worst : ByteArray := prog_1_method_18_code
def yX4_worst : MethodName := ⟨RX4, "worst", "(III)I"⟩
abbrev cX4_sum : ByteArray := prog_1_method_19_code
def yX4_sum : MethodName := ⟨RX4, "sum", "(IIZ)I"⟩
abbrev cX4_dot : ByteArray := prog_1_method_20_code
def yX4_dot : MethodName := ⟨RX4, "dot", "(IIIZ)I"⟩
abbrev cX4_table : ByteArray := prog_1_method_21_code
def yX4_table : MethodName := ⟨RX4, "table", "(III)I"⟩
abbrev cX4_lookup : ByteArray := prog_1_method_22_code
def yX4_lookup : MethodName := ⟨RX4, "lookup", "(II)I"⟩
abbrev cX4_count : ByteArray := prog_1_method_23_code
def yX4_count : MethodName := ⟨RX4, "count", "(I)I"⟩
abbrev cX4_told : ByteArray := prog_1_method_24_code
def yX4_told : MethodName := ⟨RX4, "told", "()I"⟩
abbrev cX4_answered : ByteArray := prog_1_method_25_code
def yX4_answered : MethodName := ⟨RX4, "answered", "(I)I"⟩
abbrev cX4_refused : ByteArray := prog_1_method_26_code
def yX4_refused : MethodName := ⟨RX4, "refused", "(I)I"⟩
abbrev cX4_settled : ByteArray := prog_1_method_27_code
def yX4_settled : MethodName := ⟨RX4, "settled", "(I)I"⟩
abbrev cX4_formatAt : ByteArray := prog_1_method_28_code
def yX4_formatAt : MethodName := ⟨RX4, "formatAt", "(I)LSmallFloats$Format;"⟩
abbrev cX4_rowAt : ByteArray := prog_1_method_29_code
def yX4_rowAt : MethodName := ⟨RX4, "rowAt", "(I)LSmallFloats$Row;"⟩
abbrev cX4_isMode : ByteArray := prog_1_method_30_code
def yX4_isMode : MethodName := ⟨RX4, "isMode", "(I)Z"⟩
abbrev cX4_within : ByteArray := prog_1_method_31_code
def yX4_within : MethodName := ⟨RX4, "within", "(III)Z"⟩
def RX5 : String := "SmallFloatsModel"
def TX5 : u_T := fun k => match k with
  | 0 => ("SmallFloatsModel", "formats", "I", false)
  | 1 => ("SmallFloatsModel", "signs", "[I", true)
  | 2 => ("SmallFloatsModel", "exponents", "[I", true)
  | 3 => ("SmallFloatsModel", "fractions", "[I", true)
  | 4 => ("SmallFloatsModel", "biases", "[I", true)
  | 5 => ("SmallFloatsModel", "hasSubnormals", "[Z", true)
  | 6 => ("SmallFloatsModel", "tops", "[I", true)
  | 7 => ("SmallFloatsModel", "rowFormat", "[I", true)
  | 8 => ("SmallFloatsModel", "rowSize", "[I", true)
  | 9 => ("SmallFloatsModel", "rowCode", "[I", true)
  | 10 => ("SmallFloatsModel", "tables", "I", false)
  | 11 => ("SmallFloatsModel", "tableFormat", "I", false)
  | 12 => ("SmallFloatsModel", "tableAct", "I", false)
  | 13 => ("SmallFloatsModel", "tableMode", "I", false)
  | 14 => ("SmallFloatsModel", "inexact", "I", false)
  | 15 => ("SmallFloatsModel", "over", "I", false)
  | 16 => ("SmallFloatsModel", "invalid", "I", false)
  | 17 => ("SmallFloatsModel", "told", "I", false)
  | 18 => ("SmallFloatsModel", "nowInexact", "I", false)
  | 19 => ("SmallFloatsModel", "nowOver", "I", false)
  | 20 => ("SmallFloatsModel", "isSquare", "Z", false)
  | 21 => ("SmallFloatsModel", "top1", "J", false)
  | 22 => ("SmallFloatsModel", "bottom", "J", false)
  | 23 => ("SmallFloatsModel", "state", "I", false)
  | 24 => ("SmallFloatsModel", "exact", "J", false)
  | _ => ("SmallFloatsModel", "made", "[I", true)
def tyX5 : Nat → FieldType := fun k => match k with
  | 0 => .int
  | 1 => .array .int
  | 2 => .array .int
  | 3 => .array .int
  | 4 => .array .int
  | 5 => .array .boolean
  | 6 => .array .int
  | 7 => .array .int
  | 8 => .array .int
  | 9 => .array .int
  | 10 => .int
  | 11 => .int
  | 12 => .int
  | 13 => .int
  | 14 => .int
  | 15 => .int
  | 16 => .int
  | 17 => .int
  | 18 => .int
  | 19 => .int
  | 20 => .boolean
  | 21 => .long
  | 22 => .long
  | 23 => .int
  | 24 => .long
  | _ => .array .int
abbrev wsX50 : List Cond := u_ws RX5 TX5 26
theorem nmX5 : ∀ a, a < 26 → ∀ b, b < 26 → a ≠ b → (TX5 a).2.1 ≠ (TX5 b).2.1 := by decide +kernel
theorem tyX5_ok : ∀ k, k < 26 → parseFieldDescriptor (TX5 k).2.2.1 = some (tyX5 k) := by decide +kernel
abbrev cX5_init : ByteArray := prog_7_method_1_code
def yX5_init : MethodName := ⟨RX5, "<init>", "()V"⟩
abbrev cX5_in : ByteArray := prog_7_method_3_code
def yX5_in : MethodName := ⟨RX5, "in", "(JJJ)Z"⟩
abbrev cX5_refused : ByteArray := prog_7_method_4_code
def yX5_refused : MethodName := ⟨RX5, "refused", "(I)I"⟩
abbrev cX5_fine : ByteArray := prog_7_method_5_code
def yX5_fine : MethodName := ⟨RX5, "fine", "(I)I"⟩
abbrev cX5_begins : ByteArray := prog_7_method_6_code
def yX5_begins : MethodName := ⟨RX5, "begins", "()V"⟩
abbrev cX5_ends : ByteArray := prog_7_method_7_code
def yX5_ends : MethodName := ⟨RX5, "ends", "(I)I"⟩
abbrev cX5_isFormat : ByteArray := prog_7_method_8_code
def yX5_isFormat : MethodName := ⟨RX5, "isFormat", "(I)Z"⟩
abbrev cX5_bits : ByteArray := prog_7_method_9_code
def yX5_bits : MethodName := ⟨RX5, "bits", "(I)I"⟩
abbrev cX5_isCode : ByteArray := prog_7_method_10_code
def yX5_isCode : MethodName := ⟨RX5, "isCode", "(II)Z"⟩
abbrev cX5_signBit : ByteArray := prog_7_method_11_code
def yX5_signBit : MethodName := ⟨RX5, "signBit", "(I)I"⟩
abbrev cX5_isMinus : ByteArray := prog_7_method_12_code
def yX5_isMinus : MethodName := ⟨RX5, "isMinus", "(II)Z"⟩
abbrev cX5_plain : ByteArray := prog_7_method_13_code
def yX5_plain : MethodName := ⟨RX5, "plain", "(II)I"⟩
abbrev cX5_signed : ByteArray := prog_7_method_14_code
def yX5_signed : MethodName := ⟨RX5, "signed", "(IIZ)I"⟩
abbrev cX5_allOnes : ByteArray := prog_7_method_15_code
def yX5_allOnes : MethodName := ⟨RX5, "allOnes", "(I)I"⟩
abbrev cX5_kindOf : ByteArray := prog_7_method_16_code
def yX5_kindOf : MethodName := ⟨RX5, "kindOf", "(II)I"⟩
abbrev cX5_isNumber : ByteArray := prog_7_method_17_code
def yX5_isNumber : MethodName := ⟨RX5, "isNumber", "(II)Z"⟩
abbrev cX5_size : ByteArray := prog_7_method_18_code
def yX5_size : MethodName := ⟨RX5, "size", "(II)J"⟩
abbrev cX5_unitsOf : ByteArray := prog_7_method_19_code
def yX5_unitsOf : MethodName := ⟨RX5, "unitsOf", "(II)J"⟩
abbrev cX5_great : ByteArray := prog_7_method_20_code
def yX5_great : MethodName := ⟨RX5, "great", "(I)I"⟩
abbrev cX5_last : ByteArray := prog_7_method_21_code
def yX5_last : MethodName := ⟨RX5, "last", "(I)I"⟩
abbrev cX5_noneOf : ByteArray := prog_7_method_22_code
def yX5_noneOf : MethodName := ⟨RX5, "noneOf", "(I)I"⟩
abbrev cX5_endless : ByteArray := prog_7_method_23_code
def yX5_endless : MethodName := ⟨RX5, "endless", "(I)I"⟩
abbrev cX5_scale : ByteArray := prog_7_method_24_code
def yX5_scale : MethodName := ⟨RX5, "scale", "(I)I"⟩
abbrev cX5_format : ByteArray := prog_7_method_25_code
def yX5_format : MethodName := ⟨RX5, "format", "(IIIIZI)I"⟩
abbrev cX5_about : ByteArray := prog_7_method_26_code
def yX5_about : MethodName := ⟨RX5, "about", "(II)I"⟩
abbrev cX5_kind : ByteArray := prog_7_method_27_code
def yX5_kind : MethodName := ⟨RX5, "kind", "(III)I"⟩
abbrev cX5_units : ByteArray := prog_7_method_28_code
def yX5_units : MethodName := ⟨RX5, "units", "(II)J"⟩
abbrev cX5_twiceBeside : ByteArray := prog_7_method_29_code
def yX5_twiceBeside : MethodName := ⟨RX5, "twiceBeside", "(J)I"⟩
abbrev cX5_beyond : ByteArray := prog_7_method_30_code
def yX5_beyond : MethodName := ⟨RX5, "beyond", "(IZ)I"⟩
abbrev cX5_roundedAbove : ByteArray := prog_7_method_31_code
def yX5_roundedAbove : MethodName := ⟨RX5, "roundedAbove", "(IZI)I"⟩
abbrev cX5_rounded : ByteArray := prog_7_method_32_code
def yX5_rounded : MethodName := ⟨RX5, "rounded", "(IZI)I"⟩
abbrev cX5_roundedFraction : ByteArray := prog_7_method_33_code
def yX5_roundedFraction : MethodName := ⟨RX5, "roundedFraction", "(IJJIZ)I"⟩
abbrev cX5_code : ByteArray := prog_7_method_34_code
def yX5_code : MethodName := ⟨RX5, "code", "(IJJI)I"⟩
abbrev cX5_invalidIn : ByteArray := prog_7_method_35_code
def yX5_invalidIn : MethodName := ⟨RX5, "invalidIn", "(I)I"⟩
abbrev cX5_crossed : ByteArray := prog_7_method_36_code
def yX5_crossed : MethodName := ⟨RX5, "crossed", "(IIII)I"⟩
abbrev cX5_cross : ByteArray := prog_7_method_37_code
def yX5_cross : MethodName := ⟨RX5, "cross", "(IIII)I"⟩
abbrev cX5_beside : ByteArray := prog_7_method_38_code
def yX5_beside : MethodName := ⟨RX5, "beside", "(III)I"⟩
abbrev cX5_lesser : ByteArray := prog_7_method_39_code
def yX5_lesser : MethodName := ⟨RX5, "lesser", "(IIIZ)I"⟩
abbrev cX5_endlessOr : ByteArray := prog_7_method_40_code
def yX5_endlessOr : MethodName := ⟨RX5, "endlessOr", "(IZ)I"⟩
abbrev cX5_isEndless : ByteArray := prog_7_method_41_code
def yX5_isEndless : MethodName := ⟨RX5, "isEndless", "(II)Z"⟩
abbrev cX5_endlessSum : ByteArray := prog_7_method_42_code
def yX5_endlessSum : MethodName := ⟨RX5, "endlessSum", "(IIIZ)I"⟩
abbrev cX5_summed : ByteArray := prog_7_method_43_code
def yX5_summed : MethodName := ⟨RX5, "summed", "(IIIIZ)I"⟩
abbrev cX5_multiplied : ByteArray := prog_7_method_44_code
def yX5_multiplied : MethodName := ⟨RX5, "multiplied", "(IIII)I"⟩
abbrev cX5_divided : ByteArray := prog_7_method_45_code
def yX5_divided : MethodName := ⟨RX5, "divided", "(IIII)I"⟩
abbrev cX5_rooted : ByteArray := prog_7_method_46_code
def yX5_rooted : MethodName := ⟨RX5, "rooted", "(III)I"⟩
abbrev cX5_acted : ByteArray := prog_7_method_47_code
def yX5_acted : MethodName := ⟨RX5, "acted", "(IIIII)I"⟩
abbrev cX5_act : ByteArray := prog_7_method_48_code
def yX5_act : MethodName := ⟨RX5, "act", "(IIIII)I"⟩
abbrev cX5_comesNone : ByteArray := prog_7_method_49_code
def yX5_comesNone : MethodName := ⟨RX5, "comesNone", "(IZ)V"⟩
abbrev cX5_comesEndless : ByteArray := prog_7_method_50_code
def yX5_comesEndless : MethodName := ⟨RX5, "comesEndless", "(IZ)V"⟩
abbrev cX5_comes : ByteArray := prog_7_method_51_code
def yX5_comes : MethodName := ⟨RX5, "comes", "(IIJ)V"⟩
abbrev cX5_comesProduct : ByteArray := prog_7_method_52_code
def yX5_comesProduct : MethodName := ⟨RX5, "comesProduct", "(III)V"⟩
abbrev cX5_whatCame : ByteArray := prog_7_method_53_code
def yX5_whatCame : MethodName := ⟨RX5, "whatCame", "(IJIZ)I"⟩
abbrev cX5_fused : ByteArray := prog_7_method_54_code
def yX5_fused : MethodName := ⟨RX5, "fused", "(IIIII)I"⟩
abbrev cX5_next : ByteArray := prog_7_method_55_code
def yX5_next : MethodName := ⟨RX5, "next", "(IIZ)I"⟩
abbrev cX5_order : ByteArray := prog_7_method_56_code
def yX5_order : MethodName := ⟨RX5, "order", "(III)I"⟩
abbrev cX5_numbers : ByteArray := prog_7_method_57_code
def yX5_numbers : MethodName := ⟨RX5, "numbers", "(IJJ)I"⟩
abbrev cX5_isRow : ByteArray := prog_7_method_58_code
def yX5_isRow : MethodName := ⟨RX5, "isRow", "(I)Z"⟩
abbrev cX5_row : ByteArray := prog_7_method_59_code
def yX5_row : MethodName := ⟨RX5, "row", "(III)I"⟩
abbrev cX5_put : ByteArray := prog_7_method_60_code
def yX5_put : MethodName := ⟨RX5, "put", "(III)I"⟩
abbrev cX5_at : ByteArray := prog_7_method_61_code
def yX5_at : MethodName := ⟨RX5, "at", "(II)I"⟩
abbrev cX5_packed : ByteArray := prog_7_method_62_code
def yX5_packed : MethodName := ⟨RX5, "packed", "(II)I"⟩
abbrev cX5_quantise : ByteArray := prog_7_method_63_code
def yX5_quantise : MethodName := ⟨RX5, "quantise", "(IIII)I"⟩
abbrev cX5_worst : ByteArray := prog_7_method_64_code
def yX5_worst : MethodName := ⟨RX5, "worst", "(III)I"⟩
abbrev cX5_sum : ByteArray := prog_7_method_65_code
def yX5_sum : MethodName := ⟨RX5, "sum", "(IIZ)I"⟩
abbrev cX5_dot : ByteArray := prog_7_method_66_code
def yX5_dot : MethodName := ⟨RX5, "dot", "(IIIZ)I"⟩
abbrev cX5_table : ByteArray := prog_7_method_67_code
def yX5_table : MethodName := ⟨RX5, "table", "(III)I"⟩
abbrev cX5_lookup : ByteArray := prog_7_method_68_code
def yX5_lookup : MethodName := ⟨RX5, "lookup", "(II)I"⟩
abbrev cX5_count : ByteArray := prog_7_method_69_code
def yX5_count : MethodName := ⟨RX5, "count", "(I)I"⟩
abbrev cX5_told : ByteArray := prog_7_method_70_code
def yX5_told : MethodName := ⟨RX5, "told", "()I"⟩
def RJ6 : String := "java/lang/Integer"
def TJ6 : u_T := fun k => match k with
  | _ => ("", "", "", false)
def tyJ6 : Nat → FieldType := fun k => match k with
  | _ => .int
abbrev wsJ60 : List Cond := u_ws RJ6 TJ6 0
theorem nmJ6 : ∀ a, a < 0 → ∀ b, b < 0 → a ≠ b → (TJ6 a).2.1 ≠ (TJ6 b).2.1 := by decide +kernel
theorem tyJ6_ok : ∀ k, k < 0 → parseFieldDescriptor (TJ6 k).2.2.1 = some (tyJ6 k) := by decide +kernel
abbrev cJ6_compare_7cf53 : ByteArray := prog_8_method_40_code
def yJ6_compare_7cf53 : MethodName := ⟨RJ6, "compare", "(II)I"⟩
def RJ13 : String := "java/lang/Long"
def TJ13 : u_T := fun k => match k with
  | _ => ("", "", "", false)
def tyJ13 : Nat → FieldType := fun k => match k with
  | _ => .int
abbrev wsJ130 : List Cond := u_ws RJ13 TJ13 0
theorem nmJ13 : ∀ a, a < 0 → ∀ b, b < 0 → a ≠ b → (TJ13 a).2.1 ≠ (TJ13 b).2.1 := by decide +kernel
theorem tyJ13_ok : ∀ k, k < 0 → parseFieldDescriptor (TJ13 k).2.2.1 = some (tyJ13 k) := by decide +kernel
abbrev cJ13_compare_74951 : ByteArray := prog_9_method_42_code
def yJ13_compare_74951 : MethodName := ⟨RJ13, "compare", "(JJ)I"⟩
def RJ9 : String := "java/lang/Math"
def TJ9 : u_T := fun k => match k with
  | _ => ("", "", "", false)
def tyJ9 : Nat → FieldType := fun k => match k with
  | _ => .int
abbrev wsJ90 : List Cond := u_ws RJ9 TJ9 0
theorem nmJ9 : ∀ a, a < 0 → ∀ b, b < 0 → a ≠ b → (TJ9 a).2.1 ≠ (TJ9 b).2.1 := by decide +kernel
theorem tyJ9_ok : ∀ k, k < 0 → parseFieldDescriptor (TJ9 k).2.2.1 = some (tyJ9 k) := by decide +kernel
abbrev cJ9_abs_0f7a4 : ByteArray := prog_10_method_59_code
def yJ9_abs_0f7a4 : MethodName := ⟨RJ9, "abs", "(I)I"⟩
abbrev cJ9_abs_067f4 : ByteArray := prog_10_method_61_code
def yJ9_abs_067f4 : MethodName := ⟨RJ9, "abs", "(J)J"⟩
abbrev cJ9_max_7cf53 : ByteArray := prog_10_method_65_code
def yJ9_max_7cf53 : MethodName := ⟨RJ9, "max", "(II)I"⟩
abbrev cJ9_max_f86c9 : ByteArray := prog_10_method_66_code
def yJ9_max_f86c9 : MethodName := ⟨RJ9, "max", "(JJ)J"⟩
abbrev cJ9_min_7cf53 : ByteArray := prog_10_method_69_code
def yJ9_min_7cf53 : MethodName := ⟨RJ9, "min", "(II)I"⟩
abbrev cJ9_min_f86c9 : ByteArray := prog_10_method_70_code
def yJ9_min_f86c9 : MethodName := ⟨RJ9, "min", "(JJ)J"⟩
def RL : String := "SmallFloatsLaw"
abbrev cL_law : ByteArray := code
def yL_law : MethodName := ⟨RL, "law", "([I)Z"⟩
abbrev vwCl : List vw_C := [(RX0, TX0, 1), (RX1, TX1, 7), (RX2, TX2, 3), (RX3, TX3, 3), (RX4, TX4, 11), (RX5, TX5, 26)]
/-- the words that keep: every method asks for all of them -/
def xmTs : List Cond := lw_tbl.filter goodWord
theorem xmTs_tbl : ∀ w ∈ xmTs, w ∈ lw_tbl := fun w h => (List.mem_filter.mp h).1
theorem xmTs_good : ∀ w ∈ xmTs, goodWord w = true := fun w h => (List.mem_filter.mp h).2
end
section
theorem xw_sel_X4_refused : Cond.selects yX4_refused.cls yX4_refused yX4_refused ∈ xmTs := List.mem_filter.mpr ⟨List.mem_of_getElem? (i := 0) (by decide +kernel), by decide +kernel⟩
theorem xw_sel_X4_formatAt : Cond.selects yX4_formatAt.cls yX4_formatAt yX4_formatAt ∈ xmTs := List.mem_filter.mpr ⟨List.mem_of_getElem? (i := 1) (by decide +kernel), by decide +kernel⟩
theorem xw_sel_X4_answered : Cond.selects yX4_answered.cls yX4_answered yX4_answered ∈ xmTs := List.mem_filter.mpr ⟨List.mem_of_getElem? (i := 2) (by decide +kernel), by decide +kernel⟩
theorem xw_sel_X0_rounded : Cond.selects yX0_rounded.cls yX0_rounded yX0_rounded ∈ xmTs := List.mem_filter.mpr ⟨List.mem_of_getElem? (i := 3) (by decide +kernel), by decide +kernel⟩
theorem xw_sel_X4_settled : Cond.selects yX4_settled.cls yX4_settled yX4_settled ∈ xmTs := List.mem_filter.mpr ⟨List.mem_of_getElem? (i := 4) (by decide +kernel), by decide +kernel⟩
theorem xw_sel_X0_invalid : Cond.selects yX0_invalid.cls yX0_invalid yX0_invalid ∈ xmTs := List.mem_filter.mpr ⟨List.mem_of_getElem? (i := 5) (by decide +kernel), by decide +kernel⟩
theorem xw_sel_X0_added : Cond.selects yX0_added.cls yX0_added yX0_added ∈ xmTs := List.mem_filter.mpr ⟨List.mem_of_getElem? (i := 6) (by decide +kernel), by decide +kernel⟩
theorem xw_sel_X0_endlessOfSum : Cond.selects yX0_endlessOfSum.cls yX0_endlessOfSum yX0_endlessOfSum ∈ xmTs := List.mem_filter.mpr ⟨List.mem_of_getElem? (i := 7) (by decide +kernel), by decide +kernel⟩
theorem xw_sel_X0_multiplied : Cond.selects yX0_multiplied.cls yX0_multiplied yX0_multiplied ∈ xmTs := List.mem_filter.mpr ⟨List.mem_of_getElem? (i := 8) (by decide +kernel), by decide +kernel⟩
theorem xw_sel_X0_divided : Cond.selects yX0_divided.cls yX0_divided yX0_divided ∈ xmTs := List.mem_filter.mpr ⟨List.mem_of_getElem? (i := 9) (by decide +kernel), by decide +kernel⟩
theorem xw_sel_X0_rootOf : Cond.selects yX0_rootOf.cls yX0_rootOf yX0_rootOf ∈ xmTs := List.mem_filter.mpr ⟨List.mem_of_getElem? (i := 10) (by decide +kernel), by decide +kernel⟩
theorem xw_sel_X1_magnitudesUpTo : Cond.selects yX1_magnitudesUpTo.cls yX1_magnitudesUpTo yX1_magnitudesUpTo ∈ xmTs := List.mem_filter.mpr ⟨List.mem_of_getElem? (i := 11) (by decide +kernel), by decide +kernel⟩
theorem xw_sel_X4_rowAt : Cond.selects yX4_rowAt.cls yX4_rowAt yX4_rowAt ∈ xmTs := List.mem_filter.mpr ⟨List.mem_of_getElem? (i := 12) (by decide +kernel), by decide +kernel⟩
theorem xw_sel_X5_refused : Cond.selects yX5_refused.cls yX5_refused yX5_refused ∈ xmTs := List.mem_filter.mpr ⟨List.mem_of_getElem? (i := 13) (by decide +kernel), by decide +kernel⟩
theorem xw_sel_X5_fine : Cond.selects yX5_fine.cls yX5_fine yX5_fine ∈ xmTs := List.mem_filter.mpr ⟨List.mem_of_getElem? (i := 14) (by decide +kernel), by decide +kernel⟩
theorem xw_sel_X5_isFormat : Cond.selects yX5_isFormat.cls yX5_isFormat yX5_isFormat ∈ xmTs := List.mem_filter.mpr ⟨List.mem_of_getElem? (i := 15) (by decide +kernel), by decide +kernel⟩
theorem xw_sel_X5_bits : Cond.selects yX5_bits.cls yX5_bits yX5_bits ∈ xmTs := List.mem_filter.mpr ⟨List.mem_of_getElem? (i := 16) (by decide +kernel), by decide +kernel⟩
theorem xw_sel_X5_great : Cond.selects yX5_great.cls yX5_great yX5_great ∈ xmTs := List.mem_filter.mpr ⟨List.mem_of_getElem? (i := 17) (by decide +kernel), by decide +kernel⟩
theorem xw_sel_X5_allOnes : Cond.selects yX5_allOnes.cls yX5_allOnes yX5_allOnes ∈ xmTs := List.mem_filter.mpr ⟨List.mem_of_getElem? (i := 18) (by decide +kernel), by decide +kernel⟩
theorem xw_sel_X5_signBit : Cond.selects yX5_signBit.cls yX5_signBit yX5_signBit ∈ xmTs := List.mem_filter.mpr ⟨List.mem_of_getElem? (i := 19) (by decide +kernel), by decide +kernel⟩
theorem xw_sel_X5_last : Cond.selects yX5_last.cls yX5_last yX5_last ∈ xmTs := List.mem_filter.mpr ⟨List.mem_of_getElem? (i := 20) (by decide +kernel), by decide +kernel⟩
theorem xw_sel_X5_noneOf : Cond.selects yX5_noneOf.cls yX5_noneOf yX5_noneOf ∈ xmTs := List.mem_filter.mpr ⟨List.mem_of_getElem? (i := 21) (by decide +kernel), by decide +kernel⟩
theorem xw_sel_X5_endless : Cond.selects yX5_endless.cls yX5_endless yX5_endless ∈ xmTs := List.mem_filter.mpr ⟨List.mem_of_getElem? (i := 22) (by decide +kernel), by decide +kernel⟩
theorem xw_sel_X5_isNumber : Cond.selects yX5_isNumber.cls yX5_isNumber yX5_isNumber ∈ xmTs := List.mem_filter.mpr ⟨List.mem_of_getElem? (i := 23) (by decide +kernel), by decide +kernel⟩
theorem xw_sel_X5_kindOf : Cond.selects yX5_kindOf.cls yX5_kindOf yX5_kindOf ∈ xmTs := List.mem_filter.mpr ⟨List.mem_of_getElem? (i := 24) (by decide +kernel), by decide +kernel⟩
theorem xw_sel_X5_plain : Cond.selects yX5_plain.cls yX5_plain yX5_plain ∈ xmTs := List.mem_filter.mpr ⟨List.mem_of_getElem? (i := 25) (by decide +kernel), by decide +kernel⟩
theorem xw_sel_X5_scale : Cond.selects yX5_scale.cls yX5_scale yX5_scale ∈ xmTs := List.mem_filter.mpr ⟨List.mem_of_getElem? (i := 26) (by decide +kernel), by decide +kernel⟩
theorem xw_sel_X5_isCode : Cond.selects yX5_isCode.cls yX5_isCode yX5_isCode ∈ xmTs := List.mem_filter.mpr ⟨List.mem_of_getElem? (i := 27) (by decide +kernel), by decide +kernel⟩
theorem xw_sel_X5_isMinus : Cond.selects yX5_isMinus.cls yX5_isMinus yX5_isMinus ∈ xmTs := List.mem_filter.mpr ⟨List.mem_of_getElem? (i := 28) (by decide +kernel), by decide +kernel⟩
theorem xw_sel_X5_unitsOf : Cond.selects yX5_unitsOf.cls yX5_unitsOf yX5_unitsOf ∈ xmTs := List.mem_filter.mpr ⟨List.mem_of_getElem? (i := 29) (by decide +kernel), by decide +kernel⟩
theorem xw_sel_X5_size : Cond.selects yX5_size.cls yX5_size yX5_size ∈ xmTs := List.mem_filter.mpr ⟨List.mem_of_getElem? (i := 30) (by decide +kernel), by decide +kernel⟩
theorem xw_sel_X5_begins : Cond.selects yX5_begins.cls yX5_begins yX5_begins ∈ xmTs := List.mem_filter.mpr ⟨List.mem_of_getElem? (i := 31) (by decide +kernel), by decide +kernel⟩
theorem xw_sel_X5_roundedFraction : Cond.selects yX5_roundedFraction.cls yX5_roundedFraction yX5_roundedFraction ∈ xmTs := List.mem_filter.mpr ⟨List.mem_of_getElem? (i := 32) (by decide +kernel), by decide +kernel⟩
theorem xw_sel_X5_signed : Cond.selects yX5_signed.cls yX5_signed yX5_signed ∈ xmTs := List.mem_filter.mpr ⟨List.mem_of_getElem? (i := 33) (by decide +kernel), by decide +kernel⟩
theorem xw_sel_X5_rounded : Cond.selects yX5_rounded.cls yX5_rounded yX5_rounded ∈ xmTs := List.mem_filter.mpr ⟨List.mem_of_getElem? (i := 34) (by decide +kernel), by decide +kernel⟩
theorem xw_sel_X5_twiceBeside : Cond.selects yX5_twiceBeside.cls yX5_twiceBeside yX5_twiceBeside ∈ xmTs := List.mem_filter.mpr ⟨List.mem_of_getElem? (i := 35) (by decide +kernel), by decide +kernel⟩
theorem xw_sel_X5_roundedAbove : Cond.selects yX5_roundedAbove.cls yX5_roundedAbove yX5_roundedAbove ∈ xmTs := List.mem_filter.mpr ⟨List.mem_of_getElem? (i := 36) (by decide +kernel), by decide +kernel⟩
theorem xw_sel_X5_beyond : Cond.selects yX5_beyond.cls yX5_beyond yX5_beyond ∈ xmTs := List.mem_filter.mpr ⟨List.mem_of_getElem? (i := 37) (by decide +kernel), by decide +kernel⟩
theorem xw_sel_X5_ends : Cond.selects yX5_ends.cls yX5_ends yX5_ends ∈ xmTs := List.mem_filter.mpr ⟨List.mem_of_getElem? (i := 38) (by decide +kernel), by decide +kernel⟩
theorem xw_sel_X5_crossed : Cond.selects yX5_crossed.cls yX5_crossed yX5_crossed ∈ xmTs := List.mem_filter.mpr ⟨List.mem_of_getElem? (i := 39) (by decide +kernel), by decide +kernel⟩
theorem xw_sel_X5_invalidIn : Cond.selects yX5_invalidIn.cls yX5_invalidIn yX5_invalidIn ∈ xmTs := List.mem_filter.mpr ⟨List.mem_of_getElem? (i := 40) (by decide +kernel), by decide +kernel⟩
theorem xw_sel_X5_acted : Cond.selects yX5_acted.cls yX5_acted yX5_acted ∈ xmTs := List.mem_filter.mpr ⟨List.mem_of_getElem? (i := 41) (by decide +kernel), by decide +kernel⟩
theorem xw_sel_X5_summed : Cond.selects yX5_summed.cls yX5_summed yX5_summed ∈ xmTs := List.mem_filter.mpr ⟨List.mem_of_getElem? (i := 42) (by decide +kernel), by decide +kernel⟩
theorem xw_sel_X5_isEndless : Cond.selects yX5_isEndless.cls yX5_isEndless yX5_isEndless ∈ xmTs := List.mem_filter.mpr ⟨List.mem_of_getElem? (i := 43) (by decide +kernel), by decide +kernel⟩
theorem xw_sel_X5_endlessSum : Cond.selects yX5_endlessSum.cls yX5_endlessSum yX5_endlessSum ∈ xmTs := List.mem_filter.mpr ⟨List.mem_of_getElem? (i := 44) (by decide +kernel), by decide +kernel⟩
theorem xw_sel_X5_endlessOr : Cond.selects yX5_endlessOr.cls yX5_endlessOr yX5_endlessOr ∈ xmTs := List.mem_filter.mpr ⟨List.mem_of_getElem? (i := 45) (by decide +kernel), by decide +kernel⟩
theorem xw_sel_X5_multiplied : Cond.selects yX5_multiplied.cls yX5_multiplied yX5_multiplied ∈ xmTs := List.mem_filter.mpr ⟨List.mem_of_getElem? (i := 46) (by decide +kernel), by decide +kernel⟩
theorem xw_sel_X5_divided : Cond.selects yX5_divided.cls yX5_divided yX5_divided ∈ xmTs := List.mem_filter.mpr ⟨List.mem_of_getElem? (i := 47) (by decide +kernel), by decide +kernel⟩
theorem xw_sel_X5_rooted : Cond.selects yX5_rooted.cls yX5_rooted yX5_rooted ∈ xmTs := List.mem_filter.mpr ⟨List.mem_of_getElem? (i := 48) (by decide +kernel), by decide +kernel⟩
theorem xw_sel_X5_lesser : Cond.selects yX5_lesser.cls yX5_lesser yX5_lesser ∈ xmTs := List.mem_filter.mpr ⟨List.mem_of_getElem? (i := 49) (by decide +kernel), by decide +kernel⟩
theorem xw_sel_X5_beside : Cond.selects yX5_beside.cls yX5_beside yX5_beside ∈ xmTs := List.mem_filter.mpr ⟨List.mem_of_getElem? (i := 50) (by decide +kernel), by decide +kernel⟩
theorem xw_sel_X5_comesProduct : Cond.selects yX5_comesProduct.cls yX5_comesProduct yX5_comesProduct ∈ xmTs := List.mem_filter.mpr ⟨List.mem_of_getElem? (i := 51) (by decide +kernel), by decide +kernel⟩
theorem xw_sel_X5_comesNone : Cond.selects yX5_comesNone.cls yX5_comesNone yX5_comesNone ∈ xmTs := List.mem_filter.mpr ⟨List.mem_of_getElem? (i := 52) (by decide +kernel), by decide +kernel⟩
theorem xw_sel_X5_comesEndless : Cond.selects yX5_comesEndless.cls yX5_comesEndless yX5_comesEndless ∈ xmTs := List.mem_filter.mpr ⟨List.mem_of_getElem? (i := 53) (by decide +kernel), by decide +kernel⟩
theorem xw_sel_X5_comes : Cond.selects yX5_comes.cls yX5_comes yX5_comes ∈ xmTs := List.mem_filter.mpr ⟨List.mem_of_getElem? (i := 54) (by decide +kernel), by decide +kernel⟩
theorem xw_sel_X5_whatCame : Cond.selects yX5_whatCame.cls yX5_whatCame yX5_whatCame ∈ xmTs := List.mem_filter.mpr ⟨List.mem_of_getElem? (i := 55) (by decide +kernel), by decide +kernel⟩
theorem xw_sel_X5_isRow : Cond.selects yX5_isRow.cls yX5_isRow yX5_isRow ∈ xmTs := List.mem_filter.mpr ⟨List.mem_of_getElem? (i := 56) (by decide +kernel), by decide +kernel⟩
theorem xw_ini_L : Cond.initialized RL ∈ xmTs := List.mem_filter.mpr ⟨List.mem_of_getElem? (i := 57) (by decide +kernel), by decide +kernel⟩
theorem xw_ini_X4 : Cond.initialized RX4 ∈ xmTs := List.mem_filter.mpr ⟨List.mem_of_getElem? (i := 58) (by decide +kernel), by decide +kernel⟩
theorem xw_ini_X0 : Cond.initialized RX0 ∈ xmTs := List.mem_filter.mpr ⟨List.mem_of_getElem? (i := 59) (by decide +kernel), by decide +kernel⟩
theorem xw_ini_X3 : Cond.initialized RX3 ∈ xmTs := List.mem_filter.mpr ⟨List.mem_of_getElem? (i := 60) (by decide +kernel), by decide +kernel⟩
theorem xw_ini_X2 : Cond.initialized RX2 ∈ xmTs := List.mem_filter.mpr ⟨List.mem_of_getElem? (i := 61) (by decide +kernel), by decide +kernel⟩
theorem xw_ini_X5 : Cond.initialized RX5 ∈ xmTs := List.mem_filter.mpr ⟨List.mem_of_getElem? (i := 62) (by decide +kernel), by decide +kernel⟩
theorem xw_ini_X1 : Cond.initialized RX1 ∈ xmTs := List.mem_filter.mpr ⟨List.mem_of_getElem? (i := 63) (by decide +kernel), by decide +kernel⟩
theorem xw_ini_J9 : Cond.initialized RJ9 ∈ xmTs := List.mem_filter.mpr ⟨List.mem_of_getElem? (i := 64) (by decide +kernel), by decide +kernel⟩
theorem xw_ini_J13 : Cond.initialized RJ13 ∈ xmTs := List.mem_filter.mpr ⟨List.mem_of_getElem? (i := 65) (by decide +kernel), by decide +kernel⟩
theorem xw_ini_J6 : Cond.initialized RJ6 ∈ xmTs := List.mem_filter.mpr ⟨List.mem_of_getElem? (i := 66) (by decide +kernel), by decide +kernel⟩
theorem xw_cl_L_7 : Cond.classLink RL 7 RX4 ∈ xmTs := List.mem_filter.mpr ⟨List.mem_of_getElem? (i := 67) (by decide +kernel), by decide +kernel⟩
theorem xw_inst_X4 : Cond.instantiable RX4 11 ∈ xmTs := List.mem_filter.mpr ⟨List.mem_of_getElem? (i := 68) (by decide +kernel), by decide +kernel⟩
theorem xw_ml_L_9 : Cond.methodLink RL 9 yX4_init ∈ xmTs := List.mem_filter.mpr ⟨List.mem_of_getElem? (i := 69) (by decide +kernel), by decide +kernel⟩
theorem xw_ins_X4_init : Cond.instanceMethod yX4_init ∈ xmTs := List.mem_filter.mpr ⟨List.mem_of_getElem? (i := 70) (by decide +kernel), by decide +kernel⟩
theorem xw_cod_X4_init : Cond.code yX4_init cX4_init 2 none ∈ xmTs := List.mem_filter.mpr ⟨List.mem_of_getElem? (i := 71) (by decide +kernel), by decide +kernel⟩
theorem xw_ml_X4_3 : Cond.methodLink RX4 3 objectInit ∈ xmTs := List.mem_filter.mpr ⟨List.mem_of_getElem? (i := 72) (by decide +kernel), by decide +kernel⟩
theorem xw_ins_obj : Cond.instanceMethod objectInit ∈ xmTs := List.mem_filter.mpr ⟨List.mem_of_getElem? (i := 73) (by decide +kernel), by decide +kernel⟩
theorem xw_cod_obj : Cond.code objectInit ⟨#[0xb1]⟩ 1 none ∈ xmTs := List.mem_filter.mpr ⟨List.mem_of_getElem? (i := 74) (by decide +kernel), by decide +kernel⟩
theorem xw_cl_X4_11 : Cond.classLink RX4 11 RX1 ∈ xmTs := List.mem_filter.mpr ⟨List.mem_of_getElem? (i := 75) (by decide +kernel), by decide +kernel⟩
theorem xw_cl_X4_21 : Cond.classLink RX4 21 RX2 ∈ xmTs := List.mem_filter.mpr ⟨List.mem_of_getElem? (i := 77) (by decide +kernel), by decide +kernel⟩
theorem xw_cl_X4_31 : Cond.classLink RX4 31 RX0 ∈ xmTs := List.mem_filter.mpr ⟨List.mem_of_getElem? (i := 79) (by decide +kernel), by decide +kernel⟩
theorem xw_inst_X0 : Cond.instantiable RX0 1 ∈ xmTs := List.mem_filter.mpr ⟨List.mem_of_getElem? (i := 80) (by decide +kernel), by decide +kernel⟩
theorem xw_ins_X0_init : Cond.instanceMethod yX0_init ∈ xmTs := List.mem_filter.mpr ⟨List.mem_of_getElem? (i := 82) (by decide +kernel), by decide +kernel⟩
theorem xw_cod_X0_init : Cond.code yX0_init cX0_init 1 none ∈ xmTs := List.mem_filter.mpr ⟨List.mem_of_getElem? (i := 83) (by decide +kernel), by decide +kernel⟩
theorem xw_ml_X0_3 : Cond.methodLink RX0 3 objectInit ∈ xmTs := List.mem_filter.mpr ⟨List.mem_of_getElem? (i := 84) (by decide +kernel), by decide +kernel⟩
theorem xw_cl_X0_9 : Cond.classLink RX0 9 RX3 ∈ xmTs := List.mem_filter.mpr ⟨List.mem_of_getElem? (i := 85) (by decide +kernel), by decide +kernel⟩
theorem xw_inst_X3 : Cond.instantiable RX3 3 ∈ xmTs := List.mem_filter.mpr ⟨List.mem_of_getElem? (i := 86) (by decide +kernel), by decide +kernel⟩
theorem xw_ins_X3_init : Cond.instanceMethod yX3_init ∈ xmTs := List.mem_filter.mpr ⟨List.mem_of_getElem? (i := 88) (by decide +kernel), by decide +kernel⟩
theorem xw_cod_X3_init : Cond.code yX3_init cX3_init 1 none ∈ xmTs := List.mem_filter.mpr ⟨List.mem_of_getElem? (i := 89) (by decide +kernel), by decide +kernel⟩
theorem xw_ml_X3_1 : Cond.methodLink RX3 1 objectInit ∈ xmTs := List.mem_filter.mpr ⟨List.mem_of_getElem? (i := 90) (by decide +kernel), by decide +kernel⟩
theorem xw_fl_X3_7 : Cond.fieldLink RX3 7 (TX3 0).1 (TX3 0).2.1 (TX3 0).2.2.1 ∈ xmTs := List.mem_filter.mpr ⟨List.mem_of_getElem? (i := 91) (by decide +kernel), by decide +kernel⟩
theorem xw_fl_X0_31 : Cond.fieldLink RX0 31 (TX3 0).1 (TX3 0).2.1 (TX3 0).2.2.1 ∈ xmTs := List.mem_filter.mpr ⟨List.mem_of_getElem? (i := 92) (by decide +kernel), by decide +kernel⟩
theorem xw_fl_X4_226 : Cond.fieldLink RX4 226 (TX3 0).1 (TX3 0).2.1 (TX3 0).2.2.1 ∈ xmTs := List.mem_filter.mpr ⟨List.mem_of_getElem? (i := 93) (by decide +kernel), by decide +kernel⟩
theorem xw_fl_X3_13 : Cond.fieldLink RX3 13 (TX3 1).1 (TX3 1).2.1 (TX3 1).2.2.1 ∈ xmTs := List.mem_filter.mpr ⟨List.mem_of_getElem? (i := 94) (by decide +kernel), by decide +kernel⟩
theorem xw_fl_X0_49 : Cond.fieldLink RX0 49 (TX3 1).1 (TX3 1).2.1 (TX3 1).2.2.1 ∈ xmTs := List.mem_filter.mpr ⟨List.mem_of_getElem? (i := 95) (by decide +kernel), by decide +kernel⟩
theorem xw_fl_X4_229 : Cond.fieldLink RX4 229 (TX3 1).1 (TX3 1).2.1 (TX3 1).2.2.1 ∈ xmTs := List.mem_filter.mpr ⟨List.mem_of_getElem? (i := 96) (by decide +kernel), by decide +kernel⟩
theorem xw_fl_X3_16 : Cond.fieldLink RX3 16 (TX3 2).1 (TX3 2).2.1 (TX3 2).2.2.1 ∈ xmTs := List.mem_filter.mpr ⟨List.mem_of_getElem? (i := 97) (by decide +kernel), by decide +kernel⟩
theorem xw_fl_X0_18 : Cond.fieldLink RX0 18 (TX3 2).1 (TX3 2).2.1 (TX3 2).2.2.1 ∈ xmTs := List.mem_filter.mpr ⟨List.mem_of_getElem? (i := 98) (by decide +kernel), by decide +kernel⟩
theorem xw_fl_X4_232 : Cond.fieldLink RX4 232 (TX3 2).1 (TX3 2).2.1 (TX3 2).2.2.1 ∈ xmTs := List.mem_filter.mpr ⟨List.mem_of_getElem? (i := 99) (by decide +kernel), by decide +kernel⟩
theorem xw_lay_X3_0 : u_lay RX3 TX3 0 ∈ xmTs := List.mem_filter.mpr ⟨List.mem_of_getElem? (i := 100) (by decide +kernel), by decide +kernel⟩
theorem xw_lay_X3_1 : u_lay RX3 TX3 1 ∈ xmTs := List.mem_filter.mpr ⟨List.mem_of_getElem? (i := 102) (by decide +kernel), by decide +kernel⟩
theorem xw_lay_X3_2 : u_lay RX3 TX3 2 ∈ xmTs := List.mem_filter.mpr ⟨List.mem_of_getElem? (i := 104) (by decide +kernel), by decide +kernel⟩
theorem xw_arr_int : Cond.arrayClass (newarray.typeOf .int) ∈ xmTs := List.mem_filter.mpr ⟨List.mem_of_getElem? (i := 107) (by decide +kernel), by decide +kernel⟩
theorem xw_fl_X0_12 : Cond.fieldLink RX0 12 (TX0 0).1 (TX0 0).2.1 (TX0 0).2.2.1 ∈ xmTs := List.mem_filter.mpr ⟨List.mem_of_getElem? (i := 108) (by decide +kernel), by decide +kernel⟩
theorem xw_fl_X4_135 : Cond.fieldLink RX4 135 (TX0 0).1 (TX0 0).2.1 (TX0 0).2.2.1 ∈ xmTs := List.mem_filter.mpr ⟨List.mem_of_getElem? (i := 109) (by decide +kernel), by decide +kernel⟩
theorem xw_lay_X0_0 : u_lay RX0 TX0 0 ∈ xmTs := List.mem_filter.mpr ⟨List.mem_of_getElem? (i := 110) (by decide +kernel), by decide +kernel⟩
theorem xw_cl_X4_38 : Cond.classLink RX4 38 RX3 ∈ xmTs := List.mem_filter.mpr ⟨List.mem_of_getElem? (i := 113) (by decide +kernel), by decide +kernel⟩
theorem xw_inst_X2 : Cond.instantiable RX2 3 ∈ xmTs := List.mem_filter.mpr ⟨List.mem_of_getElem? (i := 115) (by decide +kernel), by decide +kernel⟩
theorem xw_ins_X2_init : Cond.instanceMethod yX2_init ∈ xmTs := List.mem_filter.mpr ⟨List.mem_of_getElem? (i := 117) (by decide +kernel), by decide +kernel⟩
theorem xw_cod_X2_init : Cond.code yX2_init cX2_init 1 none ∈ xmTs := List.mem_filter.mpr ⟨List.mem_of_getElem? (i := 118) (by decide +kernel), by decide +kernel⟩
theorem xw_ml_X2_3 : Cond.methodLink RX2 3 objectInit ∈ xmTs := List.mem_filter.mpr ⟨List.mem_of_getElem? (i := 119) (by decide +kernel), by decide +kernel⟩
theorem xw_fl_X2_9 : Cond.fieldLink RX2 9 (TX2 0).1 (TX2 0).2.1 (TX2 0).2.2.1 ∈ xmTs := List.mem_filter.mpr ⟨List.mem_of_getElem? (i := 120) (by decide +kernel), by decide +kernel⟩
theorem xw_fl_X4_190 : Cond.fieldLink RX4 190 (TX2 0).1 (TX2 0).2.1 (TX2 0).2.2.1 ∈ xmTs := List.mem_filter.mpr ⟨List.mem_of_getElem? (i := 121) (by decide +kernel), by decide +kernel⟩
theorem xw_fl_X0_147 : Cond.fieldLink RX0 147 (TX2 0).1 (TX2 0).2.1 (TX2 0).2.2.1 ∈ xmTs := List.mem_filter.mpr ⟨List.mem_of_getElem? (i := 122) (by decide +kernel), by decide +kernel⟩
theorem xw_fl_X2_15 : Cond.fieldLink RX2 15 (TX2 1).1 (TX2 1).2.1 (TX2 1).2.2.1 ∈ xmTs := List.mem_filter.mpr ⟨List.mem_of_getElem? (i := 123) (by decide +kernel), by decide +kernel⟩
theorem xw_fl_X4_206 : Cond.fieldLink RX4 206 (TX2 1).1 (TX2 1).2.1 (TX2 1).2.2.1 ∈ xmTs := List.mem_filter.mpr ⟨List.mem_of_getElem? (i := 124) (by decide +kernel), by decide +kernel⟩
theorem xw_fl_X0_165 : Cond.fieldLink RX0 165 (TX2 1).1 (TX2 1).2.1 (TX2 1).2.2.1 ∈ xmTs := List.mem_filter.mpr ⟨List.mem_of_getElem? (i := 125) (by decide +kernel), by decide +kernel⟩
theorem xw_fl_X2_19 : Cond.fieldLink RX2 19 (TX2 2).1 (TX2 2).2.1 (TX2 2).2.2.1 ∈ xmTs := List.mem_filter.mpr ⟨List.mem_of_getElem? (i := 126) (by decide +kernel), by decide +kernel⟩
theorem xw_lay_X2_0 : u_lay RX2 TX2 0 ∈ xmTs := List.mem_filter.mpr ⟨List.mem_of_getElem? (i := 127) (by decide +kernel), by decide +kernel⟩
theorem xw_lay_X2_1 : u_lay RX2 TX2 1 ∈ xmTs := List.mem_filter.mpr ⟨List.mem_of_getElem? (i := 129) (by decide +kernel), by decide +kernel⟩
theorem xw_lay_X2_2 : u_lay RX2 TX2 2 ∈ xmTs := List.mem_filter.mpr ⟨List.mem_of_getElem? (i := 131) (by decide +kernel), by decide +kernel⟩
theorem xw_fl_X4_13 : Cond.fieldLink RX4 13 (TX4 0).1 (TX4 0).2.1 (TX4 0).2.2.1 ∈ xmTs := List.mem_filter.mpr ⟨List.mem_of_getElem? (i := 134) (by decide +kernel), by decide +kernel⟩
theorem xw_fl_X4_17 : Cond.fieldLink RX4 17 (TX4 1).1 (TX4 1).2.1 (TX4 1).2.2.1 ∈ xmTs := List.mem_filter.mpr ⟨List.mem_of_getElem? (i := 135) (by decide +kernel), by decide +kernel⟩
theorem xw_fl_X4_23 : Cond.fieldLink RX4 23 (TX4 2).1 (TX4 2).2.1 (TX4 2).2.2.1 ∈ xmTs := List.mem_filter.mpr ⟨List.mem_of_getElem? (i := 136) (by decide +kernel), by decide +kernel⟩
theorem xw_fl_X4_27 : Cond.fieldLink RX4 27 (TX4 3).1 (TX4 3).2.1 (TX4 3).2.2.1 ∈ xmTs := List.mem_filter.mpr ⟨List.mem_of_getElem? (i := 137) (by decide +kernel), by decide +kernel⟩
theorem xw_fl_X4_34 : Cond.fieldLink RX4 34 (TX4 4).1 (TX4 4).2.1 (TX4 4).2.2.1 ∈ xmTs := List.mem_filter.mpr ⟨List.mem_of_getElem? (i := 138) (by decide +kernel), by decide +kernel⟩
theorem xw_fl_X4_41 : Cond.fieldLink RX4 41 (TX4 5).1 (TX4 5).2.1 (TX4 5).2.2.1 ∈ xmTs := List.mem_filter.mpr ⟨List.mem_of_getElem? (i := 139) (by decide +kernel), by decide +kernel⟩
theorem xw_fl_X4_45 : Cond.fieldLink RX4 45 (TX4 6).1 (TX4 6).2.1 (TX4 6).2.2.1 ∈ xmTs := List.mem_filter.mpr ⟨List.mem_of_getElem? (i := 140) (by decide +kernel), by decide +kernel⟩
theorem xw_fl_X4_48 : Cond.fieldLink RX4 48 (TX4 7).1 (TX4 7).2.1 (TX4 7).2.2.1 ∈ xmTs := List.mem_filter.mpr ⟨List.mem_of_getElem? (i := 141) (by decide +kernel), by decide +kernel⟩
theorem xw_fl_X4_52 : Cond.fieldLink RX4 52 (TX4 8).1 (TX4 8).2.1 (TX4 8).2.2.1 ∈ xmTs := List.mem_filter.mpr ⟨List.mem_of_getElem? (i := 142) (by decide +kernel), by decide +kernel⟩
theorem xw_fl_X4_55 : Cond.fieldLink RX4 55 (TX4 9).1 (TX4 9).2.1 (TX4 9).2.2.1 ∈ xmTs := List.mem_filter.mpr ⟨List.mem_of_getElem? (i := 143) (by decide +kernel), by decide +kernel⟩
theorem xw_fl_X4_58 : Cond.fieldLink RX4 58 (TX4 10).1 (TX4 10).2.1 (TX4 10).2.2.1 ∈ xmTs := List.mem_filter.mpr ⟨List.mem_of_getElem? (i := 144) (by decide +kernel), by decide +kernel⟩
theorem xw_lay_X4_0 : u_lay RX4 TX4 0 ∈ xmTs := List.mem_filter.mpr ⟨List.mem_of_getElem? (i := 145) (by decide +kernel), by decide +kernel⟩
theorem xw_lay_X4_1 : u_lay RX4 TX4 1 ∈ xmTs := List.mem_filter.mpr ⟨List.mem_of_getElem? (i := 147) (by decide +kernel), by decide +kernel⟩
theorem xw_lay_X4_2 : u_lay RX4 TX4 2 ∈ xmTs := List.mem_filter.mpr ⟨List.mem_of_getElem? (i := 149) (by decide +kernel), by decide +kernel⟩
theorem xw_lay_X4_3 : u_lay RX4 TX4 3 ∈ xmTs := List.mem_filter.mpr ⟨List.mem_of_getElem? (i := 151) (by decide +kernel), by decide +kernel⟩
theorem xw_lay_X4_4 : u_lay RX4 TX4 4 ∈ xmTs := List.mem_filter.mpr ⟨List.mem_of_getElem? (i := 153) (by decide +kernel), by decide +kernel⟩
theorem xw_lay_X4_5 : u_lay RX4 TX4 5 ∈ xmTs := List.mem_filter.mpr ⟨List.mem_of_getElem? (i := 155) (by decide +kernel), by decide +kernel⟩
theorem xw_lay_X4_6 : u_lay RX4 TX4 6 ∈ xmTs := List.mem_filter.mpr ⟨List.mem_of_getElem? (i := 157) (by decide +kernel), by decide +kernel⟩
theorem xw_lay_X4_7 : u_lay RX4 TX4 7 ∈ xmTs := List.mem_filter.mpr ⟨List.mem_of_getElem? (i := 159) (by decide +kernel), by decide +kernel⟩
theorem xw_lay_X4_8 : u_lay RX4 TX4 8 ∈ xmTs := List.mem_filter.mpr ⟨List.mem_of_getElem? (i := 161) (by decide +kernel), by decide +kernel⟩
theorem xw_lay_X4_9 : u_lay RX4 TX4 9 ∈ xmTs := List.mem_filter.mpr ⟨List.mem_of_getElem? (i := 163) (by decide +kernel), by decide +kernel⟩
theorem xw_lay_X4_10 : u_lay RX4 TX4 10 ∈ xmTs := List.mem_filter.mpr ⟨List.mem_of_getElem? (i := 165) (by decide +kernel), by decide +kernel⟩
theorem xw_ml_L_13 : Cond.methodLink RL 13 yX4_format ∈ xmTs := List.mem_filter.mpr ⟨List.mem_of_getElem? (i := 168) (by decide +kernel), by decide +kernel⟩
theorem xw_ins_X4_format : Cond.instanceMethod yX4_format ∈ xmTs := List.mem_filter.mpr ⟨List.mem_of_getElem? (i := 169) (by decide +kernel), by decide +kernel⟩
theorem xw_sel_X4_format : Cond.selects yX4_format.cls yX4_format yX4_format ∈ xmTs := List.mem_filter.mpr ⟨List.mem_of_getElem? (i := 170) (by decide +kernel), by decide +kernel⟩
theorem xw_cod_X4_format : Cond.code yX4_format cX4_format 10 (some (FieldType.int)) ∈ xmTs := List.mem_filter.mpr ⟨List.mem_of_getElem? (i := 171) (by decide +kernel), by decide +kernel⟩
theorem xw_ml_X4_62 : Cond.methodLink RX4 62 yX4_within ∈ xmTs := List.mem_filter.mpr ⟨List.mem_of_getElem? (i := 172) (by decide +kernel), by decide +kernel⟩
theorem xw_sta_X4_within : Cond.static yX4_within ∈ xmTs := List.mem_filter.mpr ⟨List.mem_of_getElem? (i := 173) (by decide +kernel), by decide +kernel⟩
theorem xw_cod_X4_within : Cond.code yX4_within cX4_within 3 (some (FieldType.boolean)) ∈ xmTs := List.mem_filter.mpr ⟨List.mem_of_getElem? (i := 174) (by decide +kernel), by decide +kernel⟩
theorem xw_ml_X4_66 : Cond.methodLink RX4 66 yX4_refused ∈ xmTs := List.mem_filter.mpr ⟨List.mem_of_getElem? (i := 175) (by decide +kernel), by decide +kernel⟩
theorem xw_ins_X4_refused : Cond.instanceMethod yX4_refused ∈ xmTs := List.mem_filter.mpr ⟨List.mem_of_getElem? (i := 177) (by decide +kernel), by decide +kernel⟩
theorem xw_cod_X4_refused : Cond.code yX4_refused cX4_refused 2 (some (FieldType.int)) ∈ xmTs := List.mem_filter.mpr ⟨List.mem_of_getElem? (i := 178) (by decide +kernel), by decide +kernel⟩
theorem xw_inst_X1 : Cond.instantiable RX1 7 ∈ xmTs := List.mem_filter.mpr ⟨List.mem_of_getElem? (i := 179) (by decide +kernel), by decide +kernel⟩
theorem xw_ml_X4_70 : Cond.methodLink RX4 70 yX1_init ∈ xmTs := List.mem_filter.mpr ⟨List.mem_of_getElem? (i := 180) (by decide +kernel), by decide +kernel⟩
theorem xw_ins_X1_init : Cond.instanceMethod yX1_init ∈ xmTs := List.mem_filter.mpr ⟨List.mem_of_getElem? (i := 181) (by decide +kernel), by decide +kernel⟩
theorem xw_cod_X1_init : Cond.code yX1_init cX1_init 8 none ∈ xmTs := List.mem_filter.mpr ⟨List.mem_of_getElem? (i := 182) (by decide +kernel), by decide +kernel⟩
theorem xw_ml_X1_3 : Cond.methodLink RX1 3 objectInit ∈ xmTs := List.mem_filter.mpr ⟨List.mem_of_getElem? (i := 183) (by decide +kernel), by decide +kernel⟩
theorem xw_fl_X1_9 : Cond.fieldLink RX1 9 (TX1 0).1 (TX1 0).2.1 (TX1 0).2.2.1 ∈ xmTs := List.mem_filter.mpr ⟨List.mem_of_getElem? (i := 184) (by decide +kernel), by decide +kernel⟩
theorem xw_fl_X0_28 : Cond.fieldLink RX0 28 (TX1 0).1 (TX1 0).2.1 (TX1 0).2.2.1 ∈ xmTs := List.mem_filter.mpr ⟨List.mem_of_getElem? (i := 185) (by decide +kernel), by decide +kernel⟩
theorem xw_fl_X4_101 : Cond.fieldLink RX4 101 (TX1 0).1 (TX1 0).2.1 (TX1 0).2.2.1 ∈ xmTs := List.mem_filter.mpr ⟨List.mem_of_getElem? (i := 186) (by decide +kernel), by decide +kernel⟩
theorem xw_fl_X1_15 : Cond.fieldLink RX1 15 (TX1 1).1 (TX1 1).2.1 (TX1 1).2.2.1 ∈ xmTs := List.mem_filter.mpr ⟨List.mem_of_getElem? (i := 187) (by decide +kernel), by decide +kernel⟩
theorem xw_fl_X1_18 : Cond.fieldLink RX1 18 (TX1 2).1 (TX1 2).2.1 (TX1 2).2.2.1 ∈ xmTs := List.mem_filter.mpr ⟨List.mem_of_getElem? (i := 188) (by decide +kernel), by decide +kernel⟩
theorem xw_fl_X1_21 : Cond.fieldLink RX1 21 (TX1 3).1 (TX1 3).2.1 (TX1 3).2.2.1 ∈ xmTs := List.mem_filter.mpr ⟨List.mem_of_getElem? (i := 189) (by decide +kernel), by decide +kernel⟩
theorem xw_fl_X1_24 : Cond.fieldLink RX1 24 (TX1 4).1 (TX1 4).2.1 (TX1 4).2.2.1 ∈ xmTs := List.mem_filter.mpr ⟨List.mem_of_getElem? (i := 190) (by decide +kernel), by decide +kernel⟩
theorem xw_fl_X1_28 : Cond.fieldLink RX1 28 (TX1 5).1 (TX1 5).2.1 (TX1 5).2.2.1 ∈ xmTs := List.mem_filter.mpr ⟨List.mem_of_getElem? (i := 191) (by decide +kernel), by decide +kernel⟩
theorem xw_fl_X4_94 : Cond.fieldLink RX4 94 (TX1 5).1 (TX1 5).2.1 (TX1 5).2.2.1 ∈ xmTs := List.mem_filter.mpr ⟨List.mem_of_getElem? (i := 192) (by decide +kernel), by decide +kernel⟩
theorem xw_fl_X1_31 : Cond.fieldLink RX1 31 (TX1 6).1 (TX1 6).2.1 (TX1 6).2.2.1 ∈ xmTs := List.mem_filter.mpr ⟨List.mem_of_getElem? (i := 193) (by decide +kernel), by decide +kernel⟩
theorem xw_fl_X0_46 : Cond.fieldLink RX0 46 (TX1 6).1 (TX1 6).2.1 (TX1 6).2.2.1 ∈ xmTs := List.mem_filter.mpr ⟨List.mem_of_getElem? (i := 194) (by decide +kernel), by decide +kernel⟩
theorem xw_fl_X4_88 : Cond.fieldLink RX4 88 (TX1 6).1 (TX1 6).2.1 (TX1 6).2.2.1 ∈ xmTs := List.mem_filter.mpr ⟨List.mem_of_getElem? (i := 195) (by decide +kernel), by decide +kernel⟩
theorem xw_lay_X1_0 : u_lay RX1 TX1 0 ∈ xmTs := List.mem_filter.mpr ⟨List.mem_of_getElem? (i := 196) (by decide +kernel), by decide +kernel⟩
theorem xw_lay_X1_1 : u_lay RX1 TX1 1 ∈ xmTs := List.mem_filter.mpr ⟨List.mem_of_getElem? (i := 198) (by decide +kernel), by decide +kernel⟩
theorem xw_lay_X1_2 : u_lay RX1 TX1 2 ∈ xmTs := List.mem_filter.mpr ⟨List.mem_of_getElem? (i := 200) (by decide +kernel), by decide +kernel⟩
theorem xw_lay_X1_3 : u_lay RX1 TX1 3 ∈ xmTs := List.mem_filter.mpr ⟨List.mem_of_getElem? (i := 202) (by decide +kernel), by decide +kernel⟩
theorem xw_lay_X1_4 : u_lay RX1 TX1 4 ∈ xmTs := List.mem_filter.mpr ⟨List.mem_of_getElem? (i := 204) (by decide +kernel), by decide +kernel⟩
theorem xw_lay_X1_5 : u_lay RX1 TX1 5 ∈ xmTs := List.mem_filter.mpr ⟨List.mem_of_getElem? (i := 206) (by decide +kernel), by decide +kernel⟩
theorem xw_lay_X1_6 : u_lay RX1 TX1 6 ∈ xmTs := List.mem_filter.mpr ⟨List.mem_of_getElem? (i := 208) (by decide +kernel), by decide +kernel⟩
theorem xw_ml_X4_73 : Cond.methodLink RX4 73 yX4_formatAt ∈ xmTs := List.mem_filter.mpr ⟨List.mem_of_getElem? (i := 211) (by decide +kernel), by decide +kernel⟩
theorem xw_ins_X4_formatAt : Cond.instanceMethod yX4_formatAt ∈ xmTs := List.mem_filter.mpr ⟨List.mem_of_getElem? (i := 213) (by decide +kernel), by decide +kernel⟩
theorem xw_cod_X4_formatAt : Cond.code yX4_formatAt cX4_formatAt 2 (some (FieldType.object "SmallFloats$Format")) ∈ xmTs := List.mem_filter.mpr ⟨List.mem_of_getElem? (i := 214) (by decide +kernel), by decide +kernel⟩
theorem xw_ml_X4_77 : Cond.methodLink RX4 77 yX1_isAlike ∈ xmTs := List.mem_filter.mpr ⟨List.mem_of_getElem? (i := 215) (by decide +kernel), by decide +kernel⟩
theorem xw_ins_X1_isAlike : Cond.instanceMethod yX1_isAlike ∈ xmTs := List.mem_filter.mpr ⟨List.mem_of_getElem? (i := 216) (by decide +kernel), by decide +kernel⟩
theorem xw_sel_X1_isAlike : Cond.selects yX1_isAlike.cls yX1_isAlike yX1_isAlike ∈ xmTs := List.mem_filter.mpr ⟨List.mem_of_getElem? (i := 217) (by decide +kernel), by decide +kernel⟩
theorem xw_cod_X1_isAlike : Cond.code yX1_isAlike cX1_isAlike 2 (some (FieldType.boolean)) ∈ xmTs := List.mem_filter.mpr ⟨List.mem_of_getElem? (i := 218) (by decide +kernel), by decide +kernel⟩
theorem xw_ml_X4_81 : Cond.methodLink RX4 81 yX4_answered ∈ xmTs := List.mem_filter.mpr ⟨List.mem_of_getElem? (i := 219) (by decide +kernel), by decide +kernel⟩
theorem xw_ins_X4_answered : Cond.instanceMethod yX4_answered ∈ xmTs := List.mem_filter.mpr ⟨List.mem_of_getElem? (i := 221) (by decide +kernel), by decide +kernel⟩
theorem xw_cod_X4_answered : Cond.code yX4_answered cX4_answered 2 (some (FieldType.int)) ∈ xmTs := List.mem_filter.mpr ⟨List.mem_of_getElem? (i := 222) (by decide +kernel), by decide +kernel⟩
theorem xw_ml_L_18 : Cond.methodLink RL 18 yX4_about ∈ xmTs := List.mem_filter.mpr ⟨List.mem_of_getElem? (i := 223) (by decide +kernel), by decide +kernel⟩
theorem xw_ins_X4_about : Cond.instanceMethod yX4_about ∈ xmTs := List.mem_filter.mpr ⟨List.mem_of_getElem? (i := 224) (by decide +kernel), by decide +kernel⟩
theorem xw_sel_X4_about : Cond.selects yX4_about.cls yX4_about yX4_about ∈ xmTs := List.mem_filter.mpr ⟨List.mem_of_getElem? (i := 225) (by decide +kernel), by decide +kernel⟩
theorem xw_cod_X4_about : Cond.code yX4_about cX4_about 4 (some (FieldType.int)) ∈ xmTs := List.mem_filter.mpr ⟨List.mem_of_getElem? (i := 226) (by decide +kernel), by decide +kernel⟩
theorem xw_ml_X4_84 : Cond.methodLink RX4 84 yX1_bits ∈ xmTs := List.mem_filter.mpr ⟨List.mem_of_getElem? (i := 227) (by decide +kernel), by decide +kernel⟩
theorem xw_ins_X1_bits : Cond.instanceMethod yX1_bits ∈ xmTs := List.mem_filter.mpr ⟨List.mem_of_getElem? (i := 228) (by decide +kernel), by decide +kernel⟩
theorem xw_sel_X1_bits : Cond.selects yX1_bits.cls yX1_bits yX1_bits ∈ xmTs := List.mem_filter.mpr ⟨List.mem_of_getElem? (i := 229) (by decide +kernel), by decide +kernel⟩
theorem xw_cod_X1_bits : Cond.code yX1_bits cX1_bits 1 (some (FieldType.int)) ∈ xmTs := List.mem_filter.mpr ⟨List.mem_of_getElem? (i := 230) (by decide +kernel), by decide +kernel⟩
theorem xw_ml_X4_91 : Cond.methodLink RX4 91 yX1_noneCode ∈ xmTs := List.mem_filter.mpr ⟨List.mem_of_getElem? (i := 231) (by decide +kernel), by decide +kernel⟩
theorem xw_ins_X1_noneCode : Cond.instanceMethod yX1_noneCode ∈ xmTs := List.mem_filter.mpr ⟨List.mem_of_getElem? (i := 232) (by decide +kernel), by decide +kernel⟩
theorem xw_sel_X1_noneCode : Cond.selects yX1_noneCode.cls yX1_noneCode yX1_noneCode ∈ xmTs := List.mem_filter.mpr ⟨List.mem_of_getElem? (i := 233) (by decide +kernel), by decide +kernel⟩
theorem xw_cod_X1_noneCode : Cond.code yX1_noneCode cX1_noneCode 2 (some (FieldType.int)) ∈ xmTs := List.mem_filter.mpr ⟨List.mem_of_getElem? (i := 234) (by decide +kernel), by decide +kernel⟩
theorem xw_ml_X4_97 : Cond.methodLink RX4 97 yX1_beyond ∈ xmTs := List.mem_filter.mpr ⟨List.mem_of_getElem? (i := 235) (by decide +kernel), by decide +kernel⟩
theorem xw_ins_X1_beyond : Cond.instanceMethod yX1_beyond ∈ xmTs := List.mem_filter.mpr ⟨List.mem_of_getElem? (i := 236) (by decide +kernel), by decide +kernel⟩
theorem xw_sel_X1_beyond : Cond.selects yX1_beyond.cls yX1_beyond yX1_beyond ∈ xmTs := List.mem_filter.mpr ⟨List.mem_of_getElem? (i := 237) (by decide +kernel), by decide +kernel⟩
theorem xw_cod_X1_beyond : Cond.code yX1_beyond cX1_beyond 2 (some (FieldType.int)) ∈ xmTs := List.mem_filter.mpr ⟨List.mem_of_getElem? (i := 238) (by decide +kernel), by decide +kernel⟩
theorem xw_ml_X1_40 : Cond.methodLink RX1 40 yX1_noneCode ∈ xmTs := List.mem_filter.mpr ⟨List.mem_of_getElem? (i := 239) (by decide +kernel), by decide +kernel⟩
theorem xw_ml_X1_44 : Cond.methodLink RX1 44 yX1_withSign ∈ xmTs := List.mem_filter.mpr ⟨List.mem_of_getElem? (i := 240) (by decide +kernel), by decide +kernel⟩
theorem xw_ins_X1_withSign : Cond.instanceMethod yX1_withSign ∈ xmTs := List.mem_filter.mpr ⟨List.mem_of_getElem? (i := 241) (by decide +kernel), by decide +kernel⟩
theorem xw_sel_X1_withSign : Cond.selects yX1_withSign.cls yX1_withSign yX1_withSign ∈ xmTs := List.mem_filter.mpr ⟨List.mem_of_getElem? (i := 242) (by decide +kernel), by decide +kernel⟩
theorem xw_cod_X1_withSign : Cond.code yX1_withSign cX1_withSign 3 (some (FieldType.int)) ∈ xmTs := List.mem_filter.mpr ⟨List.mem_of_getElem? (i := 243) (by decide +kernel), by decide +kernel⟩
theorem xw_ml_X4_104 : Cond.methodLink RX4 104 yX1_scale ∈ xmTs := List.mem_filter.mpr ⟨List.mem_of_getElem? (i := 244) (by decide +kernel), by decide +kernel⟩
theorem xw_ins_X1_scale : Cond.instanceMethod yX1_scale ∈ xmTs := List.mem_filter.mpr ⟨List.mem_of_getElem? (i := 245) (by decide +kernel), by decide +kernel⟩
theorem xw_sel_X1_scale : Cond.selects yX1_scale.cls yX1_scale yX1_scale ∈ xmTs := List.mem_filter.mpr ⟨List.mem_of_getElem? (i := 246) (by decide +kernel), by decide +kernel⟩
theorem xw_cod_X1_scale : Cond.code yX1_scale cX1_scale 1 (some (FieldType.int)) ∈ xmTs := List.mem_filter.mpr ⟨List.mem_of_getElem? (i := 247) (by decide +kernel), by decide +kernel⟩
theorem xw_ml_L_23 : Cond.methodLink RL 23 yX4_kind ∈ xmTs := List.mem_filter.mpr ⟨List.mem_of_getElem? (i := 248) (by decide +kernel), by decide +kernel⟩
theorem xw_ins_X4_kind : Cond.instanceMethod yX4_kind ∈ xmTs := List.mem_filter.mpr ⟨List.mem_of_getElem? (i := 249) (by decide +kernel), by decide +kernel⟩
theorem xw_sel_X4_kind : Cond.selects yX4_kind.cls yX4_kind yX4_kind ∈ xmTs := List.mem_filter.mpr ⟨List.mem_of_getElem? (i := 250) (by decide +kernel), by decide +kernel⟩
theorem xw_cod_X4_kind : Cond.code yX4_kind cX4_kind 5 (some (FieldType.int)) ∈ xmTs := List.mem_filter.mpr ⟨List.mem_of_getElem? (i := 251) (by decide +kernel), by decide +kernel⟩
theorem xw_ml_X4_107 : Cond.methodLink RX4 107 yX1_hasCode ∈ xmTs := List.mem_filter.mpr ⟨List.mem_of_getElem? (i := 252) (by decide +kernel), by decide +kernel⟩
theorem xw_ins_X1_hasCode : Cond.instanceMethod yX1_hasCode ∈ xmTs := List.mem_filter.mpr ⟨List.mem_of_getElem? (i := 253) (by decide +kernel), by decide +kernel⟩
theorem xw_sel_X1_hasCode : Cond.selects yX1_hasCode.cls yX1_hasCode yX1_hasCode ∈ xmTs := List.mem_filter.mpr ⟨List.mem_of_getElem? (i := 254) (by decide +kernel), by decide +kernel⟩
theorem xw_cod_X1_hasCode : Cond.code yX1_hasCode cX1_hasCode 2 (some (FieldType.boolean)) ∈ xmTs := List.mem_filter.mpr ⟨List.mem_of_getElem? (i := 255) (by decide +kernel), by decide +kernel⟩
theorem xw_ml_X1_48 : Cond.methodLink RX1 48 yX1_bits ∈ xmTs := List.mem_filter.mpr ⟨List.mem_of_getElem? (i := 256) (by decide +kernel), by decide +kernel⟩
theorem xw_ml_X4_111 : Cond.methodLink RX4 111 yX1_isMinus ∈ xmTs := List.mem_filter.mpr ⟨List.mem_of_getElem? (i := 257) (by decide +kernel), by decide +kernel⟩
theorem xw_ins_X1_isMinus : Cond.instanceMethod yX1_isMinus ∈ xmTs := List.mem_filter.mpr ⟨List.mem_of_getElem? (i := 258) (by decide +kernel), by decide +kernel⟩
theorem xw_sel_X1_isMinus : Cond.selects yX1_isMinus.cls yX1_isMinus yX1_isMinus ∈ xmTs := List.mem_filter.mpr ⟨List.mem_of_getElem? (i := 259) (by decide +kernel), by decide +kernel⟩
theorem xw_cod_X1_isMinus : Cond.code yX1_isMinus cX1_isMinus 2 (some (FieldType.boolean)) ∈ xmTs := List.mem_filter.mpr ⟨List.mem_of_getElem? (i := 260) (by decide +kernel), by decide +kernel⟩
theorem xw_ml_X4_114 : Cond.methodLink RX4 114 yX1_kindOf ∈ xmTs := List.mem_filter.mpr ⟨List.mem_of_getElem? (i := 261) (by decide +kernel), by decide +kernel⟩
theorem xw_ins_X1_kindOf : Cond.instanceMethod yX1_kindOf ∈ xmTs := List.mem_filter.mpr ⟨List.mem_of_getElem? (i := 262) (by decide +kernel), by decide +kernel⟩
theorem xw_sel_X1_kindOf : Cond.selects yX1_kindOf.cls yX1_kindOf yX1_kindOf ∈ xmTs := List.mem_filter.mpr ⟨List.mem_of_getElem? (i := 263) (by decide +kernel), by decide +kernel⟩
theorem xw_cod_X1_kindOf : Cond.code yX1_kindOf cX1_kindOf 3 (some (FieldType.int)) ∈ xmTs := List.mem_filter.mpr ⟨List.mem_of_getElem? (i := 264) (by decide +kernel), by decide +kernel⟩
theorem xw_ml_X1_51 : Cond.methodLink RX1 51 yX1_magnitude ∈ xmTs := List.mem_filter.mpr ⟨List.mem_of_getElem? (i := 265) (by decide +kernel), by decide +kernel⟩
theorem xw_ins_X1_magnitude : Cond.instanceMethod yX1_magnitude ∈ xmTs := List.mem_filter.mpr ⟨List.mem_of_getElem? (i := 266) (by decide +kernel), by decide +kernel⟩
theorem xw_sel_X1_magnitude : Cond.selects yX1_magnitude.cls yX1_magnitude yX1_magnitude ∈ xmTs := List.mem_filter.mpr ⟨List.mem_of_getElem? (i := 267) (by decide +kernel), by decide +kernel⟩
theorem xw_cod_X1_magnitude : Cond.code yX1_magnitude cX1_magnitude 2 (some (FieldType.int)) ∈ xmTs := List.mem_filter.mpr ⟨List.mem_of_getElem? (i := 268) (by decide +kernel), by decide +kernel⟩
theorem xw_ml_X1_62 : Cond.methodLink RX1 62 yX1_isNone ∈ xmTs := List.mem_filter.mpr ⟨List.mem_of_getElem? (i := 269) (by decide +kernel), by decide +kernel⟩
theorem xw_ins_X1_isNone : Cond.instanceMethod yX1_isNone ∈ xmTs := List.mem_filter.mpr ⟨List.mem_of_getElem? (i := 270) (by decide +kernel), by decide +kernel⟩
theorem xw_sel_X1_isNone : Cond.selects yX1_isNone.cls yX1_isNone yX1_isNone ∈ xmTs := List.mem_filter.mpr ⟨List.mem_of_getElem? (i := 271) (by decide +kernel), by decide +kernel⟩
theorem xw_cod_X1_isNone : Cond.code yX1_isNone cX1_isNone 2 (some (FieldType.boolean)) ∈ xmTs := List.mem_filter.mpr ⟨List.mem_of_getElem? (i := 272) (by decide +kernel), by decide +kernel⟩
theorem xw_ml_X1_55 : Cond.methodLink RX1 55 yX1_isNumber ∈ xmTs := List.mem_filter.mpr ⟨List.mem_of_getElem? (i := 273) (by decide +kernel), by decide +kernel⟩
theorem xw_ins_X1_isNumber : Cond.instanceMethod yX1_isNumber ∈ xmTs := List.mem_filter.mpr ⟨List.mem_of_getElem? (i := 274) (by decide +kernel), by decide +kernel⟩
theorem xw_sel_X1_isNumber : Cond.selects yX1_isNumber.cls yX1_isNumber yX1_isNumber ∈ xmTs := List.mem_filter.mpr ⟨List.mem_of_getElem? (i := 275) (by decide +kernel), by decide +kernel⟩
theorem xw_cod_X1_isNumber : Cond.code yX1_isNumber cX1_isNumber 2 (some (FieldType.boolean)) ∈ xmTs := List.mem_filter.mpr ⟨List.mem_of_getElem? (i := 276) (by decide +kernel), by decide +kernel⟩
theorem xw_ml_X1_59 : Cond.methodLink RX1 59 yX1_isEndless ∈ xmTs := List.mem_filter.mpr ⟨List.mem_of_getElem? (i := 277) (by decide +kernel), by decide +kernel⟩
theorem xw_ins_X1_isEndless : Cond.instanceMethod yX1_isEndless ∈ xmTs := List.mem_filter.mpr ⟨List.mem_of_getElem? (i := 278) (by decide +kernel), by decide +kernel⟩
theorem xw_sel_X1_isEndless : Cond.selects yX1_isEndless.cls yX1_isEndless yX1_isEndless ∈ xmTs := List.mem_filter.mpr ⟨List.mem_of_getElem? (i := 279) (by decide +kernel), by decide +kernel⟩
theorem xw_cod_X1_isEndless : Cond.code yX1_isEndless cX1_isEndless 2 (some (FieldType.boolean)) ∈ xmTs := List.mem_filter.mpr ⟨List.mem_of_getElem? (i := 280) (by decide +kernel), by decide +kernel⟩
theorem xw_ml_L_28 : Cond.methodLink RL 28 yX4_units ∈ xmTs := List.mem_filter.mpr ⟨List.mem_of_getElem? (i := 281) (by decide +kernel), by decide +kernel⟩
theorem xw_ins_X4_units : Cond.instanceMethod yX4_units ∈ xmTs := List.mem_filter.mpr ⟨List.mem_of_getElem? (i := 282) (by decide +kernel), by decide +kernel⟩
theorem xw_sel_X4_units : Cond.selects yX4_units.cls yX4_units yX4_units ∈ xmTs := List.mem_filter.mpr ⟨List.mem_of_getElem? (i := 283) (by decide +kernel), by decide +kernel⟩
theorem xw_cod_X4_units : Cond.code yX4_units cX4_units 4 (some (FieldType.long)) ∈ xmTs := List.mem_filter.mpr ⟨List.mem_of_getElem? (i := 284) (by decide +kernel), by decide +kernel⟩
theorem xw_cst_X4_117 : Cond.constantLong RX4 117 (-9223372036854775808) ∈ xmTs := List.mem_filter.mpr ⟨List.mem_of_getElem? (i := 285) (by decide +kernel), by decide +kernel⟩
theorem xw_ml_X4_119 : Cond.methodLink RX4 119 yX1_isNumber ∈ xmTs := List.mem_filter.mpr ⟨List.mem_of_getElem? (i := 286) (by decide +kernel), by decide +kernel⟩
theorem xw_ml_X4_122 : Cond.methodLink RX4 122 yX1_unitsOf ∈ xmTs := List.mem_filter.mpr ⟨List.mem_of_getElem? (i := 287) (by decide +kernel), by decide +kernel⟩
theorem xw_ins_X1_unitsOf : Cond.instanceMethod yX1_unitsOf ∈ xmTs := List.mem_filter.mpr ⟨List.mem_of_getElem? (i := 288) (by decide +kernel), by decide +kernel⟩
theorem xw_sel_X1_unitsOf : Cond.selects yX1_unitsOf.cls yX1_unitsOf yX1_unitsOf ∈ xmTs := List.mem_filter.mpr ⟨List.mem_of_getElem? (i := 289) (by decide +kernel), by decide +kernel⟩
theorem xw_cod_X1_unitsOf : Cond.code yX1_unitsOf cX1_unitsOf 4 (some (FieldType.long)) ∈ xmTs := List.mem_filter.mpr ⟨List.mem_of_getElem? (i := 290) (by decide +kernel), by decide +kernel⟩
theorem xw_ml_X1_34 : Cond.methodLink RX1 34 yX1_unitsOfMagnitude ∈ xmTs := List.mem_filter.mpr ⟨List.mem_of_getElem? (i := 291) (by decide +kernel), by decide +kernel⟩
theorem xw_ins_X1_unitsOfMagnitude : Cond.instanceMethod yX1_unitsOfMagnitude ∈ xmTs := List.mem_filter.mpr ⟨List.mem_of_getElem? (i := 292) (by decide +kernel), by decide +kernel⟩
theorem xw_sel_X1_unitsOfMagnitude : Cond.selects yX1_unitsOfMagnitude.cls yX1_unitsOfMagnitude yX1_unitsOfMagnitude ∈ xmTs := List.mem_filter.mpr ⟨List.mem_of_getElem? (i := 293) (by decide +kernel), by decide +kernel⟩
theorem xw_cod_X1_unitsOfMagnitude : Cond.code yX1_unitsOfMagnitude cX1_unitsOfMagnitude 5 (some (FieldType.long)) ∈ xmTs := List.mem_filter.mpr ⟨List.mem_of_getElem? (i := 294) (by decide +kernel), by decide +kernel⟩
theorem xw_cst_X1_65 : Cond.constantLong RX1 65 (2) ∈ xmTs := List.mem_filter.mpr ⟨List.mem_of_getElem? (i := 295) (by decide +kernel), by decide +kernel⟩
theorem xw_ml_X1_67 : Cond.methodLink RX1 67 yX1_isMinus ∈ xmTs := List.mem_filter.mpr ⟨List.mem_of_getElem? (i := 296) (by decide +kernel), by decide +kernel⟩
theorem xw_ml_L_35 : Cond.methodLink RL 35 yX4_code ∈ xmTs := List.mem_filter.mpr ⟨List.mem_of_getElem? (i := 297) (by decide +kernel), by decide +kernel⟩
theorem xw_ins_X4_code : Cond.instanceMethod yX4_code ∈ xmTs := List.mem_filter.mpr ⟨List.mem_of_getElem? (i := 298) (by decide +kernel), by decide +kernel⟩
theorem xw_sel_X4_code : Cond.selects yX4_code.cls yX4_code yX4_code ∈ xmTs := List.mem_filter.mpr ⟨List.mem_of_getElem? (i := 299) (by decide +kernel), by decide +kernel⟩
theorem xw_cod_X4_code : Cond.code yX4_code cX4_code 8 (some (FieldType.int)) ∈ xmTs := List.mem_filter.mpr ⟨List.mem_of_getElem? (i := 300) (by decide +kernel), by decide +kernel⟩
theorem xw_cst_X4_126 : Cond.constantLong RX4 126 (-1099511627776) ∈ xmTs := List.mem_filter.mpr ⟨List.mem_of_getElem? (i := 301) (by decide +kernel), by decide +kernel⟩
theorem xw_cst_X4_128 : Cond.constantLong RX4 128 (1099511627776) ∈ xmTs := List.mem_filter.mpr ⟨List.mem_of_getElem? (i := 302) (by decide +kernel), by decide +kernel⟩
theorem xw_cst_X4_130 : Cond.constantLong RX4 130 (1048576) ∈ xmTs := List.mem_filter.mpr ⟨List.mem_of_getElem? (i := 303) (by decide +kernel), by decide +kernel⟩
theorem xw_ml_X4_132 : Cond.methodLink RX4 132 yX4_isMode ∈ xmTs := List.mem_filter.mpr ⟨List.mem_of_getElem? (i := 304) (by decide +kernel), by decide +kernel⟩
theorem xw_sta_X4_isMode : Cond.static yX4_isMode ∈ xmTs := List.mem_filter.mpr ⟨List.mem_of_getElem? (i := 305) (by decide +kernel), by decide +kernel⟩
theorem xw_cod_X4_isMode : Cond.code yX4_isMode cX4_isMode 1 (some (FieldType.boolean)) ∈ xmTs := List.mem_filter.mpr ⟨List.mem_of_getElem? (i := 306) (by decide +kernel), by decide +kernel⟩
theorem xw_ml_X4_138 : Cond.methodLink RX4 138 yX3_clear ∈ xmTs := List.mem_filter.mpr ⟨List.mem_of_getElem? (i := 307) (by decide +kernel), by decide +kernel⟩
theorem xw_ins_X3_clear : Cond.instanceMethod yX3_clear ∈ xmTs := List.mem_filter.mpr ⟨List.mem_of_getElem? (i := 308) (by decide +kernel), by decide +kernel⟩
theorem xw_sel_X3_clear : Cond.selects yX3_clear.cls yX3_clear yX3_clear ∈ xmTs := List.mem_filter.mpr ⟨List.mem_of_getElem? (i := 309) (by decide +kernel), by decide +kernel⟩
theorem xw_cod_X3_clear : Cond.code yX3_clear cX3_clear 1 none ∈ xmTs := List.mem_filter.mpr ⟨List.mem_of_getElem? (i := 310) (by decide +kernel), by decide +kernel⟩
theorem xw_ml_X4_141 : Cond.methodLink RX4 141 yX0_fraction ∈ xmTs := List.mem_filter.mpr ⟨List.mem_of_getElem? (i := 311) (by decide +kernel), by decide +kernel⟩
theorem xw_ins_X0_fraction : Cond.instanceMethod yX0_fraction ∈ xmTs := List.mem_filter.mpr ⟨List.mem_of_getElem? (i := 312) (by decide +kernel), by decide +kernel⟩
theorem xw_sel_X0_fraction : Cond.selects yX0_fraction.cls yX0_fraction yX0_fraction ∈ xmTs := List.mem_filter.mpr ⟨List.mem_of_getElem? (i := 313) (by decide +kernel), by decide +kernel⟩
theorem xw_cod_X0_fraction : Cond.code yX0_fraction cX0_fraction 7 (some (FieldType.int)) ∈ xmTs := List.mem_filter.mpr ⟨List.mem_of_getElem? (i := 314) (by decide +kernel), by decide +kernel⟩
theorem xw_ml_X0_71 : Cond.methodLink RX0 71 Lib.MathLoose.abs_long.x ∈ xmTs := List.mem_filter.mpr ⟨List.mem_of_getElem? (i := 315) (by decide +kernel), by decide +kernel⟩
theorem xw_sta_J9_abs_l : Cond.static Lib.MathLoose.abs_long.x ∈ xmTs := List.mem_filter.mpr ⟨List.mem_of_getElem? (i := 316) (by decide +kernel), by decide +kernel⟩
theorem xw_cod_J9_abs_l : Cond.code Lib.MathLoose.abs_long.x Lib.MathLoose.abs_long.code 2 (some (FieldType.long)) ∈ xmTs := List.mem_filter.mpr ⟨List.mem_of_getElem? (i := 317) (by decide +kernel), by decide +kernel⟩
theorem xw_ml_X0_77 : Cond.methodLink RX0 77 yX1_scale ∈ xmTs := List.mem_filter.mpr ⟨List.mem_of_getElem? (i := 318) (by decide +kernel), by decide +kernel⟩
theorem xw_ml_X0_80 : Cond.methodLink RX0 80 yX0_rounded ∈ xmTs := List.mem_filter.mpr ⟨List.mem_of_getElem? (i := 319) (by decide +kernel), by decide +kernel⟩
theorem xw_ins_X0_rounded : Cond.instanceMethod yX0_rounded ∈ xmTs := List.mem_filter.mpr ⟨List.mem_of_getElem? (i := 321) (by decide +kernel), by decide +kernel⟩
theorem xw_cod_X0_rounded : Cond.code yX0_rounded cX0_rounded 12 (some (FieldType.int)) ∈ xmTs := List.mem_filter.mpr ⟨List.mem_of_getElem? (i := 322) (by decide +kernel), by decide +kernel⟩
theorem xw_ml_X0_34 : Cond.methodLink RX0 34 yX0_greatestUpTo ∈ xmTs := List.mem_filter.mpr ⟨List.mem_of_getElem? (i := 323) (by decide +kernel), by decide +kernel⟩
theorem xw_sta_X0_greatestUpTo : Cond.static yX0_greatestUpTo ∈ xmTs := List.mem_filter.mpr ⟨List.mem_of_getElem? (i := 324) (by decide +kernel), by decide +kernel⟩
theorem xw_cod_X0_greatestUpTo : Cond.code yX0_greatestUpTo cX0_greatestUpTo 7 (some (FieldType.int)) ∈ xmTs := List.mem_filter.mpr ⟨List.mem_of_getElem? (i := 325) (by decide +kernel), by decide +kernel⟩
theorem xw_ml_X0_38 : Cond.methodLink RX0 38 yX1_unitsOfMagnitude ∈ xmTs := List.mem_filter.mpr ⟨List.mem_of_getElem? (i := 326) (by decide +kernel), by decide +kernel⟩
theorem xw_ml_X0_42 : Cond.methodLink RX0 42 yX1_withSign ∈ xmTs := List.mem_filter.mpr ⟨List.mem_of_getElem? (i := 327) (by decide +kernel), by decide +kernel⟩
theorem xw_cst_X0_52 : Cond.constantLong RX0 52 (2) ∈ xmTs := List.mem_filter.mpr ⟨List.mem_of_getElem? (i := 328) (by decide +kernel), by decide +kernel⟩
theorem xw_ml_X0_54 : Cond.methodLink RX0 54 yX1_twiceMiddleAbove ∈ xmTs := List.mem_filter.mpr ⟨List.mem_of_getElem? (i := 329) (by decide +kernel), by decide +kernel⟩
theorem xw_ins_X1_twiceMiddleAbove : Cond.instanceMethod yX1_twiceMiddleAbove ∈ xmTs := List.mem_filter.mpr ⟨List.mem_of_getElem? (i := 330) (by decide +kernel), by decide +kernel⟩
theorem xw_sel_X1_twiceMiddleAbove : Cond.selects yX1_twiceMiddleAbove.cls yX1_twiceMiddleAbove yX1_twiceMiddleAbove ∈ xmTs := List.mem_filter.mpr ⟨List.mem_of_getElem? (i := 331) (by decide +kernel), by decide +kernel⟩
theorem xw_cod_X1_twiceMiddleAbove : Cond.code yX1_twiceMiddleAbove cX1_twiceMiddleAbove 4 (some (FieldType.long)) ∈ xmTs := List.mem_filter.mpr ⟨List.mem_of_getElem? (i := 332) (by decide +kernel), by decide +kernel⟩
theorem xw_cst_X1_38 : Cond.constantLong RX1 38 (3) ∈ xmTs := List.mem_filter.mpr ⟨List.mem_of_getElem? (i := 333) (by decide +kernel), by decide +kernel⟩
theorem xw_ml_X0_57 : Cond.methodLink RX0 57 yJ13_compare_74951 ∈ xmTs := List.mem_filter.mpr ⟨List.mem_of_getElem? (i := 334) (by decide +kernel), by decide +kernel⟩
theorem xw_sta_J13_compare_74951 : Cond.static yJ13_compare_74951 ∈ xmTs := List.mem_filter.mpr ⟨List.mem_of_getElem? (i := 335) (by decide +kernel), by decide +kernel⟩
theorem xw_cod_J13_compare_74951 : Cond.code yJ13_compare_74951 cJ13_compare_74951 4 (some (FieldType.int)) ∈ xmTs := List.mem_filter.mpr ⟨List.mem_of_getElem? (i := 336) (by decide +kernel), by decide +kernel⟩
theorem xw_ml_X0_63 : Cond.methodLink RX0 63 yX0_goesOut ∈ xmTs := List.mem_filter.mpr ⟨List.mem_of_getElem? (i := 337) (by decide +kernel), by decide +kernel⟩
theorem xw_sta_X0_goesOut : Cond.static yX0_goesOut ∈ xmTs := List.mem_filter.mpr ⟨List.mem_of_getElem? (i := 338) (by decide +kernel), by decide +kernel⟩
theorem xw_cod_X0_goesOut : Cond.code yX0_goesOut cX0_goesOut 5 (some (FieldType.boolean)) ∈ xmTs := List.mem_filter.mpr ⟨List.mem_of_getElem? (i := 339) (by decide +kernel), by decide +kernel⟩
theorem xw_ml_X0_67 : Cond.methodLink RX0 67 yX1_beyond ∈ xmTs := List.mem_filter.mpr ⟨List.mem_of_getElem? (i := 340) (by decide +kernel), by decide +kernel⟩
theorem xw_ml_X4_145 : Cond.methodLink RX4 145 yX4_settled ∈ xmTs := List.mem_filter.mpr ⟨List.mem_of_getElem? (i := 341) (by decide +kernel), by decide +kernel⟩
theorem xw_ins_X4_settled : Cond.instanceMethod yX4_settled ∈ xmTs := List.mem_filter.mpr ⟨List.mem_of_getElem? (i := 343) (by decide +kernel), by decide +kernel⟩
theorem xw_cod_X4_settled : Cond.code yX4_settled cX4_settled 2 (some (FieldType.int)) ∈ xmTs := List.mem_filter.mpr ⟨List.mem_of_getElem? (i := 344) (by decide +kernel), by decide +kernel⟩
theorem xw_ml_X4_235 : Cond.methodLink RX4 235 yX3_add ∈ xmTs := List.mem_filter.mpr ⟨List.mem_of_getElem? (i := 345) (by decide +kernel), by decide +kernel⟩
theorem xw_ins_X3_add : Cond.instanceMethod yX3_add ∈ xmTs := List.mem_filter.mpr ⟨List.mem_of_getElem? (i := 346) (by decide +kernel), by decide +kernel⟩
theorem xw_sel_X3_add : Cond.selects yX3_add.cls yX3_add yX3_add ∈ xmTs := List.mem_filter.mpr ⟨List.mem_of_getElem? (i := 347) (by decide +kernel), by decide +kernel⟩
theorem xw_cod_X3_add : Cond.code yX3_add cX3_add 2 none ∈ xmTs := List.mem_filter.mpr ⟨List.mem_of_getElem? (i := 348) (by decide +kernel), by decide +kernel⟩
theorem xw_ml_L_40 : Cond.methodLink RL 40 yX4_cross ∈ xmTs := List.mem_filter.mpr ⟨List.mem_of_getElem? (i := 349) (by decide +kernel), by decide +kernel⟩
theorem xw_ins_X4_cross : Cond.instanceMethod yX4_cross ∈ xmTs := List.mem_filter.mpr ⟨List.mem_of_getElem? (i := 350) (by decide +kernel), by decide +kernel⟩
theorem xw_sel_X4_cross : Cond.selects yX4_cross.cls yX4_cross yX4_cross ∈ xmTs := List.mem_filter.mpr ⟨List.mem_of_getElem? (i := 351) (by decide +kernel), by decide +kernel⟩
theorem xw_cod_X4_cross : Cond.code yX4_cross cX4_cross 7 (some (FieldType.int)) ∈ xmTs := List.mem_filter.mpr ⟨List.mem_of_getElem? (i := 352) (by decide +kernel), by decide +kernel⟩
theorem xw_ml_X4_148 : Cond.methodLink RX4 148 yX0_crossed ∈ xmTs := List.mem_filter.mpr ⟨List.mem_of_getElem? (i := 353) (by decide +kernel), by decide +kernel⟩
theorem xw_ins_X0_crossed : Cond.instanceMethod yX0_crossed ∈ xmTs := List.mem_filter.mpr ⟨List.mem_of_getElem? (i := 354) (by decide +kernel), by decide +kernel⟩
theorem xw_sel_X0_crossed : Cond.selects yX0_crossed.cls yX0_crossed yX0_crossed ∈ xmTs := List.mem_filter.mpr ⟨List.mem_of_getElem? (i := 355) (by decide +kernel), by decide +kernel⟩
theorem xw_cod_X0_crossed : Cond.code yX0_crossed cX0_crossed 10 (some (FieldType.int)) ∈ xmTs := List.mem_filter.mpr ⟨List.mem_of_getElem? (i := 356) (by decide +kernel), by decide +kernel⟩
theorem xw_ml_X0_84 : Cond.methodLink RX0 84 yX1_sizeOf ∈ xmTs := List.mem_filter.mpr ⟨List.mem_of_getElem? (i := 357) (by decide +kernel), by decide +kernel⟩
theorem xw_ins_X1_sizeOf : Cond.instanceMethod yX1_sizeOf ∈ xmTs := List.mem_filter.mpr ⟨List.mem_of_getElem? (i := 358) (by decide +kernel), by decide +kernel⟩
theorem xw_sel_X1_sizeOf : Cond.selects yX1_sizeOf.cls yX1_sizeOf yX1_sizeOf ∈ xmTs := List.mem_filter.mpr ⟨List.mem_of_getElem? (i := 359) (by decide +kernel), by decide +kernel⟩
theorem xw_cod_X1_sizeOf : Cond.code yX1_sizeOf cX1_sizeOf 3 (some (FieldType.long)) ∈ xmTs := List.mem_filter.mpr ⟨List.mem_of_getElem? (i := 360) (by decide +kernel), by decide +kernel⟩
theorem xw_cst_X1_70 : Cond.constantLong RX1 70 (-1) ∈ xmTs := List.mem_filter.mpr ⟨List.mem_of_getElem? (i := 361) (by decide +kernel), by decide +kernel⟩
theorem xw_cst_X1_72 : Cond.constantLong RX1 72 (-2) ∈ xmTs := List.mem_filter.mpr ⟨List.mem_of_getElem? (i := 362) (by decide +kernel), by decide +kernel⟩
theorem xw_ml_X0_87 : Cond.methodLink RX0 87 yX1_isMinus ∈ xmTs := List.mem_filter.mpr ⟨List.mem_of_getElem? (i := 363) (by decide +kernel), by decide +kernel⟩
theorem xw_cst_X0_91 : Cond.constantLong RX0 91 (-2) ∈ xmTs := List.mem_filter.mpr ⟨List.mem_of_getElem? (i := 364) (by decide +kernel), by decide +kernel⟩
theorem xw_ml_X0_22 : Cond.methodLink RX0 22 yX1_noneCode ∈ xmTs := List.mem_filter.mpr ⟨List.mem_of_getElem? (i := 365) (by decide +kernel), by decide +kernel⟩
theorem xw_ml_X0_93 : Cond.methodLink RX0 93 yX0_invalid ∈ xmTs := List.mem_filter.mpr ⟨List.mem_of_getElem? (i := 366) (by decide +kernel), by decide +kernel⟩
theorem xw_ins_X0_invalid : Cond.instanceMethod yX0_invalid ∈ xmTs := List.mem_filter.mpr ⟨List.mem_of_getElem? (i := 368) (by decide +kernel), by decide +kernel⟩
theorem xw_cod_X0_invalid : Cond.code yX0_invalid cX0_invalid 3 (some (FieldType.int)) ∈ xmTs := List.mem_filter.mpr ⟨List.mem_of_getElem? (i := 369) (by decide +kernel), by decide +kernel⟩
theorem xw_cst_X0_96 : Cond.constantLong RX0 96 (-1) ∈ xmTs := List.mem_filter.mpr ⟨List.mem_of_getElem? (i := 370) (by decide +kernel), by decide +kernel⟩
theorem xw_ml_X0_98 : Cond.methodLink RX0 98 Lib.Math.max.name ∈ xmTs := List.mem_filter.mpr ⟨List.mem_of_getElem? (i := 371) (by decide +kernel), by decide +kernel⟩
theorem xw_sta_J9_max_i : Cond.static Lib.Math.max.name ∈ xmTs := List.mem_filter.mpr ⟨List.mem_of_getElem? (i := 372) (by decide +kernel), by decide +kernel⟩
theorem xw_cod_J9_max_i : Cond.code Lib.Math.max.name Lib.Math.max.code 2 (some (FieldType.int)) ∈ xmTs := List.mem_filter.mpr ⟨List.mem_of_getElem? (i := 373) (by decide +kernel), by decide +kernel⟩
theorem xw_ml_L_45 : Cond.methodLink RL 45 yX4_act ∈ xmTs := List.mem_filter.mpr ⟨List.mem_of_getElem? (i := 374) (by decide +kernel), by decide +kernel⟩
theorem xw_ins_X4_act : Cond.instanceMethod yX4_act ∈ xmTs := List.mem_filter.mpr ⟨List.mem_of_getElem? (i := 375) (by decide +kernel), by decide +kernel⟩
theorem xw_sel_X4_act : Cond.selects yX4_act.cls yX4_act yX4_act ∈ xmTs := List.mem_filter.mpr ⟨List.mem_of_getElem? (i := 376) (by decide +kernel), by decide +kernel⟩
theorem xw_cod_X4_act : Cond.code yX4_act cX4_act 7 (some (FieldType.int)) ∈ xmTs := List.mem_filter.mpr ⟨List.mem_of_getElem? (i := 377) (by decide +kernel), by decide +kernel⟩
theorem xw_ml_X4_152 : Cond.methodLink RX4 152 yX0_acted ∈ xmTs := List.mem_filter.mpr ⟨List.mem_of_getElem? (i := 378) (by decide +kernel), by decide +kernel⟩
theorem xw_ins_X0_acted : Cond.instanceMethod yX0_acted ∈ xmTs := List.mem_filter.mpr ⟨List.mem_of_getElem? (i := 379) (by decide +kernel), by decide +kernel⟩
theorem xw_sel_X0_acted : Cond.selects yX0_acted.cls yX0_acted yX0_acted ∈ xmTs := List.mem_filter.mpr ⟨List.mem_of_getElem? (i := 380) (by decide +kernel), by decide +kernel⟩
theorem xw_cod_X0_acted : Cond.code yX0_acted cX0_acted 6 (some (FieldType.int)) ∈ xmTs := List.mem_filter.mpr ⟨List.mem_of_getElem? (i := 381) (by decide +kernel), by decide +kernel⟩
theorem xw_ml_X0_102 : Cond.methodLink RX0 102 yX1_isNone ∈ xmTs := List.mem_filter.mpr ⟨List.mem_of_getElem? (i := 382) (by decide +kernel), by decide +kernel⟩
theorem xw_ml_X0_105 : Cond.methodLink RX0 105 yX0_added ∈ xmTs := List.mem_filter.mpr ⟨List.mem_of_getElem? (i := 383) (by decide +kernel), by decide +kernel⟩
theorem xw_ins_X0_added : Cond.instanceMethod yX0_added ∈ xmTs := List.mem_filter.mpr ⟨List.mem_of_getElem? (i := 385) (by decide +kernel), by decide +kernel⟩
theorem xw_cod_X0_added : Cond.code yX0_added cX0_added 14 (some (FieldType.int)) ∈ xmTs := List.mem_filter.mpr ⟨List.mem_of_getElem? (i := 386) (by decide +kernel), by decide +kernel⟩
theorem xw_ml_X0_126 : Cond.methodLink RX0 126 yX0_endlessOfSum ∈ xmTs := List.mem_filter.mpr ⟨List.mem_of_getElem? (i := 387) (by decide +kernel), by decide +kernel⟩
theorem xw_ins_X0_endlessOfSum : Cond.instanceMethod yX0_endlessOfSum ∈ xmTs := List.mem_filter.mpr ⟨List.mem_of_getElem? (i := 389) (by decide +kernel), by decide +kernel⟩
theorem xw_cod_X0_endlessOfSum : Cond.code yX0_endlessOfSum cX0_endlessOfSum 10 (some (FieldType.int)) ∈ xmTs := List.mem_filter.mpr ⟨List.mem_of_getElem? (i := 390) (by decide +kernel), by decide +kernel⟩
theorem xw_ml_X0_130 : Cond.methodLink RX0 130 yX0_signed ∈ xmTs := List.mem_filter.mpr ⟨List.mem_of_getElem? (i := 391) (by decide +kernel), by decide +kernel⟩
theorem xw_sta_X0_signed : Cond.static yX0_signed ∈ xmTs := List.mem_filter.mpr ⟨List.mem_of_getElem? (i := 392) (by decide +kernel), by decide +kernel⟩
theorem xw_cod_X0_signed : Cond.code yX0_signed cX0_signed 3 (some (FieldType.long)) ∈ xmTs := List.mem_filter.mpr ⟨List.mem_of_getElem? (i := 393) (by decide +kernel), by decide +kernel⟩
theorem xw_ml_X0_109 : Cond.methodLink RX0 109 yX0_multiplied ∈ xmTs := List.mem_filter.mpr ⟨List.mem_of_getElem? (i := 394) (by decide +kernel), by decide +kernel⟩
theorem xw_ins_X0_multiplied : Cond.instanceMethod yX0_multiplied ∈ xmTs := List.mem_filter.mpr ⟨List.mem_of_getElem? (i := 396) (by decide +kernel), by decide +kernel⟩
theorem xw_cod_X0_multiplied : Cond.code yX0_multiplied cX0_multiplied 8 (some (FieldType.int)) ∈ xmTs := List.mem_filter.mpr ⟨List.mem_of_getElem? (i := 397) (by decide +kernel), by decide +kernel⟩
theorem xw_ml_X0_134 : Cond.methodLink RX0 134 yX1_sizeOfProduct ∈ xmTs := List.mem_filter.mpr ⟨List.mem_of_getElem? (i := 398) (by decide +kernel), by decide +kernel⟩
theorem xw_ins_X1_sizeOfProduct : Cond.instanceMethod yX1_sizeOfProduct ∈ xmTs := List.mem_filter.mpr ⟨List.mem_of_getElem? (i := 399) (by decide +kernel), by decide +kernel⟩
theorem xw_sel_X1_sizeOfProduct : Cond.selects yX1_sizeOfProduct.cls yX1_sizeOfProduct yX1_sizeOfProduct ∈ xmTs := List.mem_filter.mpr ⟨List.mem_of_getElem? (i := 400) (by decide +kernel), by decide +kernel⟩
theorem xw_cod_X1_sizeOfProduct : Cond.code yX1_sizeOfProduct cX1_sizeOfProduct 7 (some (FieldType.long)) ∈ xmTs := List.mem_filter.mpr ⟨List.mem_of_getElem? (i := 401) (by decide +kernel), by decide +kernel⟩
theorem xw_ml_X1_74 : Cond.methodLink RX1 74 yX1_sizeOf ∈ xmTs := List.mem_filter.mpr ⟨List.mem_of_getElem? (i := 402) (by decide +kernel), by decide +kernel⟩
theorem xw_cst_X1_77 : Cond.constantLong RX1 77 (-3) ∈ xmTs := List.mem_filter.mpr ⟨List.mem_of_getElem? (i := 403) (by decide +kernel), by decide +kernel⟩
theorem xw_cst_X0_138 : Cond.constantLong RX0 138 (-3) ∈ xmTs := List.mem_filter.mpr ⟨List.mem_of_getElem? (i := 404) (by decide +kernel), by decide +kernel⟩
theorem xw_ml_X0_113 : Cond.methodLink RX0 113 yX0_divided ∈ xmTs := List.mem_filter.mpr ⟨List.mem_of_getElem? (i := 405) (by decide +kernel), by decide +kernel⟩
theorem xw_ins_X0_divided : Cond.instanceMethod yX0_divided ∈ xmTs := List.mem_filter.mpr ⟨List.mem_of_getElem? (i := 407) (by decide +kernel), by decide +kernel⟩
theorem xw_cod_X0_divided : Cond.code yX0_divided cX0_divided 10 (some (FieldType.int)) ∈ xmTs := List.mem_filter.mpr ⟨List.mem_of_getElem? (i := 408) (by decide +kernel), by decide +kernel⟩
theorem xw_ml_X0_116 : Cond.methodLink RX0 116 yX0_rootOf ∈ xmTs := List.mem_filter.mpr ⟨List.mem_of_getElem? (i := 409) (by decide +kernel), by decide +kernel⟩
theorem xw_ins_X0_rootOf : Cond.instanceMethod yX0_rootOf ∈ xmTs := List.mem_filter.mpr ⟨List.mem_of_getElem? (i := 411) (by decide +kernel), by decide +kernel⟩
theorem xw_cod_X0_rootOf : Cond.code yX0_rootOf cX0_rootOf 12 (some (FieldType.int)) ∈ xmTs := List.mem_filter.mpr ⟨List.mem_of_getElem? (i := 412) (by decide +kernel), by decide +kernel⟩
theorem xw_cst_X0_140 : Cond.constantLong RX0 140 (4) ∈ xmTs := List.mem_filter.mpr ⟨List.mem_of_getElem? (i := 413) (by decide +kernel), by decide +kernel⟩
theorem xw_ml_X0_142 : Cond.methodLink RX0 142 yX0_wholeRoot ∈ xmTs := List.mem_filter.mpr ⟨List.mem_of_getElem? (i := 414) (by decide +kernel), by decide +kernel⟩
theorem xw_sta_X0_wholeRoot : Cond.static yX0_wholeRoot ∈ xmTs := List.mem_filter.mpr ⟨List.mem_of_getElem? (i := 415) (by decide +kernel), by decide +kernel⟩
theorem xw_cod_X0_wholeRoot : Cond.code yX0_wholeRoot cX0_wholeRoot 6 (some (FieldType.long)) ∈ xmTs := List.mem_filter.mpr ⟨List.mem_of_getElem? (i := 416) (by decide +kernel), by decide +kernel⟩
theorem xw_cst_X0_145 : Cond.constantLong RX0 145 (2097152) ∈ xmTs := List.mem_filter.mpr ⟨List.mem_of_getElem? (i := 417) (by decide +kernel), by decide +kernel⟩
theorem xw_ml_X0_120 : Cond.methodLink RX0 120 yX1_lesser ∈ xmTs := List.mem_filter.mpr ⟨List.mem_of_getElem? (i := 418) (by decide +kernel), by decide +kernel⟩
theorem xw_ins_X1_lesser : Cond.instanceMethod yX1_lesser ∈ xmTs := List.mem_filter.mpr ⟨List.mem_of_getElem? (i := 419) (by decide +kernel), by decide +kernel⟩
theorem xw_sel_X1_lesser : Cond.selects yX1_lesser.cls yX1_lesser yX1_lesser ∈ xmTs := List.mem_filter.mpr ⟨List.mem_of_getElem? (i := 420) (by decide +kernel), by decide +kernel⟩
theorem xw_cod_X1_lesser : Cond.code yX1_lesser cX1_lesser 3 (some (FieldType.int)) ∈ xmTs := List.mem_filter.mpr ⟨List.mem_of_getElem? (i := 421) (by decide +kernel), by decide +kernel⟩
theorem xw_ml_X1_79 : Cond.methodLink RX1 79 yX1_rank ∈ xmTs := List.mem_filter.mpr ⟨List.mem_of_getElem? (i := 422) (by decide +kernel), by decide +kernel⟩
theorem xw_ins_X1_rank : Cond.instanceMethod yX1_rank ∈ xmTs := List.mem_filter.mpr ⟨List.mem_of_getElem? (i := 423) (by decide +kernel), by decide +kernel⟩
theorem xw_sel_X1_rank : Cond.selects yX1_rank.cls yX1_rank yX1_rank ∈ xmTs := List.mem_filter.mpr ⟨List.mem_of_getElem? (i := 424) (by decide +kernel), by decide +kernel⟩
theorem xw_cod_X1_rank : Cond.code yX1_rank cX1_rank 2 (some (FieldType.int)) ∈ xmTs := List.mem_filter.mpr ⟨List.mem_of_getElem? (i := 425) (by decide +kernel), by decide +kernel⟩
theorem xw_ml_X0_123 : Cond.methodLink RX0 123 yX1_greater ∈ xmTs := List.mem_filter.mpr ⟨List.mem_of_getElem? (i := 426) (by decide +kernel), by decide +kernel⟩
theorem xw_ins_X1_greater : Cond.instanceMethod yX1_greater ∈ xmTs := List.mem_filter.mpr ⟨List.mem_of_getElem? (i := 427) (by decide +kernel), by decide +kernel⟩
theorem xw_sel_X1_greater : Cond.selects yX1_greater.cls yX1_greater yX1_greater ∈ xmTs := List.mem_filter.mpr ⟨List.mem_of_getElem? (i := 428) (by decide +kernel), by decide +kernel⟩
theorem xw_cod_X1_greater : Cond.code yX1_greater cX1_greater 3 (some (FieldType.int)) ∈ xmTs := List.mem_filter.mpr ⟨List.mem_of_getElem? (i := 429) (by decide +kernel), by decide +kernel⟩
theorem xw_ml_L_50 : Cond.methodLink RL 50 yX4_fused ∈ xmTs := List.mem_filter.mpr ⟨List.mem_of_getElem? (i := 430) (by decide +kernel), by decide +kernel⟩
theorem xw_ins_X4_fused : Cond.instanceMethod yX4_fused ∈ xmTs := List.mem_filter.mpr ⟨List.mem_of_getElem? (i := 431) (by decide +kernel), by decide +kernel⟩
theorem xw_sel_X4_fused : Cond.selects yX4_fused.cls yX4_fused yX4_fused ∈ xmTs := List.mem_filter.mpr ⟨List.mem_of_getElem? (i := 432) (by decide +kernel), by decide +kernel⟩
theorem xw_cod_X4_fused : Cond.code yX4_fused cX4_fused 7 (some (FieldType.int)) ∈ xmTs := List.mem_filter.mpr ⟨List.mem_of_getElem? (i := 433) (by decide +kernel), by decide +kernel⟩
theorem xw_ml_X4_156 : Cond.methodLink RX4 156 yX0_fusedOf ∈ xmTs := List.mem_filter.mpr ⟨List.mem_of_getElem? (i := 434) (by decide +kernel), by decide +kernel⟩
theorem xw_ins_X0_fusedOf : Cond.instanceMethod yX0_fusedOf ∈ xmTs := List.mem_filter.mpr ⟨List.mem_of_getElem? (i := 435) (by decide +kernel), by decide +kernel⟩
theorem xw_sel_X0_fusedOf : Cond.selects yX0_fusedOf.cls yX0_fusedOf yX0_fusedOf ∈ xmTs := List.mem_filter.mpr ⟨List.mem_of_getElem? (i := 436) (by decide +kernel), by decide +kernel⟩
theorem xw_cod_X0_fusedOf : Cond.code yX0_fusedOf cX0_fusedOf 15 (some (FieldType.int)) ∈ xmTs := List.mem_filter.mpr ⟨List.mem_of_getElem? (i := 437) (by decide +kernel), by decide +kernel⟩
theorem xw_ml_L_54 : Cond.methodLink RL 54 yX4_next ∈ xmTs := List.mem_filter.mpr ⟨List.mem_of_getElem? (i := 438) (by decide +kernel), by decide +kernel⟩
theorem xw_ins_X4_next : Cond.instanceMethod yX4_next ∈ xmTs := List.mem_filter.mpr ⟨List.mem_of_getElem? (i := 439) (by decide +kernel), by decide +kernel⟩
theorem xw_sel_X4_next : Cond.selects yX4_next.cls yX4_next yX4_next ∈ xmTs := List.mem_filter.mpr ⟨List.mem_of_getElem? (i := 440) (by decide +kernel), by decide +kernel⟩
theorem xw_cod_X4_next : Cond.code yX4_next cX4_next 5 (some (FieldType.int)) ∈ xmTs := List.mem_filter.mpr ⟨List.mem_of_getElem? (i := 441) (by decide +kernel), by decide +kernel⟩
theorem xw_ml_X4_159 : Cond.methodLink RX4 159 yX1_neighbour ∈ xmTs := List.mem_filter.mpr ⟨List.mem_of_getElem? (i := 442) (by decide +kernel), by decide +kernel⟩
theorem xw_ins_X1_neighbour : Cond.instanceMethod yX1_neighbour ∈ xmTs := List.mem_filter.mpr ⟨List.mem_of_getElem? (i := 443) (by decide +kernel), by decide +kernel⟩
theorem xw_sel_X1_neighbour : Cond.selects yX1_neighbour.cls yX1_neighbour yX1_neighbour ∈ xmTs := List.mem_filter.mpr ⟨List.mem_of_getElem? (i := 444) (by decide +kernel), by decide +kernel⟩
theorem xw_cod_X1_neighbour : Cond.code yX1_neighbour cX1_neighbour 6 (some (FieldType.int)) ∈ xmTs := List.mem_filter.mpr ⟨List.mem_of_getElem? (i := 445) (by decide +kernel), by decide +kernel⟩
theorem xw_ml_X1_82 : Cond.methodLink RX1 82 Lib.Math.abs.name ∈ xmTs := List.mem_filter.mpr ⟨List.mem_of_getElem? (i := 446) (by decide +kernel), by decide +kernel⟩
theorem xw_sta_J9_abs_i : Cond.static Lib.Math.abs.name ∈ xmTs := List.mem_filter.mpr ⟨List.mem_of_getElem? (i := 447) (by decide +kernel), by decide +kernel⟩
theorem xw_cod_J9_abs_i : Cond.code Lib.Math.abs.name Lib.Math.abs.code 1 (some (FieldType.int)) ∈ xmTs := List.mem_filter.mpr ⟨List.mem_of_getElem? (i := 448) (by decide +kernel), by decide +kernel⟩
theorem xw_ml_L_59 : Cond.methodLink RL 59 yX4_order ∈ xmTs := List.mem_filter.mpr ⟨List.mem_of_getElem? (i := 449) (by decide +kernel), by decide +kernel⟩
theorem xw_ins_X4_order : Cond.instanceMethod yX4_order ∈ xmTs := List.mem_filter.mpr ⟨List.mem_of_getElem? (i := 450) (by decide +kernel), by decide +kernel⟩
theorem xw_sel_X4_order : Cond.selects yX4_order.cls yX4_order yX4_order ∈ xmTs := List.mem_filter.mpr ⟨List.mem_of_getElem? (i := 451) (by decide +kernel), by decide +kernel⟩
theorem xw_cod_X4_order : Cond.code yX4_order cX4_order 5 (some (FieldType.int)) ∈ xmTs := List.mem_filter.mpr ⟨List.mem_of_getElem? (i := 452) (by decide +kernel), by decide +kernel⟩
theorem xw_ml_X4_163 : Cond.methodLink RX4 163 yX1_isNone ∈ xmTs := List.mem_filter.mpr ⟨List.mem_of_getElem? (i := 453) (by decide +kernel), by decide +kernel⟩
theorem xw_ml_X4_166 : Cond.methodLink RX4 166 yX1_rank ∈ xmTs := List.mem_filter.mpr ⟨List.mem_of_getElem? (i := 454) (by decide +kernel), by decide +kernel⟩
theorem xw_ml_X4_169 : Cond.methodLink RX4 169 yJ6_compare_7cf53 ∈ xmTs := List.mem_filter.mpr ⟨List.mem_of_getElem? (i := 455) (by decide +kernel), by decide +kernel⟩
theorem xw_sta_J6_compare_7cf53 : Cond.static yJ6_compare_7cf53 ∈ xmTs := List.mem_filter.mpr ⟨List.mem_of_getElem? (i := 456) (by decide +kernel), by decide +kernel⟩
theorem xw_cod_J6_compare_7cf53 : Cond.code yJ6_compare_7cf53 cJ6_compare_7cf53 2 (some (FieldType.int)) ∈ xmTs := List.mem_filter.mpr ⟨List.mem_of_getElem? (i := 457) (by decide +kernel), by decide +kernel⟩
theorem xw_ml_L_63 : Cond.methodLink RL 63 yX4_numbers ∈ xmTs := List.mem_filter.mpr ⟨List.mem_of_getElem? (i := 458) (by decide +kernel), by decide +kernel⟩
theorem xw_ins_X4_numbers : Cond.instanceMethod yX4_numbers ∈ xmTs := List.mem_filter.mpr ⟨List.mem_of_getElem? (i := 459) (by decide +kernel), by decide +kernel⟩
theorem xw_sel_X4_numbers : Cond.selects yX4_numbers.cls yX4_numbers yX4_numbers ∈ xmTs := List.mem_filter.mpr ⟨List.mem_of_getElem? (i := 460) (by decide +kernel), by decide +kernel⟩
theorem xw_cod_X4_numbers : Cond.code yX4_numbers cX4_numbers 7 (some (FieldType.int)) ∈ xmTs := List.mem_filter.mpr ⟨List.mem_of_getElem? (i := 461) (by decide +kernel), by decide +kernel⟩
theorem xw_ml_X4_175 : Cond.methodLink RX4 175 yX1_numbersBetween ∈ xmTs := List.mem_filter.mpr ⟨List.mem_of_getElem? (i := 462) (by decide +kernel), by decide +kernel⟩
theorem xw_ins_X1_numbersBetween : Cond.instanceMethod yX1_numbersBetween ∈ xmTs := List.mem_filter.mpr ⟨List.mem_of_getElem? (i := 463) (by decide +kernel), by decide +kernel⟩
theorem xw_sel_X1_numbersBetween : Cond.selects yX1_numbersBetween.cls yX1_numbersBetween yX1_numbersBetween ∈ xmTs := List.mem_filter.mpr ⟨List.mem_of_getElem? (i := 464) (by decide +kernel), by decide +kernel⟩
theorem xw_cod_X1_numbersBetween : Cond.code yX1_numbersBetween cX1_numbersBetween 13 (some (FieldType.int)) ∈ xmTs := List.mem_filter.mpr ⟨List.mem_of_getElem? (i := 465) (by decide +kernel), by decide +kernel⟩
theorem xw_cst_X1_87 : Cond.constantLong RX1 87 (1099511627776) ∈ xmTs := List.mem_filter.mpr ⟨List.mem_of_getElem? (i := 466) (by decide +kernel), by decide +kernel⟩
theorem xw_ml_X1_89 : Cond.methodLink RX1 89 Lib.MathLoose.min_long.x ∈ xmTs := List.mem_filter.mpr ⟨List.mem_of_getElem? (i := 467) (by decide +kernel), by decide +kernel⟩
theorem xw_sta_J9_min_l : Cond.static Lib.MathLoose.min_long.x ∈ xmTs := List.mem_filter.mpr ⟨List.mem_of_getElem? (i := 468) (by decide +kernel), by decide +kernel⟩
theorem xw_cod_J9_min_l : Cond.code Lib.MathLoose.min_long.x Lib.MathLoose.min_long.code 4 (some (FieldType.long)) ∈ xmTs := List.mem_filter.mpr ⟨List.mem_of_getElem? (i := 469) (by decide +kernel), by decide +kernel⟩
theorem xw_ml_X1_93 : Cond.methodLink RX1 93 Lib.MathLoose.max_long.x ∈ xmTs := List.mem_filter.mpr ⟨List.mem_of_getElem? (i := 470) (by decide +kernel), by decide +kernel⟩
theorem xw_sta_J9_max_l : Cond.static Lib.MathLoose.max_long.x ∈ xmTs := List.mem_filter.mpr ⟨List.mem_of_getElem? (i := 471) (by decide +kernel), by decide +kernel⟩
theorem xw_cod_J9_max_l : Cond.code Lib.MathLoose.max_long.x Lib.MathLoose.max_long.code 4 (some (FieldType.long)) ∈ xmTs := List.mem_filter.mpr ⟨List.mem_of_getElem? (i := 472) (by decide +kernel), by decide +kernel⟩
theorem xw_ml_X1_96 : Cond.methodLink RX1 96 yX1_magnitudesUpTo ∈ xmTs := List.mem_filter.mpr ⟨List.mem_of_getElem? (i := 473) (by decide +kernel), by decide +kernel⟩
theorem xw_ins_X1_magnitudesUpTo : Cond.instanceMethod yX1_magnitudesUpTo ∈ xmTs := List.mem_filter.mpr ⟨List.mem_of_getElem? (i := 475) (by decide +kernel), by decide +kernel⟩
theorem xw_cod_X1_magnitudesUpTo : Cond.code yX1_magnitudesUpTo cX1_magnitudesUpTo 5 (some (FieldType.int)) ∈ xmTs := List.mem_filter.mpr ⟨List.mem_of_getElem? (i := 476) (by decide +kernel), by decide +kernel⟩
theorem xw_ml_L_68 : Cond.methodLink RL 68 yX4_row ∈ xmTs := List.mem_filter.mpr ⟨List.mem_of_getElem? (i := 477) (by decide +kernel), by decide +kernel⟩
theorem xw_ins_X4_row : Cond.instanceMethod yX4_row ∈ xmTs := List.mem_filter.mpr ⟨List.mem_of_getElem? (i := 478) (by decide +kernel), by decide +kernel⟩
theorem xw_sel_X4_row : Cond.selects yX4_row.cls yX4_row yX4_row ∈ xmTs := List.mem_filter.mpr ⟨List.mem_of_getElem? (i := 479) (by decide +kernel), by decide +kernel⟩
theorem xw_cod_X4_row : Cond.code yX4_row cX4_row 5 (some (FieldType.int)) ∈ xmTs := List.mem_filter.mpr ⟨List.mem_of_getElem? (i := 480) (by decide +kernel), by decide +kernel⟩
theorem xw_ml_X4_179 : Cond.methodLink RX4 179 yX2_become ∈ xmTs := List.mem_filter.mpr ⟨List.mem_of_getElem? (i := 481) (by decide +kernel), by decide +kernel⟩
theorem xw_ins_X2_become : Cond.instanceMethod yX2_become ∈ xmTs := List.mem_filter.mpr ⟨List.mem_of_getElem? (i := 482) (by decide +kernel), by decide +kernel⟩
theorem xw_sel_X2_become : Cond.selects yX2_become.cls yX2_become yX2_become ∈ xmTs := List.mem_filter.mpr ⟨List.mem_of_getElem? (i := 483) (by decide +kernel), by decide +kernel⟩
theorem xw_cod_X2_become : Cond.code yX2_become cX2_become 4 none ∈ xmTs := List.mem_filter.mpr ⟨List.mem_of_getElem? (i := 484) (by decide +kernel), by decide +kernel⟩
theorem xw_ml_X2_23 : Cond.methodLink RX2 23 Lib.Math.min.name ∈ xmTs := List.mem_filter.mpr ⟨List.mem_of_getElem? (i := 485) (by decide +kernel), by decide +kernel⟩
theorem xw_sta_J9_min_i : Cond.static Lib.Math.min.name ∈ xmTs := List.mem_filter.mpr ⟨List.mem_of_getElem? (i := 486) (by decide +kernel), by decide +kernel⟩
theorem xw_cod_J9_min_i : Cond.code Lib.Math.min.name Lib.Math.min.code 2 (some (FieldType.int)) ∈ xmTs := List.mem_filter.mpr ⟨List.mem_of_getElem? (i := 487) (by decide +kernel), by decide +kernel⟩
theorem xw_ml_X2_29 : Cond.methodLink RX2 29 Lib.Math.max.name ∈ xmTs := List.mem_filter.mpr ⟨List.mem_of_getElem? (i := 488) (by decide +kernel), by decide +kernel⟩
theorem xw_ml_L_72 : Cond.methodLink RL 72 yX4_put ∈ xmTs := List.mem_filter.mpr ⟨List.mem_of_getElem? (i := 489) (by decide +kernel), by decide +kernel⟩
theorem xw_ins_X4_put : Cond.instanceMethod yX4_put ∈ xmTs := List.mem_filter.mpr ⟨List.mem_of_getElem? (i := 490) (by decide +kernel), by decide +kernel⟩
theorem xw_sel_X4_put : Cond.selects yX4_put.cls yX4_put yX4_put ∈ xmTs := List.mem_filter.mpr ⟨List.mem_of_getElem? (i := 491) (by decide +kernel), by decide +kernel⟩
theorem xw_cod_X4_put : Cond.code yX4_put cX4_put 6 (some (FieldType.int)) ∈ xmTs := List.mem_filter.mpr ⟨List.mem_of_getElem? (i := 492) (by decide +kernel), by decide +kernel⟩
theorem xw_ml_X4_183 : Cond.methodLink RX4 183 yX4_rowAt ∈ xmTs := List.mem_filter.mpr ⟨List.mem_of_getElem? (i := 493) (by decide +kernel), by decide +kernel⟩
theorem xw_ins_X4_rowAt : Cond.instanceMethod yX4_rowAt ∈ xmTs := List.mem_filter.mpr ⟨List.mem_of_getElem? (i := 495) (by decide +kernel), by decide +kernel⟩
theorem xw_cod_X4_rowAt : Cond.code yX4_rowAt cX4_rowAt 2 (some (FieldType.object "SmallFloats$Row")) ∈ xmTs := List.mem_filter.mpr ⟨List.mem_of_getElem? (i := 496) (by decide +kernel), by decide +kernel⟩
theorem xw_ml_X4_187 : Cond.methodLink RX4 187 yX2_hasPlace ∈ xmTs := List.mem_filter.mpr ⟨List.mem_of_getElem? (i := 497) (by decide +kernel), by decide +kernel⟩
theorem xw_ins_X2_hasPlace : Cond.instanceMethod yX2_hasPlace ∈ xmTs := List.mem_filter.mpr ⟨List.mem_of_getElem? (i := 498) (by decide +kernel), by decide +kernel⟩
theorem xw_sel_X2_hasPlace : Cond.selects yX2_hasPlace.cls yX2_hasPlace yX2_hasPlace ∈ xmTs := List.mem_filter.mpr ⟨List.mem_of_getElem? (i := 499) (by decide +kernel), by decide +kernel⟩
theorem xw_cod_X2_hasPlace : Cond.code yX2_hasPlace cX2_hasPlace 2 (some (FieldType.boolean)) ∈ xmTs := List.mem_filter.mpr ⟨List.mem_of_getElem? (i := 500) (by decide +kernel), by decide +kernel⟩
theorem xw_ml_X4_193 : Cond.methodLink RX4 193 yX2_codeAt ∈ xmTs := List.mem_filter.mpr ⟨List.mem_of_getElem? (i := 501) (by decide +kernel), by decide +kernel⟩
theorem xw_ins_X2_codeAt : Cond.instanceMethod yX2_codeAt ∈ xmTs := List.mem_filter.mpr ⟨List.mem_of_getElem? (i := 502) (by decide +kernel), by decide +kernel⟩
theorem xw_sel_X2_codeAt : Cond.selects yX2_codeAt.cls yX2_codeAt yX2_codeAt ∈ xmTs := List.mem_filter.mpr ⟨List.mem_of_getElem? (i := 503) (by decide +kernel), by decide +kernel⟩
theorem xw_cod_X2_codeAt : Cond.code yX2_codeAt cX2_codeAt 2 (some (FieldType.int)) ∈ xmTs := List.mem_filter.mpr ⟨List.mem_of_getElem? (i := 504) (by decide +kernel), by decide +kernel⟩
theorem xw_ml_X4_196 : Cond.methodLink RX4 196 yX2_setCode ∈ xmTs := List.mem_filter.mpr ⟨List.mem_of_getElem? (i := 505) (by decide +kernel), by decide +kernel⟩
theorem xw_ins_X2_setCode : Cond.instanceMethod yX2_setCode ∈ xmTs := List.mem_filter.mpr ⟨List.mem_of_getElem? (i := 506) (by decide +kernel), by decide +kernel⟩
theorem xw_sel_X2_setCode : Cond.selects yX2_setCode.cls yX2_setCode yX2_setCode ∈ xmTs := List.mem_filter.mpr ⟨List.mem_of_getElem? (i := 507) (by decide +kernel), by decide +kernel⟩
theorem xw_cod_X2_setCode : Cond.code yX2_setCode cX2_setCode 3 none ∈ xmTs := List.mem_filter.mpr ⟨List.mem_of_getElem? (i := 508) (by decide +kernel), by decide +kernel⟩
theorem xw_ml_L_76 : Cond.methodLink RL 76 yX4_at ∈ xmTs := List.mem_filter.mpr ⟨List.mem_of_getElem? (i := 509) (by decide +kernel), by decide +kernel⟩
theorem xw_ins_X4_at : Cond.instanceMethod yX4_at ∈ xmTs := List.mem_filter.mpr ⟨List.mem_of_getElem? (i := 510) (by decide +kernel), by decide +kernel⟩
theorem xw_sel_X4_at : Cond.selects yX4_at.cls yX4_at yX4_at ∈ xmTs := List.mem_filter.mpr ⟨List.mem_of_getElem? (i := 511) (by decide +kernel), by decide +kernel⟩
theorem xw_cod_X4_at : Cond.code yX4_at cX4_at 4 (some (FieldType.int)) ∈ xmTs := List.mem_filter.mpr ⟨List.mem_of_getElem? (i := 512) (by decide +kernel), by decide +kernel⟩
theorem xw_ml_L_80 : Cond.methodLink RL 80 yX4_packed ∈ xmTs := List.mem_filter.mpr ⟨List.mem_of_getElem? (i := 513) (by decide +kernel), by decide +kernel⟩
theorem xw_ins_X4_packed : Cond.instanceMethod yX4_packed ∈ xmTs := List.mem_filter.mpr ⟨List.mem_of_getElem? (i := 514) (by decide +kernel), by decide +kernel⟩
theorem xw_sel_X4_packed : Cond.selects yX4_packed.cls yX4_packed yX4_packed ∈ xmTs := List.mem_filter.mpr ⟨List.mem_of_getElem? (i := 515) (by decide +kernel), by decide +kernel⟩
theorem xw_cod_X4_packed : Cond.code yX4_packed cX4_packed 4 (some (FieldType.int)) ∈ xmTs := List.mem_filter.mpr ⟨List.mem_of_getElem? (i := 516) (by decide +kernel), by decide +kernel⟩
theorem xw_ml_X4_200 : Cond.methodLink RX4 200 yX2_byteCount ∈ xmTs := List.mem_filter.mpr ⟨List.mem_of_getElem? (i := 517) (by decide +kernel), by decide +kernel⟩
theorem xw_ins_X2_byteCount : Cond.instanceMethod yX2_byteCount ∈ xmTs := List.mem_filter.mpr ⟨List.mem_of_getElem? (i := 518) (by decide +kernel), by decide +kernel⟩
theorem xw_sel_X2_byteCount : Cond.selects yX2_byteCount.cls yX2_byteCount yX2_byteCount ∈ xmTs := List.mem_filter.mpr ⟨List.mem_of_getElem? (i := 519) (by decide +kernel), by decide +kernel⟩
theorem xw_cod_X2_byteCount : Cond.code yX2_byteCount cX2_byteCount 1 (some (FieldType.int)) ∈ xmTs := List.mem_filter.mpr ⟨List.mem_of_getElem? (i := 520) (by decide +kernel), by decide +kernel⟩
theorem xw_ml_X2_32 : Cond.methodLink RX2 32 yX1_bits ∈ xmTs := List.mem_filter.mpr ⟨List.mem_of_getElem? (i := 521) (by decide +kernel), by decide +kernel⟩
theorem xw_ml_X4_203 : Cond.methodLink RX4 203 yX2_byteAt ∈ xmTs := List.mem_filter.mpr ⟨List.mem_of_getElem? (i := 522) (by decide +kernel), by decide +kernel⟩
theorem xw_ins_X2_byteAt : Cond.instanceMethod yX2_byteAt ∈ xmTs := List.mem_filter.mpr ⟨List.mem_of_getElem? (i := 523) (by decide +kernel), by decide +kernel⟩
theorem xw_sel_X2_byteAt : Cond.selects yX2_byteAt.cls yX2_byteAt yX2_byteAt ∈ xmTs := List.mem_filter.mpr ⟨List.mem_of_getElem? (i := 524) (by decide +kernel), by decide +kernel⟩
theorem xw_cod_X2_byteAt : Cond.code yX2_byteAt cX2_byteAt 5 (some (FieldType.int)) ∈ xmTs := List.mem_filter.mpr ⟨List.mem_of_getElem? (i := 525) (by decide +kernel), by decide +kernel⟩
theorem xw_ml_X2_38 : Cond.methodLink RX2 38 yX2_codeAt ∈ xmTs := List.mem_filter.mpr ⟨List.mem_of_getElem? (i := 526) (by decide +kernel), by decide +kernel⟩
theorem xw_ml_L_84 : Cond.methodLink RL 84 yX4_quantise ∈ xmTs := List.mem_filter.mpr ⟨List.mem_of_getElem? (i := 527) (by decide +kernel), by decide +kernel⟩
theorem xw_ins_X4_quantise : Cond.instanceMethod yX4_quantise ∈ xmTs := List.mem_filter.mpr ⟨List.mem_of_getElem? (i := 528) (by decide +kernel), by decide +kernel⟩
theorem xw_sel_X4_quantise : Cond.selects yX4_quantise.cls yX4_quantise yX4_quantise ∈ xmTs := List.mem_filter.mpr ⟨List.mem_of_getElem? (i := 529) (by decide +kernel), by decide +kernel⟩
theorem xw_cod_X4_quantise : Cond.code yX4_quantise cX4_quantise 9 (some (FieldType.int)) ∈ xmTs := List.mem_filter.mpr ⟨List.mem_of_getElem? (i := 530) (by decide +kernel), by decide +kernel⟩
theorem xw_ml_L_88 : Cond.methodLink RL 88 yX4_worst ∈ xmTs := List.mem_filter.mpr ⟨List.mem_of_getElem? (i := 531) (by decide +kernel), by decide +kernel⟩
theorem xw_ins_X4_worst : Cond.instanceMethod yX4_worst ∈ xmTs := List.mem_filter.mpr ⟨List.mem_of_getElem? (i := 532) (by decide +kernel), by decide +kernel⟩
theorem xw_sel_X4_worst : Cond.selects yX4_worst.cls yX4_worst yX4_worst ∈ xmTs := List.mem_filter.mpr ⟨List.mem_of_getElem? (i := 533) (by decide +kernel), by decide +kernel⟩
theorem xw_cod_X4_worst : Cond.code yX4_worst cX4_worst 6 (some (FieldType.int)) ∈ xmTs := List.mem_filter.mpr ⟨List.mem_of_getElem? (i := 534) (by decide +kernel), by decide +kernel⟩
theorem xw_ml_X4_209 : Cond.methodLink RX4 209 yX2_worstPlace ∈ xmTs := List.mem_filter.mpr ⟨List.mem_of_getElem? (i := 535) (by decide +kernel), by decide +kernel⟩
theorem xw_ins_X2_worstPlace : Cond.instanceMethod yX2_worstPlace ∈ xmTs := List.mem_filter.mpr ⟨List.mem_of_getElem? (i := 536) (by decide +kernel), by decide +kernel⟩
theorem xw_sel_X2_worstPlace : Cond.selects yX2_worstPlace.cls yX2_worstPlace yX2_worstPlace ∈ xmTs := List.mem_filter.mpr ⟨List.mem_of_getElem? (i := 537) (by decide +kernel), by decide +kernel⟩
theorem xw_cod_X2_worstPlace : Cond.code yX2_worstPlace cX2_worstPlace 6 (some (FieldType.int)) ∈ xmTs := List.mem_filter.mpr ⟨List.mem_of_getElem? (i := 538) (by decide +kernel), by decide +kernel⟩
theorem xw_ml_X2_57 : Cond.methodLink RX2 57 yX2_areNumbers ∈ xmTs := List.mem_filter.mpr ⟨List.mem_of_getElem? (i := 539) (by decide +kernel), by decide +kernel⟩
theorem xw_ins_X2_areNumbers : Cond.instanceMethod yX2_areNumbers ∈ xmTs := List.mem_filter.mpr ⟨List.mem_of_getElem? (i := 540) (by decide +kernel), by decide +kernel⟩
theorem xw_sel_X2_areNumbers : Cond.selects yX2_areNumbers.cls yX2_areNumbers yX2_areNumbers ∈ xmTs := List.mem_filter.mpr ⟨List.mem_of_getElem? (i := 541) (by decide +kernel), by decide +kernel⟩
theorem xw_cod_X2_areNumbers : Cond.code yX2_areNumbers cX2_areNumbers 3 (some (FieldType.boolean)) ∈ xmTs := List.mem_filter.mpr ⟨List.mem_of_getElem? (i := 542) (by decide +kernel), by decide +kernel⟩
theorem xw_ml_X2_42 : Cond.methodLink RX2 42 yX1_isNumber ∈ xmTs := List.mem_filter.mpr ⟨List.mem_of_getElem? (i := 543) (by decide +kernel), by decide +kernel⟩
theorem xw_ml_X2_61 : Cond.methodLink RX2 61 yX2_distance ∈ xmTs := List.mem_filter.mpr ⟨List.mem_of_getElem? (i := 544) (by decide +kernel), by decide +kernel⟩
theorem xw_ins_X2_distance : Cond.instanceMethod yX2_distance ∈ xmTs := List.mem_filter.mpr ⟨List.mem_of_getElem? (i := 545) (by decide +kernel), by decide +kernel⟩
theorem xw_sel_X2_distance : Cond.selects yX2_distance.cls yX2_distance yX2_distance ∈ xmTs := List.mem_filter.mpr ⟨List.mem_of_getElem? (i := 546) (by decide +kernel), by decide +kernel⟩
theorem xw_cod_X2_distance : Cond.code yX2_distance cX2_distance 8 (some (FieldType.long)) ∈ xmTs := List.mem_filter.mpr ⟨List.mem_of_getElem? (i := 547) (by decide +kernel), by decide +kernel⟩
theorem xw_ml_X2_46 : Cond.methodLink RX2 46 yX1_scale ∈ xmTs := List.mem_filter.mpr ⟨List.mem_of_getElem? (i := 548) (by decide +kernel), by decide +kernel⟩
theorem xw_ml_X2_49 : Cond.methodLink RX2 49 yX1_unitsOf ∈ xmTs := List.mem_filter.mpr ⟨List.mem_of_getElem? (i := 549) (by decide +kernel), by decide +kernel⟩
theorem xw_ml_X2_53 : Cond.methodLink RX2 53 Lib.MathLoose.abs_long.x ∈ xmTs := List.mem_filter.mpr ⟨List.mem_of_getElem? (i := 550) (by decide +kernel), by decide +kernel⟩
theorem xw_ml_X4_213 : Cond.methodLink RX4 213 yX2_differences ∈ xmTs := List.mem_filter.mpr ⟨List.mem_of_getElem? (i := 551) (by decide +kernel), by decide +kernel⟩
theorem xw_ins_X2_differences : Cond.instanceMethod yX2_differences ∈ xmTs := List.mem_filter.mpr ⟨List.mem_of_getElem? (i := 552) (by decide +kernel), by decide +kernel⟩
theorem xw_sel_X2_differences : Cond.selects yX2_differences.cls yX2_differences yX2_differences ∈ xmTs := List.mem_filter.mpr ⟨List.mem_of_getElem? (i := 553) (by decide +kernel), by decide +kernel⟩
theorem xw_cod_X2_differences : Cond.code yX2_differences cX2_differences 4 (some (FieldType.int)) ∈ xmTs := List.mem_filter.mpr ⟨List.mem_of_getElem? (i := 554) (by decide +kernel), by decide +kernel⟩
theorem xw_ml_X4_216 : Cond.methodLink RX4 216 yX2_noNumbers ∈ xmTs := List.mem_filter.mpr ⟨List.mem_of_getElem? (i := 555) (by decide +kernel), by decide +kernel⟩
theorem xw_ins_X2_noNumbers : Cond.instanceMethod yX2_noNumbers ∈ xmTs := List.mem_filter.mpr ⟨List.mem_of_getElem? (i := 556) (by decide +kernel), by decide +kernel⟩
theorem xw_sel_X2_noNumbers : Cond.selects yX2_noNumbers.cls yX2_noNumbers yX2_noNumbers ∈ xmTs := List.mem_filter.mpr ⟨List.mem_of_getElem? (i := 557) (by decide +kernel), by decide +kernel⟩
theorem xw_cod_X2_noNumbers : Cond.code yX2_noNumbers cX2_noNumbers 4 (some (FieldType.int)) ∈ xmTs := List.mem_filter.mpr ⟨List.mem_of_getElem? (i := 558) (by decide +kernel), by decide +kernel⟩
theorem xw_ml_L_92 : Cond.methodLink RL 92 yX4_sum ∈ xmTs := List.mem_filter.mpr ⟨List.mem_of_getElem? (i := 559) (by decide +kernel), by decide +kernel⟩
theorem xw_ins_X4_sum : Cond.instanceMethod yX4_sum ∈ xmTs := List.mem_filter.mpr ⟨List.mem_of_getElem? (i := 560) (by decide +kernel), by decide +kernel⟩
theorem xw_sel_X4_sum : Cond.selects yX4_sum.cls yX4_sum yX4_sum ∈ xmTs := List.mem_filter.mpr ⟨List.mem_of_getElem? (i := 561) (by decide +kernel), by decide +kernel⟩
theorem xw_cod_X4_sum : Cond.code yX4_sum cX4_sum 5 (some (FieldType.int)) ∈ xmTs := List.mem_filter.mpr ⟨List.mem_of_getElem? (i := 562) (by decide +kernel), by decide +kernel⟩
theorem xw_ml_X4_219 : Cond.methodLink RX4 219 yX0_stepwiseTotal ∈ xmTs := List.mem_filter.mpr ⟨List.mem_of_getElem? (i := 563) (by decide +kernel), by decide +kernel⟩
theorem xw_ins_X0_stepwiseTotal : Cond.instanceMethod yX0_stepwiseTotal ∈ xmTs := List.mem_filter.mpr ⟨List.mem_of_getElem? (i := 564) (by decide +kernel), by decide +kernel⟩
theorem xw_sel_X0_stepwiseTotal : Cond.selects yX0_stepwiseTotal.cls yX0_stepwiseTotal yX0_stepwiseTotal ∈ xmTs := List.mem_filter.mpr ⟨List.mem_of_getElem? (i := 565) (by decide +kernel), by decide +kernel⟩
theorem xw_cod_X0_stepwiseTotal : Cond.code yX0_stepwiseTotal cX0_stepwiseTotal 9 (some (FieldType.int)) ∈ xmTs := List.mem_filter.mpr ⟨List.mem_of_getElem? (i := 566) (by decide +kernel), by decide +kernel⟩
theorem xw_ml_X0_153 : Cond.methodLink RX0 153 yX0_termCount ∈ xmTs := List.mem_filter.mpr ⟨List.mem_of_getElem? (i := 567) (by decide +kernel), by decide +kernel⟩
theorem xw_sta_X0_termCount : Cond.static yX0_termCount ∈ xmTs := List.mem_filter.mpr ⟨List.mem_of_getElem? (i := 568) (by decide +kernel), by decide +kernel⟩
theorem xw_cod_X0_termCount : Cond.code yX0_termCount cX0_termCount 2 (some (FieldType.int)) ∈ xmTs := List.mem_filter.mpr ⟨List.mem_of_getElem? (i := 569) (by decide +kernel), by decide +kernel⟩
theorem xw_ml_X0_168 : Cond.methodLink RX0 168 Lib.Math.min.name ∈ xmTs := List.mem_filter.mpr ⟨List.mem_of_getElem? (i := 570) (by decide +kernel), by decide +kernel⟩
theorem xw_ml_X0_157 : Cond.methodLink RX0 157 yX2_codeAt ∈ xmTs := List.mem_filter.mpr ⟨List.mem_of_getElem? (i := 571) (by decide +kernel), by decide +kernel⟩
theorem xw_ml_X0_161 : Cond.methodLink RX0 161 yX0_acted ∈ xmTs := List.mem_filter.mpr ⟨List.mem_of_getElem? (i := 572) (by decide +kernel), by decide +kernel⟩
theorem xw_ml_X4_223 : Cond.methodLink RX4 223 yX0_exactTotal ∈ xmTs := List.mem_filter.mpr ⟨List.mem_of_getElem? (i := 573) (by decide +kernel), by decide +kernel⟩
theorem xw_ins_X0_exactTotal : Cond.instanceMethod yX0_exactTotal ∈ xmTs := List.mem_filter.mpr ⟨List.mem_of_getElem? (i := 574) (by decide +kernel), by decide +kernel⟩
theorem xw_sel_X0_exactTotal : Cond.selects yX0_exactTotal.cls yX0_exactTotal yX0_exactTotal ∈ xmTs := List.mem_filter.mpr ⟨List.mem_of_getElem? (i := 575) (by decide +kernel), by decide +kernel⟩
theorem xw_cod_X0_exactTotal : Cond.code yX0_exactTotal cX0_exactTotal 15 (some (FieldType.int)) ∈ xmTs := List.mem_filter.mpr ⟨List.mem_of_getElem? (i := 576) (by decide +kernel), by decide +kernel⟩
theorem xw_ml_L_96 : Cond.methodLink RL 96 yX4_dot ∈ xmTs := List.mem_filter.mpr ⟨List.mem_of_getElem? (i := 577) (by decide +kernel), by decide +kernel⟩
theorem xw_ins_X4_dot : Cond.instanceMethod yX4_dot ∈ xmTs := List.mem_filter.mpr ⟨List.mem_of_getElem? (i := 578) (by decide +kernel), by decide +kernel⟩
theorem xw_sel_X4_dot : Cond.selects yX4_dot.cls yX4_dot yX4_dot ∈ xmTs := List.mem_filter.mpr ⟨List.mem_of_getElem? (i := 579) (by decide +kernel), by decide +kernel⟩
theorem xw_cod_X4_dot : Cond.code yX4_dot cX4_dot 7 (some (FieldType.int)) ∈ xmTs := List.mem_filter.mpr ⟨List.mem_of_getElem? (i := 580) (by decide +kernel), by decide +kernel⟩
theorem xw_ml_L_101 : Cond.methodLink RL 101 yX4_table ∈ xmTs := List.mem_filter.mpr ⟨List.mem_of_getElem? (i := 581) (by decide +kernel), by decide +kernel⟩
theorem xw_ins_X4_table : Cond.instanceMethod yX4_table ∈ xmTs := List.mem_filter.mpr ⟨List.mem_of_getElem? (i := 582) (by decide +kernel), by decide +kernel⟩
theorem xw_sel_X4_table : Cond.selects yX4_table.cls yX4_table yX4_table ∈ xmTs := List.mem_filter.mpr ⟨List.mem_of_getElem? (i := 583) (by decide +kernel), by decide +kernel⟩
theorem xw_cod_X4_table : Cond.code yX4_table cX4_table 5 (some (FieldType.int)) ∈ xmTs := List.mem_filter.mpr ⟨List.mem_of_getElem? (i := 584) (by decide +kernel), by decide +kernel⟩
theorem xw_ml_L_105 : Cond.methodLink RL 105 yX4_lookup ∈ xmTs := List.mem_filter.mpr ⟨List.mem_of_getElem? (i := 585) (by decide +kernel), by decide +kernel⟩
theorem xw_ins_X4_lookup : Cond.instanceMethod yX4_lookup ∈ xmTs := List.mem_filter.mpr ⟨List.mem_of_getElem? (i := 586) (by decide +kernel), by decide +kernel⟩
theorem xw_sel_X4_lookup : Cond.selects yX4_lookup.cls yX4_lookup yX4_lookup ∈ xmTs := List.mem_filter.mpr ⟨List.mem_of_getElem? (i := 587) (by decide +kernel), by decide +kernel⟩
theorem xw_cod_X4_lookup : Cond.code yX4_lookup cX4_lookup 4 (some (FieldType.int)) ∈ xmTs := List.mem_filter.mpr ⟨List.mem_of_getElem? (i := 588) (by decide +kernel), by decide +kernel⟩
theorem xw_ml_L_109 : Cond.methodLink RL 109 yX4_count ∈ xmTs := List.mem_filter.mpr ⟨List.mem_of_getElem? (i := 589) (by decide +kernel), by decide +kernel⟩
theorem xw_ins_X4_count : Cond.instanceMethod yX4_count ∈ xmTs := List.mem_filter.mpr ⟨List.mem_of_getElem? (i := 590) (by decide +kernel), by decide +kernel⟩
theorem xw_sel_X4_count : Cond.selects yX4_count.cls yX4_count yX4_count ∈ xmTs := List.mem_filter.mpr ⟨List.mem_of_getElem? (i := 591) (by decide +kernel), by decide +kernel⟩
theorem xw_cod_X4_count : Cond.code yX4_count cX4_count 2 (some (FieldType.int)) ∈ xmTs := List.mem_filter.mpr ⟨List.mem_of_getElem? (i := 592) (by decide +kernel), by decide +kernel⟩
theorem xw_ml_L_114 : Cond.methodLink RL 114 yX4_told ∈ xmTs := List.mem_filter.mpr ⟨List.mem_of_getElem? (i := 593) (by decide +kernel), by decide +kernel⟩
theorem xw_ins_X4_told : Cond.instanceMethod yX4_told ∈ xmTs := List.mem_filter.mpr ⟨List.mem_of_getElem? (i := 594) (by decide +kernel), by decide +kernel⟩
theorem xw_sel_X4_told : Cond.selects yX4_told.cls yX4_told yX4_told ∈ xmTs := List.mem_filter.mpr ⟨List.mem_of_getElem? (i := 595) (by decide +kernel), by decide +kernel⟩
theorem xw_cod_X4_told : Cond.code yX4_told cX4_told 1 (some (FieldType.int)) ∈ xmTs := List.mem_filter.mpr ⟨List.mem_of_getElem? (i := 596) (by decide +kernel), by decide +kernel⟩
theorem xw_cl_L_10 : Cond.classLink RL 10 RX5 ∈ xmTs := List.mem_filter.mpr ⟨List.mem_of_getElem? (i := 597) (by decide +kernel), by decide +kernel⟩
theorem xw_inst_X5 : Cond.instantiable RX5 26 ∈ xmTs := List.mem_filter.mpr ⟨List.mem_of_getElem? (i := 598) (by decide +kernel), by decide +kernel⟩
theorem xw_ml_L_12 : Cond.methodLink RL 12 yX5_init ∈ xmTs := List.mem_filter.mpr ⟨List.mem_of_getElem? (i := 599) (by decide +kernel), by decide +kernel⟩
theorem xw_ins_X5_init : Cond.instanceMethod yX5_init ∈ xmTs := List.mem_filter.mpr ⟨List.mem_of_getElem? (i := 600) (by decide +kernel), by decide +kernel⟩
theorem xw_cod_X5_init : Cond.code yX5_init cX5_init 1 none ∈ xmTs := List.mem_filter.mpr ⟨List.mem_of_getElem? (i := 601) (by decide +kernel), by decide +kernel⟩
theorem xw_ml_X5_1 : Cond.methodLink RX5 1 objectInit ∈ xmTs := List.mem_filter.mpr ⟨List.mem_of_getElem? (i := 602) (by decide +kernel), by decide +kernel⟩
theorem xw_fl_X5_45 : Cond.fieldLink RX5 45 (TX5 0).1 (TX5 0).2.1 (TX5 0).2.2.1 ∈ xmTs := List.mem_filter.mpr ⟨List.mem_of_getElem? (i := 603) (by decide +kernel), by decide +kernel⟩
theorem xw_fl_X5_7 : Cond.fieldLink RX5 7 (TX5 1).1 (TX5 1).2.1 (TX5 1).2.2.1 ∈ xmTs := List.mem_filter.mpr ⟨List.mem_of_getElem? (i := 604) (by decide +kernel), by decide +kernel⟩
theorem xw_fl_X5_13 : Cond.fieldLink RX5 13 (TX5 2).1 (TX5 2).2.1 (TX5 2).2.2.1 ∈ xmTs := List.mem_filter.mpr ⟨List.mem_of_getElem? (i := 605) (by decide +kernel), by decide +kernel⟩
theorem xw_fl_X5_16 : Cond.fieldLink RX5 16 (TX5 3).1 (TX5 3).2.1 (TX5 3).2.2.1 ∈ xmTs := List.mem_filter.mpr ⟨List.mem_of_getElem? (i := 606) (by decide +kernel), by decide +kernel⟩
theorem xw_fl_X5_19 : Cond.fieldLink RX5 19 (TX5 4).1 (TX5 4).2.1 (TX5 4).2.2.1 ∈ xmTs := List.mem_filter.mpr ⟨List.mem_of_getElem? (i := 607) (by decide +kernel), by decide +kernel⟩
theorem xw_fl_X5_22 : Cond.fieldLink RX5 22 (TX5 5).1 (TX5 5).2.1 (TX5 5).2.2.1 ∈ xmTs := List.mem_filter.mpr ⟨List.mem_of_getElem? (i := 608) (by decide +kernel), by decide +kernel⟩
theorem xw_fl_X5_26 : Cond.fieldLink RX5 26 (TX5 6).1 (TX5 6).2.1 (TX5 6).2.2.1 ∈ xmTs := List.mem_filter.mpr ⟨List.mem_of_getElem? (i := 609) (by decide +kernel), by decide +kernel⟩
theorem xw_fl_X5_29 : Cond.fieldLink RX5 29 (TX5 7).1 (TX5 7).2.1 (TX5 7).2.2.1 ∈ xmTs := List.mem_filter.mpr ⟨List.mem_of_getElem? (i := 610) (by decide +kernel), by decide +kernel⟩
theorem xw_fl_X5_32 : Cond.fieldLink RX5 32 (TX5 8).1 (TX5 8).2.1 (TX5 8).2.2.1 ∈ xmTs := List.mem_filter.mpr ⟨List.mem_of_getElem? (i := 611) (by decide +kernel), by decide +kernel⟩
theorem xw_fl_X5_35 : Cond.fieldLink RX5 35 (TX5 9).1 (TX5 9).2.1 (TX5 9).2.2.1 ∈ xmTs := List.mem_filter.mpr ⟨List.mem_of_getElem? (i := 612) (by decide +kernel), by decide +kernel⟩
theorem xw_fl_X5_260 : Cond.fieldLink RX5 260 (TX5 10).1 (TX5 10).2.1 (TX5 10).2.2.1 ∈ xmTs := List.mem_filter.mpr ⟨List.mem_of_getElem? (i := 613) (by decide +kernel), by decide +kernel⟩
theorem xw_fl_X5_38 : Cond.fieldLink RX5 38 (TX5 11).1 (TX5 11).2.1 (TX5 11).2.2.1 ∈ xmTs := List.mem_filter.mpr ⟨List.mem_of_getElem? (i := 614) (by decide +kernel), by decide +kernel⟩
theorem xw_fl_X5_263 : Cond.fieldLink RX5 263 (TX5 12).1 (TX5 12).2.1 (TX5 12).2.2.1 ∈ xmTs := List.mem_filter.mpr ⟨List.mem_of_getElem? (i := 615) (by decide +kernel), by decide +kernel⟩
theorem xw_fl_X5_266 : Cond.fieldLink RX5 266 (TX5 13).1 (TX5 13).2.1 (TX5 13).2.2.1 ∈ xmTs := List.mem_filter.mpr ⟨List.mem_of_getElem? (i := 616) (by decide +kernel), by decide +kernel⟩
theorem xw_fl_X5_61 : Cond.fieldLink RX5 61 (TX5 14).1 (TX5 14).2.1 (TX5 14).2.2.1 ∈ xmTs := List.mem_filter.mpr ⟨List.mem_of_getElem? (i := 617) (by decide +kernel), by decide +kernel⟩
theorem xw_fl_X5_64 : Cond.fieldLink RX5 64 (TX5 15).1 (TX5 15).2.1 (TX5 15).2.2.1 ∈ xmTs := List.mem_filter.mpr ⟨List.mem_of_getElem? (i := 618) (by decide +kernel), by decide +kernel⟩
theorem xw_fl_X5_186 : Cond.fieldLink RX5 186 (TX5 16).1 (TX5 16).2.1 (TX5 16).2.2.1 ∈ xmTs := List.mem_filter.mpr ⟨List.mem_of_getElem? (i := 619) (by decide +kernel), by decide +kernel⟩
theorem xw_fl_X5_48 : Cond.fieldLink RX5 48 (TX5 17).1 (TX5 17).2.1 (TX5 17).2.2.1 ∈ xmTs := List.mem_filter.mpr ⟨List.mem_of_getElem? (i := 620) (by decide +kernel), by decide +kernel⟩
theorem xw_fl_X5_51 : Cond.fieldLink RX5 51 (TX5 18).1 (TX5 18).2.1 (TX5 18).2.2.1 ∈ xmTs := List.mem_filter.mpr ⟨List.mem_of_getElem? (i := 621) (by decide +kernel), by decide +kernel⟩
theorem xw_fl_X5_54 : Cond.fieldLink RX5 54 (TX5 19).1 (TX5 19).2.1 (TX5 19).2.2.1 ∈ xmTs := List.mem_filter.mpr ⟨List.mem_of_getElem? (i := 622) (by decide +kernel), by decide +kernel⟩
theorem xw_fl_X5_138 : Cond.fieldLink RX5 138 (TX5 20).1 (TX5 20).2.1 (TX5 20).2.2.1 ∈ xmTs := List.mem_filter.mpr ⟨List.mem_of_getElem? (i := 623) (by decide +kernel), by decide +kernel⟩
theorem xw_fl_X5_142 : Cond.fieldLink RX5 142 (TX5 21).1 (TX5 21).2.1 (TX5 21).2.2.1 ∈ xmTs := List.mem_filter.mpr ⟨List.mem_of_getElem? (i := 624) (by decide +kernel), by decide +kernel⟩
theorem xw_fl_X5_146 : Cond.fieldLink RX5 146 (TX5 22).1 (TX5 22).2.1 (TX5 22).2.2.1 ∈ xmTs := List.mem_filter.mpr ⟨List.mem_of_getElem? (i := 625) (by decide +kernel), by decide +kernel⟩
theorem xw_fl_X5_230 : Cond.fieldLink RX5 230 (TX5 23).1 (TX5 23).2.1 (TX5 23).2.2.1 ∈ xmTs := List.mem_filter.mpr ⟨List.mem_of_getElem? (i := 626) (by decide +kernel), by decide +kernel⟩
theorem xw_fl_X5_240 : Cond.fieldLink RX5 240 (TX5 24).1 (TX5 24).2.1 (TX5 24).2.2.1 ∈ xmTs := List.mem_filter.mpr ⟨List.mem_of_getElem? (i := 627) (by decide +kernel), by decide +kernel⟩
theorem xw_fl_X5_42 : Cond.fieldLink RX5 42 (TX5 25).1 (TX5 25).2.1 (TX5 25).2.2.1 ∈ xmTs := List.mem_filter.mpr ⟨List.mem_of_getElem? (i := 628) (by decide +kernel), by decide +kernel⟩
theorem xw_lay_X5_0 : u_lay RX5 TX5 0 ∈ xmTs := List.mem_filter.mpr ⟨List.mem_of_getElem? (i := 629) (by decide +kernel), by decide +kernel⟩
theorem xw_lay_X5_1 : u_lay RX5 TX5 1 ∈ xmTs := List.mem_filter.mpr ⟨List.mem_of_getElem? (i := 631) (by decide +kernel), by decide +kernel⟩
theorem xw_lay_X5_2 : u_lay RX5 TX5 2 ∈ xmTs := List.mem_filter.mpr ⟨List.mem_of_getElem? (i := 633) (by decide +kernel), by decide +kernel⟩
theorem xw_lay_X5_3 : u_lay RX5 TX5 3 ∈ xmTs := List.mem_filter.mpr ⟨List.mem_of_getElem? (i := 635) (by decide +kernel), by decide +kernel⟩
theorem xw_lay_X5_4 : u_lay RX5 TX5 4 ∈ xmTs := List.mem_filter.mpr ⟨List.mem_of_getElem? (i := 637) (by decide +kernel), by decide +kernel⟩
theorem xw_lay_X5_5 : u_lay RX5 TX5 5 ∈ xmTs := List.mem_filter.mpr ⟨List.mem_of_getElem? (i := 639) (by decide +kernel), by decide +kernel⟩
theorem xw_lay_X5_6 : u_lay RX5 TX5 6 ∈ xmTs := List.mem_filter.mpr ⟨List.mem_of_getElem? (i := 641) (by decide +kernel), by decide +kernel⟩
theorem xw_lay_X5_7 : u_lay RX5 TX5 7 ∈ xmTs := List.mem_filter.mpr ⟨List.mem_of_getElem? (i := 643) (by decide +kernel), by decide +kernel⟩
theorem xw_lay_X5_8 : u_lay RX5 TX5 8 ∈ xmTs := List.mem_filter.mpr ⟨List.mem_of_getElem? (i := 645) (by decide +kernel), by decide +kernel⟩
theorem xw_lay_X5_9 : u_lay RX5 TX5 9 ∈ xmTs := List.mem_filter.mpr ⟨List.mem_of_getElem? (i := 647) (by decide +kernel), by decide +kernel⟩
theorem xw_lay_X5_10 : u_lay RX5 TX5 10 ∈ xmTs := List.mem_filter.mpr ⟨List.mem_of_getElem? (i := 649) (by decide +kernel), by decide +kernel⟩
theorem xw_lay_X5_11 : u_lay RX5 TX5 11 ∈ xmTs := List.mem_filter.mpr ⟨List.mem_of_getElem? (i := 651) (by decide +kernel), by decide +kernel⟩
theorem xw_lay_X5_12 : u_lay RX5 TX5 12 ∈ xmTs := List.mem_filter.mpr ⟨List.mem_of_getElem? (i := 653) (by decide +kernel), by decide +kernel⟩
theorem xw_lay_X5_13 : u_lay RX5 TX5 13 ∈ xmTs := List.mem_filter.mpr ⟨List.mem_of_getElem? (i := 655) (by decide +kernel), by decide +kernel⟩
theorem xw_lay_X5_14 : u_lay RX5 TX5 14 ∈ xmTs := List.mem_filter.mpr ⟨List.mem_of_getElem? (i := 657) (by decide +kernel), by decide +kernel⟩
theorem xw_lay_X5_15 : u_lay RX5 TX5 15 ∈ xmTs := List.mem_filter.mpr ⟨List.mem_of_getElem? (i := 659) (by decide +kernel), by decide +kernel⟩
theorem xw_lay_X5_16 : u_lay RX5 TX5 16 ∈ xmTs := List.mem_filter.mpr ⟨List.mem_of_getElem? (i := 661) (by decide +kernel), by decide +kernel⟩
theorem xw_lay_X5_17 : u_lay RX5 TX5 17 ∈ xmTs := List.mem_filter.mpr ⟨List.mem_of_getElem? (i := 663) (by decide +kernel), by decide +kernel⟩
theorem xw_lay_X5_18 : u_lay RX5 TX5 18 ∈ xmTs := List.mem_filter.mpr ⟨List.mem_of_getElem? (i := 665) (by decide +kernel), by decide +kernel⟩
theorem xw_lay_X5_19 : u_lay RX5 TX5 19 ∈ xmTs := List.mem_filter.mpr ⟨List.mem_of_getElem? (i := 667) (by decide +kernel), by decide +kernel⟩
theorem xw_lay_X5_20 : u_lay RX5 TX5 20 ∈ xmTs := List.mem_filter.mpr ⟨List.mem_of_getElem? (i := 669) (by decide +kernel), by decide +kernel⟩
theorem xw_lay_X5_21 : u_lay RX5 TX5 21 ∈ xmTs := List.mem_filter.mpr ⟨List.mem_of_getElem? (i := 671) (by decide +kernel), by decide +kernel⟩
theorem xw_lay_X5_22 : u_lay RX5 TX5 22 ∈ xmTs := List.mem_filter.mpr ⟨List.mem_of_getElem? (i := 673) (by decide +kernel), by decide +kernel⟩
theorem xw_lay_X5_23 : u_lay RX5 TX5 23 ∈ xmTs := List.mem_filter.mpr ⟨List.mem_of_getElem? (i := 675) (by decide +kernel), by decide +kernel⟩
theorem xw_lay_X5_24 : u_lay RX5 TX5 24 ∈ xmTs := List.mem_filter.mpr ⟨List.mem_of_getElem? (i := 677) (by decide +kernel), by decide +kernel⟩
theorem xw_lay_X5_25 : u_lay RX5 TX5 25 ∈ xmTs := List.mem_filter.mpr ⟨List.mem_of_getElem? (i := 679) (by decide +kernel), by decide +kernel⟩
theorem xw_arr_boolean : Cond.arrayClass (newarray.typeOf .boolean) ∈ xmTs := List.mem_filter.mpr ⟨List.mem_of_getElem? (i := 682) (by decide +kernel), by decide +kernel⟩
theorem xw_ml_L_17 : Cond.methodLink RL 17 yX5_format ∈ xmTs := List.mem_filter.mpr ⟨List.mem_of_getElem? (i := 683) (by decide +kernel), by decide +kernel⟩
theorem xw_ins_X5_format : Cond.instanceMethod yX5_format ∈ xmTs := List.mem_filter.mpr ⟨List.mem_of_getElem? (i := 684) (by decide +kernel), by decide +kernel⟩
theorem xw_sel_X5_format : Cond.selects yX5_format.cls yX5_format yX5_format ∈ xmTs := List.mem_filter.mpr ⟨List.mem_of_getElem? (i := 685) (by decide +kernel), by decide +kernel⟩
theorem xw_cod_X5_format : Cond.code yX5_format cX5_format 8 (some (FieldType.int)) ∈ xmTs := List.mem_filter.mpr ⟨List.mem_of_getElem? (i := 686) (by decide +kernel), by decide +kernel⟩
theorem xw_ml_X5_70 : Cond.methodLink RX5 70 yX5_in ∈ xmTs := List.mem_filter.mpr ⟨List.mem_of_getElem? (i := 687) (by decide +kernel), by decide +kernel⟩
theorem xw_sta_X5_in : Cond.static yX5_in ∈ xmTs := List.mem_filter.mpr ⟨List.mem_of_getElem? (i := 688) (by decide +kernel), by decide +kernel⟩
theorem xw_cod_X5_in : Cond.code yX5_in cX5_in 6 (some (FieldType.boolean)) ∈ xmTs := List.mem_filter.mpr ⟨List.mem_of_getElem? (i := 689) (by decide +kernel), by decide +kernel⟩
theorem xw_cst_X5_103 : Cond.constantLong RX5 103 (4) ∈ xmTs := List.mem_filter.mpr ⟨List.mem_of_getElem? (i := 690) (by decide +kernel), by decide +kernel⟩
theorem xw_cst_X5_105 : Cond.constantLong RX5 105 (5) ∈ xmTs := List.mem_filter.mpr ⟨List.mem_of_getElem? (i := 691) (by decide +kernel), by decide +kernel⟩
theorem xw_cst_X5_107 : Cond.constantLong RX5 107 (15) ∈ xmTs := List.mem_filter.mpr ⟨List.mem_of_getElem? (i := 692) (by decide +kernel), by decide +kernel⟩
theorem xw_cst_X5_90 : Cond.constantLong RX5 90 (2) ∈ xmTs := List.mem_filter.mpr ⟨List.mem_of_getElem? (i := 693) (by decide +kernel), by decide +kernel⟩
theorem xw_ml_X5_57 : Cond.methodLink RX5 57 yX5_refused ∈ xmTs := List.mem_filter.mpr ⟨List.mem_of_getElem? (i := 694) (by decide +kernel), by decide +kernel⟩
theorem xw_ins_X5_refused : Cond.instanceMethod yX5_refused ∈ xmTs := List.mem_filter.mpr ⟨List.mem_of_getElem? (i := 696) (by decide +kernel), by decide +kernel⟩
theorem xw_cod_X5_refused : Cond.code yX5_refused cX5_refused 2 (some (FieldType.int)) ∈ xmTs := List.mem_filter.mpr ⟨List.mem_of_getElem? (i := 697) (by decide +kernel), by decide +kernel⟩
theorem xw_ml_X5_67 : Cond.methodLink RX5 67 yX5_fine ∈ xmTs := List.mem_filter.mpr ⟨List.mem_of_getElem? (i := 698) (by decide +kernel), by decide +kernel⟩
theorem xw_ins_X5_fine : Cond.instanceMethod yX5_fine ∈ xmTs := List.mem_filter.mpr ⟨List.mem_of_getElem? (i := 700) (by decide +kernel), by decide +kernel⟩
theorem xw_cod_X5_fine : Cond.code yX5_fine cX5_fine 2 (some (FieldType.int)) ∈ xmTs := List.mem_filter.mpr ⟨List.mem_of_getElem? (i := 701) (by decide +kernel), by decide +kernel⟩
theorem xw_ml_L_22 : Cond.methodLink RL 22 yX5_about ∈ xmTs := List.mem_filter.mpr ⟨List.mem_of_getElem? (i := 702) (by decide +kernel), by decide +kernel⟩
theorem xw_ins_X5_about : Cond.instanceMethod yX5_about ∈ xmTs := List.mem_filter.mpr ⟨List.mem_of_getElem? (i := 703) (by decide +kernel), by decide +kernel⟩
theorem xw_sel_X5_about : Cond.selects yX5_about.cls yX5_about yX5_about ∈ xmTs := List.mem_filter.mpr ⟨List.mem_of_getElem? (i := 704) (by decide +kernel), by decide +kernel⟩
theorem xw_cod_X5_about : Cond.code yX5_about cX5_about 5 (some (FieldType.int)) ∈ xmTs := List.mem_filter.mpr ⟨List.mem_of_getElem? (i := 705) (by decide +kernel), by decide +kernel⟩
theorem xw_ml_X5_109 : Cond.methodLink RX5 109 yX5_isFormat ∈ xmTs := List.mem_filter.mpr ⟨List.mem_of_getElem? (i := 706) (by decide +kernel), by decide +kernel⟩
theorem xw_ins_X5_isFormat : Cond.instanceMethod yX5_isFormat ∈ xmTs := List.mem_filter.mpr ⟨List.mem_of_getElem? (i := 708) (by decide +kernel), by decide +kernel⟩
theorem xw_cod_X5_isFormat : Cond.code yX5_isFormat cX5_isFormat 2 (some (FieldType.boolean)) ∈ xmTs := List.mem_filter.mpr ⟨List.mem_of_getElem? (i := 709) (by decide +kernel), by decide +kernel⟩
theorem xw_cst_X5_113 : Cond.constantLong RX5 113 (6) ∈ xmTs := List.mem_filter.mpr ⟨List.mem_of_getElem? (i := 710) (by decide +kernel), by decide +kernel⟩
theorem xw_ml_X5_74 : Cond.methodLink RX5 74 yX5_bits ∈ xmTs := List.mem_filter.mpr ⟨List.mem_of_getElem? (i := 711) (by decide +kernel), by decide +kernel⟩
theorem xw_ins_X5_bits : Cond.instanceMethod yX5_bits ∈ xmTs := List.mem_filter.mpr ⟨List.mem_of_getElem? (i := 713) (by decide +kernel), by decide +kernel⟩
theorem xw_cod_X5_bits : Cond.code yX5_bits cX5_bits 2 (some (FieldType.int)) ∈ xmTs := List.mem_filter.mpr ⟨List.mem_of_getElem? (i := 714) (by decide +kernel), by decide +kernel⟩
theorem xw_ml_X5_100 : Cond.methodLink RX5 100 yX5_great ∈ xmTs := List.mem_filter.mpr ⟨List.mem_of_getElem? (i := 715) (by decide +kernel), by decide +kernel⟩
theorem xw_ins_X5_great : Cond.instanceMethod yX5_great ∈ xmTs := List.mem_filter.mpr ⟨List.mem_of_getElem? (i := 717) (by decide +kernel), by decide +kernel⟩
theorem xw_cod_X5_great : Cond.code yX5_great cX5_great 2 (some (FieldType.int)) ∈ xmTs := List.mem_filter.mpr ⟨List.mem_of_getElem? (i := 718) (by decide +kernel), by decide +kernel⟩
theorem xw_ml_X5_84 : Cond.methodLink RX5 84 yX5_allOnes ∈ xmTs := List.mem_filter.mpr ⟨List.mem_of_getElem? (i := 719) (by decide +kernel), by decide +kernel⟩
theorem xw_ins_X5_allOnes : Cond.instanceMethod yX5_allOnes ∈ xmTs := List.mem_filter.mpr ⟨List.mem_of_getElem? (i := 721) (by decide +kernel), by decide +kernel⟩
theorem xw_cod_X5_allOnes : Cond.code yX5_allOnes cX5_allOnes 2 (some (FieldType.int)) ∈ xmTs := List.mem_filter.mpr ⟨List.mem_of_getElem? (i := 722) (by decide +kernel), by decide +kernel⟩
theorem xw_ml_X5_77 : Cond.methodLink RX5 77 yX5_signBit ∈ xmTs := List.mem_filter.mpr ⟨List.mem_of_getElem? (i := 723) (by decide +kernel), by decide +kernel⟩
theorem xw_ins_X5_signBit : Cond.instanceMethod yX5_signBit ∈ xmTs := List.mem_filter.mpr ⟨List.mem_of_getElem? (i := 725) (by decide +kernel), by decide +kernel⟩
theorem xw_cod_X5_signBit : Cond.code yX5_signBit cX5_signBit 2 (some (FieldType.int)) ∈ xmTs := List.mem_filter.mpr ⟨List.mem_of_getElem? (i := 726) (by decide +kernel), by decide +kernel⟩
theorem xw_ml_X5_115 : Cond.methodLink RX5 115 yX5_last ∈ xmTs := List.mem_filter.mpr ⟨List.mem_of_getElem? (i := 727) (by decide +kernel), by decide +kernel⟩
theorem xw_ins_X5_last : Cond.instanceMethod yX5_last ∈ xmTs := List.mem_filter.mpr ⟨List.mem_of_getElem? (i := 729) (by decide +kernel), by decide +kernel⟩
theorem xw_cod_X5_last : Cond.code yX5_last cX5_last 2 (some (FieldType.int)) ∈ xmTs := List.mem_filter.mpr ⟨List.mem_of_getElem? (i := 730) (by decide +kernel), by decide +kernel⟩
theorem xw_ml_X5_118 : Cond.methodLink RX5 118 yX5_noneOf ∈ xmTs := List.mem_filter.mpr ⟨List.mem_of_getElem? (i := 731) (by decide +kernel), by decide +kernel⟩
theorem xw_ins_X5_noneOf : Cond.instanceMethod yX5_noneOf ∈ xmTs := List.mem_filter.mpr ⟨List.mem_of_getElem? (i := 733) (by decide +kernel), by decide +kernel⟩
theorem xw_cod_X5_noneOf : Cond.code yX5_noneOf cX5_noneOf 2 (some (FieldType.int)) ∈ xmTs := List.mem_filter.mpr ⟨List.mem_of_getElem? (i := 734) (by decide +kernel), by decide +kernel⟩
theorem xw_ml_X5_121 : Cond.methodLink RX5 121 yX5_endless ∈ xmTs := List.mem_filter.mpr ⟨List.mem_of_getElem? (i := 735) (by decide +kernel), by decide +kernel⟩
theorem xw_ins_X5_endless : Cond.instanceMethod yX5_endless ∈ xmTs := List.mem_filter.mpr ⟨List.mem_of_getElem? (i := 737) (by decide +kernel), by decide +kernel⟩
theorem xw_cod_X5_endless : Cond.code yX5_endless cX5_endless 2 (some (FieldType.int)) ∈ xmTs := List.mem_filter.mpr ⟨List.mem_of_getElem? (i := 738) (by decide +kernel), by decide +kernel⟩
theorem xw_ml_X5_124 : Cond.methodLink RX5 124 yX5_isNumber ∈ xmTs := List.mem_filter.mpr ⟨List.mem_of_getElem? (i := 739) (by decide +kernel), by decide +kernel⟩
theorem xw_ins_X5_isNumber : Cond.instanceMethod yX5_isNumber ∈ xmTs := List.mem_filter.mpr ⟨List.mem_of_getElem? (i := 741) (by decide +kernel), by decide +kernel⟩
theorem xw_cod_X5_isNumber : Cond.code yX5_isNumber cX5_isNumber 3 (some (FieldType.boolean)) ∈ xmTs := List.mem_filter.mpr ⟨List.mem_of_getElem? (i := 742) (by decide +kernel), by decide +kernel⟩
theorem xw_ml_X5_87 : Cond.methodLink RX5 87 yX5_kindOf ∈ xmTs := List.mem_filter.mpr ⟨List.mem_of_getElem? (i := 743) (by decide +kernel), by decide +kernel⟩
theorem xw_ins_X5_kindOf : Cond.instanceMethod yX5_kindOf ∈ xmTs := List.mem_filter.mpr ⟨List.mem_of_getElem? (i := 745) (by decide +kernel), by decide +kernel⟩
theorem xw_cod_X5_kindOf : Cond.code yX5_kindOf cX5_kindOf 5 (some (FieldType.int)) ∈ xmTs := List.mem_filter.mpr ⟨List.mem_of_getElem? (i := 746) (by decide +kernel), by decide +kernel⟩
theorem xw_ml_X5_80 : Cond.methodLink RX5 80 yX5_plain ∈ xmTs := List.mem_filter.mpr ⟨List.mem_of_getElem? (i := 747) (by decide +kernel), by decide +kernel⟩
theorem xw_ins_X5_plain : Cond.instanceMethod yX5_plain ∈ xmTs := List.mem_filter.mpr ⟨List.mem_of_getElem? (i := 749) (by decide +kernel), by decide +kernel⟩
theorem xw_cod_X5_plain : Cond.code yX5_plain cX5_plain 3 (some (FieldType.int)) ∈ xmTs := List.mem_filter.mpr ⟨List.mem_of_getElem? (i := 750) (by decide +kernel), by decide +kernel⟩
theorem xw_ml_X5_127 : Cond.methodLink RX5 127 yX5_scale ∈ xmTs := List.mem_filter.mpr ⟨List.mem_of_getElem? (i := 751) (by decide +kernel), by decide +kernel⟩
theorem xw_ins_X5_scale : Cond.instanceMethod yX5_scale ∈ xmTs := List.mem_filter.mpr ⟨List.mem_of_getElem? (i := 753) (by decide +kernel), by decide +kernel⟩
theorem xw_cod_X5_scale : Cond.code yX5_scale cX5_scale 2 (some (FieldType.int)) ∈ xmTs := List.mem_filter.mpr ⟨List.mem_of_getElem? (i := 754) (by decide +kernel), by decide +kernel⟩
theorem xw_ml_L_27 : Cond.methodLink RL 27 yX5_kind ∈ xmTs := List.mem_filter.mpr ⟨List.mem_of_getElem? (i := 755) (by decide +kernel), by decide +kernel⟩
theorem xw_ins_X5_kind : Cond.instanceMethod yX5_kind ∈ xmTs := List.mem_filter.mpr ⟨List.mem_of_getElem? (i := 756) (by decide +kernel), by decide +kernel⟩
theorem xw_sel_X5_kind : Cond.selects yX5_kind.cls yX5_kind yX5_kind ∈ xmTs := List.mem_filter.mpr ⟨List.mem_of_getElem? (i := 757) (by decide +kernel), by decide +kernel⟩
theorem xw_cod_X5_kind : Cond.code yX5_kind cX5_kind 4 (some (FieldType.int)) ∈ xmTs := List.mem_filter.mpr ⟨List.mem_of_getElem? (i := 758) (by decide +kernel), by decide +kernel⟩
theorem xw_ml_X5_130 : Cond.methodLink RX5 130 yX5_isCode ∈ xmTs := List.mem_filter.mpr ⟨List.mem_of_getElem? (i := 759) (by decide +kernel), by decide +kernel⟩
theorem xw_ins_X5_isCode : Cond.instanceMethod yX5_isCode ∈ xmTs := List.mem_filter.mpr ⟨List.mem_of_getElem? (i := 761) (by decide +kernel), by decide +kernel⟩
theorem xw_cod_X5_isCode : Cond.code yX5_isCode cX5_isCode 3 (some (FieldType.boolean)) ∈ xmTs := List.mem_filter.mpr ⟨List.mem_of_getElem? (i := 762) (by decide +kernel), by decide +kernel⟩
theorem xw_ml_X5_96 : Cond.methodLink RX5 96 yX5_isMinus ∈ xmTs := List.mem_filter.mpr ⟨List.mem_of_getElem? (i := 763) (by decide +kernel), by decide +kernel⟩
theorem xw_ins_X5_isMinus : Cond.instanceMethod yX5_isMinus ∈ xmTs := List.mem_filter.mpr ⟨List.mem_of_getElem? (i := 765) (by decide +kernel), by decide +kernel⟩
theorem xw_cod_X5_isMinus : Cond.code yX5_isMinus cX5_isMinus 3 (some (FieldType.boolean)) ∈ xmTs := List.mem_filter.mpr ⟨List.mem_of_getElem? (i := 766) (by decide +kernel), by decide +kernel⟩
theorem xw_ml_L_32 : Cond.methodLink RL 32 yX5_units ∈ xmTs := List.mem_filter.mpr ⟨List.mem_of_getElem? (i := 767) (by decide +kernel), by decide +kernel⟩
theorem xw_ins_X5_units : Cond.instanceMethod yX5_units ∈ xmTs := List.mem_filter.mpr ⟨List.mem_of_getElem? (i := 768) (by decide +kernel), by decide +kernel⟩
theorem xw_sel_X5_units : Cond.selects yX5_units.cls yX5_units yX5_units ∈ xmTs := List.mem_filter.mpr ⟨List.mem_of_getElem? (i := 769) (by decide +kernel), by decide +kernel⟩
theorem xw_cod_X5_units : Cond.code yX5_units cX5_units 4 (some (FieldType.long)) ∈ xmTs := List.mem_filter.mpr ⟨List.mem_of_getElem? (i := 770) (by decide +kernel), by decide +kernel⟩
theorem xw_cst_X5_133 : Cond.constantLong RX5 133 (-9223372036854775808) ∈ xmTs := List.mem_filter.mpr ⟨List.mem_of_getElem? (i := 771) (by decide +kernel), by decide +kernel⟩
theorem xw_ml_X5_135 : Cond.methodLink RX5 135 yX5_unitsOf ∈ xmTs := List.mem_filter.mpr ⟨List.mem_of_getElem? (i := 772) (by decide +kernel), by decide +kernel⟩
theorem xw_ins_X5_unitsOf : Cond.instanceMethod yX5_unitsOf ∈ xmTs := List.mem_filter.mpr ⟨List.mem_of_getElem? (i := 774) (by decide +kernel), by decide +kernel⟩
theorem xw_cod_X5_unitsOf : Cond.code yX5_unitsOf cX5_unitsOf 5 (some (FieldType.long)) ∈ xmTs := List.mem_filter.mpr ⟨List.mem_of_getElem? (i := 775) (by decide +kernel), by decide +kernel⟩
theorem xw_ml_X5_92 : Cond.methodLink RX5 92 yX5_size ∈ xmTs := List.mem_filter.mpr ⟨List.mem_of_getElem? (i := 776) (by decide +kernel), by decide +kernel⟩
theorem xw_ins_X5_size : Cond.instanceMethod yX5_size ∈ xmTs := List.mem_filter.mpr ⟨List.mem_of_getElem? (i := 778) (by decide +kernel), by decide +kernel⟩
theorem xw_cod_X5_size : Cond.code yX5_size cX5_size 6 (some (FieldType.long)) ∈ xmTs := List.mem_filter.mpr ⟨List.mem_of_getElem? (i := 779) (by decide +kernel), by decide +kernel⟩
theorem xw_ml_L_39 : Cond.methodLink RL 39 yX5_code ∈ xmTs := List.mem_filter.mpr ⟨List.mem_of_getElem? (i := 780) (by decide +kernel), by decide +kernel⟩
theorem xw_ins_X5_code : Cond.instanceMethod yX5_code ∈ xmTs := List.mem_filter.mpr ⟨List.mem_of_getElem? (i := 781) (by decide +kernel), by decide +kernel⟩
theorem xw_sel_X5_code : Cond.selects yX5_code.cls yX5_code yX5_code ∈ xmTs := List.mem_filter.mpr ⟨List.mem_of_getElem? (i := 782) (by decide +kernel), by decide +kernel⟩
theorem xw_cod_X5_code : Cond.code yX5_code cX5_code 7 (some (FieldType.int)) ∈ xmTs := List.mem_filter.mpr ⟨List.mem_of_getElem? (i := 783) (by decide +kernel), by decide +kernel⟩
theorem xw_cst_X5_170 : Cond.constantLong RX5 170 (-1099511627776) ∈ xmTs := List.mem_filter.mpr ⟨List.mem_of_getElem? (i := 784) (by decide +kernel), by decide +kernel⟩
theorem xw_cst_X5_172 : Cond.constantLong RX5 172 (1099511627776) ∈ xmTs := List.mem_filter.mpr ⟨List.mem_of_getElem? (i := 785) (by decide +kernel), by decide +kernel⟩
theorem xw_cst_X5_174 : Cond.constantLong RX5 174 (1048576) ∈ xmTs := List.mem_filter.mpr ⟨List.mem_of_getElem? (i := 786) (by decide +kernel), by decide +kernel⟩
theorem xw_ml_X5_176 : Cond.methodLink RX5 176 yX5_begins ∈ xmTs := List.mem_filter.mpr ⟨List.mem_of_getElem? (i := 787) (by decide +kernel), by decide +kernel⟩
theorem xw_ins_X5_begins : Cond.instanceMethod yX5_begins ∈ xmTs := List.mem_filter.mpr ⟨List.mem_of_getElem? (i := 789) (by decide +kernel), by decide +kernel⟩
theorem xw_cod_X5_begins : Cond.code yX5_begins cX5_begins 1 none ∈ xmTs := List.mem_filter.mpr ⟨List.mem_of_getElem? (i := 790) (by decide +kernel), by decide +kernel⟩
theorem xw_ml_X5_179 : Cond.methodLink RX5 179 yX5_roundedFraction ∈ xmTs := List.mem_filter.mpr ⟨List.mem_of_getElem? (i := 791) (by decide +kernel), by decide +kernel⟩
theorem xw_ins_X5_roundedFraction : Cond.instanceMethod yX5_roundedFraction ∈ xmTs := List.mem_filter.mpr ⟨List.mem_of_getElem? (i := 793) (by decide +kernel), by decide +kernel⟩
theorem xw_cod_X5_roundedFraction : Cond.code yX5_roundedFraction cX5_roundedFraction 8 (some (FieldType.int)) ∈ xmTs := List.mem_filter.mpr ⟨List.mem_of_getElem? (i := 794) (by decide +kernel), by decide +kernel⟩
theorem xw_ml_X5_149 : Cond.methodLink RX5 149 yX5_signed ∈ xmTs := List.mem_filter.mpr ⟨List.mem_of_getElem? (i := 795) (by decide +kernel), by decide +kernel⟩
theorem xw_ins_X5_signed : Cond.instanceMethod yX5_signed ∈ xmTs := List.mem_filter.mpr ⟨List.mem_of_getElem? (i := 797) (by decide +kernel), by decide +kernel⟩
theorem xw_cod_X5_signed : Cond.code yX5_signed cX5_signed 4 (some (FieldType.int)) ∈ xmTs := List.mem_filter.mpr ⟨List.mem_of_getElem? (i := 798) (by decide +kernel), by decide +kernel⟩
theorem xw_ml_X5_167 : Cond.methodLink RX5 167 yX5_rounded ∈ xmTs := List.mem_filter.mpr ⟨List.mem_of_getElem? (i := 799) (by decide +kernel), by decide +kernel⟩
theorem xw_ins_X5_rounded : Cond.instanceMethod yX5_rounded ∈ xmTs := List.mem_filter.mpr ⟨List.mem_of_getElem? (i := 801) (by decide +kernel), by decide +kernel⟩
theorem xw_cod_X5_rounded : Cond.code yX5_rounded cX5_rounded 9 (some (FieldType.int)) ∈ xmTs := List.mem_filter.mpr ⟨List.mem_of_getElem? (i := 802) (by decide +kernel), by decide +kernel⟩
theorem xw_ml_X5_155 : Cond.methodLink RX5 155 yX5_twiceBeside ∈ xmTs := List.mem_filter.mpr ⟨List.mem_of_getElem? (i := 803) (by decide +kernel), by decide +kernel⟩
theorem xw_ins_X5_twiceBeside : Cond.instanceMethod yX5_twiceBeside ∈ xmTs := List.mem_filter.mpr ⟨List.mem_of_getElem? (i := 805) (by decide +kernel), by decide +kernel⟩
theorem xw_cod_X5_twiceBeside : Cond.code yX5_twiceBeside cX5_twiceBeside 7 (some (FieldType.int)) ∈ xmTs := List.mem_filter.mpr ⟨List.mem_of_getElem? (i := 806) (by decide +kernel), by decide +kernel⟩
theorem xw_ml_X5_163 : Cond.methodLink RX5 163 yX5_roundedAbove ∈ xmTs := List.mem_filter.mpr ⟨List.mem_of_getElem? (i := 807) (by decide +kernel), by decide +kernel⟩
theorem xw_ins_X5_roundedAbove : Cond.instanceMethod yX5_roundedAbove ∈ xmTs := List.mem_filter.mpr ⟨List.mem_of_getElem? (i := 809) (by decide +kernel), by decide +kernel⟩
theorem xw_cod_X5_roundedAbove : Cond.code yX5_roundedAbove cX5_roundedAbove 7 (some (FieldType.int)) ∈ xmTs := List.mem_filter.mpr ⟨List.mem_of_getElem? (i := 810) (by decide +kernel), by decide +kernel⟩
theorem xw_cst_X5_153 : Cond.constantLong RX5 153 (3) ∈ xmTs := List.mem_filter.mpr ⟨List.mem_of_getElem? (i := 811) (by decide +kernel), by decide +kernel⟩
theorem xw_ml_X5_159 : Cond.methodLink RX5 159 yX5_beyond ∈ xmTs := List.mem_filter.mpr ⟨List.mem_of_getElem? (i := 812) (by decide +kernel), by decide +kernel⟩
theorem xw_ins_X5_beyond : Cond.instanceMethod yX5_beyond ∈ xmTs := List.mem_filter.mpr ⟨List.mem_of_getElem? (i := 814) (by decide +kernel), by decide +kernel⟩
theorem xw_cod_X5_beyond : Cond.code yX5_beyond cX5_beyond 3 (some (FieldType.int)) ∈ xmTs := List.mem_filter.mpr ⟨List.mem_of_getElem? (i := 815) (by decide +kernel), by decide +kernel⟩
theorem xw_ml_X5_183 : Cond.methodLink RX5 183 yX5_ends ∈ xmTs := List.mem_filter.mpr ⟨List.mem_of_getElem? (i := 816) (by decide +kernel), by decide +kernel⟩
theorem xw_ins_X5_ends : Cond.instanceMethod yX5_ends ∈ xmTs := List.mem_filter.mpr ⟨List.mem_of_getElem? (i := 818) (by decide +kernel), by decide +kernel⟩
theorem xw_cod_X5_ends : Cond.code yX5_ends cX5_ends 2 (some (FieldType.int)) ∈ xmTs := List.mem_filter.mpr ⟨List.mem_of_getElem? (i := 819) (by decide +kernel), by decide +kernel⟩
theorem xw_ml_L_44 : Cond.methodLink RL 44 yX5_cross ∈ xmTs := List.mem_filter.mpr ⟨List.mem_of_getElem? (i := 820) (by decide +kernel), by decide +kernel⟩
theorem xw_ins_X5_cross : Cond.instanceMethod yX5_cross ∈ xmTs := List.mem_filter.mpr ⟨List.mem_of_getElem? (i := 821) (by decide +kernel), by decide +kernel⟩
theorem xw_sel_X5_cross : Cond.selects yX5_cross.cls yX5_cross yX5_cross ∈ xmTs := List.mem_filter.mpr ⟨List.mem_of_getElem? (i := 822) (by decide +kernel), by decide +kernel⟩
theorem xw_cod_X5_cross : Cond.code yX5_cross cX5_cross 5 (some (FieldType.int)) ∈ xmTs := List.mem_filter.mpr ⟨List.mem_of_getElem? (i := 823) (by decide +kernel), by decide +kernel⟩
theorem xw_ml_X5_192 : Cond.methodLink RX5 192 yX5_crossed ∈ xmTs := List.mem_filter.mpr ⟨List.mem_of_getElem? (i := 824) (by decide +kernel), by decide +kernel⟩
theorem xw_ins_X5_crossed : Cond.instanceMethod yX5_crossed ∈ xmTs := List.mem_filter.mpr ⟨List.mem_of_getElem? (i := 826) (by decide +kernel), by decide +kernel⟩
theorem xw_cod_X5_crossed : Cond.code yX5_crossed cX5_crossed 10 (some (FieldType.int)) ∈ xmTs := List.mem_filter.mpr ⟨List.mem_of_getElem? (i := 827) (by decide +kernel), by decide +kernel⟩
theorem xw_ml_X5_189 : Cond.methodLink RX5 189 yX5_invalidIn ∈ xmTs := List.mem_filter.mpr ⟨List.mem_of_getElem? (i := 828) (by decide +kernel), by decide +kernel⟩
theorem xw_ins_X5_invalidIn : Cond.instanceMethod yX5_invalidIn ∈ xmTs := List.mem_filter.mpr ⟨List.mem_of_getElem? (i := 830) (by decide +kernel), by decide +kernel⟩
theorem xw_cod_X5_invalidIn : Cond.code yX5_invalidIn cX5_invalidIn 2 (some (FieldType.int)) ∈ xmTs := List.mem_filter.mpr ⟨List.mem_of_getElem? (i := 831) (by decide +kernel), by decide +kernel⟩
theorem xw_ml_L_49 : Cond.methodLink RL 49 yX5_act ∈ xmTs := List.mem_filter.mpr ⟨List.mem_of_getElem? (i := 832) (by decide +kernel), by decide +kernel⟩
theorem xw_ins_X5_act : Cond.instanceMethod yX5_act ∈ xmTs := List.mem_filter.mpr ⟨List.mem_of_getElem? (i := 833) (by decide +kernel), by decide +kernel⟩
theorem xw_sel_X5_act : Cond.selects yX5_act.cls yX5_act yX5_act ∈ xmTs := List.mem_filter.mpr ⟨List.mem_of_getElem? (i := 834) (by decide +kernel), by decide +kernel⟩
theorem xw_cod_X5_act : Cond.code yX5_act cX5_act 6 (some (FieldType.int)) ∈ xmTs := List.mem_filter.mpr ⟨List.mem_of_getElem? (i := 835) (by decide +kernel), by decide +kernel⟩
theorem xw_ml_X5_226 : Cond.methodLink RX5 226 yX5_acted ∈ xmTs := List.mem_filter.mpr ⟨List.mem_of_getElem? (i := 836) (by decide +kernel), by decide +kernel⟩
theorem xw_ins_X5_acted : Cond.instanceMethod yX5_acted ∈ xmTs := List.mem_filter.mpr ⟨List.mem_of_getElem? (i := 838) (by decide +kernel), by decide +kernel⟩
theorem xw_cod_X5_acted : Cond.code yX5_acted cX5_acted 6 (some (FieldType.int)) ∈ xmTs := List.mem_filter.mpr ⟨List.mem_of_getElem? (i := 839) (by decide +kernel), by decide +kernel⟩
theorem xw_ml_X5_210 : Cond.methodLink RX5 210 yX5_summed ∈ xmTs := List.mem_filter.mpr ⟨List.mem_of_getElem? (i := 840) (by decide +kernel), by decide +kernel⟩
theorem xw_ins_X5_summed : Cond.instanceMethod yX5_summed ∈ xmTs := List.mem_filter.mpr ⟨List.mem_of_getElem? (i := 842) (by decide +kernel), by decide +kernel⟩
theorem xw_cod_X5_summed : Cond.code yX5_summed cX5_summed 12 (some (FieldType.int)) ∈ xmTs := List.mem_filter.mpr ⟨List.mem_of_getElem? (i := 843) (by decide +kernel), by decide +kernel⟩
theorem xw_ml_X5_200 : Cond.methodLink RX5 200 yX5_isEndless ∈ xmTs := List.mem_filter.mpr ⟨List.mem_of_getElem? (i := 844) (by decide +kernel), by decide +kernel⟩
theorem xw_ins_X5_isEndless : Cond.instanceMethod yX5_isEndless ∈ xmTs := List.mem_filter.mpr ⟨List.mem_of_getElem? (i := 846) (by decide +kernel), by decide +kernel⟩
theorem xw_cod_X5_isEndless : Cond.code yX5_isEndless cX5_isEndless 3 (some (FieldType.boolean)) ∈ xmTs := List.mem_filter.mpr ⟨List.mem_of_getElem? (i := 847) (by decide +kernel), by decide +kernel⟩
theorem xw_ml_X5_206 : Cond.methodLink RX5 206 yX5_endlessSum ∈ xmTs := List.mem_filter.mpr ⟨List.mem_of_getElem? (i := 848) (by decide +kernel), by decide +kernel⟩
theorem xw_ins_X5_endlessSum : Cond.instanceMethod yX5_endlessSum ∈ xmTs := List.mem_filter.mpr ⟨List.mem_of_getElem? (i := 850) (by decide +kernel), by decide +kernel⟩
theorem xw_cod_X5_endlessSum : Cond.code yX5_endlessSum cX5_endlessSum 6 (some (FieldType.int)) ∈ xmTs := List.mem_filter.mpr ⟨List.mem_of_getElem? (i := 851) (by decide +kernel), by decide +kernel⟩
theorem xw_ml_X5_203 : Cond.methodLink RX5 203 yX5_endlessOr ∈ xmTs := List.mem_filter.mpr ⟨List.mem_of_getElem? (i := 852) (by decide +kernel), by decide +kernel⟩
theorem xw_ins_X5_endlessOr : Cond.instanceMethod yX5_endlessOr ∈ xmTs := List.mem_filter.mpr ⟨List.mem_of_getElem? (i := 854) (by decide +kernel), by decide +kernel⟩
theorem xw_cod_X5_endlessOr : Cond.code yX5_endlessOr cX5_endlessOr 3 (some (FieldType.int)) ∈ xmTs := List.mem_filter.mpr ⟨List.mem_of_getElem? (i := 855) (by decide +kernel), by decide +kernel⟩
theorem xw_ml_X5_214 : Cond.methodLink RX5 214 yX5_multiplied ∈ xmTs := List.mem_filter.mpr ⟨List.mem_of_getElem? (i := 856) (by decide +kernel), by decide +kernel⟩
theorem xw_ins_X5_multiplied : Cond.instanceMethod yX5_multiplied ∈ xmTs := List.mem_filter.mpr ⟨List.mem_of_getElem? (i := 858) (by decide +kernel), by decide +kernel⟩
theorem xw_cod_X5_multiplied : Cond.code yX5_multiplied cX5_multiplied 6 (some (FieldType.int)) ∈ xmTs := List.mem_filter.mpr ⟨List.mem_of_getElem? (i := 859) (by decide +kernel), by decide +kernel⟩
theorem xw_ml_X5_217 : Cond.methodLink RX5 217 yX5_divided ∈ xmTs := List.mem_filter.mpr ⟨List.mem_of_getElem? (i := 860) (by decide +kernel), by decide +kernel⟩
theorem xw_ins_X5_divided : Cond.instanceMethod yX5_divided ∈ xmTs := List.mem_filter.mpr ⟨List.mem_of_getElem? (i := 862) (by decide +kernel), by decide +kernel⟩
theorem xw_cod_X5_divided : Cond.code yX5_divided cX5_divided 12 (some (FieldType.int)) ∈ xmTs := List.mem_filter.mpr ⟨List.mem_of_getElem? (i := 863) (by decide +kernel), by decide +kernel⟩
theorem xw_ml_X5_220 : Cond.methodLink RX5 220 yX5_rooted ∈ xmTs := List.mem_filter.mpr ⟨List.mem_of_getElem? (i := 864) (by decide +kernel), by decide +kernel⟩
theorem xw_ins_X5_rooted : Cond.instanceMethod yX5_rooted ∈ xmTs := List.mem_filter.mpr ⟨List.mem_of_getElem? (i := 866) (by decide +kernel), by decide +kernel⟩
theorem xw_cod_X5_rooted : Cond.code yX5_rooted cX5_rooted 4 (some (FieldType.int)) ∈ xmTs := List.mem_filter.mpr ⟨List.mem_of_getElem? (i := 867) (by decide +kernel), by decide +kernel⟩
theorem xw_ml_X5_223 : Cond.methodLink RX5 223 yX5_lesser ∈ xmTs := List.mem_filter.mpr ⟨List.mem_of_getElem? (i := 868) (by decide +kernel), by decide +kernel⟩
theorem xw_ins_X5_lesser : Cond.instanceMethod yX5_lesser ∈ xmTs := List.mem_filter.mpr ⟨List.mem_of_getElem? (i := 870) (by decide +kernel), by decide +kernel⟩
theorem xw_cod_X5_lesser : Cond.code yX5_lesser cX5_lesser 6 (some (FieldType.int)) ∈ xmTs := List.mem_filter.mpr ⟨List.mem_of_getElem? (i := 871) (by decide +kernel), by decide +kernel⟩
theorem xw_ml_X5_196 : Cond.methodLink RX5 196 yX5_beside ∈ xmTs := List.mem_filter.mpr ⟨List.mem_of_getElem? (i := 872) (by decide +kernel), by decide +kernel⟩
theorem xw_ins_X5_beside : Cond.instanceMethod yX5_beside ∈ xmTs := List.mem_filter.mpr ⟨List.mem_of_getElem? (i := 874) (by decide +kernel), by decide +kernel⟩
theorem xw_cod_X5_beside : Cond.code yX5_beside cX5_beside 8 (some (FieldType.int)) ∈ xmTs := List.mem_filter.mpr ⟨List.mem_of_getElem? (i := 875) (by decide +kernel), by decide +kernel⟩
theorem xw_ml_L_53 : Cond.methodLink RL 53 yX5_fused ∈ xmTs := List.mem_filter.mpr ⟨List.mem_of_getElem? (i := 876) (by decide +kernel), by decide +kernel⟩
theorem xw_ins_X5_fused : Cond.instanceMethod yX5_fused ∈ xmTs := List.mem_filter.mpr ⟨List.mem_of_getElem? (i := 877) (by decide +kernel), by decide +kernel⟩
theorem xw_sel_X5_fused : Cond.selects yX5_fused.cls yX5_fused yX5_fused ∈ xmTs := List.mem_filter.mpr ⟨List.mem_of_getElem? (i := 878) (by decide +kernel), by decide +kernel⟩
theorem xw_cod_X5_fused : Cond.code yX5_fused cX5_fused 9 (some (FieldType.int)) ∈ xmTs := List.mem_filter.mpr ⟨List.mem_of_getElem? (i := 879) (by decide +kernel), by decide +kernel⟩
theorem xw_ml_X5_243 : Cond.methodLink RX5 243 yX5_comesProduct ∈ xmTs := List.mem_filter.mpr ⟨List.mem_of_getElem? (i := 880) (by decide +kernel), by decide +kernel⟩
theorem xw_ins_X5_comesProduct : Cond.instanceMethod yX5_comesProduct ∈ xmTs := List.mem_filter.mpr ⟨List.mem_of_getElem? (i := 882) (by decide +kernel), by decide +kernel⟩
theorem xw_cod_X5_comesProduct : Cond.code yX5_comesProduct cX5_comesProduct 6 none ∈ xmTs := List.mem_filter.mpr ⟨List.mem_of_getElem? (i := 883) (by decide +kernel), by decide +kernel⟩
theorem xw_ml_X5_233 : Cond.methodLink RX5 233 yX5_comesNone ∈ xmTs := List.mem_filter.mpr ⟨List.mem_of_getElem? (i := 884) (by decide +kernel), by decide +kernel⟩
theorem xw_ins_X5_comesNone : Cond.instanceMethod yX5_comesNone ∈ xmTs := List.mem_filter.mpr ⟨List.mem_of_getElem? (i := 886) (by decide +kernel), by decide +kernel⟩
theorem xw_cod_X5_comesNone : Cond.code yX5_comesNone cX5_comesNone 3 none ∈ xmTs := List.mem_filter.mpr ⟨List.mem_of_getElem? (i := 887) (by decide +kernel), by decide +kernel⟩
theorem xw_ml_X5_237 : Cond.methodLink RX5 237 yX5_comesEndless ∈ xmTs := List.mem_filter.mpr ⟨List.mem_of_getElem? (i := 888) (by decide +kernel), by decide +kernel⟩
theorem xw_ins_X5_comesEndless : Cond.instanceMethod yX5_comesEndless ∈ xmTs := List.mem_filter.mpr ⟨List.mem_of_getElem? (i := 890) (by decide +kernel), by decide +kernel⟩
theorem xw_cod_X5_comesEndless : Cond.code yX5_comesEndless cX5_comesEndless 3 none ∈ xmTs := List.mem_filter.mpr ⟨List.mem_of_getElem? (i := 891) (by decide +kernel), by decide +kernel⟩
theorem xw_ml_X5_247 : Cond.methodLink RX5 247 yX5_comes ∈ xmTs := List.mem_filter.mpr ⟨List.mem_of_getElem? (i := 892) (by decide +kernel), by decide +kernel⟩
theorem xw_ins_X5_comes : Cond.instanceMethod yX5_comes ∈ xmTs := List.mem_filter.mpr ⟨List.mem_of_getElem? (i := 894) (by decide +kernel), by decide +kernel⟩
theorem xw_cod_X5_comes : Cond.code yX5_comes cX5_comes 6 none ∈ xmTs := List.mem_filter.mpr ⟨List.mem_of_getElem? (i := 895) (by decide +kernel), by decide +kernel⟩
theorem xw_ml_X5_251 : Cond.methodLink RX5 251 yX5_whatCame ∈ xmTs := List.mem_filter.mpr ⟨List.mem_of_getElem? (i := 896) (by decide +kernel), by decide +kernel⟩
theorem xw_ins_X5_whatCame : Cond.instanceMethod yX5_whatCame ∈ xmTs := List.mem_filter.mpr ⟨List.mem_of_getElem? (i := 898) (by decide +kernel), by decide +kernel⟩
theorem xw_cod_X5_whatCame : Cond.code yX5_whatCame cX5_whatCame 6 (some (FieldType.int)) ∈ xmTs := List.mem_filter.mpr ⟨List.mem_of_getElem? (i := 899) (by decide +kernel), by decide +kernel⟩
theorem xw_ml_L_58 : Cond.methodLink RL 58 yX5_next ∈ xmTs := List.mem_filter.mpr ⟨List.mem_of_getElem? (i := 900) (by decide +kernel), by decide +kernel⟩
theorem xw_ins_X5_next : Cond.instanceMethod yX5_next ∈ xmTs := List.mem_filter.mpr ⟨List.mem_of_getElem? (i := 901) (by decide +kernel), by decide +kernel⟩
theorem xw_sel_X5_next : Cond.selects yX5_next.cls yX5_next yX5_next ∈ xmTs := List.mem_filter.mpr ⟨List.mem_of_getElem? (i := 902) (by decide +kernel), by decide +kernel⟩
theorem xw_cod_X5_next : Cond.code yX5_next cX5_next 7 (some (FieldType.int)) ∈ xmTs := List.mem_filter.mpr ⟨List.mem_of_getElem? (i := 903) (by decide +kernel), by decide +kernel⟩
theorem xw_ml_L_62 : Cond.methodLink RL 62 yX5_order ∈ xmTs := List.mem_filter.mpr ⟨List.mem_of_getElem? (i := 904) (by decide +kernel), by decide +kernel⟩
theorem xw_ins_X5_order : Cond.instanceMethod yX5_order ∈ xmTs := List.mem_filter.mpr ⟨List.mem_of_getElem? (i := 905) (by decide +kernel), by decide +kernel⟩
theorem xw_sel_X5_order : Cond.selects yX5_order.cls yX5_order yX5_order ∈ xmTs := List.mem_filter.mpr ⟨List.mem_of_getElem? (i := 906) (by decide +kernel), by decide +kernel⟩
theorem xw_cod_X5_order : Cond.code yX5_order cX5_order 4 (some (FieldType.int)) ∈ xmTs := List.mem_filter.mpr ⟨List.mem_of_getElem? (i := 907) (by decide +kernel), by decide +kernel⟩
theorem xw_ml_L_67 : Cond.methodLink RL 67 yX5_numbers ∈ xmTs := List.mem_filter.mpr ⟨List.mem_of_getElem? (i := 908) (by decide +kernel), by decide +kernel⟩
theorem xw_ins_X5_numbers : Cond.instanceMethod yX5_numbers ∈ xmTs := List.mem_filter.mpr ⟨List.mem_of_getElem? (i := 909) (by decide +kernel), by decide +kernel⟩
theorem xw_sel_X5_numbers : Cond.selects yX5_numbers.cls yX5_numbers yX5_numbers ∈ xmTs := List.mem_filter.mpr ⟨List.mem_of_getElem? (i := 910) (by decide +kernel), by decide +kernel⟩
theorem xw_cod_X5_numbers : Cond.code yX5_numbers cX5_numbers 8 (some (FieldType.int)) ∈ xmTs := List.mem_filter.mpr ⟨List.mem_of_getElem? (i := 911) (by decide +kernel), by decide +kernel⟩
theorem xw_ml_L_71 : Cond.methodLink RL 71 yX5_row ∈ xmTs := List.mem_filter.mpr ⟨List.mem_of_getElem? (i := 912) (by decide +kernel), by decide +kernel⟩
theorem xw_ins_X5_row : Cond.instanceMethod yX5_row ∈ xmTs := List.mem_filter.mpr ⟨List.mem_of_getElem? (i := 913) (by decide +kernel), by decide +kernel⟩
theorem xw_sel_X5_row : Cond.selects yX5_row.cls yX5_row yX5_row ∈ xmTs := List.mem_filter.mpr ⟨List.mem_of_getElem? (i := 914) (by decide +kernel), by decide +kernel⟩
theorem xw_cod_X5_row : Cond.code yX5_row cX5_row 5 (some (FieldType.int)) ∈ xmTs := List.mem_filter.mpr ⟨List.mem_of_getElem? (i := 915) (by decide +kernel), by decide +kernel⟩
theorem xw_cst_X5_255 : Cond.constantLong RX5 255 (16) ∈ xmTs := List.mem_filter.mpr ⟨List.mem_of_getElem? (i := 916) (by decide +kernel), by decide +kernel⟩
theorem xw_ml_L_75 : Cond.methodLink RL 75 yX5_put ∈ xmTs := List.mem_filter.mpr ⟨List.mem_of_getElem? (i := 917) (by decide +kernel), by decide +kernel⟩
theorem xw_ins_X5_put : Cond.instanceMethod yX5_put ∈ xmTs := List.mem_filter.mpr ⟨List.mem_of_getElem? (i := 918) (by decide +kernel), by decide +kernel⟩
theorem xw_sel_X5_put : Cond.selects yX5_put.cls yX5_put yX5_put ∈ xmTs := List.mem_filter.mpr ⟨List.mem_of_getElem? (i := 919) (by decide +kernel), by decide +kernel⟩
theorem xw_cod_X5_put : Cond.code yX5_put cX5_put 5 (some (FieldType.int)) ∈ xmTs := List.mem_filter.mpr ⟨List.mem_of_getElem? (i := 920) (by decide +kernel), by decide +kernel⟩
theorem xw_ml_X5_257 : Cond.methodLink RX5 257 yX5_isRow ∈ xmTs := List.mem_filter.mpr ⟨List.mem_of_getElem? (i := 921) (by decide +kernel), by decide +kernel⟩
theorem xw_ins_X5_isRow : Cond.instanceMethod yX5_isRow ∈ xmTs := List.mem_filter.mpr ⟨List.mem_of_getElem? (i := 923) (by decide +kernel), by decide +kernel⟩
theorem xw_cod_X5_isRow : Cond.code yX5_isRow cX5_isRow 2 (some (FieldType.boolean)) ∈ xmTs := List.mem_filter.mpr ⟨List.mem_of_getElem? (i := 924) (by decide +kernel), by decide +kernel⟩
theorem xw_ml_L_79 : Cond.methodLink RL 79 yX5_at ∈ xmTs := List.mem_filter.mpr ⟨List.mem_of_getElem? (i := 925) (by decide +kernel), by decide +kernel⟩
theorem xw_ins_X5_at : Cond.instanceMethod yX5_at ∈ xmTs := List.mem_filter.mpr ⟨List.mem_of_getElem? (i := 926) (by decide +kernel), by decide +kernel⟩
theorem xw_sel_X5_at : Cond.selects yX5_at.cls yX5_at yX5_at ∈ xmTs := List.mem_filter.mpr ⟨List.mem_of_getElem? (i := 927) (by decide +kernel), by decide +kernel⟩
theorem xw_cod_X5_at : Cond.code yX5_at cX5_at 3 (some (FieldType.int)) ∈ xmTs := List.mem_filter.mpr ⟨List.mem_of_getElem? (i := 928) (by decide +kernel), by decide +kernel⟩
theorem xw_ml_L_83 : Cond.methodLink RL 83 yX5_packed ∈ xmTs := List.mem_filter.mpr ⟨List.mem_of_getElem? (i := 929) (by decide +kernel), by decide +kernel⟩
theorem xw_ins_X5_packed : Cond.instanceMethod yX5_packed ∈ xmTs := List.mem_filter.mpr ⟨List.mem_of_getElem? (i := 930) (by decide +kernel), by decide +kernel⟩
theorem xw_sel_X5_packed : Cond.selects yX5_packed.cls yX5_packed yX5_packed ∈ xmTs := List.mem_filter.mpr ⟨List.mem_of_getElem? (i := 931) (by decide +kernel), by decide +kernel⟩
theorem xw_cod_X5_packed : Cond.code yX5_packed cX5_packed 9 (some (FieldType.int)) ∈ xmTs := List.mem_filter.mpr ⟨List.mem_of_getElem? (i := 932) (by decide +kernel), by decide +kernel⟩
theorem xw_ml_L_87 : Cond.methodLink RL 87 yX5_quantise ∈ xmTs := List.mem_filter.mpr ⟨List.mem_of_getElem? (i := 933) (by decide +kernel), by decide +kernel⟩
theorem xw_ins_X5_quantise : Cond.instanceMethod yX5_quantise ∈ xmTs := List.mem_filter.mpr ⟨List.mem_of_getElem? (i := 934) (by decide +kernel), by decide +kernel⟩
theorem xw_sel_X5_quantise : Cond.selects yX5_quantise.cls yX5_quantise yX5_quantise ∈ xmTs := List.mem_filter.mpr ⟨List.mem_of_getElem? (i := 935) (by decide +kernel), by decide +kernel⟩
theorem xw_cod_X5_quantise : Cond.code yX5_quantise cX5_quantise 6 (some (FieldType.int)) ∈ xmTs := List.mem_filter.mpr ⟨List.mem_of_getElem? (i := 936) (by decide +kernel), by decide +kernel⟩
theorem xw_ml_L_91 : Cond.methodLink RL 91 yX5_worst ∈ xmTs := List.mem_filter.mpr ⟨List.mem_of_getElem? (i := 937) (by decide +kernel), by decide +kernel⟩
theorem xw_ins_X5_worst : Cond.instanceMethod yX5_worst ∈ xmTs := List.mem_filter.mpr ⟨List.mem_of_getElem? (i := 938) (by decide +kernel), by decide +kernel⟩
theorem xw_sel_X5_worst : Cond.selects yX5_worst.cls yX5_worst yX5_worst ∈ xmTs := List.mem_filter.mpr ⟨List.mem_of_getElem? (i := 939) (by decide +kernel), by decide +kernel⟩
theorem xw_cod_X5_worst : Cond.code yX5_worst cX5_worst 14 (some (FieldType.int)) ∈ xmTs := List.mem_filter.mpr ⟨List.mem_of_getElem? (i := 940) (by decide +kernel), by decide +kernel⟩
theorem xw_ml_L_95 : Cond.methodLink RL 95 yX5_sum ∈ xmTs := List.mem_filter.mpr ⟨List.mem_of_getElem? (i := 941) (by decide +kernel), by decide +kernel⟩
theorem xw_ins_X5_sum : Cond.instanceMethod yX5_sum ∈ xmTs := List.mem_filter.mpr ⟨List.mem_of_getElem? (i := 942) (by decide +kernel), by decide +kernel⟩
theorem xw_sel_X5_sum : Cond.selects yX5_sum.cls yX5_sum yX5_sum ∈ xmTs := List.mem_filter.mpr ⟨List.mem_of_getElem? (i := 943) (by decide +kernel), by decide +kernel⟩
theorem xw_cod_X5_sum : Cond.code yX5_sum cX5_sum 7 (some (FieldType.int)) ∈ xmTs := List.mem_filter.mpr ⟨List.mem_of_getElem? (i := 944) (by decide +kernel), by decide +kernel⟩
theorem xw_ml_L_100 : Cond.methodLink RL 100 yX5_dot ∈ xmTs := List.mem_filter.mpr ⟨List.mem_of_getElem? (i := 945) (by decide +kernel), by decide +kernel⟩
theorem xw_ins_X5_dot : Cond.instanceMethod yX5_dot ∈ xmTs := List.mem_filter.mpr ⟨List.mem_of_getElem? (i := 946) (by decide +kernel), by decide +kernel⟩
theorem xw_sel_X5_dot : Cond.selects yX5_dot.cls yX5_dot yX5_dot ∈ xmTs := List.mem_filter.mpr ⟨List.mem_of_getElem? (i := 947) (by decide +kernel), by decide +kernel⟩
theorem xw_cod_X5_dot : Cond.code yX5_dot cX5_dot 10 (some (FieldType.int)) ∈ xmTs := List.mem_filter.mpr ⟨List.mem_of_getElem? (i := 948) (by decide +kernel), by decide +kernel⟩
theorem xw_ml_L_104 : Cond.methodLink RL 104 yX5_table ∈ xmTs := List.mem_filter.mpr ⟨List.mem_of_getElem? (i := 949) (by decide +kernel), by decide +kernel⟩
theorem xw_ins_X5_table : Cond.instanceMethod yX5_table ∈ xmTs := List.mem_filter.mpr ⟨List.mem_of_getElem? (i := 950) (by decide +kernel), by decide +kernel⟩
theorem xw_sel_X5_table : Cond.selects yX5_table.cls yX5_table yX5_table ∈ xmTs := List.mem_filter.mpr ⟨List.mem_of_getElem? (i := 951) (by decide +kernel), by decide +kernel⟩
theorem xw_cod_X5_table : Cond.code yX5_table cX5_table 4 (some (FieldType.int)) ∈ xmTs := List.mem_filter.mpr ⟨List.mem_of_getElem? (i := 952) (by decide +kernel), by decide +kernel⟩
theorem xw_ml_L_108 : Cond.methodLink RL 108 yX5_lookup ∈ xmTs := List.mem_filter.mpr ⟨List.mem_of_getElem? (i := 953) (by decide +kernel), by decide +kernel⟩
theorem xw_ins_X5_lookup : Cond.instanceMethod yX5_lookup ∈ xmTs := List.mem_filter.mpr ⟨List.mem_of_getElem? (i := 954) (by decide +kernel), by decide +kernel⟩
theorem xw_sel_X5_lookup : Cond.selects yX5_lookup.cls yX5_lookup yX5_lookup ∈ xmTs := List.mem_filter.mpr ⟨List.mem_of_getElem? (i := 955) (by decide +kernel), by decide +kernel⟩
theorem xw_cod_X5_lookup : Cond.code yX5_lookup cX5_lookup 5 (some (FieldType.int)) ∈ xmTs := List.mem_filter.mpr ⟨List.mem_of_getElem? (i := 956) (by decide +kernel), by decide +kernel⟩
theorem xw_ml_L_113 : Cond.methodLink RL 113 yX5_count ∈ xmTs := List.mem_filter.mpr ⟨List.mem_of_getElem? (i := 957) (by decide +kernel), by decide +kernel⟩
theorem xw_ins_X5_count : Cond.instanceMethod yX5_count ∈ xmTs := List.mem_filter.mpr ⟨List.mem_of_getElem? (i := 958) (by decide +kernel), by decide +kernel⟩
theorem xw_sel_X5_count : Cond.selects yX5_count.cls yX5_count yX5_count ∈ xmTs := List.mem_filter.mpr ⟨List.mem_of_getElem? (i := 959) (by decide +kernel), by decide +kernel⟩
theorem xw_cod_X5_count : Cond.code yX5_count cX5_count 2 (some (FieldType.int)) ∈ xmTs := List.mem_filter.mpr ⟨List.mem_of_getElem? (i := 960) (by decide +kernel), by decide +kernel⟩
theorem xw_ml_L_118 : Cond.methodLink RL 118 yX5_told ∈ xmTs := List.mem_filter.mpr ⟨List.mem_of_getElem? (i := 961) (by decide +kernel), by decide +kernel⟩
theorem xw_ins_X5_told : Cond.instanceMethod yX5_told ∈ xmTs := List.mem_filter.mpr ⟨List.mem_of_getElem? (i := 962) (by decide +kernel), by decide +kernel⟩
theorem xw_sel_X5_told : Cond.selects yX5_told.cls yX5_told yX5_told ∈ xmTs := List.mem_filter.mpr ⟨List.mem_of_getElem? (i := 963) (by decide +kernel), by decide +kernel⟩
theorem xw_cod_X5_told : Cond.code yX5_told cX5_told 1 (some (FieldType.int)) ∈ xmTs := List.mem_filter.mpr ⟨List.mem_of_getElem? (i := 964) (by decide +kernel), by decide +kernel⟩
theorem xw_cst_L_33 : Cond.constantLong RL 33 (4294967295) ∈ xmTs := List.mem_filter.mpr ⟨List.mem_of_getElem? (i := 965) (by decide +kernel), by decide +kernel⟩
theorem xin_0 : ∀ w ∈ u_ws RX0 TX0 1, w ∈ xmTs := by
  intro w hw
  obtain ⟨k, hk, rfl⟩ := List.mem_map.mp hw
  have hk := List.mem_range.mp hk
  match k, hk with
  | 0, _ => exact xw_lay_X0_0
  | k + 1, h => exact absurd h (by omega)
theorem xin_1 : ∀ w ∈ u_ws RX1 TX1 7, w ∈ xmTs := by
  intro w hw
  obtain ⟨k, hk, rfl⟩ := List.mem_map.mp hw
  have hk := List.mem_range.mp hk
  match k, hk with
  | 0, _ => exact xw_lay_X1_0
  | 1, _ => exact xw_lay_X1_1
  | 2, _ => exact xw_lay_X1_2
  | 3, _ => exact xw_lay_X1_3
  | 4, _ => exact xw_lay_X1_4
  | 5, _ => exact xw_lay_X1_5
  | 6, _ => exact xw_lay_X1_6
  | k + 7, h => exact absurd h (by omega)
theorem xin_2 : ∀ w ∈ u_ws RX2 TX2 3, w ∈ xmTs := by
  intro w hw
  obtain ⟨k, hk, rfl⟩ := List.mem_map.mp hw
  have hk := List.mem_range.mp hk
  match k, hk with
  | 0, _ => exact xw_lay_X2_0
  | 1, _ => exact xw_lay_X2_1
  | 2, _ => exact xw_lay_X2_2
  | k + 3, h => exact absurd h (by omega)
theorem xin_3 : ∀ w ∈ u_ws RX3 TX3 3, w ∈ xmTs := by
  intro w hw
  obtain ⟨k, hk, rfl⟩ := List.mem_map.mp hw
  have hk := List.mem_range.mp hk
  match k, hk with
  | 0, _ => exact xw_lay_X3_0
  | 1, _ => exact xw_lay_X3_1
  | 2, _ => exact xw_lay_X3_2
  | k + 3, h => exact absurd h (by omega)
theorem xin_4 : ∀ w ∈ u_ws RX4 TX4 11, w ∈ xmTs := by
  intro w hw
  obtain ⟨k, hk, rfl⟩ := List.mem_map.mp hw
  have hk := List.mem_range.mp hk
  match k, hk with
  | 0, _ => exact xw_lay_X4_0
  | 1, _ => exact xw_lay_X4_1
  | 2, _ => exact xw_lay_X4_2
  | 3, _ => exact xw_lay_X4_3
  | 4, _ => exact xw_lay_X4_4
  | 5, _ => exact xw_lay_X4_5
  | 6, _ => exact xw_lay_X4_6
  | 7, _ => exact xw_lay_X4_7
  | 8, _ => exact xw_lay_X4_8
  | 9, _ => exact xw_lay_X4_9
  | 10, _ => exact xw_lay_X4_10
  | k + 11, h => exact absurd h (by omega)
theorem xin_5 : ∀ w ∈ u_ws RX5 TX5 26, w ∈ xmTs := by
  intro w hw
  obtain ⟨k, hk, rfl⟩ := List.mem_map.mp hw
  have hk := List.mem_range.mp hk
  match k, hk with
  | 0, _ => exact xw_lay_X5_0
  | 1, _ => exact xw_lay_X5_1
  | 2, _ => exact xw_lay_X5_2
  | 3, _ => exact xw_lay_X5_3
  | 4, _ => exact xw_lay_X5_4
  | 5, _ => exact xw_lay_X5_5
  | 6, _ => exact xw_lay_X5_6
  | 7, _ => exact xw_lay_X5_7
  | 8, _ => exact xw_lay_X5_8
  | 9, _ => exact xw_lay_X5_9
  | 10, _ => exact xw_lay_X5_10
  | 11, _ => exact xw_lay_X5_11
  | 12, _ => exact xw_lay_X5_12
  | 13, _ => exact xw_lay_X5_13
  | 14, _ => exact xw_lay_X5_14
  | 15, _ => exact xw_lay_X5_15
  | 16, _ => exact xw_lay_X5_16
  | 17, _ => exact xw_lay_X5_17
  | 18, _ => exact xw_lay_X5_18
  | 19, _ => exact xw_lay_X5_19
  | 20, _ => exact xw_lay_X5_20
  | 21, _ => exact xw_lay_X5_21
  | 22, _ => exact xw_lay_X5_22
  | 23, _ => exact xw_lay_X5_23
  | 24, _ => exact xw_lay_X5_24
  | 25, _ => exact xw_lay_X5_25
  | k + 26, h => exact absurd h (by omega)
end
section
theorem dX0_init_0 : decode cX0_init 0 = .ok (.aload_n 0, 1) := by decide +kernel
theorem dX0_init_1 : decode cX0_init 1 = .ok (.invokespecial 3, 3) := by decide +kernel
theorem dX0_init_4 : decode cX0_init 4 = .ok (.aload_n 0, 1) := by decide +kernel
theorem dX0_init_5 : decode cX0_init 5 = .ok (.new 9, 3) := by decide +kernel
theorem dX0_init_8 : decode cX0_init 8 = .ok (.dup, 1) := by decide +kernel
theorem dX0_init_9 : decode cX0_init 9 = .ok (.invokespecial 11, 3) := by decide +kernel
theorem dX0_init_12 : decode cX0_init 12 = .ok (.putfield 12, 3) := by decide +kernel
theorem dX0_init_15 : decode cX0_init 15 = .ok (.return_, 1) := by decide +kernel
theorem dX0_invalid_0 : decode cX0_invalid 0 = .ok (.aload_n 0, 1) := by decide +kernel
theorem dX0_invalid_1 : decode cX0_invalid 1 = .ok (.getfield 12, 3) := by decide +kernel
theorem dX0_invalid_4 : decode cX0_invalid 4 = .ok (.dup, 1) := by decide +kernel
theorem dX0_invalid_5 : decode cX0_invalid 5 = .ok (.getfield 18, 3) := by decide +kernel
theorem dX0_invalid_8 : decode cX0_invalid 8 = .ok (.iconst 1, 1) := by decide +kernel
theorem dX0_invalid_9 : decode cX0_invalid 9 = .ok (.iadd, 1) := by decide +kernel
theorem dX0_invalid_10 : decode cX0_invalid 10 = .ok (.putfield 18, 3) := by decide +kernel
theorem dX0_invalid_13 : decode cX0_invalid 13 = .ok (.aload_n 1, 1) := by decide +kernel
theorem dX0_invalid_14 : decode cX0_invalid 14 = .ok (.invokevirtual 22, 3) := by decide +kernel
theorem dX0_invalid_17 : decode cX0_invalid 17 = .ok (.istore_n 2, 1) := by decide +kernel
theorem dX0_invalid_18 : decode cX0_invalid 18 = .ok (.iload_n 2, 1) := by decide +kernel
theorem dX0_invalid_19 : decode cX0_invalid 19 = .ok (.bipush (-9), 2) := by decide +kernel
theorem dX0_invalid_21 : decode cX0_invalid 21 = .ok (.if_icmp .ne 8, 3) := by decide +kernel
theorem dX0_invalid_24 : decode cX0_invalid 24 = .ok (.bipush (-4), 2) := by decide +kernel
theorem dX0_invalid_26 : decode cX0_invalid 26 = .ok (.goto 4, 3) := by decide +kernel
theorem dX0_invalid_29 : decode cX0_invalid 29 = .ok (.iload_n 2, 1) := by decide +kernel
theorem dX0_invalid_30 : decode cX0_invalid 30 = .ok (.ireturn, 1) := by decide +kernel
theorem dX0_rounded_0 : decode cX0_rounded 0 = .ok (.iload_n 2, 1) := by decide +kernel
theorem dX0_rounded_1 : decode cX0_rounded 1 = .ok (.ifCond .eq 25, 3) := by decide +kernel
theorem dX0_rounded_4 : decode cX0_rounded 4 = .ok (.aload_n 1, 1) := by decide +kernel
theorem dX0_rounded_5 : decode cX0_rounded 5 = .ok (.getfield 28, 3) := by decide +kernel
theorem dX0_rounded_8 : decode cX0_rounded 8 = .ok (.ifCond .ne 18, 3) := by decide +kernel
theorem dX0_rounded_11 : decode cX0_rounded 11 = .ok (.aload_n 0, 1) := by decide +kernel
theorem dX0_rounded_12 : decode cX0_rounded 12 = .ok (.getfield 12, 3) := by decide +kernel
theorem dX0_rounded_15 : decode cX0_rounded 15 = .ok (.dup, 1) := by decide +kernel
theorem dX0_rounded_16 : decode cX0_rounded 16 = .ok (.getfield 31, 3) := by decide +kernel
theorem dX0_rounded_19 : decode cX0_rounded 19 = .ok (.iconst 1, 1) := by decide +kernel
theorem dX0_rounded_20 : decode cX0_rounded 20 = .ok (.iadd, 1) := by decide +kernel
theorem dX0_rounded_21 : decode cX0_rounded 21 = .ok (.putfield 31, 3) := by decide +kernel
theorem dX0_rounded_24 : decode cX0_rounded 24 = .ok (.iconst 0, 1) := by decide +kernel
theorem dX0_rounded_25 : decode cX0_rounded 25 = .ok (.ireturn, 1) := by decide +kernel
theorem dX0_rounded_26 : decode cX0_rounded 26 = .ok (.aload_n 1, 1) := by decide +kernel
theorem dX0_rounded_27 : decode cX0_rounded 27 = .ok (.lload_n 3, 1) := by decide +kernel
theorem dX0_rounded_28 : decode cX0_rounded 28 = .ok (.lload 5, 2) := by decide +kernel
theorem dX0_rounded_30 : decode cX0_rounded 30 = .ok (.invokestatic 34, 3) := by decide +kernel
theorem dX0_rounded_33 : decode cX0_rounded 33 = .ok (.istore 8, 2) := by decide +kernel
theorem dX0_rounded_35 : decode cX0_rounded 35 = .ok (.aload_n 1, 1) := by decide +kernel
theorem dX0_rounded_36 : decode cX0_rounded 36 = .ok (.iload 8, 2) := by decide +kernel
theorem dX0_rounded_38 : decode cX0_rounded 38 = .ok (.invokevirtual 38, 3) := by decide +kernel
theorem dX0_rounded_41 : decode cX0_rounded 41 = .ok (.lload 5, 2) := by decide +kernel
theorem dX0_rounded_43 : decode cX0_rounded 43 = .ok (.lmul, 1) := by decide +kernel
theorem dX0_rounded_44 : decode cX0_rounded 44 = .ok (.lload_n 3, 1) := by decide +kernel
theorem dX0_rounded_45 : decode cX0_rounded 45 = .ok (.lcmp, 1) := by decide +kernel
theorem dX0_rounded_46 : decode cX0_rounded 46 = .ok (.ifCond .ne 11, 3) := by decide +kernel
theorem dX0_rounded_49 : decode cX0_rounded 49 = .ok (.aload_n 1, 1) := by decide +kernel
theorem dX0_rounded_50 : decode cX0_rounded 50 = .ok (.iload_n 2, 1) := by decide +kernel
theorem dX0_rounded_51 : decode cX0_rounded 51 = .ok (.iload 8, 2) := by decide +kernel
theorem dX0_rounded_53 : decode cX0_rounded 53 = .ok (.invokevirtual 42, 3) := by decide +kernel
theorem dX0_rounded_56 : decode cX0_rounded 56 = .ok (.ireturn, 1) := by decide +kernel
theorem dX0_rounded_57 : decode cX0_rounded 57 = .ok (.aload_n 0, 1) := by decide +kernel
theorem dX0_rounded_58 : decode cX0_rounded 58 = .ok (.getfield 12, 3) := by decide +kernel
theorem dX0_rounded_61 : decode cX0_rounded 61 = .ok (.dup, 1) := by decide +kernel
theorem dX0_rounded_62 : decode cX0_rounded 62 = .ok (.getfield 31, 3) := by decide +kernel
theorem dX0_rounded_65 : decode cX0_rounded 65 = .ok (.iconst 1, 1) := by decide +kernel
theorem dX0_rounded_66 : decode cX0_rounded 66 = .ok (.iadd, 1) := by decide +kernel
theorem dX0_rounded_67 : decode cX0_rounded 67 = .ok (.putfield 31, 3) := by decide +kernel
theorem dX0_rounded_70 : decode cX0_rounded 70 = .ok (.iload 8, 2) := by decide +kernel
theorem dX0_rounded_72 : decode cX0_rounded 72 = .ok (.aload_n 1, 1) := by decide +kernel
theorem dX0_rounded_73 : decode cX0_rounded 73 = .ok (.getfield 46, 3) := by decide +kernel
theorem dX0_rounded_76 : decode cX0_rounded 76 = .ok (.if_icmp .ne 7, 3) := by decide +kernel
theorem dX0_rounded_79 : decode cX0_rounded 79 = .ok (.iconst 1, 1) := by decide +kernel
theorem dX0_rounded_80 : decode cX0_rounded 80 = .ok (.goto 4, 3) := by decide +kernel
theorem dX0_rounded_83 : decode cX0_rounded 83 = .ok (.iconst 0, 1) := by decide +kernel
theorem dX0_rounded_84 : decode cX0_rounded 84 = .ok (.istore 9, 2) := by decide +kernel
theorem dX0_rounded_86 : decode cX0_rounded 86 = .ok (.iload 9, 2) := by decide +kernel
theorem dX0_rounded_88 : decode cX0_rounded 88 = .ok (.ifCond .eq 16, 3) := by decide +kernel
theorem dX0_rounded_91 : decode cX0_rounded 91 = .ok (.aload_n 0, 1) := by decide +kernel
theorem dX0_rounded_92 : decode cX0_rounded 92 = .ok (.getfield 12, 3) := by decide +kernel
theorem dX0_rounded_95 : decode cX0_rounded 95 = .ok (.dup, 1) := by decide +kernel
theorem dX0_rounded_96 : decode cX0_rounded 96 = .ok (.getfield 49, 3) := by decide +kernel
theorem dX0_rounded_99 : decode cX0_rounded 99 = .ok (.iconst 1, 1) := by decide +kernel
theorem dX0_rounded_100 : decode cX0_rounded 100 = .ok (.iadd, 1) := by decide +kernel
theorem dX0_rounded_101 : decode cX0_rounded 101 = .ok (.putfield 49, 3) := by decide +kernel
theorem dX0_rounded_104 : decode cX0_rounded 104 = .ok (.ldc2_w 52, 3) := by decide +kernel
theorem dX0_rounded_107 : decode cX0_rounded 107 = .ok (.lload_n 3, 1) := by decide +kernel
theorem dX0_rounded_108 : decode cX0_rounded 108 = .ok (.lmul, 1) := by decide +kernel
theorem dX0_rounded_109 : decode cX0_rounded 109 = .ok (.aload_n 1, 1) := by decide +kernel
theorem dX0_rounded_110 : decode cX0_rounded 110 = .ok (.iload 8, 2) := by decide +kernel
theorem dX0_rounded_112 : decode cX0_rounded 112 = .ok (.invokevirtual 54, 3) := by decide +kernel
theorem dX0_rounded_115 : decode cX0_rounded 115 = .ok (.lload 5, 2) := by decide +kernel
theorem dX0_rounded_117 : decode cX0_rounded 117 = .ok (.lmul, 1) := by decide +kernel
theorem dX0_rounded_118 : decode cX0_rounded 118 = .ok (.invokestatic 57, 3) := by decide +kernel
theorem dX0_rounded_121 : decode cX0_rounded 121 = .ok (.istore 10, 2) := by decide +kernel
theorem dX0_rounded_123 : decode cX0_rounded 123 = .ok (.iload 9, 2) := by decide +kernel
theorem dX0_rounded_125 : decode cX0_rounded 125 = .ok (.ifCond .ne 11, 3) := by decide +kernel
theorem dX0_rounded_128 : decode cX0_rounded 128 = .ok (.iload 8, 2) := by decide +kernel
theorem dX0_rounded_130 : decode cX0_rounded 130 = .ok (.iconst 1, 1) := by decide +kernel
theorem dX0_rounded_131 : decode cX0_rounded 131 = .ok (.iand, 1) := by decide +kernel
theorem dX0_rounded_132 : decode cX0_rounded 132 = .ok (.iconst 1, 1) := by decide +kernel
theorem dX0_rounded_133 : decode cX0_rounded 133 = .ok (.if_icmp .ne 7, 3) := by decide +kernel
theorem dX0_rounded_136 : decode cX0_rounded 136 = .ok (.iconst 1, 1) := by decide +kernel
theorem dX0_rounded_137 : decode cX0_rounded 137 = .ok (.goto 4, 3) := by decide +kernel
theorem dX0_rounded_140 : decode cX0_rounded 140 = .ok (.iconst 0, 1) := by decide +kernel
theorem dX0_rounded_141 : decode cX0_rounded 141 = .ok (.istore 11, 2) := by decide +kernel
theorem dX0_rounded_143 : decode cX0_rounded 143 = .ok (.iload 8, 2) := by decide +kernel
theorem dX0_rounded_145 : decode cX0_rounded 145 = .ok (.iload_n 2, 1) := by decide +kernel
theorem dX0_rounded_146 : decode cX0_rounded 146 = .ok (.iload 10, 2) := by decide +kernel
theorem dX0_rounded_148 : decode cX0_rounded 148 = .ok (.iload 11, 2) := by decide +kernel
theorem dX0_rounded_150 : decode cX0_rounded 150 = .ok (.iload 7, 2) := by decide +kernel
theorem dX0_rounded_152 : decode cX0_rounded 152 = .ok (.invokestatic 63, 3) := by decide +kernel
theorem dX0_rounded_155 : decode cX0_rounded 155 = .ok (.ifCond .ne 11, 3) := by decide +kernel
theorem dX0_rounded_158 : decode cX0_rounded 158 = .ok (.aload_n 1, 1) := by decide +kernel
theorem dX0_rounded_159 : decode cX0_rounded 159 = .ok (.iload_n 2, 1) := by decide +kernel
theorem dX0_rounded_160 : decode cX0_rounded 160 = .ok (.iload 8, 2) := by decide +kernel
theorem dX0_rounded_162 : decode cX0_rounded 162 = .ok (.invokevirtual 42, 3) := by decide +kernel
theorem dX0_rounded_165 : decode cX0_rounded 165 = .ok (.ireturn, 1) := by decide +kernel
theorem dX0_rounded_166 : decode cX0_rounded 166 = .ok (.iload 9, 2) := by decide +kernel
theorem dX0_rounded_168 : decode cX0_rounded 168 = .ok (.ifCond .eq 11, 3) := by decide +kernel
theorem dX0_rounded_171 : decode cX0_rounded 171 = .ok (.aload_n 1, 1) := by decide +kernel
theorem dX0_rounded_172 : decode cX0_rounded 172 = .ok (.iload_n 2, 1) := by decide +kernel
theorem dX0_rounded_173 : decode cX0_rounded 173 = .ok (.invokevirtual 67, 3) := by decide +kernel
theorem dX0_rounded_176 : decode cX0_rounded 176 = .ok (.goto 12, 3) := by decide +kernel
theorem dX0_rounded_179 : decode cX0_rounded 179 = .ok (.aload_n 1, 1) := by decide +kernel
theorem dX0_rounded_180 : decode cX0_rounded 180 = .ok (.iload_n 2, 1) := by decide +kernel
theorem dX0_rounded_181 : decode cX0_rounded 181 = .ok (.iload 8, 2) := by decide +kernel
theorem dX0_rounded_183 : decode cX0_rounded 183 = .ok (.iconst 1, 1) := by decide +kernel
theorem dX0_rounded_184 : decode cX0_rounded 184 = .ok (.iadd, 1) := by decide +kernel
theorem dX0_rounded_185 : decode cX0_rounded 185 = .ok (.invokevirtual 42, 3) := by decide +kernel
theorem dX0_rounded_188 : decode cX0_rounded 188 = .ok (.ireturn, 1) := by decide +kernel
theorem dX0_greatestUpTo_0 : decode cX0_greatestUpTo 0 = .ok (.iconst 0, 1) := by decide +kernel
theorem dX0_greatestUpTo_1 : decode cX0_greatestUpTo 1 = .ok (.istore 5, 2) := by decide +kernel
theorem dX0_greatestUpTo_3 : decode cX0_greatestUpTo 3 = .ok (.sipush 256, 3) := by decide +kernel
theorem dX0_greatestUpTo_6 : decode cX0_greatestUpTo 6 = .ok (.istore 6, 2) := by decide +kernel
theorem dX0_greatestUpTo_8 : decode cX0_greatestUpTo 8 = .ok (.iload 6, 2) := by decide +kernel
theorem dX0_greatestUpTo_10 : decode cX0_greatestUpTo 10 = .ok (.ifCond .le 47, 3) := by decide +kernel
theorem dX0_greatestUpTo_13 : decode cX0_greatestUpTo 13 = .ok (.iload 5, 2) := by decide +kernel
theorem dX0_greatestUpTo_15 : decode cX0_greatestUpTo 15 = .ok (.iload 6, 2) := by decide +kernel
theorem dX0_greatestUpTo_17 : decode cX0_greatestUpTo 17 = .ok (.iadd, 1) := by decide +kernel
theorem dX0_greatestUpTo_18 : decode cX0_greatestUpTo 18 = .ok (.aload_n 0, 1) := by decide +kernel
theorem dX0_greatestUpTo_19 : decode cX0_greatestUpTo 19 = .ok (.getfield 46, 3) := by decide +kernel
theorem dX0_greatestUpTo_22 : decode cX0_greatestUpTo 22 = .ok (.if_icmp .gt 26, 3) := by decide +kernel
theorem dX0_greatestUpTo_25 : decode cX0_greatestUpTo 25 = .ok (.aload_n 0, 1) := by decide +kernel
theorem dX0_greatestUpTo_26 : decode cX0_greatestUpTo 26 = .ok (.iload 5, 2) := by decide +kernel
theorem dX0_greatestUpTo_28 : decode cX0_greatestUpTo 28 = .ok (.iload 6, 2) := by decide +kernel
theorem dX0_greatestUpTo_30 : decode cX0_greatestUpTo 30 = .ok (.iadd, 1) := by decide +kernel
theorem dX0_greatestUpTo_31 : decode cX0_greatestUpTo 31 = .ok (.invokevirtual 38, 3) := by decide +kernel
theorem dX0_greatestUpTo_34 : decode cX0_greatestUpTo 34 = .ok (.lload_n 3, 1) := by decide +kernel
theorem dX0_greatestUpTo_35 : decode cX0_greatestUpTo 35 = .ok (.lmul, 1) := by decide +kernel
theorem dX0_greatestUpTo_36 : decode cX0_greatestUpTo 36 = .ok (.lload_n 1, 1) := by decide +kernel
theorem dX0_greatestUpTo_37 : decode cX0_greatestUpTo 37 = .ok (.lcmp, 1) := by decide +kernel
theorem dX0_greatestUpTo_38 : decode cX0_greatestUpTo 38 = .ok (.ifCond .gt 10, 3) := by decide +kernel
theorem dX0_greatestUpTo_41 : decode cX0_greatestUpTo 41 = .ok (.iload 5, 2) := by decide +kernel
theorem dX0_greatestUpTo_43 : decode cX0_greatestUpTo 43 = .ok (.iload 6, 2) := by decide +kernel
theorem dX0_greatestUpTo_45 : decode cX0_greatestUpTo 45 = .ok (.iadd, 1) := by decide +kernel
theorem dX0_greatestUpTo_46 : decode cX0_greatestUpTo 46 = .ok (.istore 5, 2) := by decide +kernel
theorem dX0_greatestUpTo_48 : decode cX0_greatestUpTo 48 = .ok (.iload 6, 2) := by decide +kernel
theorem dX0_greatestUpTo_50 : decode cX0_greatestUpTo 50 = .ok (.iconst 1, 1) := by decide +kernel
theorem dX0_greatestUpTo_51 : decode cX0_greatestUpTo 51 = .ok (.ishr, 1) := by decide +kernel
theorem dX0_greatestUpTo_52 : decode cX0_greatestUpTo 52 = .ok (.istore 6, 2) := by decide +kernel
theorem dX0_greatestUpTo_54 : decode cX0_greatestUpTo 54 = .ok (.goto (-46), 3) := by decide +kernel
theorem dX0_greatestUpTo_57 : decode cX0_greatestUpTo 57 = .ok (.iload 5, 2) := by decide +kernel
theorem dX0_greatestUpTo_59 : decode cX0_greatestUpTo 59 = .ok (.ireturn, 1) := by decide +kernel
theorem dX0_goesOut_0 : decode cX0_goesOut 0 = .ok (.iload 4, 2) := by decide +kernel
theorem dX0_goesOut_2 : decode cX0_goesOut 2 = .ok (.tableswitch 90 0 5 #[38, 56, 90, 66, 68, 78], 38) := by decide +kernel
theorem dX0_goesOut_40 : decode cX0_goesOut 40 = .ok (.iload_n 2, 1) := by decide +kernel
theorem dX0_goesOut_41 : decode cX0_goesOut 41 = .ok (.ifCond .gt 11, 3) := by decide +kernel
theorem dX0_goesOut_44 : decode cX0_goesOut 44 = .ok (.iload_n 2, 1) := by decide +kernel
theorem dX0_goesOut_45 : decode cX0_goesOut 45 = .ok (.ifCond .ne 11, 3) := by decide +kernel
theorem dX0_goesOut_48 : decode cX0_goesOut 48 = .ok (.iload_n 3, 1) := by decide +kernel
theorem dX0_goesOut_49 : decode cX0_goesOut 49 = .ok (.ifCond .eq 7, 3) := by decide +kernel
theorem dX0_goesOut_52 : decode cX0_goesOut 52 = .ok (.iconst 1, 1) := by decide +kernel
theorem dX0_goesOut_53 : decode cX0_goesOut 53 = .ok (.goto 4, 3) := by decide +kernel
theorem dX0_goesOut_56 : decode cX0_goesOut 56 = .ok (.iconst 0, 1) := by decide +kernel
theorem dX0_goesOut_57 : decode cX0_goesOut 57 = .ok (.ireturn, 1) := by decide +kernel
theorem dX0_goesOut_58 : decode cX0_goesOut 58 = .ok (.iload_n 2, 1) := by decide +kernel
theorem dX0_goesOut_59 : decode cX0_goesOut 59 = .ok (.ifCond .lt 7, 3) := by decide +kernel
theorem dX0_goesOut_62 : decode cX0_goesOut 62 = .ok (.iconst 1, 1) := by decide +kernel
theorem dX0_goesOut_63 : decode cX0_goesOut 63 = .ok (.goto 4, 3) := by decide +kernel
theorem dX0_goesOut_66 : decode cX0_goesOut 66 = .ok (.iconst 0, 1) := by decide +kernel
theorem dX0_goesOut_67 : decode cX0_goesOut 67 = .ok (.ireturn, 1) := by decide +kernel
theorem dX0_goesOut_68 : decode cX0_goesOut 68 = .ok (.iload_n 1, 1) := by decide +kernel
theorem dX0_goesOut_69 : decode cX0_goesOut 69 = .ok (.ireturn, 1) := by decide +kernel
theorem dX0_goesOut_70 : decode cX0_goesOut 70 = .ok (.iload_n 1, 1) := by decide +kernel
theorem dX0_goesOut_71 : decode cX0_goesOut 71 = .ok (.ifCond .ne 7, 3) := by decide +kernel
theorem dX0_goesOut_74 : decode cX0_goesOut 74 = .ok (.iconst 1, 1) := by decide +kernel
theorem dX0_goesOut_75 : decode cX0_goesOut 75 = .ok (.goto 4, 3) := by decide +kernel
theorem dX0_goesOut_78 : decode cX0_goesOut 78 = .ok (.iconst 0, 1) := by decide +kernel
theorem dX0_goesOut_79 : decode cX0_goesOut 79 = .ok (.ireturn, 1) := by decide +kernel
theorem dX0_goesOut_80 : decode cX0_goesOut 80 = .ok (.iload_n 0, 1) := by decide +kernel
theorem dX0_goesOut_81 : decode cX0_goesOut 81 = .ok (.iconst 1, 1) := by decide +kernel
theorem dX0_goesOut_82 : decode cX0_goesOut 82 = .ok (.iand, 1) := by decide +kernel
theorem dX0_goesOut_83 : decode cX0_goesOut 83 = .ok (.ifCond .ne 7, 3) := by decide +kernel
theorem dX0_goesOut_86 : decode cX0_goesOut 86 = .ok (.iconst 1, 1) := by decide +kernel
theorem dX0_goesOut_87 : decode cX0_goesOut 87 = .ok (.goto 4, 3) := by decide +kernel
theorem dX0_goesOut_90 : decode cX0_goesOut 90 = .ok (.iconst 0, 1) := by decide +kernel
theorem dX0_goesOut_91 : decode cX0_goesOut 91 = .ok (.ireturn, 1) := by decide +kernel
theorem dX0_goesOut_92 : decode cX0_goesOut 92 = .ok (.iconst 0, 1) := by decide +kernel
theorem dX0_goesOut_93 : decode cX0_goesOut 93 = .ok (.ireturn, 1) := by decide +kernel
theorem dX0_fraction_0 : decode cX0_fraction 0 = .ok (.lload_n 2, 1) := by decide +kernel
theorem dX0_fraction_1 : decode cX0_fraction 1 = .ok (.lconst 0, 1) := by decide +kernel
theorem dX0_fraction_2 : decode cX0_fraction 2 = .ok (.lcmp, 1) := by decide +kernel
theorem dX0_fraction_3 : decode cX0_fraction 3 = .ok (.ifCond .ne 5, 3) := by decide +kernel
theorem dX0_fraction_6 : decode cX0_fraction 6 = .ok (.iconst 0, 1) := by decide +kernel
theorem dX0_fraction_7 : decode cX0_fraction 7 = .ok (.ireturn, 1) := by decide +kernel
theorem dX0_fraction_8 : decode cX0_fraction 8 = .ok (.aload_n 0, 1) := by decide +kernel
theorem dX0_fraction_9 : decode cX0_fraction 9 = .ok (.aload_n 1, 1) := by decide +kernel
theorem dX0_fraction_10 : decode cX0_fraction 10 = .ok (.lload_n 2, 1) := by decide +kernel
theorem dX0_fraction_11 : decode cX0_fraction 11 = .ok (.lconst 0, 1) := by decide +kernel
theorem dX0_fraction_12 : decode cX0_fraction 12 = .ok (.lcmp, 1) := by decide +kernel
theorem dX0_fraction_13 : decode cX0_fraction 13 = .ok (.ifCond .ge 7, 3) := by decide +kernel
theorem dX0_fraction_16 : decode cX0_fraction 16 = .ok (.iconst 1, 1) := by decide +kernel
theorem dX0_fraction_17 : decode cX0_fraction 17 = .ok (.goto 4, 3) := by decide +kernel
theorem dX0_fraction_20 : decode cX0_fraction 20 = .ok (.iconst 0, 1) := by decide +kernel
theorem dX0_fraction_21 : decode cX0_fraction 21 = .ok (.lload_n 2, 1) := by decide +kernel
theorem dX0_fraction_22 : decode cX0_fraction 22 = .ok (.invokestatic 71, 3) := by decide +kernel
theorem dX0_fraction_25 : decode cX0_fraction 25 = .ok (.aload_n 1, 1) := by decide +kernel
theorem dX0_fraction_26 : decode cX0_fraction 26 = .ok (.invokevirtual 77, 3) := by decide +kernel
theorem dX0_fraction_29 : decode cX0_fraction 29 = .ok (.lshl, 1) := by decide +kernel
theorem dX0_fraction_30 : decode cX0_fraction 30 = .ok (.lload 4, 2) := by decide +kernel
theorem dX0_fraction_32 : decode cX0_fraction 32 = .ok (.iload 6, 2) := by decide +kernel
theorem dX0_fraction_34 : decode cX0_fraction 34 = .ok (.invokevirtual 80, 3) := by decide +kernel
theorem dX0_fraction_37 : decode cX0_fraction 37 = .ok (.ireturn, 1) := by decide +kernel
theorem dX0_crossed_0 : decode cX0_crossed 0 = .ok (.aload_n 1, 1) := by decide +kernel
theorem dX0_crossed_1 : decode cX0_crossed 1 = .ok (.iload_n 2, 1) := by decide +kernel
theorem dX0_crossed_2 : decode cX0_crossed 2 = .ok (.invokevirtual 84, 3) := by decide +kernel
theorem dX0_crossed_5 : decode cX0_crossed 5 = .ok (.lstore 5, 2) := by decide +kernel
theorem dX0_crossed_7 : decode cX0_crossed 7 = .ok (.aload_n 1, 1) := by decide +kernel
theorem dX0_crossed_8 : decode cX0_crossed 8 = .ok (.iload_n 2, 1) := by decide +kernel
theorem dX0_crossed_9 : decode cX0_crossed 9 = .ok (.invokevirtual 87, 3) := by decide +kernel
theorem dX0_crossed_12 : decode cX0_crossed 12 = .ok (.istore 7, 2) := by decide +kernel
theorem dX0_crossed_14 : decode cX0_crossed 14 = .ok (.lload 5, 2) := by decide +kernel
theorem dX0_crossed_16 : decode cX0_crossed 16 = .ok (.ldc2_w 91, 3) := by decide +kernel
theorem dX0_crossed_19 : decode cX0_crossed 19 = .ok (.lcmp, 1) := by decide +kernel
theorem dX0_crossed_20 : decode cX0_crossed 20 = .ok (.ifCond .ne 25, 3) := by decide +kernel
theorem dX0_crossed_23 : decode cX0_crossed 23 = .ok (.aload_n 3, 1) := by decide +kernel
theorem dX0_crossed_24 : decode cX0_crossed 24 = .ok (.invokevirtual 22, 3) := by decide +kernel
theorem dX0_crossed_27 : decode cX0_crossed 27 = .ok (.bipush (-9), 2) := by decide +kernel
theorem dX0_crossed_29 : decode cX0_crossed 29 = .ok (.if_icmp .ne 11, 3) := by decide +kernel
theorem dX0_crossed_32 : decode cX0_crossed 32 = .ok (.aload_n 0, 1) := by decide +kernel
theorem dX0_crossed_33 : decode cX0_crossed 33 = .ok (.aload_n 3, 1) := by decide +kernel
theorem dX0_crossed_34 : decode cX0_crossed 34 = .ok (.invokevirtual 93, 3) := by decide +kernel
theorem dX0_crossed_37 : decode cX0_crossed 37 = .ok (.goto 7, 3) := by decide +kernel
theorem dX0_crossed_40 : decode cX0_crossed 40 = .ok (.aload_n 3, 1) := by decide +kernel
theorem dX0_crossed_41 : decode cX0_crossed 41 = .ok (.invokevirtual 22, 3) := by decide +kernel
theorem dX0_crossed_44 : decode cX0_crossed 44 = .ok (.ireturn, 1) := by decide +kernel
theorem dX0_crossed_45 : decode cX0_crossed 45 = .ok (.lload 5, 2) := by decide +kernel
theorem dX0_crossed_47 : decode cX0_crossed 47 = .ok (.ldc2_w 96, 3) := by decide +kernel
theorem dX0_crossed_50 : decode cX0_crossed 50 = .ok (.lcmp, 1) := by decide +kernel
theorem dX0_crossed_51 : decode cX0_crossed 51 = .ok (.ifCond .ne 10, 3) := by decide +kernel
theorem dX0_crossed_54 : decode cX0_crossed 54 = .ok (.aload_n 3, 1) := by decide +kernel
theorem dX0_crossed_55 : decode cX0_crossed 55 = .ok (.iload 7, 2) := by decide +kernel
theorem dX0_crossed_57 : decode cX0_crossed 57 = .ok (.invokevirtual 67, 3) := by decide +kernel
theorem dX0_crossed_60 : decode cX0_crossed 60 = .ok (.ireturn, 1) := by decide +kernel
theorem dX0_crossed_61 : decode cX0_crossed 61 = .ok (.lload 5, 2) := by decide +kernel
theorem dX0_crossed_63 : decode cX0_crossed 63 = .ok (.lconst 0, 1) := by decide +kernel
theorem dX0_crossed_64 : decode cX0_crossed 64 = .ok (.lcmp, 1) := by decide +kernel
theorem dX0_crossed_65 : decode cX0_crossed 65 = .ok (.ifCond .ne 11, 3) := by decide +kernel
theorem dX0_crossed_68 : decode cX0_crossed 68 = .ok (.aload_n 3, 1) := by decide +kernel
theorem dX0_crossed_69 : decode cX0_crossed 69 = .ok (.iload 7, 2) := by decide +kernel
theorem dX0_crossed_71 : decode cX0_crossed 71 = .ok (.iconst 0, 1) := by decide +kernel
theorem dX0_crossed_72 : decode cX0_crossed 72 = .ok (.invokevirtual 42, 3) := by decide +kernel
theorem dX0_crossed_75 : decode cX0_crossed 75 = .ok (.ireturn, 1) := by decide +kernel
theorem dX0_crossed_76 : decode cX0_crossed 76 = .ok (.iconst 0, 1) := by decide +kernel
theorem dX0_crossed_77 : decode cX0_crossed 77 = .ok (.aload_n 3, 1) := by decide +kernel
theorem dX0_crossed_78 : decode cX0_crossed 78 = .ok (.invokevirtual 77, 3) := by decide +kernel
theorem dX0_crossed_81 : decode cX0_crossed 81 = .ok (.aload_n 1, 1) := by decide +kernel
theorem dX0_crossed_82 : decode cX0_crossed 82 = .ok (.invokevirtual 77, 3) := by decide +kernel
theorem dX0_crossed_85 : decode cX0_crossed 85 = .ok (.isub, 1) := by decide +kernel
theorem dX0_crossed_86 : decode cX0_crossed 86 = .ok (.invokestatic 98, 3) := by decide +kernel
theorem dX0_crossed_89 : decode cX0_crossed 89 = .ok (.istore 8, 2) := by decide +kernel
theorem dX0_crossed_91 : decode cX0_crossed 91 = .ok (.iconst 0, 1) := by decide +kernel
theorem dX0_crossed_92 : decode cX0_crossed 92 = .ok (.aload_n 1, 1) := by decide +kernel
theorem dX0_crossed_93 : decode cX0_crossed 93 = .ok (.invokevirtual 77, 3) := by decide +kernel
theorem dX0_crossed_96 : decode cX0_crossed 96 = .ok (.aload_n 3, 1) := by decide +kernel
theorem dX0_crossed_97 : decode cX0_crossed 97 = .ok (.invokevirtual 77, 3) := by decide +kernel
theorem dX0_crossed_100 : decode cX0_crossed 100 = .ok (.isub, 1) := by decide +kernel
theorem dX0_crossed_101 : decode cX0_crossed 101 = .ok (.invokestatic 98, 3) := by decide +kernel
theorem dX0_crossed_104 : decode cX0_crossed 104 = .ok (.istore 9, 2) := by decide +kernel
theorem dX0_crossed_106 : decode cX0_crossed 106 = .ok (.aload_n 0, 1) := by decide +kernel
theorem dX0_crossed_107 : decode cX0_crossed 107 = .ok (.aload_n 3, 1) := by decide +kernel
theorem dX0_crossed_108 : decode cX0_crossed 108 = .ok (.iload 7, 2) := by decide +kernel
theorem dX0_crossed_110 : decode cX0_crossed 110 = .ok (.lload 5, 2) := by decide +kernel
theorem dX0_crossed_112 : decode cX0_crossed 112 = .ok (.iload 8, 2) := by decide +kernel
theorem dX0_crossed_114 : decode cX0_crossed 114 = .ok (.lshl, 1) := by decide +kernel
theorem dX0_crossed_115 : decode cX0_crossed 115 = .ok (.lconst 1, 1) := by decide +kernel
theorem dX0_crossed_116 : decode cX0_crossed 116 = .ok (.iload 9, 2) := by decide +kernel
theorem dX0_crossed_118 : decode cX0_crossed 118 = .ok (.lshl, 1) := by decide +kernel
theorem dX0_crossed_119 : decode cX0_crossed 119 = .ok (.iload 4, 2) := by decide +kernel
theorem dX0_crossed_121 : decode cX0_crossed 121 = .ok (.invokevirtual 80, 3) := by decide +kernel
theorem dX0_crossed_124 : decode cX0_crossed 124 = .ok (.ireturn, 1) := by decide +kernel
theorem dX0_acted_0 : decode cX0_acted 0 = .ok (.aload_n 1, 1) := by decide +kernel
theorem dX0_acted_1 : decode cX0_acted 1 = .ok (.iload_n 3, 1) := by decide +kernel
theorem dX0_acted_2 : decode cX0_acted 2 = .ok (.invokevirtual 102, 3) := by decide +kernel
theorem dX0_acted_5 : decode cX0_acted 5 = .ok (.ifCond .ne 17, 3) := by decide +kernel
theorem dX0_acted_8 : decode cX0_acted 8 = .ok (.iload_n 2, 1) := by decide +kernel
theorem dX0_acted_9 : decode cX0_acted 9 = .ok (.iconst 4, 1) := by decide +kernel
theorem dX0_acted_10 : decode cX0_acted 10 = .ok (.if_icmp .eq 17, 3) := by decide +kernel
theorem dX0_acted_13 : decode cX0_acted 13 = .ok (.aload_n 1, 1) := by decide +kernel
theorem dX0_acted_14 : decode cX0_acted 14 = .ok (.iload 4, 2) := by decide +kernel
theorem dX0_acted_16 : decode cX0_acted 16 = .ok (.invokevirtual 102, 3) := by decide +kernel
theorem dX0_acted_19 : decode cX0_acted 19 = .ok (.ifCond .eq 8, 3) := by decide +kernel
theorem dX0_acted_22 : decode cX0_acted 22 = .ok (.aload_n 1, 1) := by decide +kernel
theorem dX0_acted_23 : decode cX0_acted 23 = .ok (.invokevirtual 22, 3) := by decide +kernel
theorem dX0_acted_26 : decode cX0_acted 26 = .ok (.ireturn, 1) := by decide +kernel
theorem dX0_acted_27 : decode cX0_acted 27 = .ok (.iload_n 2, 1) := by decide +kernel
theorem dX0_acted_28 : decode cX0_acted 28 = .ok (.tableswitch 121 0 5 #[40, 57, 82, 93, 104, 113], 40) := by decide +kernel
theorem dX0_acted_68 : decode cX0_acted 68 = .ok (.aload_n 0, 1) := by decide +kernel
theorem dX0_acted_69 : decode cX0_acted 69 = .ok (.aload_n 1, 1) := by decide +kernel
theorem dX0_acted_70 : decode cX0_acted 70 = .ok (.iload_n 3, 1) := by decide +kernel
theorem dX0_acted_71 : decode cX0_acted 71 = .ok (.iload 4, 2) := by decide +kernel
theorem dX0_acted_73 : decode cX0_acted 73 = .ok (.aload_n 1, 1) := by decide +kernel
theorem dX0_acted_74 : decode cX0_acted 74 = .ok (.iload 4, 2) := by decide +kernel
theorem dX0_acted_76 : decode cX0_acted 76 = .ok (.invokevirtual 87, 3) := by decide +kernel
theorem dX0_acted_79 : decode cX0_acted 79 = .ok (.iload 5, 2) := by decide +kernel
theorem dX0_acted_81 : decode cX0_acted 81 = .ok (.invokevirtual 105, 3) := by decide +kernel
theorem dX0_acted_84 : decode cX0_acted 84 = .ok (.ireturn, 1) := by decide +kernel
theorem dX0_acted_85 : decode cX0_acted 85 = .ok (.aload_n 0, 1) := by decide +kernel
theorem dX0_acted_86 : decode cX0_acted 86 = .ok (.aload_n 1, 1) := by decide +kernel
theorem dX0_acted_87 : decode cX0_acted 87 = .ok (.iload_n 3, 1) := by decide +kernel
theorem dX0_acted_88 : decode cX0_acted 88 = .ok (.iload 4, 2) := by decide +kernel
theorem dX0_acted_90 : decode cX0_acted 90 = .ok (.aload_n 1, 1) := by decide +kernel
theorem dX0_acted_91 : decode cX0_acted 91 = .ok (.iload 4, 2) := by decide +kernel
theorem dX0_acted_93 : decode cX0_acted 93 = .ok (.invokevirtual 87, 3) := by decide +kernel
theorem dX0_acted_96 : decode cX0_acted 96 = .ok (.ifCond .ne 7, 3) := by decide +kernel
theorem dX0_acted_99 : decode cX0_acted 99 = .ok (.iconst 1, 1) := by decide +kernel
theorem dX0_acted_100 : decode cX0_acted 100 = .ok (.goto 4, 3) := by decide +kernel
theorem dX0_acted_103 : decode cX0_acted 103 = .ok (.iconst 0, 1) := by decide +kernel
theorem dX0_acted_104 : decode cX0_acted 104 = .ok (.iload 5, 2) := by decide +kernel
theorem dX0_acted_106 : decode cX0_acted 106 = .ok (.invokevirtual 105, 3) := by decide +kernel
theorem dX0_acted_109 : decode cX0_acted 109 = .ok (.ireturn, 1) := by decide +kernel
theorem dX0_acted_110 : decode cX0_acted 110 = .ok (.aload_n 0, 1) := by decide +kernel
theorem dX0_acted_111 : decode cX0_acted 111 = .ok (.aload_n 1, 1) := by decide +kernel
theorem dX0_acted_112 : decode cX0_acted 112 = .ok (.iload_n 3, 1) := by decide +kernel
theorem dX0_acted_113 : decode cX0_acted 113 = .ok (.iload 4, 2) := by decide +kernel
theorem dX0_acted_115 : decode cX0_acted 115 = .ok (.iload 5, 2) := by decide +kernel
theorem dX0_acted_117 : decode cX0_acted 117 = .ok (.invokevirtual 109, 3) := by decide +kernel
theorem dX0_acted_120 : decode cX0_acted 120 = .ok (.ireturn, 1) := by decide +kernel
theorem dX0_acted_121 : decode cX0_acted 121 = .ok (.aload_n 0, 1) := by decide +kernel
theorem dX0_acted_122 : decode cX0_acted 122 = .ok (.aload_n 1, 1) := by decide +kernel
theorem dX0_acted_123 : decode cX0_acted 123 = .ok (.iload_n 3, 1) := by decide +kernel
theorem dX0_acted_124 : decode cX0_acted 124 = .ok (.iload 4, 2) := by decide +kernel
theorem dX0_acted_126 : decode cX0_acted 126 = .ok (.iload 5, 2) := by decide +kernel
theorem dX0_acted_128 : decode cX0_acted 128 = .ok (.invokevirtual 113, 3) := by decide +kernel
theorem dX0_acted_131 : decode cX0_acted 131 = .ok (.ireturn, 1) := by decide +kernel
theorem dX0_acted_132 : decode cX0_acted 132 = .ok (.aload_n 0, 1) := by decide +kernel
theorem dX0_acted_133 : decode cX0_acted 133 = .ok (.aload_n 1, 1) := by decide +kernel
theorem dX0_acted_134 : decode cX0_acted 134 = .ok (.iload_n 3, 1) := by decide +kernel
theorem dX0_acted_135 : decode cX0_acted 135 = .ok (.iload 5, 2) := by decide +kernel
theorem dX0_acted_137 : decode cX0_acted 137 = .ok (.invokevirtual 116, 3) := by decide +kernel
theorem dX0_acted_140 : decode cX0_acted 140 = .ok (.ireturn, 1) := by decide +kernel
theorem dX0_acted_141 : decode cX0_acted 141 = .ok (.aload_n 1, 1) := by decide +kernel
theorem dX0_acted_142 : decode cX0_acted 142 = .ok (.iload_n 3, 1) := by decide +kernel
theorem dX0_acted_143 : decode cX0_acted 143 = .ok (.iload 4, 2) := by decide +kernel
theorem dX0_acted_145 : decode cX0_acted 145 = .ok (.invokevirtual 120, 3) := by decide +kernel
theorem dX0_acted_148 : decode cX0_acted 148 = .ok (.ireturn, 1) := by decide +kernel
theorem dX0_acted_149 : decode cX0_acted 149 = .ok (.aload_n 1, 1) := by decide +kernel
theorem dX0_acted_150 : decode cX0_acted 150 = .ok (.iload_n 3, 1) := by decide +kernel
theorem dX0_acted_151 : decode cX0_acted 151 = .ok (.iload 4, 2) := by decide +kernel
theorem dX0_acted_153 : decode cX0_acted 153 = .ok (.invokevirtual 123, 3) := by decide +kernel
theorem dX0_acted_156 : decode cX0_acted 156 = .ok (.ireturn, 1) := by decide +kernel
theorem dX0_added_0 : decode cX0_added 0 = .ok (.aload_n 1, 1) := by decide +kernel
theorem dX0_added_1 : decode cX0_added 1 = .ok (.iload_n 2, 1) := by decide +kernel
theorem dX0_added_2 : decode cX0_added 2 = .ok (.invokevirtual 87, 3) := by decide +kernel
theorem dX0_added_5 : decode cX0_added 5 = .ok (.istore 6, 2) := by decide +kernel
theorem dX0_added_7 : decode cX0_added 7 = .ok (.aload_n 1, 1) := by decide +kernel
theorem dX0_added_8 : decode cX0_added 8 = .ok (.iload_n 2, 1) := by decide +kernel
theorem dX0_added_9 : decode cX0_added 9 = .ok (.invokevirtual 84, 3) := by decide +kernel
theorem dX0_added_12 : decode cX0_added 12 = .ok (.lstore 7, 2) := by decide +kernel
theorem dX0_added_14 : decode cX0_added 14 = .ok (.aload_n 1, 1) := by decide +kernel
theorem dX0_added_15 : decode cX0_added 15 = .ok (.iload_n 3, 1) := by decide +kernel
theorem dX0_added_16 : decode cX0_added 16 = .ok (.invokevirtual 84, 3) := by decide +kernel
theorem dX0_added_19 : decode cX0_added 19 = .ok (.lstore 9, 2) := by decide +kernel
theorem dX0_added_21 : decode cX0_added 21 = .ok (.aload_n 0, 1) := by decide +kernel
theorem dX0_added_22 : decode cX0_added 22 = .ok (.aload_n 1, 1) := by decide +kernel
theorem dX0_added_23 : decode cX0_added 23 = .ok (.iload 6, 2) := by decide +kernel
theorem dX0_added_25 : decode cX0_added 25 = .ok (.lload 7, 2) := by decide +kernel
theorem dX0_added_27 : decode cX0_added 27 = .ok (.iload 4, 2) := by decide +kernel
theorem dX0_added_29 : decode cX0_added 29 = .ok (.lload 9, 2) := by decide +kernel
theorem dX0_added_31 : decode cX0_added 31 = .ok (.invokevirtual 126, 3) := by decide +kernel
theorem dX0_added_34 : decode cX0_added 34 = .ok (.istore 11, 2) := by decide +kernel
theorem dX0_added_36 : decode cX0_added 36 = .ok (.iload 11, 2) := by decide +kernel
theorem dX0_added_38 : decode cX0_added 38 = .ok (.bipush (-9), 2) := by decide +kernel
theorem dX0_added_40 : decode cX0_added 40 = .ok (.if_icmp .eq 6, 3) := by decide +kernel
theorem dX0_added_43 : decode cX0_added 43 = .ok (.iload 11, 2) := by decide +kernel
theorem dX0_added_45 : decode cX0_added 45 = .ok (.ireturn, 1) := by decide +kernel
theorem dX0_added_46 : decode cX0_added 46 = .ok (.iload 6, 2) := by decide +kernel
theorem dX0_added_48 : decode cX0_added 48 = .ok (.lload 7, 2) := by decide +kernel
theorem dX0_added_50 : decode cX0_added 50 = .ok (.invokestatic 130, 3) := by decide +kernel
theorem dX0_added_53 : decode cX0_added 53 = .ok (.iload 4, 2) := by decide +kernel
theorem dX0_added_55 : decode cX0_added 55 = .ok (.lload 9, 2) := by decide +kernel
theorem dX0_added_57 : decode cX0_added 57 = .ok (.invokestatic 130, 3) := by decide +kernel
theorem dX0_added_60 : decode cX0_added 60 = .ok (.ladd, 1) := by decide +kernel
theorem dX0_added_61 : decode cX0_added 61 = .ok (.lstore 12, 2) := by decide +kernel
theorem dX0_added_63 : decode cX0_added 63 = .ok (.lload 12, 2) := by decide +kernel
theorem dX0_added_65 : decode cX0_added 65 = .ok (.lconst 0, 1) := by decide +kernel
theorem dX0_added_66 : decode cX0_added 66 = .ok (.lcmp, 1) := by decide +kernel
theorem dX0_added_67 : decode cX0_added 67 = .ok (.ifCond .ne 39, 3) := by decide +kernel
theorem dX0_added_70 : decode cX0_added 70 = .ok (.aload_n 1, 1) := by decide +kernel
theorem dX0_added_71 : decode cX0_added 71 = .ok (.lload 7, 2) := by decide +kernel
theorem dX0_added_73 : decode cX0_added 73 = .ok (.lconst 0, 1) := by decide +kernel
theorem dX0_added_74 : decode cX0_added 74 = .ok (.lcmp, 1) := by decide +kernel
theorem dX0_added_75 : decode cX0_added 75 = .ok (.ifCond .ne 15, 3) := by decide +kernel
theorem dX0_added_78 : decode cX0_added 78 = .ok (.iload 6, 2) := by decide +kernel
theorem dX0_added_80 : decode cX0_added 80 = .ok (.iload 4, 2) := by decide +kernel
theorem dX0_added_82 : decode cX0_added 82 = .ok (.if_icmp .ne 8, 3) := by decide +kernel
theorem dX0_added_85 : decode cX0_added 85 = .ok (.iload 6, 2) := by decide +kernel
theorem dX0_added_87 : decode cX0_added 87 = .ok (.goto 14, 3) := by decide +kernel
theorem dX0_added_90 : decode cX0_added 90 = .ok (.iload 5, 2) := by decide +kernel
theorem dX0_added_92 : decode cX0_added 92 = .ok (.iconst 3, 1) := by decide +kernel
theorem dX0_added_93 : decode cX0_added 93 = .ok (.if_icmp .ne 7, 3) := by decide +kernel
theorem dX0_added_96 : decode cX0_added 96 = .ok (.iconst 1, 1) := by decide +kernel
theorem dX0_added_97 : decode cX0_added 97 = .ok (.goto 4, 3) := by decide +kernel
theorem dX0_added_100 : decode cX0_added 100 = .ok (.iconst 0, 1) := by decide +kernel
theorem dX0_added_101 : decode cX0_added 101 = .ok (.iconst 0, 1) := by decide +kernel
theorem dX0_added_102 : decode cX0_added 102 = .ok (.invokevirtual 42, 3) := by decide +kernel
theorem dX0_added_105 : decode cX0_added 105 = .ok (.ireturn, 1) := by decide +kernel
theorem dX0_added_106 : decode cX0_added 106 = .ok (.aload_n 0, 1) := by decide +kernel
theorem dX0_added_107 : decode cX0_added 107 = .ok (.aload_n 1, 1) := by decide +kernel
theorem dX0_added_108 : decode cX0_added 108 = .ok (.lload 12, 2) := by decide +kernel
theorem dX0_added_110 : decode cX0_added 110 = .ok (.lconst 0, 1) := by decide +kernel
theorem dX0_added_111 : decode cX0_added 111 = .ok (.lcmp, 1) := by decide +kernel
theorem dX0_added_112 : decode cX0_added 112 = .ok (.ifCond .ge 7, 3) := by decide +kernel
theorem dX0_added_115 : decode cX0_added 115 = .ok (.iconst 1, 1) := by decide +kernel
theorem dX0_added_116 : decode cX0_added 116 = .ok (.goto 4, 3) := by decide +kernel
theorem dX0_added_119 : decode cX0_added 119 = .ok (.iconst 0, 1) := by decide +kernel
theorem dX0_added_120 : decode cX0_added 120 = .ok (.lload 12, 2) := by decide +kernel
theorem dX0_added_122 : decode cX0_added 122 = .ok (.invokestatic 71, 3) := by decide +kernel
theorem dX0_added_125 : decode cX0_added 125 = .ok (.lconst 1, 1) := by decide +kernel
theorem dX0_added_126 : decode cX0_added 126 = .ok (.iload 5, 2) := by decide +kernel
theorem dX0_added_128 : decode cX0_added 128 = .ok (.invokevirtual 80, 3) := by decide +kernel
theorem dX0_added_131 : decode cX0_added 131 = .ok (.ireturn, 1) := by decide +kernel
theorem dX0_fusedOf_0 : decode cX0_fusedOf 0 = .ok (.aload_n 1, 1) := by decide +kernel
theorem dX0_fusedOf_1 : decode cX0_fusedOf 1 = .ok (.iload_n 2, 1) := by decide +kernel
theorem dX0_fusedOf_2 : decode cX0_fusedOf 2 = .ok (.invokevirtual 87, 3) := by decide +kernel
theorem dX0_fusedOf_5 : decode cX0_fusedOf 5 = .ok (.aload_n 1, 1) := by decide +kernel
theorem dX0_fusedOf_6 : decode cX0_fusedOf 6 = .ok (.iload_n 3, 1) := by decide +kernel
theorem dX0_fusedOf_7 : decode cX0_fusedOf 7 = .ok (.invokevirtual 87, 3) := by decide +kernel
theorem dX0_fusedOf_10 : decode cX0_fusedOf 10 = .ok (.if_icmp .eq 7, 3) := by decide +kernel
theorem dX0_fusedOf_13 : decode cX0_fusedOf 13 = .ok (.iconst 1, 1) := by decide +kernel
theorem dX0_fusedOf_14 : decode cX0_fusedOf 14 = .ok (.goto 4, 3) := by decide +kernel
theorem dX0_fusedOf_17 : decode cX0_fusedOf 17 = .ok (.iconst 0, 1) := by decide +kernel
theorem dX0_fusedOf_18 : decode cX0_fusedOf 18 = .ok (.istore 6, 2) := by decide +kernel
theorem dX0_fusedOf_20 : decode cX0_fusedOf 20 = .ok (.aload_n 1, 1) := by decide +kernel
theorem dX0_fusedOf_21 : decode cX0_fusedOf 21 = .ok (.iload 4, 2) := by decide +kernel
theorem dX0_fusedOf_23 : decode cX0_fusedOf 23 = .ok (.invokevirtual 87, 3) := by decide +kernel
theorem dX0_fusedOf_26 : decode cX0_fusedOf 26 = .ok (.istore 7, 2) := by decide +kernel
theorem dX0_fusedOf_28 : decode cX0_fusedOf 28 = .ok (.aload_n 1, 1) := by decide +kernel
theorem dX0_fusedOf_29 : decode cX0_fusedOf 29 = .ok (.iload_n 2, 1) := by decide +kernel
theorem dX0_fusedOf_30 : decode cX0_fusedOf 30 = .ok (.iload_n 3, 1) := by decide +kernel
theorem dX0_fusedOf_31 : decode cX0_fusedOf 31 = .ok (.invokevirtual 134, 3) := by decide +kernel
theorem dX0_fusedOf_34 : decode cX0_fusedOf 34 = .ok (.lstore 8, 2) := by decide +kernel
theorem dX0_fusedOf_36 : decode cX0_fusedOf 36 = .ok (.aload_n 1, 1) := by decide +kernel
theorem dX0_fusedOf_37 : decode cX0_fusedOf 37 = .ok (.iload 4, 2) := by decide +kernel
theorem dX0_fusedOf_39 : decode cX0_fusedOf 39 = .ok (.invokevirtual 84, 3) := by decide +kernel
theorem dX0_fusedOf_42 : decode cX0_fusedOf 42 = .ok (.lstore 10, 2) := by decide +kernel
theorem dX0_fusedOf_44 : decode cX0_fusedOf 44 = .ok (.lload 8, 2) := by decide +kernel
theorem dX0_fusedOf_46 : decode cX0_fusedOf 46 = .ok (.ldc2_w 138, 3) := by decide +kernel
theorem dX0_fusedOf_49 : decode cX0_fusedOf 49 = .ok (.lcmp, 1) := by decide +kernel
theorem dX0_fusedOf_50 : decode cX0_fusedOf 50 = .ok (.ifCond .ne 9, 3) := by decide +kernel
theorem dX0_fusedOf_53 : decode cX0_fusedOf 53 = .ok (.aload_n 0, 1) := by decide +kernel
theorem dX0_fusedOf_54 : decode cX0_fusedOf 54 = .ok (.aload_n 1, 1) := by decide +kernel
theorem dX0_fusedOf_55 : decode cX0_fusedOf 55 = .ok (.invokevirtual 93, 3) := by decide +kernel
theorem dX0_fusedOf_58 : decode cX0_fusedOf 58 = .ok (.ireturn, 1) := by decide +kernel
theorem dX0_fusedOf_59 : decode cX0_fusedOf 59 = .ok (.lload 8, 2) := by decide +kernel
theorem dX0_fusedOf_61 : decode cX0_fusedOf 61 = .ok (.ldc2_w 91, 3) := by decide +kernel
theorem dX0_fusedOf_64 : decode cX0_fusedOf 64 = .ok (.lcmp, 1) := by decide +kernel
theorem dX0_fusedOf_65 : decode cX0_fusedOf 65 = .ok (.ifCond .eq 12, 3) := by decide +kernel
theorem dX0_fusedOf_68 : decode cX0_fusedOf 68 = .ok (.lload 10, 2) := by decide +kernel
theorem dX0_fusedOf_70 : decode cX0_fusedOf 70 = .ok (.ldc2_w 91, 3) := by decide +kernel
theorem dX0_fusedOf_73 : decode cX0_fusedOf 73 = .ok (.lcmp, 1) := by decide +kernel
theorem dX0_fusedOf_74 : decode cX0_fusedOf 74 = .ok (.ifCond .ne 8, 3) := by decide +kernel
theorem dX0_fusedOf_77 : decode cX0_fusedOf 77 = .ok (.aload_n 1, 1) := by decide +kernel
theorem dX0_fusedOf_78 : decode cX0_fusedOf 78 = .ok (.invokevirtual 22, 3) := by decide +kernel
theorem dX0_fusedOf_81 : decode cX0_fusedOf 81 = .ok (.ireturn, 1) := by decide +kernel
theorem dX0_fusedOf_82 : decode cX0_fusedOf 82 = .ok (.aload_n 0, 1) := by decide +kernel
theorem dX0_fusedOf_83 : decode cX0_fusedOf 83 = .ok (.aload_n 1, 1) := by decide +kernel
theorem dX0_fusedOf_84 : decode cX0_fusedOf 84 = .ok (.iload 6, 2) := by decide +kernel
theorem dX0_fusedOf_86 : decode cX0_fusedOf 86 = .ok (.lload 8, 2) := by decide +kernel
theorem dX0_fusedOf_88 : decode cX0_fusedOf 88 = .ok (.iload 7, 2) := by decide +kernel
theorem dX0_fusedOf_90 : decode cX0_fusedOf 90 = .ok (.lload 10, 2) := by decide +kernel
theorem dX0_fusedOf_92 : decode cX0_fusedOf 92 = .ok (.invokevirtual 126, 3) := by decide +kernel
theorem dX0_fusedOf_95 : decode cX0_fusedOf 95 = .ok (.istore 12, 2) := by decide +kernel
theorem dX0_fusedOf_97 : decode cX0_fusedOf 97 = .ok (.iload 12, 2) := by decide +kernel
theorem dX0_fusedOf_99 : decode cX0_fusedOf 99 = .ok (.bipush (-9), 2) := by decide +kernel
theorem dX0_fusedOf_101 : decode cX0_fusedOf 101 = .ok (.if_icmp .eq 6, 3) := by decide +kernel
theorem dX0_fusedOf_104 : decode cX0_fusedOf 104 = .ok (.iload 12, 2) := by decide +kernel
theorem dX0_fusedOf_106 : decode cX0_fusedOf 106 = .ok (.ireturn, 1) := by decide +kernel
theorem dX0_fusedOf_107 : decode cX0_fusedOf 107 = .ok (.iload 6, 2) := by decide +kernel
theorem dX0_fusedOf_109 : decode cX0_fusedOf 109 = .ok (.lload 8, 2) := by decide +kernel
theorem dX0_fusedOf_111 : decode cX0_fusedOf 111 = .ok (.invokestatic 130, 3) := by decide +kernel
theorem dX0_fusedOf_114 : decode cX0_fusedOf 114 = .ok (.iload 7, 2) := by decide +kernel
theorem dX0_fusedOf_116 : decode cX0_fusedOf 116 = .ok (.lload 10, 2) := by decide +kernel
theorem dX0_fusedOf_118 : decode cX0_fusedOf 118 = .ok (.invokestatic 130, 3) := by decide +kernel
theorem dX0_fusedOf_121 : decode cX0_fusedOf 121 = .ok (.aload_n 1, 1) := by decide +kernel
theorem dX0_fusedOf_122 : decode cX0_fusedOf 122 = .ok (.invokevirtual 77, 3) := by decide +kernel
theorem dX0_fusedOf_125 : decode cX0_fusedOf 125 = .ok (.lshl, 1) := by decide +kernel
theorem dX0_fusedOf_126 : decode cX0_fusedOf 126 = .ok (.ladd, 1) := by decide +kernel
theorem dX0_fusedOf_127 : decode cX0_fusedOf 127 = .ok (.lstore 13, 2) := by decide +kernel
theorem dX0_fusedOf_129 : decode cX0_fusedOf 129 = .ok (.lload 13, 2) := by decide +kernel
theorem dX0_fusedOf_131 : decode cX0_fusedOf 131 = .ok (.lconst 0, 1) := by decide +kernel
theorem dX0_fusedOf_132 : decode cX0_fusedOf 132 = .ok (.lcmp, 1) := by decide +kernel
theorem dX0_fusedOf_133 : decode cX0_fusedOf 133 = .ok (.ifCond .ne 39, 3) := by decide +kernel
theorem dX0_fusedOf_136 : decode cX0_fusedOf 136 = .ok (.aload_n 1, 1) := by decide +kernel
theorem dX0_fusedOf_137 : decode cX0_fusedOf 137 = .ok (.lload 8, 2) := by decide +kernel
theorem dX0_fusedOf_139 : decode cX0_fusedOf 139 = .ok (.lconst 0, 1) := by decide +kernel
theorem dX0_fusedOf_140 : decode cX0_fusedOf 140 = .ok (.lcmp, 1) := by decide +kernel
theorem dX0_fusedOf_141 : decode cX0_fusedOf 141 = .ok (.ifCond .ne 15, 3) := by decide +kernel
theorem dX0_fusedOf_144 : decode cX0_fusedOf 144 = .ok (.iload 6, 2) := by decide +kernel
theorem dX0_fusedOf_146 : decode cX0_fusedOf 146 = .ok (.iload 7, 2) := by decide +kernel
theorem dX0_fusedOf_148 : decode cX0_fusedOf 148 = .ok (.if_icmp .ne 8, 3) := by decide +kernel
theorem dX0_fusedOf_151 : decode cX0_fusedOf 151 = .ok (.iload 7, 2) := by decide +kernel
theorem dX0_fusedOf_153 : decode cX0_fusedOf 153 = .ok (.goto 14, 3) := by decide +kernel
theorem dX0_fusedOf_156 : decode cX0_fusedOf 156 = .ok (.iload 5, 2) := by decide +kernel
theorem dX0_fusedOf_158 : decode cX0_fusedOf 158 = .ok (.iconst 3, 1) := by decide +kernel
theorem dX0_fusedOf_159 : decode cX0_fusedOf 159 = .ok (.if_icmp .ne 7, 3) := by decide +kernel
theorem dX0_fusedOf_162 : decode cX0_fusedOf 162 = .ok (.iconst 1, 1) := by decide +kernel
theorem dX0_fusedOf_163 : decode cX0_fusedOf 163 = .ok (.goto 4, 3) := by decide +kernel
theorem dX0_fusedOf_166 : decode cX0_fusedOf 166 = .ok (.iconst 0, 1) := by decide +kernel
theorem dX0_fusedOf_167 : decode cX0_fusedOf 167 = .ok (.iconst 0, 1) := by decide +kernel
theorem dX0_fusedOf_168 : decode cX0_fusedOf 168 = .ok (.invokevirtual 42, 3) := by decide +kernel
theorem dX0_fusedOf_171 : decode cX0_fusedOf 171 = .ok (.ireturn, 1) := by decide +kernel
theorem dX0_fusedOf_172 : decode cX0_fusedOf 172 = .ok (.aload_n 0, 1) := by decide +kernel
theorem dX0_fusedOf_173 : decode cX0_fusedOf 173 = .ok (.aload_n 1, 1) := by decide +kernel
theorem dX0_fusedOf_174 : decode cX0_fusedOf 174 = .ok (.lload 13, 2) := by decide +kernel
theorem dX0_fusedOf_176 : decode cX0_fusedOf 176 = .ok (.lconst 0, 1) := by decide +kernel
theorem dX0_fusedOf_177 : decode cX0_fusedOf 177 = .ok (.lcmp, 1) := by decide +kernel
theorem dX0_fusedOf_178 : decode cX0_fusedOf 178 = .ok (.ifCond .ge 7, 3) := by decide +kernel
theorem dX0_fusedOf_181 : decode cX0_fusedOf 181 = .ok (.iconst 1, 1) := by decide +kernel
theorem dX0_fusedOf_182 : decode cX0_fusedOf 182 = .ok (.goto 4, 3) := by decide +kernel
theorem dX0_fusedOf_185 : decode cX0_fusedOf 185 = .ok (.iconst 0, 1) := by decide +kernel
theorem dX0_fusedOf_186 : decode cX0_fusedOf 186 = .ok (.lload 13, 2) := by decide +kernel
theorem dX0_fusedOf_188 : decode cX0_fusedOf 188 = .ok (.invokestatic 71, 3) := by decide +kernel
theorem dX0_fusedOf_191 : decode cX0_fusedOf 191 = .ok (.lconst 1, 1) := by decide +kernel
theorem dX0_fusedOf_192 : decode cX0_fusedOf 192 = .ok (.aload_n 1, 1) := by decide +kernel
theorem dX0_fusedOf_193 : decode cX0_fusedOf 193 = .ok (.invokevirtual 77, 3) := by decide +kernel
theorem dX0_fusedOf_196 : decode cX0_fusedOf 196 = .ok (.lshl, 1) := by decide +kernel
theorem dX0_fusedOf_197 : decode cX0_fusedOf 197 = .ok (.iload 5, 2) := by decide +kernel
theorem dX0_fusedOf_199 : decode cX0_fusedOf 199 = .ok (.invokevirtual 80, 3) := by decide +kernel
theorem dX0_fusedOf_202 : decode cX0_fusedOf 202 = .ok (.ireturn, 1) := by decide +kernel
theorem dX0_endlessOfSum_0 : decode cX0_endlessOfSum 0 = .ok (.lload_n 3, 1) := by decide +kernel
theorem dX0_endlessOfSum_1 : decode cX0_endlessOfSum 1 = .ok (.ldc2_w 96, 3) := by decide +kernel
theorem dX0_endlessOfSum_4 : decode cX0_endlessOfSum 4 = .ok (.lcmp, 1) := by decide +kernel
theorem dX0_endlessOfSum_5 : decode cX0_endlessOfSum 5 = .ok (.ifCond .ne 7, 3) := by decide +kernel
theorem dX0_endlessOfSum_8 : decode cX0_endlessOfSum 8 = .ok (.iconst 1, 1) := by decide +kernel
theorem dX0_endlessOfSum_9 : decode cX0_endlessOfSum 9 = .ok (.goto 4, 3) := by decide +kernel
theorem dX0_endlessOfSum_12 : decode cX0_endlessOfSum 12 = .ok (.iconst 0, 1) := by decide +kernel
theorem dX0_endlessOfSum_13 : decode cX0_endlessOfSum 13 = .ok (.istore 8, 2) := by decide +kernel
theorem dX0_endlessOfSum_15 : decode cX0_endlessOfSum 15 = .ok (.lload 6, 2) := by decide +kernel
theorem dX0_endlessOfSum_17 : decode cX0_endlessOfSum 17 = .ok (.ldc2_w 96, 3) := by decide +kernel
theorem dX0_endlessOfSum_20 : decode cX0_endlessOfSum 20 = .ok (.lcmp, 1) := by decide +kernel
theorem dX0_endlessOfSum_21 : decode cX0_endlessOfSum 21 = .ok (.ifCond .ne 7, 3) := by decide +kernel
theorem dX0_endlessOfSum_24 : decode cX0_endlessOfSum 24 = .ok (.iconst 1, 1) := by decide +kernel
theorem dX0_endlessOfSum_25 : decode cX0_endlessOfSum 25 = .ok (.goto 4, 3) := by decide +kernel
theorem dX0_endlessOfSum_28 : decode cX0_endlessOfSum 28 = .ok (.iconst 0, 1) := by decide +kernel
theorem dX0_endlessOfSum_29 : decode cX0_endlessOfSum 29 = .ok (.istore 9, 2) := by decide +kernel
theorem dX0_endlessOfSum_31 : decode cX0_endlessOfSum 31 = .ok (.iload 8, 2) := by decide +kernel
theorem dX0_endlessOfSum_33 : decode cX0_endlessOfSum 33 = .ok (.ifCond .eq 20, 3) := by decide +kernel
theorem dX0_endlessOfSum_36 : decode cX0_endlessOfSum 36 = .ok (.iload 9, 2) := by decide +kernel
theorem dX0_endlessOfSum_38 : decode cX0_endlessOfSum 38 = .ok (.ifCond .eq 15, 3) := by decide +kernel
theorem dX0_endlessOfSum_41 : decode cX0_endlessOfSum 41 = .ok (.iload_n 2, 1) := by decide +kernel
theorem dX0_endlessOfSum_42 : decode cX0_endlessOfSum 42 = .ok (.iload 5, 2) := by decide +kernel
theorem dX0_endlessOfSum_44 : decode cX0_endlessOfSum 44 = .ok (.if_icmp .eq 9, 3) := by decide +kernel
theorem dX0_endlessOfSum_47 : decode cX0_endlessOfSum 47 = .ok (.aload_n 0, 1) := by decide +kernel
theorem dX0_endlessOfSum_48 : decode cX0_endlessOfSum 48 = .ok (.aload_n 1, 1) := by decide +kernel
theorem dX0_endlessOfSum_49 : decode cX0_endlessOfSum 49 = .ok (.invokevirtual 93, 3) := by decide +kernel
theorem dX0_endlessOfSum_52 : decode cX0_endlessOfSum 52 = .ok (.ireturn, 1) := by decide +kernel
theorem dX0_endlessOfSum_53 : decode cX0_endlessOfSum 53 = .ok (.iload 8, 2) := by decide +kernel
theorem dX0_endlessOfSum_55 : decode cX0_endlessOfSum 55 = .ok (.ifCond .ne 8, 3) := by decide +kernel
theorem dX0_endlessOfSum_58 : decode cX0_endlessOfSum 58 = .ok (.iload 9, 2) := by decide +kernel
theorem dX0_endlessOfSum_60 : decode cX0_endlessOfSum 60 = .ok (.ifCond .eq 19, 3) := by decide +kernel
theorem dX0_endlessOfSum_63 : decode cX0_endlessOfSum 63 = .ok (.aload_n 1, 1) := by decide +kernel
theorem dX0_endlessOfSum_64 : decode cX0_endlessOfSum 64 = .ok (.iload 8, 2) := by decide +kernel
theorem dX0_endlessOfSum_66 : decode cX0_endlessOfSum 66 = .ok (.ifCond .eq 7, 3) := by decide +kernel
theorem dX0_endlessOfSum_69 : decode cX0_endlessOfSum 69 = .ok (.iload_n 2, 1) := by decide +kernel
theorem dX0_endlessOfSum_70 : decode cX0_endlessOfSum 70 = .ok (.goto 5, 3) := by decide +kernel
theorem dX0_endlessOfSum_73 : decode cX0_endlessOfSum 73 = .ok (.iload 5, 2) := by decide +kernel
theorem dX0_endlessOfSum_75 : decode cX0_endlessOfSum 75 = .ok (.invokevirtual 67, 3) := by decide +kernel
theorem dX0_endlessOfSum_78 : decode cX0_endlessOfSum 78 = .ok (.ireturn, 1) := by decide +kernel
theorem dX0_endlessOfSum_79 : decode cX0_endlessOfSum 79 = .ok (.bipush (-9), 2) := by decide +kernel
theorem dX0_endlessOfSum_81 : decode cX0_endlessOfSum 81 = .ok (.ireturn, 1) := by decide +kernel
theorem dX0_multiplied_0 : decode cX0_multiplied 0 = .ok (.aload_n 1, 1) := by decide +kernel
theorem dX0_multiplied_1 : decode cX0_multiplied 1 = .ok (.iload_n 2, 1) := by decide +kernel
theorem dX0_multiplied_2 : decode cX0_multiplied 2 = .ok (.invokevirtual 87, 3) := by decide +kernel
theorem dX0_multiplied_5 : decode cX0_multiplied 5 = .ok (.aload_n 1, 1) := by decide +kernel
theorem dX0_multiplied_6 : decode cX0_multiplied 6 = .ok (.iload_n 3, 1) := by decide +kernel
theorem dX0_multiplied_7 : decode cX0_multiplied 7 = .ok (.invokevirtual 87, 3) := by decide +kernel
theorem dX0_multiplied_10 : decode cX0_multiplied 10 = .ok (.if_icmp .eq 7, 3) := by decide +kernel
theorem dX0_multiplied_13 : decode cX0_multiplied 13 = .ok (.iconst 1, 1) := by decide +kernel
theorem dX0_multiplied_14 : decode cX0_multiplied 14 = .ok (.goto 4, 3) := by decide +kernel
theorem dX0_multiplied_17 : decode cX0_multiplied 17 = .ok (.iconst 0, 1) := by decide +kernel
theorem dX0_multiplied_18 : decode cX0_multiplied 18 = .ok (.istore 5, 2) := by decide +kernel
theorem dX0_multiplied_20 : decode cX0_multiplied 20 = .ok (.aload_n 1, 1) := by decide +kernel
theorem dX0_multiplied_21 : decode cX0_multiplied 21 = .ok (.iload_n 2, 1) := by decide +kernel
theorem dX0_multiplied_22 : decode cX0_multiplied 22 = .ok (.iload_n 3, 1) := by decide +kernel
theorem dX0_multiplied_23 : decode cX0_multiplied 23 = .ok (.invokevirtual 134, 3) := by decide +kernel
theorem dX0_multiplied_26 : decode cX0_multiplied 26 = .ok (.lstore 6, 2) := by decide +kernel
theorem dX0_multiplied_28 : decode cX0_multiplied 28 = .ok (.lload 6, 2) := by decide +kernel
theorem dX0_multiplied_30 : decode cX0_multiplied 30 = .ok (.ldc2_w 138, 3) := by decide +kernel
theorem dX0_multiplied_33 : decode cX0_multiplied 33 = .ok (.lcmp, 1) := by decide +kernel
theorem dX0_multiplied_34 : decode cX0_multiplied 34 = .ok (.ifCond .ne 9, 3) := by decide +kernel
theorem dX0_multiplied_37 : decode cX0_multiplied 37 = .ok (.aload_n 0, 1) := by decide +kernel
theorem dX0_multiplied_38 : decode cX0_multiplied 38 = .ok (.aload_n 1, 1) := by decide +kernel
theorem dX0_multiplied_39 : decode cX0_multiplied 39 = .ok (.invokevirtual 93, 3) := by decide +kernel
theorem dX0_multiplied_42 : decode cX0_multiplied 42 = .ok (.ireturn, 1) := by decide +kernel
theorem dX0_multiplied_43 : decode cX0_multiplied 43 = .ok (.lload 6, 2) := by decide +kernel
theorem dX0_multiplied_45 : decode cX0_multiplied 45 = .ok (.ldc2_w 96, 3) := by decide +kernel
theorem dX0_multiplied_48 : decode cX0_multiplied 48 = .ok (.lcmp, 1) := by decide +kernel
theorem dX0_multiplied_49 : decode cX0_multiplied 49 = .ok (.ifCond .ne 10, 3) := by decide +kernel
theorem dX0_multiplied_52 : decode cX0_multiplied 52 = .ok (.aload_n 1, 1) := by decide +kernel
theorem dX0_multiplied_53 : decode cX0_multiplied 53 = .ok (.iload 5, 2) := by decide +kernel
theorem dX0_multiplied_55 : decode cX0_multiplied 55 = .ok (.invokevirtual 67, 3) := by decide +kernel
theorem dX0_multiplied_58 : decode cX0_multiplied 58 = .ok (.ireturn, 1) := by decide +kernel
theorem dX0_multiplied_59 : decode cX0_multiplied 59 = .ok (.lload 6, 2) := by decide +kernel
theorem dX0_multiplied_61 : decode cX0_multiplied 61 = .ok (.lconst 0, 1) := by decide +kernel
theorem dX0_multiplied_62 : decode cX0_multiplied 62 = .ok (.lcmp, 1) := by decide +kernel
theorem dX0_multiplied_63 : decode cX0_multiplied 63 = .ok (.ifCond .ne 13, 3) := by decide +kernel
theorem dX0_multiplied_66 : decode cX0_multiplied 66 = .ok (.aload_n 1, 1) := by decide +kernel
theorem dX0_multiplied_67 : decode cX0_multiplied 67 = .ok (.iload 5, 2) := by decide +kernel
theorem dX0_multiplied_69 : decode cX0_multiplied 69 = .ok (.iconst 0, 1) := by decide +kernel
theorem dX0_multiplied_70 : decode cX0_multiplied 70 = .ok (.invokevirtual 42, 3) := by decide +kernel
theorem dX0_multiplied_73 : decode cX0_multiplied 73 = .ok (.goto 20, 3) := by decide +kernel
theorem dX0_multiplied_76 : decode cX0_multiplied 76 = .ok (.aload_n 0, 1) := by decide +kernel
theorem dX0_multiplied_77 : decode cX0_multiplied 77 = .ok (.aload_n 1, 1) := by decide +kernel
theorem dX0_multiplied_78 : decode cX0_multiplied 78 = .ok (.iload 5, 2) := by decide +kernel
theorem dX0_multiplied_80 : decode cX0_multiplied 80 = .ok (.lload 6, 2) := by decide +kernel
theorem dX0_multiplied_82 : decode cX0_multiplied 82 = .ok (.lconst 1, 1) := by decide +kernel
theorem dX0_multiplied_83 : decode cX0_multiplied 83 = .ok (.aload_n 1, 1) := by decide +kernel
theorem dX0_multiplied_84 : decode cX0_multiplied 84 = .ok (.invokevirtual 77, 3) := by decide +kernel
theorem dX0_multiplied_87 : decode cX0_multiplied 87 = .ok (.lshl, 1) := by decide +kernel
theorem dX0_multiplied_88 : decode cX0_multiplied 88 = .ok (.iload 4, 2) := by decide +kernel
theorem dX0_multiplied_90 : decode cX0_multiplied 90 = .ok (.invokevirtual 80, 3) := by decide +kernel
theorem dX0_multiplied_93 : decode cX0_multiplied 93 = .ok (.ireturn, 1) := by decide +kernel
theorem dX0_divided_0 : decode cX0_divided 0 = .ok (.aload_n 1, 1) := by decide +kernel
theorem dX0_divided_1 : decode cX0_divided 1 = .ok (.iload_n 2, 1) := by decide +kernel
theorem dX0_divided_2 : decode cX0_divided 2 = .ok (.invokevirtual 87, 3) := by decide +kernel
theorem dX0_divided_5 : decode cX0_divided 5 = .ok (.aload_n 1, 1) := by decide +kernel
theorem dX0_divided_6 : decode cX0_divided 6 = .ok (.iload_n 3, 1) := by decide +kernel
theorem dX0_divided_7 : decode cX0_divided 7 = .ok (.invokevirtual 87, 3) := by decide +kernel
theorem dX0_divided_10 : decode cX0_divided 10 = .ok (.if_icmp .eq 7, 3) := by decide +kernel
theorem dX0_divided_13 : decode cX0_divided 13 = .ok (.iconst 1, 1) := by decide +kernel
theorem dX0_divided_14 : decode cX0_divided 14 = .ok (.goto 4, 3) := by decide +kernel
theorem dX0_divided_17 : decode cX0_divided 17 = .ok (.iconst 0, 1) := by decide +kernel
theorem dX0_divided_18 : decode cX0_divided 18 = .ok (.istore 5, 2) := by decide +kernel
theorem dX0_divided_20 : decode cX0_divided 20 = .ok (.aload_n 1, 1) := by decide +kernel
theorem dX0_divided_21 : decode cX0_divided 21 = .ok (.iload_n 2, 1) := by decide +kernel
theorem dX0_divided_22 : decode cX0_divided 22 = .ok (.invokevirtual 84, 3) := by decide +kernel
theorem dX0_divided_25 : decode cX0_divided 25 = .ok (.lstore 6, 2) := by decide +kernel
theorem dX0_divided_27 : decode cX0_divided 27 = .ok (.aload_n 1, 1) := by decide +kernel
theorem dX0_divided_28 : decode cX0_divided 28 = .ok (.iload_n 3, 1) := by decide +kernel
theorem dX0_divided_29 : decode cX0_divided 29 = .ok (.invokevirtual 84, 3) := by decide +kernel
theorem dX0_divided_32 : decode cX0_divided 32 = .ok (.lstore 8, 2) := by decide +kernel
theorem dX0_divided_34 : decode cX0_divided 34 = .ok (.lload 6, 2) := by decide +kernel
theorem dX0_divided_36 : decode cX0_divided 36 = .ok (.lload 8, 2) := by decide +kernel
theorem dX0_divided_38 : decode cX0_divided 38 = .ok (.lcmp, 1) := by decide +kernel
theorem dX0_divided_39 : decode cX0_divided 39 = .ok (.ifCond .ne 25, 3) := by decide +kernel
theorem dX0_divided_42 : decode cX0_divided 42 = .ok (.lload 6, 2) := by decide +kernel
theorem dX0_divided_44 : decode cX0_divided 44 = .ok (.lconst 0, 1) := by decide +kernel
theorem dX0_divided_45 : decode cX0_divided 45 = .ok (.lcmp, 1) := by decide +kernel
theorem dX0_divided_46 : decode cX0_divided 46 = .ok (.ifCond .eq 12, 3) := by decide +kernel
theorem dX0_divided_49 : decode cX0_divided 49 = .ok (.lload 6, 2) := by decide +kernel
theorem dX0_divided_51 : decode cX0_divided 51 = .ok (.ldc2_w 96, 3) := by decide +kernel
theorem dX0_divided_54 : decode cX0_divided 54 = .ok (.lcmp, 1) := by decide +kernel
theorem dX0_divided_55 : decode cX0_divided 55 = .ok (.ifCond .ne 9, 3) := by decide +kernel
theorem dX0_divided_58 : decode cX0_divided 58 = .ok (.aload_n 0, 1) := by decide +kernel
theorem dX0_divided_59 : decode cX0_divided 59 = .ok (.aload_n 1, 1) := by decide +kernel
theorem dX0_divided_60 : decode cX0_divided 60 = .ok (.invokevirtual 93, 3) := by decide +kernel
theorem dX0_divided_63 : decode cX0_divided 63 = .ok (.ireturn, 1) := by decide +kernel
theorem dX0_divided_64 : decode cX0_divided 64 = .ok (.lload 6, 2) := by decide +kernel
theorem dX0_divided_66 : decode cX0_divided 66 = .ok (.ldc2_w 96, 3) := by decide +kernel
theorem dX0_divided_69 : decode cX0_divided 69 = .ok (.lcmp, 1) := by decide +kernel
theorem dX0_divided_70 : decode cX0_divided 70 = .ok (.ifCond .eq 10, 3) := by decide +kernel
theorem dX0_divided_73 : decode cX0_divided 73 = .ok (.lload 8, 2) := by decide +kernel
theorem dX0_divided_75 : decode cX0_divided 75 = .ok (.lconst 0, 1) := by decide +kernel
theorem dX0_divided_76 : decode cX0_divided 76 = .ok (.lcmp, 1) := by decide +kernel
theorem dX0_divided_77 : decode cX0_divided 77 = .ok (.ifCond .ne 10, 3) := by decide +kernel
theorem dX0_divided_80 : decode cX0_divided 80 = .ok (.aload_n 1, 1) := by decide +kernel
theorem dX0_divided_81 : decode cX0_divided 81 = .ok (.iload 5, 2) := by decide +kernel
theorem dX0_divided_83 : decode cX0_divided 83 = .ok (.invokevirtual 67, 3) := by decide +kernel
theorem dX0_divided_86 : decode cX0_divided 86 = .ok (.ireturn, 1) := by decide +kernel
theorem dX0_divided_87 : decode cX0_divided 87 = .ok (.lload 6, 2) := by decide +kernel
theorem dX0_divided_89 : decode cX0_divided 89 = .ok (.lconst 0, 1) := by decide +kernel
theorem dX0_divided_90 : decode cX0_divided 90 = .ok (.lcmp, 1) := by decide +kernel
theorem dX0_divided_91 : decode cX0_divided 91 = .ok (.ifCond .eq 12, 3) := by decide +kernel
theorem dX0_divided_94 : decode cX0_divided 94 = .ok (.lload 8, 2) := by decide +kernel
theorem dX0_divided_96 : decode cX0_divided 96 = .ok (.ldc2_w 96, 3) := by decide +kernel
theorem dX0_divided_99 : decode cX0_divided 99 = .ok (.lcmp, 1) := by decide +kernel
theorem dX0_divided_100 : decode cX0_divided 100 = .ok (.ifCond .ne 11, 3) := by decide +kernel
theorem dX0_divided_103 : decode cX0_divided 103 = .ok (.aload_n 1, 1) := by decide +kernel
theorem dX0_divided_104 : decode cX0_divided 104 = .ok (.iload 5, 2) := by decide +kernel
theorem dX0_divided_106 : decode cX0_divided 106 = .ok (.iconst 0, 1) := by decide +kernel
theorem dX0_divided_107 : decode cX0_divided 107 = .ok (.invokevirtual 42, 3) := by decide +kernel
theorem dX0_divided_110 : decode cX0_divided 110 = .ok (.ireturn, 1) := by decide +kernel
theorem dX0_divided_111 : decode cX0_divided 111 = .ok (.aload_n 0, 1) := by decide +kernel
theorem dX0_divided_112 : decode cX0_divided 112 = .ok (.aload_n 1, 1) := by decide +kernel
theorem dX0_divided_113 : decode cX0_divided 113 = .ok (.iload 5, 2) := by decide +kernel
theorem dX0_divided_115 : decode cX0_divided 115 = .ok (.lload 6, 2) := by decide +kernel
theorem dX0_divided_117 : decode cX0_divided 117 = .ok (.aload_n 1, 1) := by decide +kernel
theorem dX0_divided_118 : decode cX0_divided 118 = .ok (.invokevirtual 77, 3) := by decide +kernel
theorem dX0_divided_121 : decode cX0_divided 121 = .ok (.lshl, 1) := by decide +kernel
theorem dX0_divided_122 : decode cX0_divided 122 = .ok (.lload 8, 2) := by decide +kernel
theorem dX0_divided_124 : decode cX0_divided 124 = .ok (.iload 4, 2) := by decide +kernel
theorem dX0_divided_126 : decode cX0_divided 126 = .ok (.invokevirtual 80, 3) := by decide +kernel
theorem dX0_divided_129 : decode cX0_divided 129 = .ok (.ireturn, 1) := by decide +kernel
theorem dX0_rootOf_0 : decode cX0_rootOf 0 = .ok (.aload_n 1, 1) := by decide +kernel
theorem dX0_rootOf_1 : decode cX0_rootOf 1 = .ok (.iload_n 2, 1) := by decide +kernel
theorem dX0_rootOf_2 : decode cX0_rootOf 2 = .ok (.invokevirtual 84, 3) := by decide +kernel
theorem dX0_rootOf_5 : decode cX0_rootOf 5 = .ok (.lstore 4, 2) := by decide +kernel
theorem dX0_rootOf_7 : decode cX0_rootOf 7 = .ok (.lload 4, 2) := by decide +kernel
theorem dX0_rootOf_9 : decode cX0_rootOf 9 = .ok (.lconst 0, 1) := by decide +kernel
theorem dX0_rootOf_10 : decode cX0_rootOf 10 = .ok (.lcmp, 1) := by decide +kernel
theorem dX0_rootOf_11 : decode cX0_rootOf 11 = .ok (.ifCond .ne 5, 3) := by decide +kernel
theorem dX0_rootOf_14 : decode cX0_rootOf 14 = .ok (.iload_n 2, 1) := by decide +kernel
theorem dX0_rootOf_15 : decode cX0_rootOf 15 = .ok (.ireturn, 1) := by decide +kernel
theorem dX0_rootOf_16 : decode cX0_rootOf 16 = .ok (.aload_n 1, 1) := by decide +kernel
theorem dX0_rootOf_17 : decode cX0_rootOf 17 = .ok (.iload_n 2, 1) := by decide +kernel
theorem dX0_rootOf_18 : decode cX0_rootOf 18 = .ok (.invokevirtual 87, 3) := by decide +kernel
theorem dX0_rootOf_21 : decode cX0_rootOf 21 = .ok (.ifCond .eq 9, 3) := by decide +kernel
theorem dX0_rootOf_24 : decode cX0_rootOf 24 = .ok (.aload_n 0, 1) := by decide +kernel
theorem dX0_rootOf_25 : decode cX0_rootOf 25 = .ok (.aload_n 1, 1) := by decide +kernel
theorem dX0_rootOf_26 : decode cX0_rootOf 26 = .ok (.invokevirtual 93, 3) := by decide +kernel
theorem dX0_rootOf_29 : decode cX0_rootOf 29 = .ok (.ireturn, 1) := by decide +kernel
theorem dX0_rootOf_30 : decode cX0_rootOf 30 = .ok (.lload 4, 2) := by decide +kernel
theorem dX0_rootOf_32 : decode cX0_rootOf 32 = .ok (.ldc2_w 96, 3) := by decide +kernel
theorem dX0_rootOf_35 : decode cX0_rootOf 35 = .ok (.lcmp, 1) := by decide +kernel
theorem dX0_rootOf_36 : decode cX0_rootOf 36 = .ok (.ifCond .ne 5, 3) := by decide +kernel
theorem dX0_rootOf_39 : decode cX0_rootOf 39 = .ok (.iload_n 2, 1) := by decide +kernel
theorem dX0_rootOf_40 : decode cX0_rootOf 40 = .ok (.ireturn, 1) := by decide +kernel
theorem dX0_rootOf_41 : decode cX0_rootOf 41 = .ok (.ldc2_w 140, 3) := by decide +kernel
theorem dX0_rootOf_44 : decode cX0_rootOf 44 = .ok (.lload 4, 2) := by decide +kernel
theorem dX0_rootOf_46 : decode cX0_rootOf 46 = .ok (.aload_n 1, 1) := by decide +kernel
theorem dX0_rootOf_47 : decode cX0_rootOf 47 = .ok (.invokevirtual 77, 3) := by decide +kernel
theorem dX0_rootOf_50 : decode cX0_rootOf 50 = .ok (.lshl, 1) := by decide +kernel
theorem dX0_rootOf_51 : decode cX0_rootOf 51 = .ok (.lmul, 1) := by decide +kernel
theorem dX0_rootOf_52 : decode cX0_rootOf 52 = .ok (.lstore 6, 2) := by decide +kernel
theorem dX0_rootOf_54 : decode cX0_rootOf 54 = .ok (.lload 6, 2) := by decide +kernel
theorem dX0_rootOf_56 : decode cX0_rootOf 56 = .ok (.invokestatic 142, 3) := by decide +kernel
theorem dX0_rootOf_59 : decode cX0_rootOf 59 = .ok (.lstore 8, 2) := by decide +kernel
theorem dX0_rootOf_61 : decode cX0_rootOf 61 = .ok (.lload 8, 2) := by decide +kernel
theorem dX0_rootOf_63 : decode cX0_rootOf 63 = .ok (.lload 8, 2) := by decide +kernel
theorem dX0_rootOf_65 : decode cX0_rootOf 65 = .ok (.lmul, 1) := by decide +kernel
theorem dX0_rootOf_66 : decode cX0_rootOf 66 = .ok (.lload 6, 2) := by decide +kernel
theorem dX0_rootOf_68 : decode cX0_rootOf 68 = .ok (.lcmp, 1) := by decide +kernel
theorem dX0_rootOf_69 : decode cX0_rootOf 69 = .ok (.ifCond .ne 7, 3) := by decide +kernel
theorem dX0_rootOf_72 : decode cX0_rootOf 72 = .ok (.lconst 0, 1) := by decide +kernel
theorem dX0_rootOf_73 : decode cX0_rootOf 73 = .ok (.goto 4, 3) := by decide +kernel
theorem dX0_rootOf_76 : decode cX0_rootOf 76 = .ok (.lconst 1, 1) := by decide +kernel
theorem dX0_rootOf_77 : decode cX0_rootOf 77 = .ok (.lstore 10, 2) := by decide +kernel
theorem dX0_rootOf_79 : decode cX0_rootOf 79 = .ok (.aload_n 0, 1) := by decide +kernel
theorem dX0_rootOf_80 : decode cX0_rootOf 80 = .ok (.aload_n 1, 1) := by decide +kernel
theorem dX0_rootOf_81 : decode cX0_rootOf 81 = .ok (.iconst 0, 1) := by decide +kernel
theorem dX0_rootOf_82 : decode cX0_rootOf 82 = .ok (.ldc2_w 52, 3) := by decide +kernel
theorem dX0_rootOf_85 : decode cX0_rootOf 85 = .ok (.lload 8, 2) := by decide +kernel
theorem dX0_rootOf_87 : decode cX0_rootOf 87 = .ok (.lmul, 1) := by decide +kernel
theorem dX0_rootOf_88 : decode cX0_rootOf 88 = .ok (.lload 10, 2) := by decide +kernel
theorem dX0_rootOf_90 : decode cX0_rootOf 90 = .ok (.ladd, 1) := by decide +kernel
theorem dX0_rootOf_91 : decode cX0_rootOf 91 = .ok (.ldc2_w 140, 3) := by decide +kernel
theorem dX0_rootOf_94 : decode cX0_rootOf 94 = .ok (.iload_n 3, 1) := by decide +kernel
theorem dX0_rootOf_95 : decode cX0_rootOf 95 = .ok (.invokevirtual 80, 3) := by decide +kernel
theorem dX0_rootOf_98 : decode cX0_rootOf 98 = .ok (.ireturn, 1) := by decide +kernel
theorem dX0_wholeRoot_0 : decode cX0_wholeRoot 0 = .ok (.lconst 0, 1) := by decide +kernel
theorem dX0_wholeRoot_1 : decode cX0_wholeRoot 1 = .ok (.lstore_n 2, 1) := by decide +kernel
theorem dX0_wholeRoot_2 : decode cX0_wholeRoot 2 = .ok (.ldc2_w 145, 3) := by decide +kernel
theorem dX0_wholeRoot_5 : decode cX0_wholeRoot 5 = .ok (.lstore 4, 2) := by decide +kernel
theorem dX0_wholeRoot_7 : decode cX0_wholeRoot 7 = .ok (.lload 4, 2) := by decide +kernel
theorem dX0_wholeRoot_9 : decode cX0_wholeRoot 9 = .ok (.lconst 0, 1) := by decide +kernel
theorem dX0_wholeRoot_10 : decode cX0_wholeRoot 10 = .ok (.lcmp, 1) := by decide +kernel
theorem dX0_wholeRoot_11 : decode cX0_wholeRoot 11 = .ok (.ifCond .le 31, 3) := by decide +kernel
theorem dX0_wholeRoot_14 : decode cX0_wholeRoot 14 = .ok (.lload_n 2, 1) := by decide +kernel
theorem dX0_wholeRoot_15 : decode cX0_wholeRoot 15 = .ok (.lload 4, 2) := by decide +kernel
theorem dX0_wholeRoot_17 : decode cX0_wholeRoot 17 = .ok (.ladd, 1) := by decide +kernel
theorem dX0_wholeRoot_18 : decode cX0_wholeRoot 18 = .ok (.lload_n 2, 1) := by decide +kernel
theorem dX0_wholeRoot_19 : decode cX0_wholeRoot 19 = .ok (.lload 4, 2) := by decide +kernel
theorem dX0_wholeRoot_21 : decode cX0_wholeRoot 21 = .ok (.ladd, 1) := by decide +kernel
theorem dX0_wholeRoot_22 : decode cX0_wholeRoot 22 = .ok (.lmul, 1) := by decide +kernel
theorem dX0_wholeRoot_23 : decode cX0_wholeRoot 23 = .ok (.lload_n 0, 1) := by decide +kernel
theorem dX0_wholeRoot_24 : decode cX0_wholeRoot 24 = .ok (.lcmp, 1) := by decide +kernel
theorem dX0_wholeRoot_25 : decode cX0_wholeRoot 25 = .ok (.ifCond .gt 8, 3) := by decide +kernel
theorem dX0_wholeRoot_28 : decode cX0_wholeRoot 28 = .ok (.lload_n 2, 1) := by decide +kernel
theorem dX0_wholeRoot_29 : decode cX0_wholeRoot 29 = .ok (.lload 4, 2) := by decide +kernel
theorem dX0_wholeRoot_31 : decode cX0_wholeRoot 31 = .ok (.ladd, 1) := by decide +kernel
theorem dX0_wholeRoot_32 : decode cX0_wholeRoot 32 = .ok (.lstore_n 2, 1) := by decide +kernel
theorem dX0_wholeRoot_33 : decode cX0_wholeRoot 33 = .ok (.lload 4, 2) := by decide +kernel
theorem dX0_wholeRoot_35 : decode cX0_wholeRoot 35 = .ok (.iconst 1, 1) := by decide +kernel
theorem dX0_wholeRoot_36 : decode cX0_wholeRoot 36 = .ok (.lshr, 1) := by decide +kernel
theorem dX0_wholeRoot_37 : decode cX0_wholeRoot 37 = .ok (.lstore 4, 2) := by decide +kernel
theorem dX0_wholeRoot_39 : decode cX0_wholeRoot 39 = .ok (.goto (-32), 3) := by decide +kernel
theorem dX0_wholeRoot_42 : decode cX0_wholeRoot 42 = .ok (.lload_n 2, 1) := by decide +kernel
theorem dX0_wholeRoot_43 : decode cX0_wholeRoot 43 = .ok (.lreturn, 1) := by decide +kernel
theorem dX0_exactTotal_0 : decode cX0_exactTotal 0 = .ok (.aload_n 1, 1) := by decide +kernel
theorem dX0_exactTotal_1 : decode cX0_exactTotal 1 = .ok (.getfield 147, 3) := by decide +kernel
theorem dX0_exactTotal_4 : decode cX0_exactTotal 4 = .ok (.astore 4, 2) := by decide +kernel
theorem dX0_exactTotal_6 : decode cX0_exactTotal 6 = .ok (.aload_n 1, 1) := by decide +kernel
theorem dX0_exactTotal_7 : decode cX0_exactTotal 7 = .ok (.aload_n 2, 1) := by decide +kernel
theorem dX0_exactTotal_8 : decode cX0_exactTotal 8 = .ok (.invokestatic 153, 3) := by decide +kernel
theorem dX0_exactTotal_11 : decode cX0_exactTotal 11 = .ok (.istore 5, 2) := by decide +kernel
theorem dX0_exactTotal_13 : decode cX0_exactTotal 13 = .ok (.iconst 0, 1) := by decide +kernel
theorem dX0_exactTotal_14 : decode cX0_exactTotal 14 = .ok (.istore 6, 2) := by decide +kernel
theorem dX0_exactTotal_16 : decode cX0_exactTotal 16 = .ok (.lconst 0, 1) := by decide +kernel
theorem dX0_exactTotal_17 : decode cX0_exactTotal 17 = .ok (.lstore 7, 2) := by decide +kernel
theorem dX0_exactTotal_19 : decode cX0_exactTotal 19 = .ok (.iconst 0, 1) := by decide +kernel
theorem dX0_exactTotal_20 : decode cX0_exactTotal 20 = .ok (.istore 9, 2) := by decide +kernel
theorem dX0_exactTotal_22 : decode cX0_exactTotal 22 = .ok (.iload 9, 2) := by decide +kernel
theorem dX0_exactTotal_24 : decode cX0_exactTotal 24 = .ok (.iload 5, 2) := by decide +kernel
theorem dX0_exactTotal_26 : decode cX0_exactTotal 26 = .ok (.if_icmp .ge 165, 3) := by decide +kernel
theorem dX0_exactTotal_29 : decode cX0_exactTotal 29 = .ok (.aload_n 1, 1) := by decide +kernel
theorem dX0_exactTotal_30 : decode cX0_exactTotal 30 = .ok (.iload 9, 2) := by decide +kernel
theorem dX0_exactTotal_32 : decode cX0_exactTotal 32 = .ok (.invokevirtual 157, 3) := by decide +kernel
theorem dX0_exactTotal_35 : decode cX0_exactTotal 35 = .ok (.istore 10, 2) := by decide +kernel
theorem dX0_exactTotal_37 : decode cX0_exactTotal 37 = .ok (.aload_n 2, 1) := by decide +kernel
theorem dX0_exactTotal_38 : decode cX0_exactTotal 38 = .ok (.ifnonnull 13, 3) := by decide +kernel
theorem dX0_exactTotal_41 : decode cX0_exactTotal 41 = .ok (.aload 4, 2) := by decide +kernel
theorem dX0_exactTotal_43 : decode cX0_exactTotal 43 = .ok (.iload 10, 2) := by decide +kernel
theorem dX0_exactTotal_45 : decode cX0_exactTotal 45 = .ok (.invokevirtual 84, 3) := by decide +kernel
theorem dX0_exactTotal_48 : decode cX0_exactTotal 48 = .ok (.goto 16, 3) := by decide +kernel
theorem dX0_exactTotal_51 : decode cX0_exactTotal 51 = .ok (.aload 4, 2) := by decide +kernel
theorem dX0_exactTotal_53 : decode cX0_exactTotal 53 = .ok (.iload 10, 2) := by decide +kernel
theorem dX0_exactTotal_55 : decode cX0_exactTotal 55 = .ok (.aload_n 2, 1) := by decide +kernel
theorem dX0_exactTotal_56 : decode cX0_exactTotal 56 = .ok (.iload 9, 2) := by decide +kernel
theorem dX0_exactTotal_58 : decode cX0_exactTotal 58 = .ok (.invokevirtual 157, 3) := by decide +kernel
theorem dX0_exactTotal_61 : decode cX0_exactTotal 61 = .ok (.invokevirtual 134, 3) := by decide +kernel
theorem dX0_exactTotal_64 : decode cX0_exactTotal 64 = .ok (.lstore 11, 2) := by decide +kernel
theorem dX0_exactTotal_66 : decode cX0_exactTotal 66 = .ok (.aload_n 2, 1) := by decide +kernel
theorem dX0_exactTotal_67 : decode cX0_exactTotal 67 = .ok (.ifnull 21, 3) := by decide +kernel
theorem dX0_exactTotal_70 : decode cX0_exactTotal 70 = .ok (.aload 4, 2) := by decide +kernel
theorem dX0_exactTotal_72 : decode cX0_exactTotal 72 = .ok (.aload_n 2, 1) := by decide +kernel
theorem dX0_exactTotal_73 : decode cX0_exactTotal 73 = .ok (.iload 9, 2) := by decide +kernel
theorem dX0_exactTotal_75 : decode cX0_exactTotal 75 = .ok (.invokevirtual 157, 3) := by decide +kernel
theorem dX0_exactTotal_78 : decode cX0_exactTotal 78 = .ok (.invokevirtual 87, 3) := by decide +kernel
theorem dX0_exactTotal_81 : decode cX0_exactTotal 81 = .ok (.ifCond .eq 7, 3) := by decide +kernel
theorem dX0_exactTotal_84 : decode cX0_exactTotal 84 = .ok (.iconst 1, 1) := by decide +kernel
theorem dX0_exactTotal_85 : decode cX0_exactTotal 85 = .ok (.goto 4, 3) := by decide +kernel
theorem dX0_exactTotal_88 : decode cX0_exactTotal 88 = .ok (.iconst 0, 1) := by decide +kernel
theorem dX0_exactTotal_89 : decode cX0_exactTotal 89 = .ok (.istore 13, 2) := by decide +kernel
theorem dX0_exactTotal_91 : decode cX0_exactTotal 91 = .ok (.aload 4, 2) := by decide +kernel
theorem dX0_exactTotal_93 : decode cX0_exactTotal 93 = .ok (.iload 10, 2) := by decide +kernel
theorem dX0_exactTotal_95 : decode cX0_exactTotal 95 = .ok (.invokevirtual 87, 3) := by decide +kernel
theorem dX0_exactTotal_98 : decode cX0_exactTotal 98 = .ok (.iload 13, 2) := by decide +kernel
theorem dX0_exactTotal_100 : decode cX0_exactTotal 100 = .ok (.if_icmp .eq 7, 3) := by decide +kernel
theorem dX0_exactTotal_103 : decode cX0_exactTotal 103 = .ok (.iconst (-1), 1) := by decide +kernel
theorem dX0_exactTotal_104 : decode cX0_exactTotal 104 = .ok (.goto 4, 3) := by decide +kernel
theorem dX0_exactTotal_107 : decode cX0_exactTotal 107 = .ok (.iconst 1, 1) := by decide +kernel
theorem dX0_exactTotal_108 : decode cX0_exactTotal 108 = .ok (.istore 14, 2) := by decide +kernel
theorem dX0_exactTotal_110 : decode cX0_exactTotal 110 = .ok (.lload 11, 2) := by decide +kernel
theorem dX0_exactTotal_112 : decode cX0_exactTotal 112 = .ok (.ldc2_w 91, 3) := by decide +kernel
theorem dX0_exactTotal_115 : decode cX0_exactTotal 115 = .ok (.lcmp, 1) := by decide +kernel
theorem dX0_exactTotal_116 : decode cX0_exactTotal 116 = .ok (.ifCond .ne 9, 3) := by decide +kernel
theorem dX0_exactTotal_119 : decode cX0_exactTotal 119 = .ok (.aload 4, 2) := by decide +kernel
theorem dX0_exactTotal_121 : decode cX0_exactTotal 121 = .ok (.invokevirtual 22, 3) := by decide +kernel
theorem dX0_exactTotal_124 : decode cX0_exactTotal 124 = .ok (.ireturn, 1) := by decide +kernel
theorem dX0_exactTotal_125 : decode cX0_exactTotal 125 = .ok (.lload 11, 2) := by decide +kernel
theorem dX0_exactTotal_127 : decode cX0_exactTotal 127 = .ok (.ldc2_w 138, 3) := by decide +kernel
theorem dX0_exactTotal_130 : decode cX0_exactTotal 130 = .ok (.lcmp, 1) := by decide +kernel
theorem dX0_exactTotal_131 : decode cX0_exactTotal 131 = .ok (.ifCond .eq 20, 3) := by decide +kernel
theorem dX0_exactTotal_134 : decode cX0_exactTotal 134 = .ok (.lload 11, 2) := by decide +kernel
theorem dX0_exactTotal_136 : decode cX0_exactTotal 136 = .ok (.ldc2_w 96, 3) := by decide +kernel
theorem dX0_exactTotal_139 : decode cX0_exactTotal 139 = .ok (.lcmp, 1) := by decide +kernel
theorem dX0_exactTotal_140 : decode cX0_exactTotal 140 = .ok (.ifCond .ne 18, 3) := by decide +kernel
theorem dX0_exactTotal_143 : decode cX0_exactTotal 143 = .ok (.iload 6, 2) := by decide +kernel
theorem dX0_exactTotal_145 : decode cX0_exactTotal 145 = .ok (.iload 14, 2) := by decide +kernel
theorem dX0_exactTotal_147 : decode cX0_exactTotal 147 = .ok (.ineg, 1) := by decide +kernel
theorem dX0_exactTotal_148 : decode cX0_exactTotal 148 = .ok (.if_icmp .ne 10, 3) := by decide +kernel
theorem dX0_exactTotal_151 : decode cX0_exactTotal 151 = .ok (.aload_n 0, 1) := by decide +kernel
theorem dX0_exactTotal_152 : decode cX0_exactTotal 152 = .ok (.aload 4, 2) := by decide +kernel
theorem dX0_exactTotal_154 : decode cX0_exactTotal 154 = .ok (.invokevirtual 93, 3) := by decide +kernel
theorem dX0_exactTotal_157 : decode cX0_exactTotal 157 = .ok (.ireturn, 1) := by decide +kernel
theorem dX0_exactTotal_158 : decode cX0_exactTotal 158 = .ok (.lload 11, 2) := by decide +kernel
theorem dX0_exactTotal_160 : decode cX0_exactTotal 160 = .ok (.ldc2_w 96, 3) := by decide +kernel
theorem dX0_exactTotal_163 : decode cX0_exactTotal 163 = .ok (.lcmp, 1) := by decide +kernel
theorem dX0_exactTotal_164 : decode cX0_exactTotal 164 = .ok (.ifCond .ne 10, 3) := by decide +kernel
theorem dX0_exactTotal_167 : decode cX0_exactTotal 167 = .ok (.iload 14, 2) := by decide +kernel
theorem dX0_exactTotal_169 : decode cX0_exactTotal 169 = .ok (.istore 6, 2) := by decide +kernel
theorem dX0_exactTotal_171 : decode cX0_exactTotal 171 = .ok (.goto 14, 3) := by decide +kernel
theorem dX0_exactTotal_174 : decode cX0_exactTotal 174 = .ok (.lload 7, 2) := by decide +kernel
theorem dX0_exactTotal_176 : decode cX0_exactTotal 176 = .ok (.iload 14, 2) := by decide +kernel
theorem dX0_exactTotal_178 : decode cX0_exactTotal 178 = .ok (.i2l, 1) := by decide +kernel
theorem dX0_exactTotal_179 : decode cX0_exactTotal 179 = .ok (.lload 11, 2) := by decide +kernel
theorem dX0_exactTotal_181 : decode cX0_exactTotal 181 = .ok (.lmul, 1) := by decide +kernel
theorem dX0_exactTotal_182 : decode cX0_exactTotal 182 = .ok (.ladd, 1) := by decide +kernel
theorem dX0_exactTotal_183 : decode cX0_exactTotal 183 = .ok (.lstore 7, 2) := by decide +kernel
theorem dX0_exactTotal_185 : decode cX0_exactTotal 185 = .ok (.iinc 9 1, 3) := by decide +kernel
theorem dX0_exactTotal_188 : decode cX0_exactTotal 188 = .ok (.goto (-166), 3) := by decide +kernel
theorem dX0_exactTotal_191 : decode cX0_exactTotal 191 = .ok (.iload 6, 2) := by decide +kernel
theorem dX0_exactTotal_193 : decode cX0_exactTotal 193 = .ok (.ifCond .eq 19, 3) := by decide +kernel
theorem dX0_exactTotal_196 : decode cX0_exactTotal 196 = .ok (.aload 4, 2) := by decide +kernel
theorem dX0_exactTotal_198 : decode cX0_exactTotal 198 = .ok (.iload 6, 2) := by decide +kernel
theorem dX0_exactTotal_200 : decode cX0_exactTotal 200 = .ok (.ifCond .ge 7, 3) := by decide +kernel
theorem dX0_exactTotal_203 : decode cX0_exactTotal 203 = .ok (.iconst 1, 1) := by decide +kernel
theorem dX0_exactTotal_204 : decode cX0_exactTotal 204 = .ok (.goto 4, 3) := by decide +kernel
theorem dX0_exactTotal_207 : decode cX0_exactTotal 207 = .ok (.iconst 0, 1) := by decide +kernel
theorem dX0_exactTotal_208 : decode cX0_exactTotal 208 = .ok (.invokevirtual 67, 3) := by decide +kernel
theorem dX0_exactTotal_211 : decode cX0_exactTotal 211 = .ok (.ireturn, 1) := by decide +kernel
theorem dX0_exactTotal_212 : decode cX0_exactTotal 212 = .ok (.lload 7, 2) := by decide +kernel
theorem dX0_exactTotal_214 : decode cX0_exactTotal 214 = .ok (.lconst 0, 1) := by decide +kernel
theorem dX0_exactTotal_215 : decode cX0_exactTotal 215 = .ok (.lcmp, 1) := by decide +kernel
theorem dX0_exactTotal_216 : decode cX0_exactTotal 216 = .ok (.ifCond .ne 25, 3) := by decide +kernel
theorem dX0_exactTotal_219 : decode cX0_exactTotal 219 = .ok (.aload 4, 2) := by decide +kernel
theorem dX0_exactTotal_221 : decode cX0_exactTotal 221 = .ok (.iload 5, 2) := by decide +kernel
theorem dX0_exactTotal_223 : decode cX0_exactTotal 223 = .ok (.ifCond .le 12, 3) := by decide +kernel
theorem dX0_exactTotal_226 : decode cX0_exactTotal 226 = .ok (.iload_n 3, 1) := by decide +kernel
theorem dX0_exactTotal_227 : decode cX0_exactTotal 227 = .ok (.iconst 3, 1) := by decide +kernel
theorem dX0_exactTotal_228 : decode cX0_exactTotal 228 = .ok (.if_icmp .ne 7, 3) := by decide +kernel
theorem dX0_exactTotal_231 : decode cX0_exactTotal 231 = .ok (.iconst 1, 1) := by decide +kernel
theorem dX0_exactTotal_232 : decode cX0_exactTotal 232 = .ok (.goto 4, 3) := by decide +kernel
theorem dX0_exactTotal_235 : decode cX0_exactTotal 235 = .ok (.iconst 0, 1) := by decide +kernel
theorem dX0_exactTotal_236 : decode cX0_exactTotal 236 = .ok (.iconst 0, 1) := by decide +kernel
theorem dX0_exactTotal_237 : decode cX0_exactTotal 237 = .ok (.invokevirtual 42, 3) := by decide +kernel
theorem dX0_exactTotal_240 : decode cX0_exactTotal 240 = .ok (.ireturn, 1) := by decide +kernel
theorem dX0_exactTotal_241 : decode cX0_exactTotal 241 = .ok (.aload_n 2, 1) := by decide +kernel
theorem dX0_exactTotal_242 : decode cX0_exactTotal 242 = .ok (.ifnonnull 7, 3) := by decide +kernel
theorem dX0_exactTotal_245 : decode cX0_exactTotal 245 = .ok (.lconst 1, 1) := by decide +kernel
theorem dX0_exactTotal_246 : decode cX0_exactTotal 246 = .ok (.goto 10, 3) := by decide +kernel
theorem dX0_exactTotal_249 : decode cX0_exactTotal 249 = .ok (.lconst 1, 1) := by decide +kernel
theorem dX0_exactTotal_250 : decode cX0_exactTotal 250 = .ok (.aload 4, 2) := by decide +kernel
theorem dX0_exactTotal_252 : decode cX0_exactTotal 252 = .ok (.invokevirtual 77, 3) := by decide +kernel
theorem dX0_exactTotal_255 : decode cX0_exactTotal 255 = .ok (.lshl, 1) := by decide +kernel
theorem dX0_exactTotal_256 : decode cX0_exactTotal 256 = .ok (.lstore 9, 2) := by decide +kernel
theorem dX0_exactTotal_258 : decode cX0_exactTotal 258 = .ok (.aload_n 0, 1) := by decide +kernel
theorem dX0_exactTotal_259 : decode cX0_exactTotal 259 = .ok (.aload 4, 2) := by decide +kernel
theorem dX0_exactTotal_261 : decode cX0_exactTotal 261 = .ok (.lload 7, 2) := by decide +kernel
theorem dX0_exactTotal_263 : decode cX0_exactTotal 263 = .ok (.lconst 0, 1) := by decide +kernel
theorem dX0_exactTotal_264 : decode cX0_exactTotal 264 = .ok (.lcmp, 1) := by decide +kernel
theorem dX0_exactTotal_265 : decode cX0_exactTotal 265 = .ok (.ifCond .ge 7, 3) := by decide +kernel
theorem dX0_exactTotal_268 : decode cX0_exactTotal 268 = .ok (.iconst 1, 1) := by decide +kernel
theorem dX0_exactTotal_269 : decode cX0_exactTotal 269 = .ok (.goto 4, 3) := by decide +kernel
theorem dX0_exactTotal_272 : decode cX0_exactTotal 272 = .ok (.iconst 0, 1) := by decide +kernel
theorem dX0_exactTotal_273 : decode cX0_exactTotal 273 = .ok (.lload 7, 2) := by decide +kernel
theorem dX0_exactTotal_275 : decode cX0_exactTotal 275 = .ok (.invokestatic 71, 3) := by decide +kernel
theorem dX0_exactTotal_278 : decode cX0_exactTotal 278 = .ok (.lload 9, 2) := by decide +kernel
theorem dX0_exactTotal_280 : decode cX0_exactTotal 280 = .ok (.iload_n 3, 1) := by decide +kernel
theorem dX0_exactTotal_281 : decode cX0_exactTotal 281 = .ok (.invokevirtual 80, 3) := by decide +kernel
theorem dX0_exactTotal_284 : decode cX0_exactTotal 284 = .ok (.ireturn, 1) := by decide +kernel
theorem dX0_stepwiseTotal_0 : decode cX0_stepwiseTotal 0 = .ok (.aload_n 1, 1) := by decide +kernel
theorem dX0_stepwiseTotal_1 : decode cX0_stepwiseTotal 1 = .ok (.getfield 147, 3) := by decide +kernel
theorem dX0_stepwiseTotal_4 : decode cX0_stepwiseTotal 4 = .ok (.astore 4, 2) := by decide +kernel
theorem dX0_stepwiseTotal_6 : decode cX0_stepwiseTotal 6 = .ok (.aload_n 1, 1) := by decide +kernel
theorem dX0_stepwiseTotal_7 : decode cX0_stepwiseTotal 7 = .ok (.aload_n 2, 1) := by decide +kernel
theorem dX0_stepwiseTotal_8 : decode cX0_stepwiseTotal 8 = .ok (.invokestatic 153, 3) := by decide +kernel
theorem dX0_stepwiseTotal_11 : decode cX0_stepwiseTotal 11 = .ok (.istore 5, 2) := by decide +kernel
theorem dX0_stepwiseTotal_13 : decode cX0_stepwiseTotal 13 = .ok (.iconst 0, 1) := by decide +kernel
theorem dX0_stepwiseTotal_14 : decode cX0_stepwiseTotal 14 = .ok (.istore 6, 2) := by decide +kernel
theorem dX0_stepwiseTotal_16 : decode cX0_stepwiseTotal 16 = .ok (.iconst 0, 1) := by decide +kernel
theorem dX0_stepwiseTotal_17 : decode cX0_stepwiseTotal 17 = .ok (.istore 7, 2) := by decide +kernel
theorem dX0_stepwiseTotal_19 : decode cX0_stepwiseTotal 19 = .ok (.iload 7, 2) := by decide +kernel
theorem dX0_stepwiseTotal_21 : decode cX0_stepwiseTotal 21 = .ok (.iload 5, 2) := by decide +kernel
theorem dX0_stepwiseTotal_23 : decode cX0_stepwiseTotal 23 = .ok (.if_icmp .ge 73, 3) := by decide +kernel
theorem dX0_stepwiseTotal_26 : decode cX0_stepwiseTotal 26 = .ok (.aload_n 1, 1) := by decide +kernel
theorem dX0_stepwiseTotal_27 : decode cX0_stepwiseTotal 27 = .ok (.iload 7, 2) := by decide +kernel
theorem dX0_stepwiseTotal_29 : decode cX0_stepwiseTotal 29 = .ok (.invokevirtual 157, 3) := by decide +kernel
theorem dX0_stepwiseTotal_32 : decode cX0_stepwiseTotal 32 = .ok (.istore 8, 2) := by decide +kernel
theorem dX0_stepwiseTotal_34 : decode cX0_stepwiseTotal 34 = .ok (.aload_n 2, 1) := by decide +kernel
theorem dX0_stepwiseTotal_35 : decode cX0_stepwiseTotal 35 = .ok (.ifnull 21, 3) := by decide +kernel
theorem dX0_stepwiseTotal_38 : decode cX0_stepwiseTotal 38 = .ok (.aload_n 0, 1) := by decide +kernel
theorem dX0_stepwiseTotal_39 : decode cX0_stepwiseTotal 39 = .ok (.aload 4, 2) := by decide +kernel
theorem dX0_stepwiseTotal_41 : decode cX0_stepwiseTotal 41 = .ok (.iconst 2, 1) := by decide +kernel
theorem dX0_stepwiseTotal_42 : decode cX0_stepwiseTotal 42 = .ok (.iload 8, 2) := by decide +kernel
theorem dX0_stepwiseTotal_44 : decode cX0_stepwiseTotal 44 = .ok (.aload_n 2, 1) := by decide +kernel
theorem dX0_stepwiseTotal_45 : decode cX0_stepwiseTotal 45 = .ok (.iload 7, 2) := by decide +kernel
theorem dX0_stepwiseTotal_47 : decode cX0_stepwiseTotal 47 = .ok (.invokevirtual 157, 3) := by decide +kernel
theorem dX0_stepwiseTotal_50 : decode cX0_stepwiseTotal 50 = .ok (.iload_n 3, 1) := by decide +kernel
theorem dX0_stepwiseTotal_51 : decode cX0_stepwiseTotal 51 = .ok (.invokevirtual 161, 3) := by decide +kernel
theorem dX0_stepwiseTotal_54 : decode cX0_stepwiseTotal 54 = .ok (.istore 8, 2) := by decide +kernel
theorem dX0_stepwiseTotal_56 : decode cX0_stepwiseTotal 56 = .ok (.iload 8, 2) := by decide +kernel
theorem dX0_stepwiseTotal_58 : decode cX0_stepwiseTotal 58 = .ok (.bipush (-4), 2) := by decide +kernel
theorem dX0_stepwiseTotal_60 : decode cX0_stepwiseTotal 60 = .ok (.if_icmp .ne 6, 3) := by decide +kernel
theorem dX0_stepwiseTotal_63 : decode cX0_stepwiseTotal 63 = .ok (.bipush (-4), 2) := by decide +kernel
theorem dX0_stepwiseTotal_65 : decode cX0_stepwiseTotal 65 = .ok (.ireturn, 1) := by decide +kernel
theorem dX0_stepwiseTotal_66 : decode cX0_stepwiseTotal 66 = .ok (.aload_n 0, 1) := by decide +kernel
theorem dX0_stepwiseTotal_67 : decode cX0_stepwiseTotal 67 = .ok (.aload 4, 2) := by decide +kernel
theorem dX0_stepwiseTotal_69 : decode cX0_stepwiseTotal 69 = .ok (.iconst 0, 1) := by decide +kernel
theorem dX0_stepwiseTotal_70 : decode cX0_stepwiseTotal 70 = .ok (.iload 6, 2) := by decide +kernel
theorem dX0_stepwiseTotal_72 : decode cX0_stepwiseTotal 72 = .ok (.iload 8, 2) := by decide +kernel
theorem dX0_stepwiseTotal_74 : decode cX0_stepwiseTotal 74 = .ok (.iload_n 3, 1) := by decide +kernel
theorem dX0_stepwiseTotal_75 : decode cX0_stepwiseTotal 75 = .ok (.invokevirtual 161, 3) := by decide +kernel
theorem dX0_stepwiseTotal_78 : decode cX0_stepwiseTotal 78 = .ok (.istore 6, 2) := by decide +kernel
theorem dX0_stepwiseTotal_80 : decode cX0_stepwiseTotal 80 = .ok (.iload 6, 2) := by decide +kernel
theorem dX0_stepwiseTotal_82 : decode cX0_stepwiseTotal 82 = .ok (.bipush (-4), 2) := by decide +kernel
theorem dX0_stepwiseTotal_84 : decode cX0_stepwiseTotal 84 = .ok (.if_icmp .ne 6, 3) := by decide +kernel
theorem dX0_stepwiseTotal_87 : decode cX0_stepwiseTotal 87 = .ok (.bipush (-4), 2) := by decide +kernel
theorem dX0_stepwiseTotal_89 : decode cX0_stepwiseTotal 89 = .ok (.ireturn, 1) := by decide +kernel
theorem dX0_stepwiseTotal_90 : decode cX0_stepwiseTotal 90 = .ok (.iinc 7 1, 3) := by decide +kernel
theorem dX0_stepwiseTotal_93 : decode cX0_stepwiseTotal 93 = .ok (.goto (-74), 3) := by decide +kernel
theorem dX0_stepwiseTotal_96 : decode cX0_stepwiseTotal 96 = .ok (.iload 6, 2) := by decide +kernel
theorem dX0_stepwiseTotal_98 : decode cX0_stepwiseTotal 98 = .ok (.ireturn, 1) := by decide +kernel
theorem dX0_termCount_0 : decode cX0_termCount 0 = .ok (.aload_n 1, 1) := by decide +kernel
theorem dX0_termCount_1 : decode cX0_termCount 1 = .ok (.ifnonnull 10, 3) := by decide +kernel
theorem dX0_termCount_4 : decode cX0_termCount 4 = .ok (.aload_n 0, 1) := by decide +kernel
theorem dX0_termCount_5 : decode cX0_termCount 5 = .ok (.getfield 165, 3) := by decide +kernel
theorem dX0_termCount_8 : decode cX0_termCount 8 = .ok (.goto 14, 3) := by decide +kernel
theorem dX0_termCount_11 : decode cX0_termCount 11 = .ok (.aload_n 0, 1) := by decide +kernel
theorem dX0_termCount_12 : decode cX0_termCount 12 = .ok (.getfield 165, 3) := by decide +kernel
theorem dX0_termCount_15 : decode cX0_termCount 15 = .ok (.aload_n 1, 1) := by decide +kernel
theorem dX0_termCount_16 : decode cX0_termCount 16 = .ok (.getfield 165, 3) := by decide +kernel
theorem dX0_termCount_19 : decode cX0_termCount 19 = .ok (.invokestatic 168, 3) := by decide +kernel
theorem dX0_termCount_22 : decode cX0_termCount 22 = .ok (.ireturn, 1) := by decide +kernel
theorem dX0_signed_0 : decode cX0_signed 0 = .ok (.iload_n 0, 1) := by decide +kernel
theorem dX0_signed_1 : decode cX0_signed 1 = .ok (.ifCond .eq 8, 3) := by decide +kernel
theorem dX0_signed_4 : decode cX0_signed 4 = .ok (.lload_n 1, 1) := by decide +kernel
theorem dX0_signed_5 : decode cX0_signed 5 = .ok (.lneg, 1) := by decide +kernel
theorem dX0_signed_6 : decode cX0_signed 6 = .ok (.goto 4, 3) := by decide +kernel
theorem dX0_signed_9 : decode cX0_signed 9 = .ok (.lload_n 1, 1) := by decide +kernel
theorem dX0_signed_10 : decode cX0_signed 10 = .ok (.lreturn, 1) := by decide +kernel
theorem dX1_init_0 : decode cX1_init 0 = .ok (.aload_n 0, 1) := by decide +kernel
theorem dX1_init_1 : decode cX1_init 1 = .ok (.invokespecial 3, 3) := by decide +kernel
theorem dX1_init_4 : decode cX1_init 4 = .ok (.aload_n 0, 1) := by decide +kernel
theorem dX1_init_5 : decode cX1_init 5 = .ok (.iload_n 1, 1) := by decide +kernel
theorem dX1_init_6 : decode cX1_init 6 = .ok (.putfield 9, 3) := by decide +kernel
theorem dX1_init_9 : decode cX1_init 9 = .ok (.aload_n 0, 1) := by decide +kernel
theorem dX1_init_10 : decode cX1_init 10 = .ok (.iload_n 2, 1) := by decide +kernel
theorem dX1_init_11 : decode cX1_init 11 = .ok (.putfield 15, 3) := by decide +kernel
theorem dX1_init_14 : decode cX1_init 14 = .ok (.aload_n 0, 1) := by decide +kernel
theorem dX1_init_15 : decode cX1_init 15 = .ok (.iload_n 3, 1) := by decide +kernel
theorem dX1_init_16 : decode cX1_init 16 = .ok (.putfield 18, 3) := by decide +kernel
theorem dX1_init_19 : decode cX1_init 19 = .ok (.aload_n 0, 1) := by decide +kernel
theorem dX1_init_20 : decode cX1_init 20 = .ok (.iload 4, 2) := by decide +kernel
theorem dX1_init_22 : decode cX1_init 22 = .ok (.putfield 21, 3) := by decide +kernel
theorem dX1_init_25 : decode cX1_init 25 = .ok (.aload_n 0, 1) := by decide +kernel
theorem dX1_init_26 : decode cX1_init 26 = .ok (.iload 5, 2) := by decide +kernel
theorem dX1_init_28 : decode cX1_init 28 = .ok (.putfield 24, 3) := by decide +kernel
theorem dX1_init_31 : decode cX1_init 31 = .ok (.aload_n 0, 1) := by decide +kernel
theorem dX1_init_32 : decode cX1_init 32 = .ok (.iload 6, 2) := by decide +kernel
theorem dX1_init_34 : decode cX1_init 34 = .ok (.putfield 28, 3) := by decide +kernel
theorem dX1_init_37 : decode cX1_init 37 = .ok (.iconst 1, 1) := by decide +kernel
theorem dX1_init_38 : decode cX1_init 38 = .ok (.iload_n 2, 1) := by decide +kernel
theorem dX1_init_39 : decode cX1_init 39 = .ok (.iload_n 3, 1) := by decide +kernel
theorem dX1_init_40 : decode cX1_init 40 = .ok (.iadd, 1) := by decide +kernel
theorem dX1_init_41 : decode cX1_init 41 = .ok (.ishl, 1) := by decide +kernel
theorem dX1_init_42 : decode cX1_init 42 = .ok (.istore 7, 2) := by decide +kernel
theorem dX1_init_44 : decode cX1_init 44 = .ok (.iload 6, 2) := by decide +kernel
theorem dX1_init_46 : decode cX1_init 46 = .ok (.ifCond .ne 18, 3) := by decide +kernel
theorem dX1_init_49 : decode cX1_init 49 = .ok (.aload_n 0, 1) := by decide +kernel
theorem dX1_init_50 : decode cX1_init 50 = .ok (.iload 7, 2) := by decide +kernel
theorem dX1_init_52 : decode cX1_init 52 = .ok (.iconst 1, 1) := by decide +kernel
theorem dX1_init_53 : decode cX1_init 53 = .ok (.iload_n 3, 1) := by decide +kernel
theorem dX1_init_54 : decode cX1_init 54 = .ok (.ishl, 1) := by decide +kernel
theorem dX1_init_55 : decode cX1_init 55 = .ok (.isub, 1) := by decide +kernel
theorem dX1_init_56 : decode cX1_init 56 = .ok (.iconst 1, 1) := by decide +kernel
theorem dX1_init_57 : decode cX1_init 57 = .ok (.isub, 1) := by decide +kernel
theorem dX1_init_58 : decode cX1_init 58 = .ok (.putfield 31, 3) := by decide +kernel
theorem dX1_init_61 : decode cX1_init 61 = .ok (.goto 24, 3) := by decide +kernel
theorem dX1_init_64 : decode cX1_init 64 = .ok (.aload_n 0, 1) := by decide +kernel
theorem dX1_init_65 : decode cX1_init 65 = .ok (.iload 6, 2) := by decide +kernel
theorem dX1_init_67 : decode cX1_init 67 = .ok (.iconst 1, 1) := by decide +kernel
theorem dX1_init_68 : decode cX1_init 68 = .ok (.if_icmp .ne 10, 3) := by decide +kernel
theorem dX1_init_71 : decode cX1_init 71 = .ok (.iload 7, 2) := by decide +kernel
theorem dX1_init_73 : decode cX1_init 73 = .ok (.iconst 2, 1) := by decide +kernel
theorem dX1_init_74 : decode cX1_init 74 = .ok (.isub, 1) := by decide +kernel
theorem dX1_init_75 : decode cX1_init 75 = .ok (.goto 7, 3) := by decide +kernel
theorem dX1_init_78 : decode cX1_init 78 = .ok (.iload 7, 2) := by decide +kernel
theorem dX1_init_80 : decode cX1_init 80 = .ok (.iconst 1, 1) := by decide +kernel
theorem dX1_init_81 : decode cX1_init 81 = .ok (.isub, 1) := by decide +kernel
theorem dX1_init_82 : decode cX1_init 82 = .ok (.putfield 31, 3) := by decide +kernel
theorem dX1_init_85 : decode cX1_init 85 = .ok (.return_, 1) := by decide +kernel
theorem dX1_isAlike_0 : decode cX1_isAlike 0 = .ok (.aload_n 0, 1) := by decide +kernel
theorem dX1_isAlike_1 : decode cX1_isAlike 1 = .ok (.getfield 9, 3) := by decide +kernel
theorem dX1_isAlike_4 : decode cX1_isAlike 4 = .ok (.aload_n 1, 1) := by decide +kernel
theorem dX1_isAlike_5 : decode cX1_isAlike 5 = .ok (.getfield 9, 3) := by decide +kernel
theorem dX1_isAlike_8 : decode cX1_isAlike 8 = .ok (.if_icmp .ne 62, 3) := by decide +kernel
theorem dX1_isAlike_11 : decode cX1_isAlike 11 = .ok (.aload_n 0, 1) := by decide +kernel
theorem dX1_isAlike_12 : decode cX1_isAlike 12 = .ok (.getfield 15, 3) := by decide +kernel
theorem dX1_isAlike_15 : decode cX1_isAlike 15 = .ok (.aload_n 1, 1) := by decide +kernel
theorem dX1_isAlike_16 : decode cX1_isAlike 16 = .ok (.getfield 15, 3) := by decide +kernel
theorem dX1_isAlike_19 : decode cX1_isAlike 19 = .ok (.if_icmp .ne 51, 3) := by decide +kernel
theorem dX1_isAlike_22 : decode cX1_isAlike 22 = .ok (.aload_n 0, 1) := by decide +kernel
theorem dX1_isAlike_23 : decode cX1_isAlike 23 = .ok (.getfield 18, 3) := by decide +kernel
theorem dX1_isAlike_26 : decode cX1_isAlike 26 = .ok (.aload_n 1, 1) := by decide +kernel
theorem dX1_isAlike_27 : decode cX1_isAlike 27 = .ok (.getfield 18, 3) := by decide +kernel
theorem dX1_isAlike_30 : decode cX1_isAlike 30 = .ok (.if_icmp .ne 40, 3) := by decide +kernel
theorem dX1_isAlike_33 : decode cX1_isAlike 33 = .ok (.aload_n 0, 1) := by decide +kernel
theorem dX1_isAlike_34 : decode cX1_isAlike 34 = .ok (.getfield 21, 3) := by decide +kernel
theorem dX1_isAlike_37 : decode cX1_isAlike 37 = .ok (.aload_n 1, 1) := by decide +kernel
theorem dX1_isAlike_38 : decode cX1_isAlike 38 = .ok (.getfield 21, 3) := by decide +kernel
theorem dX1_isAlike_41 : decode cX1_isAlike 41 = .ok (.if_icmp .ne 29, 3) := by decide +kernel
theorem dX1_isAlike_44 : decode cX1_isAlike 44 = .ok (.aload_n 0, 1) := by decide +kernel
theorem dX1_isAlike_45 : decode cX1_isAlike 45 = .ok (.getfield 24, 3) := by decide +kernel
theorem dX1_isAlike_48 : decode cX1_isAlike 48 = .ok (.aload_n 1, 1) := by decide +kernel
theorem dX1_isAlike_49 : decode cX1_isAlike 49 = .ok (.getfield 24, 3) := by decide +kernel
theorem dX1_isAlike_52 : decode cX1_isAlike 52 = .ok (.if_icmp .ne 18, 3) := by decide +kernel
theorem dX1_isAlike_55 : decode cX1_isAlike 55 = .ok (.aload_n 0, 1) := by decide +kernel
theorem dX1_isAlike_56 : decode cX1_isAlike 56 = .ok (.getfield 28, 3) := by decide +kernel
theorem dX1_isAlike_59 : decode cX1_isAlike 59 = .ok (.aload_n 1, 1) := by decide +kernel
theorem dX1_isAlike_60 : decode cX1_isAlike 60 = .ok (.getfield 28, 3) := by decide +kernel
theorem dX1_isAlike_63 : decode cX1_isAlike 63 = .ok (.if_icmp .ne 7, 3) := by decide +kernel
theorem dX1_isAlike_66 : decode cX1_isAlike 66 = .ok (.iconst 1, 1) := by decide +kernel
theorem dX1_isAlike_67 : decode cX1_isAlike 67 = .ok (.goto 4, 3) := by decide +kernel
theorem dX1_isAlike_70 : decode cX1_isAlike 70 = .ok (.iconst 0, 1) := by decide +kernel
theorem dX1_isAlike_71 : decode cX1_isAlike 71 = .ok (.ireturn, 1) := by decide +kernel
theorem dX1_bits_0 : decode cX1_bits 0 = .ok (.aload_n 0, 1) := by decide +kernel
theorem dX1_bits_1 : decode cX1_bits 1 = .ok (.getfield 9, 3) := by decide +kernel
theorem dX1_bits_4 : decode cX1_bits 4 = .ok (.aload_n 0, 1) := by decide +kernel
theorem dX1_bits_5 : decode cX1_bits 5 = .ok (.getfield 15, 3) := by decide +kernel
theorem dX1_bits_8 : decode cX1_bits 8 = .ok (.iadd, 1) := by decide +kernel
theorem dX1_bits_9 : decode cX1_bits 9 = .ok (.aload_n 0, 1) := by decide +kernel
theorem dX1_bits_10 : decode cX1_bits 10 = .ok (.getfield 18, 3) := by decide +kernel
theorem dX1_bits_13 : decode cX1_bits 13 = .ok (.iadd, 1) := by decide +kernel
theorem dX1_bits_14 : decode cX1_bits 14 = .ok (.ireturn, 1) := by decide +kernel
theorem dX1_scale_0 : decode cX1_scale 0 = .ok (.aload_n 0, 1) := by decide +kernel
theorem dX1_scale_1 : decode cX1_scale 1 = .ok (.getfield 21, 3) := by decide +kernel
theorem dX1_scale_4 : decode cX1_scale 4 = .ok (.aload_n 0, 1) := by decide +kernel
theorem dX1_scale_5 : decode cX1_scale 5 = .ok (.getfield 18, 3) := by decide +kernel
theorem dX1_scale_8 : decode cX1_scale 8 = .ok (.iadd, 1) := by decide +kernel
theorem dX1_scale_9 : decode cX1_scale 9 = .ok (.ireturn, 1) := by decide +kernel
theorem dX1_twiceMiddleAbove_0 : decode cX1_twiceMiddleAbove 0 = .ok (.aload_n 0, 1) := by decide +kernel
theorem dX1_twiceMiddleAbove_1 : decode cX1_twiceMiddleAbove 1 = .ok (.iload_n 1, 1) := by decide +kernel
theorem dX1_twiceMiddleAbove_2 : decode cX1_twiceMiddleAbove 2 = .ok (.invokevirtual 34, 3) := by decide +kernel
theorem dX1_twiceMiddleAbove_5 : decode cX1_twiceMiddleAbove 5 = .ok (.lstore_n 2, 1) := by decide +kernel
theorem dX1_twiceMiddleAbove_6 : decode cX1_twiceMiddleAbove 6 = .ok (.iload_n 1, 1) := by decide +kernel
theorem dX1_twiceMiddleAbove_7 : decode cX1_twiceMiddleAbove 7 = .ok (.aload_n 0, 1) := by decide +kernel
theorem dX1_twiceMiddleAbove_8 : decode cX1_twiceMiddleAbove 8 = .ok (.getfield 31, 3) := by decide +kernel
theorem dX1_twiceMiddleAbove_11 : decode cX1_twiceMiddleAbove 11 = .ok (.if_icmp .ne 20, 3) := by decide +kernel
theorem dX1_twiceMiddleAbove_14 : decode cX1_twiceMiddleAbove 14 = .ok (.ldc2_w 38, 3) := by decide +kernel
theorem dX1_twiceMiddleAbove_17 : decode cX1_twiceMiddleAbove 17 = .ok (.lload_n 2, 1) := by decide +kernel
theorem dX1_twiceMiddleAbove_18 : decode cX1_twiceMiddleAbove 18 = .ok (.lmul, 1) := by decide +kernel
theorem dX1_twiceMiddleAbove_19 : decode cX1_twiceMiddleAbove 19 = .ok (.aload_n 0, 1) := by decide +kernel
theorem dX1_twiceMiddleAbove_20 : decode cX1_twiceMiddleAbove 20 = .ok (.aload_n 0, 1) := by decide +kernel
theorem dX1_twiceMiddleAbove_21 : decode cX1_twiceMiddleAbove 21 = .ok (.getfield 31, 3) := by decide +kernel
theorem dX1_twiceMiddleAbove_24 : decode cX1_twiceMiddleAbove 24 = .ok (.iconst 1, 1) := by decide +kernel
theorem dX1_twiceMiddleAbove_25 : decode cX1_twiceMiddleAbove 25 = .ok (.isub, 1) := by decide +kernel
theorem dX1_twiceMiddleAbove_26 : decode cX1_twiceMiddleAbove 26 = .ok (.invokevirtual 34, 3) := by decide +kernel
theorem dX1_twiceMiddleAbove_29 : decode cX1_twiceMiddleAbove 29 = .ok (.lsub, 1) := by decide +kernel
theorem dX1_twiceMiddleAbove_30 : decode cX1_twiceMiddleAbove 30 = .ok (.lreturn, 1) := by decide +kernel
theorem dX1_twiceMiddleAbove_31 : decode cX1_twiceMiddleAbove 31 = .ok (.lload_n 2, 1) := by decide +kernel
theorem dX1_twiceMiddleAbove_32 : decode cX1_twiceMiddleAbove 32 = .ok (.aload_n 0, 1) := by decide +kernel
theorem dX1_twiceMiddleAbove_33 : decode cX1_twiceMiddleAbove 33 = .ok (.iload_n 1, 1) := by decide +kernel
theorem dX1_twiceMiddleAbove_34 : decode cX1_twiceMiddleAbove 34 = .ok (.iconst 1, 1) := by decide +kernel
theorem dX1_twiceMiddleAbove_35 : decode cX1_twiceMiddleAbove 35 = .ok (.iadd, 1) := by decide +kernel
theorem dX1_twiceMiddleAbove_36 : decode cX1_twiceMiddleAbove 36 = .ok (.invokevirtual 34, 3) := by decide +kernel
theorem dX1_twiceMiddleAbove_39 : decode cX1_twiceMiddleAbove 39 = .ok (.ladd, 1) := by decide +kernel
theorem dX1_twiceMiddleAbove_40 : decode cX1_twiceMiddleAbove 40 = .ok (.lreturn, 1) := by decide +kernel
theorem dX1_noneCode_0 : decode cX1_noneCode 0 = .ok (.aload_n 0, 1) := by decide +kernel
theorem dX1_noneCode_1 : decode cX1_noneCode 1 = .ok (.getfield 28, 3) := by decide +kernel
theorem dX1_noneCode_4 : decode cX1_noneCode 4 = .ok (.iconst 1, 1) := by decide +kernel
theorem dX1_noneCode_5 : decode cX1_noneCode 5 = .ok (.if_icmp .ne 10, 3) := by decide +kernel
theorem dX1_noneCode_8 : decode cX1_noneCode 8 = .ok (.aload_n 0, 1) := by decide +kernel
theorem dX1_noneCode_9 : decode cX1_noneCode 9 = .ok (.getfield 31, 3) := by decide +kernel
theorem dX1_noneCode_12 : decode cX1_noneCode 12 = .ok (.iconst 1, 1) := by decide +kernel
theorem dX1_noneCode_13 : decode cX1_noneCode 13 = .ok (.iadd, 1) := by decide +kernel
theorem dX1_noneCode_14 : decode cX1_noneCode 14 = .ok (.ireturn, 1) := by decide +kernel
theorem dX1_noneCode_15 : decode cX1_noneCode 15 = .ok (.aload_n 0, 1) := by decide +kernel
theorem dX1_noneCode_16 : decode cX1_noneCode 16 = .ok (.getfield 28, 3) := by decide +kernel
theorem dX1_noneCode_19 : decode cX1_noneCode 19 = .ok (.ifCond .ne 14, 3) := by decide +kernel
theorem dX1_noneCode_22 : decode cX1_noneCode 22 = .ok (.aload_n 0, 1) := by decide +kernel
theorem dX1_noneCode_23 : decode cX1_noneCode 23 = .ok (.getfield 18, 3) := by decide +kernel
theorem dX1_noneCode_26 : decode cX1_noneCode 26 = .ok (.ifCond .le 7, 3) := by decide +kernel
theorem dX1_noneCode_29 : decode cX1_noneCode 29 = .ok (.iconst 1, 1) := by decide +kernel
theorem dX1_noneCode_30 : decode cX1_noneCode 30 = .ok (.goto 4, 3) := by decide +kernel
theorem dX1_noneCode_33 : decode cX1_noneCode 33 = .ok (.iconst 0, 1) := by decide +kernel
theorem dX1_noneCode_34 : decode cX1_noneCode 34 = .ok (.istore_n 1, 1) := by decide +kernel
theorem dX1_noneCode_35 : decode cX1_noneCode 35 = .ok (.iload_n 1, 1) := by decide +kernel
theorem dX1_noneCode_36 : decode cX1_noneCode 36 = .ok (.ifCond .eq 21, 3) := by decide +kernel
theorem dX1_noneCode_39 : decode cX1_noneCode 39 = .ok (.aload_n 0, 1) := by decide +kernel
theorem dX1_noneCode_40 : decode cX1_noneCode 40 = .ok (.getfield 31, 3) := by decide +kernel
theorem dX1_noneCode_43 : decode cX1_noneCode 43 = .ok (.iconst 1, 1) := by decide +kernel
theorem dX1_noneCode_44 : decode cX1_noneCode 44 = .ok (.iadd, 1) := by decide +kernel
theorem dX1_noneCode_45 : decode cX1_noneCode 45 = .ok (.iconst 1, 1) := by decide +kernel
theorem dX1_noneCode_46 : decode cX1_noneCode 46 = .ok (.aload_n 0, 1) := by decide +kernel
theorem dX1_noneCode_47 : decode cX1_noneCode 47 = .ok (.getfield 18, 3) := by decide +kernel
theorem dX1_noneCode_50 : decode cX1_noneCode 50 = .ok (.iconst 1, 1) := by decide +kernel
theorem dX1_noneCode_51 : decode cX1_noneCode 51 = .ok (.isub, 1) := by decide +kernel
theorem dX1_noneCode_52 : decode cX1_noneCode 52 = .ok (.ishl, 1) := by decide +kernel
theorem dX1_noneCode_53 : decode cX1_noneCode 53 = .ok (.ior, 1) := by decide +kernel
theorem dX1_noneCode_54 : decode cX1_noneCode 54 = .ok (.goto 5, 3) := by decide +kernel
theorem dX1_noneCode_57 : decode cX1_noneCode 57 = .ok (.bipush (-9), 2) := by decide +kernel
theorem dX1_noneCode_59 : decode cX1_noneCode 59 = .ok (.ireturn, 1) := by decide +kernel
theorem dX1_beyond_0 : decode cX1_beyond 0 = .ok (.iload_n 1, 1) := by decide +kernel
theorem dX1_beyond_1 : decode cX1_beyond 1 = .ok (.ifCond .eq 12, 3) := by decide +kernel
theorem dX1_beyond_4 : decode cX1_beyond 4 = .ok (.aload_n 0, 1) := by decide +kernel
theorem dX1_beyond_5 : decode cX1_beyond 5 = .ok (.getfield 9, 3) := by decide +kernel
theorem dX1_beyond_8 : decode cX1_beyond 8 = .ok (.ifCond .ne 5, 3) := by decide +kernel
theorem dX1_beyond_11 : decode cX1_beyond 11 = .ok (.iconst 0, 1) := by decide +kernel
theorem dX1_beyond_12 : decode cX1_beyond 12 = .ok (.ireturn, 1) := by decide +kernel
theorem dX1_beyond_13 : decode cX1_beyond 13 = .ok (.aload_n 0, 1) := by decide +kernel
theorem dX1_beyond_14 : decode cX1_beyond 14 = .ok (.getfield 28, 3) := by decide +kernel
theorem dX1_beyond_17 : decode cX1_beyond 17 = .ok (.iconst 1, 1) := by decide +kernel
theorem dX1_beyond_18 : decode cX1_beyond 18 = .ok (.if_icmp .ne 8, 3) := by decide +kernel
theorem dX1_beyond_21 : decode cX1_beyond 21 = .ok (.aload_n 0, 1) := by decide +kernel
theorem dX1_beyond_22 : decode cX1_beyond 22 = .ok (.invokevirtual 40, 3) := by decide +kernel
theorem dX1_beyond_25 : decode cX1_beyond 25 = .ok (.ireturn, 1) := by decide +kernel
theorem dX1_beyond_26 : decode cX1_beyond 26 = .ok (.aload_n 0, 1) := by decide +kernel
theorem dX1_beyond_27 : decode cX1_beyond 27 = .ok (.iload_n 1, 1) := by decide +kernel
theorem dX1_beyond_28 : decode cX1_beyond 28 = .ok (.aload_n 0, 1) := by decide +kernel
theorem dX1_beyond_29 : decode cX1_beyond 29 = .ok (.getfield 28, 3) := by decide +kernel
theorem dX1_beyond_32 : decode cX1_beyond 32 = .ok (.ifCond .ne 12, 3) := by decide +kernel
theorem dX1_beyond_35 : decode cX1_beyond 35 = .ok (.aload_n 0, 1) := by decide +kernel
theorem dX1_beyond_36 : decode cX1_beyond 36 = .ok (.getfield 31, 3) := by decide +kernel
theorem dX1_beyond_39 : decode cX1_beyond 39 = .ok (.iconst 1, 1) := by decide +kernel
theorem dX1_beyond_40 : decode cX1_beyond 40 = .ok (.iadd, 1) := by decide +kernel
theorem dX1_beyond_41 : decode cX1_beyond 41 = .ok (.goto 7, 3) := by decide +kernel
theorem dX1_beyond_44 : decode cX1_beyond 44 = .ok (.aload_n 0, 1) := by decide +kernel
theorem dX1_beyond_45 : decode cX1_beyond 45 = .ok (.getfield 31, 3) := by decide +kernel
theorem dX1_beyond_48 : decode cX1_beyond 48 = .ok (.invokevirtual 44, 3) := by decide +kernel
theorem dX1_beyond_51 : decode cX1_beyond 51 = .ok (.ireturn, 1) := by decide +kernel
theorem dX1_hasCode_0 : decode cX1_hasCode 0 = .ok (.iload_n 1, 1) := by decide +kernel
theorem dX1_hasCode_1 : decode cX1_hasCode 1 = .ok (.ifCond .lt 17, 3) := by decide +kernel
theorem dX1_hasCode_4 : decode cX1_hasCode 4 = .ok (.iload_n 1, 1) := by decide +kernel
theorem dX1_hasCode_5 : decode cX1_hasCode 5 = .ok (.iconst 1, 1) := by decide +kernel
theorem dX1_hasCode_6 : decode cX1_hasCode 6 = .ok (.aload_n 0, 1) := by decide +kernel
theorem dX1_hasCode_7 : decode cX1_hasCode 7 = .ok (.invokevirtual 48, 3) := by decide +kernel
theorem dX1_hasCode_10 : decode cX1_hasCode 10 = .ok (.ishl, 1) := by decide +kernel
theorem dX1_hasCode_11 : decode cX1_hasCode 11 = .ok (.if_icmp .ge 7, 3) := by decide +kernel
theorem dX1_hasCode_14 : decode cX1_hasCode 14 = .ok (.iconst 1, 1) := by decide +kernel
theorem dX1_hasCode_15 : decode cX1_hasCode 15 = .ok (.goto 4, 3) := by decide +kernel
theorem dX1_hasCode_18 : decode cX1_hasCode 18 = .ok (.iconst 0, 1) := by decide +kernel
theorem dX1_hasCode_19 : decode cX1_hasCode 19 = .ok (.ireturn, 1) := by decide +kernel
theorem dX1_magnitude_0 : decode cX1_magnitude 0 = .ok (.iload_n 1, 1) := by decide +kernel
theorem dX1_magnitude_1 : decode cX1_magnitude 1 = .ok (.iconst 1, 1) := by decide +kernel
theorem dX1_magnitude_2 : decode cX1_magnitude 2 = .ok (.aload_n 0, 1) := by decide +kernel
theorem dX1_magnitude_3 : decode cX1_magnitude 3 = .ok (.getfield 15, 3) := by decide +kernel
theorem dX1_magnitude_6 : decode cX1_magnitude 6 = .ok (.aload_n 0, 1) := by decide +kernel
theorem dX1_magnitude_7 : decode cX1_magnitude 7 = .ok (.getfield 18, 3) := by decide +kernel
theorem dX1_magnitude_10 : decode cX1_magnitude 10 = .ok (.iadd, 1) := by decide +kernel
theorem dX1_magnitude_11 : decode cX1_magnitude 11 = .ok (.ishl, 1) := by decide +kernel
theorem dX1_magnitude_12 : decode cX1_magnitude 12 = .ok (.iconst 1, 1) := by decide +kernel
theorem dX1_magnitude_13 : decode cX1_magnitude 13 = .ok (.isub, 1) := by decide +kernel
theorem dX1_magnitude_14 : decode cX1_magnitude 14 = .ok (.iand, 1) := by decide +kernel
theorem dX1_magnitude_15 : decode cX1_magnitude 15 = .ok (.ireturn, 1) := by decide +kernel
theorem dX1_isMinus_0 : decode cX1_isMinus 0 = .ok (.aload_n 0, 1) := by decide +kernel
theorem dX1_isMinus_1 : decode cX1_isMinus 1 = .ok (.getfield 9, 3) := by decide +kernel
theorem dX1_isMinus_4 : decode cX1_isMinus 4 = .ok (.iconst 1, 1) := by decide +kernel
theorem dX1_isMinus_5 : decode cX1_isMinus 5 = .ok (.if_icmp .ne 21, 3) := by decide +kernel
theorem dX1_isMinus_8 : decode cX1_isMinus 8 = .ok (.iload_n 1, 1) := by decide +kernel
theorem dX1_isMinus_9 : decode cX1_isMinus 9 = .ok (.aload_n 0, 1) := by decide +kernel
theorem dX1_isMinus_10 : decode cX1_isMinus 10 = .ok (.getfield 15, 3) := by decide +kernel
theorem dX1_isMinus_13 : decode cX1_isMinus 13 = .ok (.aload_n 0, 1) := by decide +kernel
theorem dX1_isMinus_14 : decode cX1_isMinus 14 = .ok (.getfield 18, 3) := by decide +kernel
theorem dX1_isMinus_17 : decode cX1_isMinus 17 = .ok (.iadd, 1) := by decide +kernel
theorem dX1_isMinus_18 : decode cX1_isMinus 18 = .ok (.ishr, 1) := by decide +kernel
theorem dX1_isMinus_19 : decode cX1_isMinus 19 = .ok (.ifCond .eq 7, 3) := by decide +kernel
theorem dX1_isMinus_22 : decode cX1_isMinus 22 = .ok (.iconst 1, 1) := by decide +kernel
theorem dX1_isMinus_23 : decode cX1_isMinus 23 = .ok (.goto 4, 3) := by decide +kernel
theorem dX1_isMinus_26 : decode cX1_isMinus 26 = .ok (.iconst 0, 1) := by decide +kernel
theorem dX1_isMinus_27 : decode cX1_isMinus 27 = .ok (.ireturn, 1) := by decide +kernel
theorem dX1_withSign_0 : decode cX1_withSign 0 = .ok (.iload_n 1, 1) := by decide +kernel
theorem dX1_withSign_1 : decode cX1_withSign 1 = .ok (.ifCond .eq 27, 3) := by decide +kernel
theorem dX1_withSign_4 : decode cX1_withSign 4 = .ok (.aload_n 0, 1) := by decide +kernel
theorem dX1_withSign_5 : decode cX1_withSign 5 = .ok (.getfield 9, 3) := by decide +kernel
theorem dX1_withSign_8 : decode cX1_withSign 8 = .ok (.iconst 1, 1) := by decide +kernel
theorem dX1_withSign_9 : decode cX1_withSign 9 = .ok (.if_icmp .ne 19, 3) := by decide +kernel
theorem dX1_withSign_12 : decode cX1_withSign 12 = .ok (.iload_n 2, 1) := by decide +kernel
theorem dX1_withSign_13 : decode cX1_withSign 13 = .ok (.iconst 1, 1) := by decide +kernel
theorem dX1_withSign_14 : decode cX1_withSign 14 = .ok (.aload_n 0, 1) := by decide +kernel
theorem dX1_withSign_15 : decode cX1_withSign 15 = .ok (.getfield 15, 3) := by decide +kernel
theorem dX1_withSign_18 : decode cX1_withSign 18 = .ok (.aload_n 0, 1) := by decide +kernel
theorem dX1_withSign_19 : decode cX1_withSign 19 = .ok (.getfield 18, 3) := by decide +kernel
theorem dX1_withSign_22 : decode cX1_withSign 22 = .ok (.iadd, 1) := by decide +kernel
theorem dX1_withSign_23 : decode cX1_withSign 23 = .ok (.ishl, 1) := by decide +kernel
theorem dX1_withSign_24 : decode cX1_withSign 24 = .ok (.ior, 1) := by decide +kernel
theorem dX1_withSign_25 : decode cX1_withSign 25 = .ok (.goto 4, 3) := by decide +kernel
theorem dX1_withSign_28 : decode cX1_withSign 28 = .ok (.iload_n 2, 1) := by decide +kernel
theorem dX1_withSign_29 : decode cX1_withSign 29 = .ok (.ireturn, 1) := by decide +kernel
theorem dX1_isNumber_0 : decode cX1_isNumber 0 = .ok (.aload_n 0, 1) := by decide +kernel
theorem dX1_isNumber_1 : decode cX1_isNumber 1 = .ok (.iload_n 1, 1) := by decide +kernel
theorem dX1_isNumber_2 : decode cX1_isNumber 2 = .ok (.invokevirtual 51, 3) := by decide +kernel
theorem dX1_isNumber_5 : decode cX1_isNumber 5 = .ok (.aload_n 0, 1) := by decide +kernel
theorem dX1_isNumber_6 : decode cX1_isNumber 6 = .ok (.getfield 31, 3) := by decide +kernel
theorem dX1_isNumber_9 : decode cX1_isNumber 9 = .ok (.if_icmp .gt 7, 3) := by decide +kernel
theorem dX1_isNumber_12 : decode cX1_isNumber 12 = .ok (.iconst 1, 1) := by decide +kernel
theorem dX1_isNumber_13 : decode cX1_isNumber 13 = .ok (.goto 4, 3) := by decide +kernel
theorem dX1_isNumber_16 : decode cX1_isNumber 16 = .ok (.iconst 0, 1) := by decide +kernel
theorem dX1_isNumber_17 : decode cX1_isNumber 17 = .ok (.ireturn, 1) := by decide +kernel
theorem dX1_isEndless_0 : decode cX1_isEndless 0 = .ok (.aload_n 0, 1) := by decide +kernel
theorem dX1_isEndless_1 : decode cX1_isEndless 1 = .ok (.getfield 28, 3) := by decide +kernel
theorem dX1_isEndless_4 : decode cX1_isEndless 4 = .ok (.ifCond .ne 21, 3) := by decide +kernel
theorem dX1_isEndless_7 : decode cX1_isEndless 7 = .ok (.aload_n 0, 1) := by decide +kernel
theorem dX1_isEndless_8 : decode cX1_isEndless 8 = .ok (.iload_n 1, 1) := by decide +kernel
theorem dX1_isEndless_9 : decode cX1_isEndless 9 = .ok (.invokevirtual 51, 3) := by decide +kernel
theorem dX1_isEndless_12 : decode cX1_isEndless 12 = .ok (.aload_n 0, 1) := by decide +kernel
theorem dX1_isEndless_13 : decode cX1_isEndless 13 = .ok (.getfield 31, 3) := by decide +kernel
theorem dX1_isEndless_16 : decode cX1_isEndless 16 = .ok (.iconst 1, 1) := by decide +kernel
theorem dX1_isEndless_17 : decode cX1_isEndless 17 = .ok (.iadd, 1) := by decide +kernel
theorem dX1_isEndless_18 : decode cX1_isEndless 18 = .ok (.if_icmp .ne 7, 3) := by decide +kernel
theorem dX1_isEndless_21 : decode cX1_isEndless 21 = .ok (.iconst 1, 1) := by decide +kernel
theorem dX1_isEndless_22 : decode cX1_isEndless 22 = .ok (.goto 4, 3) := by decide +kernel
theorem dX1_isEndless_25 : decode cX1_isEndless 25 = .ok (.iconst 0, 1) := by decide +kernel
theorem dX1_isEndless_26 : decode cX1_isEndless 26 = .ok (.ireturn, 1) := by decide +kernel
theorem dX1_isNone_0 : decode cX1_isNone 0 = .ok (.aload_n 0, 1) := by decide +kernel
theorem dX1_isNone_1 : decode cX1_isNone 1 = .ok (.iload_n 1, 1) := by decide +kernel
theorem dX1_isNone_2 : decode cX1_isNone 2 = .ok (.invokevirtual 55, 3) := by decide +kernel
theorem dX1_isNone_5 : decode cX1_isNone 5 = .ok (.ifCond .ne 15, 3) := by decide +kernel
theorem dX1_isNone_8 : decode cX1_isNone 8 = .ok (.aload_n 0, 1) := by decide +kernel
theorem dX1_isNone_9 : decode cX1_isNone 9 = .ok (.iload_n 1, 1) := by decide +kernel
theorem dX1_isNone_10 : decode cX1_isNone 10 = .ok (.invokevirtual 59, 3) := by decide +kernel
theorem dX1_isNone_13 : decode cX1_isNone 13 = .ok (.ifCond .ne 7, 3) := by decide +kernel
theorem dX1_isNone_16 : decode cX1_isNone 16 = .ok (.iconst 1, 1) := by decide +kernel
theorem dX1_isNone_17 : decode cX1_isNone 17 = .ok (.goto 4, 3) := by decide +kernel
theorem dX1_isNone_20 : decode cX1_isNone 20 = .ok (.iconst 0, 1) := by decide +kernel
theorem dX1_isNone_21 : decode cX1_isNone 21 = .ok (.ireturn, 1) := by decide +kernel
theorem dX1_kindOf_0 : decode cX1_kindOf 0 = .ok (.aload_n 0, 1) := by decide +kernel
theorem dX1_kindOf_1 : decode cX1_kindOf 1 = .ok (.iload_n 1, 1) := by decide +kernel
theorem dX1_kindOf_2 : decode cX1_kindOf 2 = .ok (.invokevirtual 51, 3) := by decide +kernel
theorem dX1_kindOf_5 : decode cX1_kindOf 5 = .ok (.istore_n 2, 1) := by decide +kernel
theorem dX1_kindOf_6 : decode cX1_kindOf 6 = .ok (.aload_n 0, 1) := by decide +kernel
theorem dX1_kindOf_7 : decode cX1_kindOf 7 = .ok (.iload_n 1, 1) := by decide +kernel
theorem dX1_kindOf_8 : decode cX1_kindOf 8 = .ok (.invokevirtual 62, 3) := by decide +kernel
theorem dX1_kindOf_11 : decode cX1_kindOf 11 = .ok (.ifCond .eq 5, 3) := by decide +kernel
theorem dX1_kindOf_14 : decode cX1_kindOf 14 = .ok (.iconst 4, 1) := by decide +kernel
theorem dX1_kindOf_15 : decode cX1_kindOf 15 = .ok (.ireturn, 1) := by decide +kernel
theorem dX1_kindOf_16 : decode cX1_kindOf 16 = .ok (.aload_n 0, 1) := by decide +kernel
theorem dX1_kindOf_17 : decode cX1_kindOf 17 = .ok (.iload_n 1, 1) := by decide +kernel
theorem dX1_kindOf_18 : decode cX1_kindOf 18 = .ok (.invokevirtual 59, 3) := by decide +kernel
theorem dX1_kindOf_21 : decode cX1_kindOf 21 = .ok (.ifCond .eq 5, 3) := by decide +kernel
theorem dX1_kindOf_24 : decode cX1_kindOf 24 = .ok (.iconst 3, 1) := by decide +kernel
theorem dX1_kindOf_25 : decode cX1_kindOf 25 = .ok (.ireturn, 1) := by decide +kernel
theorem dX1_kindOf_26 : decode cX1_kindOf 26 = .ok (.iload_n 2, 1) := by decide +kernel
theorem dX1_kindOf_27 : decode cX1_kindOf 27 = .ok (.ifCond .ne 5, 3) := by decide +kernel
theorem dX1_kindOf_30 : decode cX1_kindOf 30 = .ok (.iconst 0, 1) := by decide +kernel
theorem dX1_kindOf_31 : decode cX1_kindOf 31 = .ok (.ireturn, 1) := by decide +kernel
theorem dX1_kindOf_32 : decode cX1_kindOf 32 = .ok (.aload_n 0, 1) := by decide +kernel
theorem dX1_kindOf_33 : decode cX1_kindOf 33 = .ok (.getfield 24, 3) := by decide +kernel
theorem dX1_kindOf_36 : decode cX1_kindOf 36 = .ok (.ifCond .eq 16, 3) := by decide +kernel
theorem dX1_kindOf_39 : decode cX1_kindOf 39 = .ok (.iload_n 2, 1) := by decide +kernel
theorem dX1_kindOf_40 : decode cX1_kindOf 40 = .ok (.aload_n 0, 1) := by decide +kernel
theorem dX1_kindOf_41 : decode cX1_kindOf 41 = .ok (.getfield 18, 3) := by decide +kernel
theorem dX1_kindOf_44 : decode cX1_kindOf 44 = .ok (.ishr, 1) := by decide +kernel
theorem dX1_kindOf_45 : decode cX1_kindOf 45 = .ok (.ifCond .ne 7, 3) := by decide +kernel
theorem dX1_kindOf_48 : decode cX1_kindOf 48 = .ok (.iconst 1, 1) := by decide +kernel
theorem dX1_kindOf_49 : decode cX1_kindOf 49 = .ok (.goto 4, 3) := by decide +kernel
theorem dX1_kindOf_52 : decode cX1_kindOf 52 = .ok (.iconst 2, 1) := by decide +kernel
theorem dX1_kindOf_53 : decode cX1_kindOf 53 = .ok (.ireturn, 1) := by decide +kernel
theorem dX1_unitsOfMagnitude_0 : decode cX1_unitsOfMagnitude 0 = .ok (.iload_n 1, 1) := by decide +kernel
theorem dX1_unitsOfMagnitude_1 : decode cX1_unitsOfMagnitude 1 = .ok (.aload_n 0, 1) := by decide +kernel
theorem dX1_unitsOfMagnitude_2 : decode cX1_unitsOfMagnitude 2 = .ok (.getfield 18, 3) := by decide +kernel
theorem dX1_unitsOfMagnitude_5 : decode cX1_unitsOfMagnitude 5 = .ok (.ishr, 1) := by decide +kernel
theorem dX1_unitsOfMagnitude_6 : decode cX1_unitsOfMagnitude 6 = .ok (.istore_n 2, 1) := by decide +kernel
theorem dX1_unitsOfMagnitude_7 : decode cX1_unitsOfMagnitude 7 = .ok (.iload_n 1, 1) := by decide +kernel
theorem dX1_unitsOfMagnitude_8 : decode cX1_unitsOfMagnitude 8 = .ok (.iconst 1, 1) := by decide +kernel
theorem dX1_unitsOfMagnitude_9 : decode cX1_unitsOfMagnitude 9 = .ok (.aload_n 0, 1) := by decide +kernel
theorem dX1_unitsOfMagnitude_10 : decode cX1_unitsOfMagnitude 10 = .ok (.getfield 18, 3) := by decide +kernel
theorem dX1_unitsOfMagnitude_13 : decode cX1_unitsOfMagnitude 13 = .ok (.ishl, 1) := by decide +kernel
theorem dX1_unitsOfMagnitude_14 : decode cX1_unitsOfMagnitude 14 = .ok (.iconst 1, 1) := by decide +kernel
theorem dX1_unitsOfMagnitude_15 : decode cX1_unitsOfMagnitude 15 = .ok (.isub, 1) := by decide +kernel
theorem dX1_unitsOfMagnitude_16 : decode cX1_unitsOfMagnitude 16 = .ok (.iand, 1) := by decide +kernel
theorem dX1_unitsOfMagnitude_17 : decode cX1_unitsOfMagnitude 17 = .ok (.i2l, 1) := by decide +kernel
theorem dX1_unitsOfMagnitude_18 : decode cX1_unitsOfMagnitude 18 = .ok (.lstore_n 3, 1) := by decide +kernel
theorem dX1_unitsOfMagnitude_19 : decode cX1_unitsOfMagnitude 19 = .ok (.iload_n 1, 1) := by decide +kernel
theorem dX1_unitsOfMagnitude_20 : decode cX1_unitsOfMagnitude 20 = .ok (.ifCond .ne 5, 3) := by decide +kernel
theorem dX1_unitsOfMagnitude_23 : decode cX1_unitsOfMagnitude 23 = .ok (.lconst 0, 1) := by decide +kernel
theorem dX1_unitsOfMagnitude_24 : decode cX1_unitsOfMagnitude 24 = .ok (.lreturn, 1) := by decide +kernel
theorem dX1_unitsOfMagnitude_25 : decode cX1_unitsOfMagnitude 25 = .ok (.iload_n 2, 1) := by decide +kernel
theorem dX1_unitsOfMagnitude_26 : decode cX1_unitsOfMagnitude 26 = .ok (.ifCond .ne 16, 3) := by decide +kernel
theorem dX1_unitsOfMagnitude_29 : decode cX1_unitsOfMagnitude 29 = .ok (.aload_n 0, 1) := by decide +kernel
theorem dX1_unitsOfMagnitude_30 : decode cX1_unitsOfMagnitude 30 = .ok (.getfield 24, 3) := by decide +kernel
theorem dX1_unitsOfMagnitude_33 : decode cX1_unitsOfMagnitude 33 = .ok (.ifCond .eq 9, 3) := by decide +kernel
theorem dX1_unitsOfMagnitude_36 : decode cX1_unitsOfMagnitude 36 = .ok (.ldc2_w 65, 3) := by decide +kernel
theorem dX1_unitsOfMagnitude_39 : decode cX1_unitsOfMagnitude 39 = .ok (.lload_n 3, 1) := by decide +kernel
theorem dX1_unitsOfMagnitude_40 : decode cX1_unitsOfMagnitude 40 = .ok (.lmul, 1) := by decide +kernel
theorem dX1_unitsOfMagnitude_41 : decode cX1_unitsOfMagnitude 41 = .ok (.lreturn, 1) := by decide +kernel
theorem dX1_unitsOfMagnitude_42 : decode cX1_unitsOfMagnitude 42 = .ok (.lconst 1, 1) := by decide +kernel
theorem dX1_unitsOfMagnitude_43 : decode cX1_unitsOfMagnitude 43 = .ok (.aload_n 0, 1) := by decide +kernel
theorem dX1_unitsOfMagnitude_44 : decode cX1_unitsOfMagnitude 44 = .ok (.getfield 18, 3) := by decide +kernel
theorem dX1_unitsOfMagnitude_47 : decode cX1_unitsOfMagnitude 47 = .ok (.lshl, 1) := by decide +kernel
theorem dX1_unitsOfMagnitude_48 : decode cX1_unitsOfMagnitude 48 = .ok (.lload_n 3, 1) := by decide +kernel
theorem dX1_unitsOfMagnitude_49 : decode cX1_unitsOfMagnitude 49 = .ok (.ladd, 1) := by decide +kernel
theorem dX1_unitsOfMagnitude_50 : decode cX1_unitsOfMagnitude 50 = .ok (.iload_n 2, 1) := by decide +kernel
theorem dX1_unitsOfMagnitude_51 : decode cX1_unitsOfMagnitude 51 = .ok (.lshl, 1) := by decide +kernel
theorem dX1_unitsOfMagnitude_52 : decode cX1_unitsOfMagnitude 52 = .ok (.lreturn, 1) := by decide +kernel
theorem dX1_unitsOf_0 : decode cX1_unitsOf 0 = .ok (.aload_n 0, 1) := by decide +kernel
theorem dX1_unitsOf_1 : decode cX1_unitsOf 1 = .ok (.aload_n 0, 1) := by decide +kernel
theorem dX1_unitsOf_2 : decode cX1_unitsOf 2 = .ok (.iload_n 1, 1) := by decide +kernel
theorem dX1_unitsOf_3 : decode cX1_unitsOf 3 = .ok (.invokevirtual 51, 3) := by decide +kernel
theorem dX1_unitsOf_6 : decode cX1_unitsOf 6 = .ok (.invokevirtual 34, 3) := by decide +kernel
theorem dX1_unitsOf_9 : decode cX1_unitsOf 9 = .ok (.lstore_n 2, 1) := by decide +kernel
theorem dX1_unitsOf_10 : decode cX1_unitsOf 10 = .ok (.aload_n 0, 1) := by decide +kernel
theorem dX1_unitsOf_11 : decode cX1_unitsOf 11 = .ok (.iload_n 1, 1) := by decide +kernel
theorem dX1_unitsOf_12 : decode cX1_unitsOf 12 = .ok (.invokevirtual 67, 3) := by decide +kernel
theorem dX1_unitsOf_15 : decode cX1_unitsOf 15 = .ok (.ifCond .eq 8, 3) := by decide +kernel
theorem dX1_unitsOf_18 : decode cX1_unitsOf 18 = .ok (.lload_n 2, 1) := by decide +kernel
theorem dX1_unitsOf_19 : decode cX1_unitsOf 19 = .ok (.lneg, 1) := by decide +kernel
theorem dX1_unitsOf_20 : decode cX1_unitsOf 20 = .ok (.goto 4, 3) := by decide +kernel
theorem dX1_unitsOf_23 : decode cX1_unitsOf 23 = .ok (.lload_n 2, 1) := by decide +kernel
theorem dX1_unitsOf_24 : decode cX1_unitsOf 24 = .ok (.lreturn, 1) := by decide +kernel
theorem dX1_sizeOf_0 : decode cX1_sizeOf 0 = .ok (.aload_n 0, 1) := by decide +kernel
theorem dX1_sizeOf_1 : decode cX1_sizeOf 1 = .ok (.iload_n 1, 1) := by decide +kernel
theorem dX1_sizeOf_2 : decode cX1_sizeOf 2 = .ok (.invokevirtual 51, 3) := by decide +kernel
theorem dX1_sizeOf_5 : decode cX1_sizeOf 5 = .ok (.istore_n 2, 1) := by decide +kernel
theorem dX1_sizeOf_6 : decode cX1_sizeOf 6 = .ok (.iload_n 2, 1) := by decide +kernel
theorem dX1_sizeOf_7 : decode cX1_sizeOf 7 = .ok (.aload_n 0, 1) := by decide +kernel
theorem dX1_sizeOf_8 : decode cX1_sizeOf 8 = .ok (.getfield 31, 3) := by decide +kernel
theorem dX1_sizeOf_11 : decode cX1_sizeOf 11 = .ok (.if_icmp .gt 9, 3) := by decide +kernel
theorem dX1_sizeOf_14 : decode cX1_sizeOf 14 = .ok (.aload_n 0, 1) := by decide +kernel
theorem dX1_sizeOf_15 : decode cX1_sizeOf 15 = .ok (.iload_n 2, 1) := by decide +kernel
theorem dX1_sizeOf_16 : decode cX1_sizeOf 16 = .ok (.invokevirtual 34, 3) := by decide +kernel
theorem dX1_sizeOf_19 : decode cX1_sizeOf 19 = .ok (.lreturn, 1) := by decide +kernel
theorem dX1_sizeOf_20 : decode cX1_sizeOf 20 = .ok (.aload_n 0, 1) := by decide +kernel
theorem dX1_sizeOf_21 : decode cX1_sizeOf 21 = .ok (.getfield 28, 3) := by decide +kernel
theorem dX1_sizeOf_24 : decode cX1_sizeOf 24 = .ok (.ifCond .ne 19, 3) := by decide +kernel
theorem dX1_sizeOf_27 : decode cX1_sizeOf 27 = .ok (.iload_n 2, 1) := by decide +kernel
theorem dX1_sizeOf_28 : decode cX1_sizeOf 28 = .ok (.aload_n 0, 1) := by decide +kernel
theorem dX1_sizeOf_29 : decode cX1_sizeOf 29 = .ok (.getfield 31, 3) := by decide +kernel
theorem dX1_sizeOf_32 : decode cX1_sizeOf 32 = .ok (.iconst 1, 1) := by decide +kernel
theorem dX1_sizeOf_33 : decode cX1_sizeOf 33 = .ok (.iadd, 1) := by decide +kernel
theorem dX1_sizeOf_34 : decode cX1_sizeOf 34 = .ok (.if_icmp .ne 9, 3) := by decide +kernel
theorem dX1_sizeOf_37 : decode cX1_sizeOf 37 = .ok (.ldc2_w 70, 3) := by decide +kernel
theorem dX1_sizeOf_40 : decode cX1_sizeOf 40 = .ok (.goto 6, 3) := by decide +kernel
theorem dX1_sizeOf_43 : decode cX1_sizeOf 43 = .ok (.ldc2_w 72, 3) := by decide +kernel
theorem dX1_sizeOf_46 : decode cX1_sizeOf 46 = .ok (.lreturn, 1) := by decide +kernel
theorem dX1_sizeOfProduct_0 : decode cX1_sizeOfProduct 0 = .ok (.aload_n 0, 1) := by decide +kernel
theorem dX1_sizeOfProduct_1 : decode cX1_sizeOfProduct 1 = .ok (.iload_n 1, 1) := by decide +kernel
theorem dX1_sizeOfProduct_2 : decode cX1_sizeOfProduct 2 = .ok (.invokevirtual 74, 3) := by decide +kernel
theorem dX1_sizeOfProduct_5 : decode cX1_sizeOfProduct 5 = .ok (.lstore_n 3, 1) := by decide +kernel
theorem dX1_sizeOfProduct_6 : decode cX1_sizeOfProduct 6 = .ok (.aload_n 0, 1) := by decide +kernel
theorem dX1_sizeOfProduct_7 : decode cX1_sizeOfProduct 7 = .ok (.iload_n 2, 1) := by decide +kernel
theorem dX1_sizeOfProduct_8 : decode cX1_sizeOfProduct 8 = .ok (.invokevirtual 74, 3) := by decide +kernel
theorem dX1_sizeOfProduct_11 : decode cX1_sizeOfProduct 11 = .ok (.lstore 5, 2) := by decide +kernel
theorem dX1_sizeOfProduct_13 : decode cX1_sizeOfProduct 13 = .ok (.lload_n 3, 1) := by decide +kernel
theorem dX1_sizeOfProduct_14 : decode cX1_sizeOfProduct 14 = .ok (.ldc2_w 72, 3) := by decide +kernel
theorem dX1_sizeOfProduct_17 : decode cX1_sizeOfProduct 17 = .ok (.lcmp, 1) := by decide +kernel
theorem dX1_sizeOfProduct_18 : decode cX1_sizeOfProduct 18 = .ok (.ifCond .eq 12, 3) := by decide +kernel
theorem dX1_sizeOfProduct_21 : decode cX1_sizeOfProduct 21 = .ok (.lload 5, 2) := by decide +kernel
theorem dX1_sizeOfProduct_23 : decode cX1_sizeOfProduct 23 = .ok (.ldc2_w 72, 3) := by decide +kernel
theorem dX1_sizeOfProduct_26 : decode cX1_sizeOfProduct 26 = .ok (.lcmp, 1) := by decide +kernel
theorem dX1_sizeOfProduct_27 : decode cX1_sizeOfProduct 27 = .ok (.ifCond .ne 7, 3) := by decide +kernel
theorem dX1_sizeOfProduct_30 : decode cX1_sizeOfProduct 30 = .ok (.ldc2_w 72, 3) := by decide +kernel
theorem dX1_sizeOfProduct_33 : decode cX1_sizeOfProduct 33 = .ok (.lreturn, 1) := by decide +kernel
theorem dX1_sizeOfProduct_34 : decode cX1_sizeOfProduct 34 = .ok (.lload_n 3, 1) := by decide +kernel
theorem dX1_sizeOfProduct_35 : decode cX1_sizeOfProduct 35 = .ok (.ldc2_w 70, 3) := by decide +kernel
theorem dX1_sizeOfProduct_38 : decode cX1_sizeOfProduct 38 = .ok (.lcmp, 1) := by decide +kernel
theorem dX1_sizeOfProduct_39 : decode cX1_sizeOfProduct 39 = .ok (.ifCond .eq 12, 3) := by decide +kernel
theorem dX1_sizeOfProduct_42 : decode cX1_sizeOfProduct 42 = .ok (.lload 5, 2) := by decide +kernel
theorem dX1_sizeOfProduct_44 : decode cX1_sizeOfProduct 44 = .ok (.ldc2_w 70, 3) := by decide +kernel
theorem dX1_sizeOfProduct_47 : decode cX1_sizeOfProduct 47 = .ok (.lcmp, 1) := by decide +kernel
theorem dX1_sizeOfProduct_48 : decode cX1_sizeOfProduct 48 = .ok (.ifCond .ne 26, 3) := by decide +kernel
theorem dX1_sizeOfProduct_51 : decode cX1_sizeOfProduct 51 = .ok (.lload_n 3, 1) := by decide +kernel
theorem dX1_sizeOfProduct_52 : decode cX1_sizeOfProduct 52 = .ok (.lconst 0, 1) := by decide +kernel
theorem dX1_sizeOfProduct_53 : decode cX1_sizeOfProduct 53 = .ok (.lcmp, 1) := by decide +kernel
theorem dX1_sizeOfProduct_54 : decode cX1_sizeOfProduct 54 = .ok (.ifCond .eq 10, 3) := by decide +kernel
theorem dX1_sizeOfProduct_57 : decode cX1_sizeOfProduct 57 = .ok (.lload 5, 2) := by decide +kernel
theorem dX1_sizeOfProduct_59 : decode cX1_sizeOfProduct 59 = .ok (.lconst 0, 1) := by decide +kernel
theorem dX1_sizeOfProduct_60 : decode cX1_sizeOfProduct 60 = .ok (.lcmp, 1) := by decide +kernel
theorem dX1_sizeOfProduct_61 : decode cX1_sizeOfProduct 61 = .ok (.ifCond .ne 9, 3) := by decide +kernel
theorem dX1_sizeOfProduct_64 : decode cX1_sizeOfProduct 64 = .ok (.ldc2_w 77, 3) := by decide +kernel
theorem dX1_sizeOfProduct_67 : decode cX1_sizeOfProduct 67 = .ok (.goto 6, 3) := by decide +kernel
theorem dX1_sizeOfProduct_70 : decode cX1_sizeOfProduct 70 = .ok (.ldc2_w 70, 3) := by decide +kernel
theorem dX1_sizeOfProduct_73 : decode cX1_sizeOfProduct 73 = .ok (.lreturn, 1) := by decide +kernel
theorem dX1_sizeOfProduct_74 : decode cX1_sizeOfProduct 74 = .ok (.lload_n 3, 1) := by decide +kernel
theorem dX1_sizeOfProduct_75 : decode cX1_sizeOfProduct 75 = .ok (.lload 5, 2) := by decide +kernel
theorem dX1_sizeOfProduct_77 : decode cX1_sizeOfProduct 77 = .ok (.lmul, 1) := by decide +kernel
theorem dX1_sizeOfProduct_78 : decode cX1_sizeOfProduct 78 = .ok (.lreturn, 1) := by decide +kernel
theorem dX1_rank_0 : decode cX1_rank 0 = .ok (.aload_n 0, 1) := by decide +kernel
theorem dX1_rank_1 : decode cX1_rank 1 = .ok (.iload_n 1, 1) := by decide +kernel
theorem dX1_rank_2 : decode cX1_rank 2 = .ok (.invokevirtual 67, 3) := by decide +kernel
theorem dX1_rank_5 : decode cX1_rank 5 = .ok (.ifCond .eq 12, 3) := by decide +kernel
theorem dX1_rank_8 : decode cX1_rank 8 = .ok (.aload_n 0, 1) := by decide +kernel
theorem dX1_rank_9 : decode cX1_rank 9 = .ok (.iload_n 1, 1) := by decide +kernel
theorem dX1_rank_10 : decode cX1_rank 10 = .ok (.invokevirtual 51, 3) := by decide +kernel
theorem dX1_rank_13 : decode cX1_rank 13 = .ok (.ineg, 1) := by decide +kernel
theorem dX1_rank_14 : decode cX1_rank 14 = .ok (.goto 8, 3) := by decide +kernel
theorem dX1_rank_17 : decode cX1_rank 17 = .ok (.aload_n 0, 1) := by decide +kernel
theorem dX1_rank_18 : decode cX1_rank 18 = .ok (.iload_n 1, 1) := by decide +kernel
theorem dX1_rank_19 : decode cX1_rank 19 = .ok (.invokevirtual 51, 3) := by decide +kernel
theorem dX1_rank_22 : decode cX1_rank 22 = .ok (.ireturn, 1) := by decide +kernel
theorem dX1_lesser_0 : decode cX1_lesser 0 = .ok (.aload_n 0, 1) := by decide +kernel
theorem dX1_lesser_1 : decode cX1_lesser 1 = .ok (.iload_n 1, 1) := by decide +kernel
theorem dX1_lesser_2 : decode cX1_lesser 2 = .ok (.invokevirtual 79, 3) := by decide +kernel
theorem dX1_lesser_5 : decode cX1_lesser 5 = .ok (.aload_n 0, 1) := by decide +kernel
theorem dX1_lesser_6 : decode cX1_lesser 6 = .ok (.iload_n 2, 1) := by decide +kernel
theorem dX1_lesser_7 : decode cX1_lesser 7 = .ok (.invokevirtual 79, 3) := by decide +kernel
theorem dX1_lesser_10 : decode cX1_lesser 10 = .ok (.if_icmp .ne 17, 3) := by decide +kernel
theorem dX1_lesser_13 : decode cX1_lesser 13 = .ok (.aload_n 0, 1) := by decide +kernel
theorem dX1_lesser_14 : decode cX1_lesser 14 = .ok (.iload_n 2, 1) := by decide +kernel
theorem dX1_lesser_15 : decode cX1_lesser 15 = .ok (.invokevirtual 67, 3) := by decide +kernel
theorem dX1_lesser_18 : decode cX1_lesser 18 = .ok (.ifCond .eq 7, 3) := by decide +kernel
theorem dX1_lesser_21 : decode cX1_lesser 21 = .ok (.iload_n 2, 1) := by decide +kernel
theorem dX1_lesser_22 : decode cX1_lesser 22 = .ok (.goto 4, 3) := by decide +kernel
theorem dX1_lesser_25 : decode cX1_lesser 25 = .ok (.iload_n 1, 1) := by decide +kernel
theorem dX1_lesser_26 : decode cX1_lesser 26 = .ok (.ireturn, 1) := by decide +kernel
theorem dX1_lesser_27 : decode cX1_lesser 27 = .ok (.aload_n 0, 1) := by decide +kernel
theorem dX1_lesser_28 : decode cX1_lesser 28 = .ok (.iload_n 1, 1) := by decide +kernel
theorem dX1_lesser_29 : decode cX1_lesser 29 = .ok (.invokevirtual 79, 3) := by decide +kernel
theorem dX1_lesser_32 : decode cX1_lesser 32 = .ok (.aload_n 0, 1) := by decide +kernel
theorem dX1_lesser_33 : decode cX1_lesser 33 = .ok (.iload_n 2, 1) := by decide +kernel
theorem dX1_lesser_34 : decode cX1_lesser 34 = .ok (.invokevirtual 79, 3) := by decide +kernel
theorem dX1_lesser_37 : decode cX1_lesser 37 = .ok (.if_icmp .ge 7, 3) := by decide +kernel
theorem dX1_lesser_40 : decode cX1_lesser 40 = .ok (.iload_n 1, 1) := by decide +kernel
theorem dX1_lesser_41 : decode cX1_lesser 41 = .ok (.goto 4, 3) := by decide +kernel
theorem dX1_lesser_44 : decode cX1_lesser 44 = .ok (.iload_n 2, 1) := by decide +kernel
theorem dX1_lesser_45 : decode cX1_lesser 45 = .ok (.ireturn, 1) := by decide +kernel
theorem dX1_greater_0 : decode cX1_greater 0 = .ok (.aload_n 0, 1) := by decide +kernel
theorem dX1_greater_1 : decode cX1_greater 1 = .ok (.iload_n 1, 1) := by decide +kernel
theorem dX1_greater_2 : decode cX1_greater 2 = .ok (.invokevirtual 79, 3) := by decide +kernel
theorem dX1_greater_5 : decode cX1_greater 5 = .ok (.aload_n 0, 1) := by decide +kernel
theorem dX1_greater_6 : decode cX1_greater 6 = .ok (.iload_n 2, 1) := by decide +kernel
theorem dX1_greater_7 : decode cX1_greater 7 = .ok (.invokevirtual 79, 3) := by decide +kernel
theorem dX1_greater_10 : decode cX1_greater 10 = .ok (.if_icmp .ne 17, 3) := by decide +kernel
theorem dX1_greater_13 : decode cX1_greater 13 = .ok (.aload_n 0, 1) := by decide +kernel
theorem dX1_greater_14 : decode cX1_greater 14 = .ok (.iload_n 1, 1) := by decide +kernel
theorem dX1_greater_15 : decode cX1_greater 15 = .ok (.invokevirtual 67, 3) := by decide +kernel
theorem dX1_greater_18 : decode cX1_greater 18 = .ok (.ifCond .eq 7, 3) := by decide +kernel
theorem dX1_greater_21 : decode cX1_greater 21 = .ok (.iload_n 2, 1) := by decide +kernel
theorem dX1_greater_22 : decode cX1_greater 22 = .ok (.goto 4, 3) := by decide +kernel
theorem dX1_greater_25 : decode cX1_greater 25 = .ok (.iload_n 1, 1) := by decide +kernel
theorem dX1_greater_26 : decode cX1_greater 26 = .ok (.ireturn, 1) := by decide +kernel
theorem dX1_greater_27 : decode cX1_greater 27 = .ok (.aload_n 0, 1) := by decide +kernel
theorem dX1_greater_28 : decode cX1_greater 28 = .ok (.iload_n 1, 1) := by decide +kernel
theorem dX1_greater_29 : decode cX1_greater 29 = .ok (.invokevirtual 79, 3) := by decide +kernel
theorem dX1_greater_32 : decode cX1_greater 32 = .ok (.aload_n 0, 1) := by decide +kernel
theorem dX1_greater_33 : decode cX1_greater 33 = .ok (.iload_n 2, 1) := by decide +kernel
theorem dX1_greater_34 : decode cX1_greater 34 = .ok (.invokevirtual 79, 3) := by decide +kernel
theorem dX1_greater_37 : decode cX1_greater 37 = .ok (.if_icmp .le 7, 3) := by decide +kernel
theorem dX1_greater_40 : decode cX1_greater 40 = .ok (.iload_n 1, 1) := by decide +kernel
theorem dX1_greater_41 : decode cX1_greater 41 = .ok (.goto 4, 3) := by decide +kernel
theorem dX1_greater_44 : decode cX1_greater 44 = .ok (.iload_n 2, 1) := by decide +kernel
theorem dX1_greater_45 : decode cX1_greater 45 = .ok (.ireturn, 1) := by decide +kernel
theorem dX1_neighbour_0 : decode cX1_neighbour 0 = .ok (.aload_n 0, 1) := by decide +kernel
theorem dX1_neighbour_1 : decode cX1_neighbour 1 = .ok (.iload_n 1, 1) := by decide +kernel
theorem dX1_neighbour_2 : decode cX1_neighbour 2 = .ok (.invokevirtual 79, 3) := by decide +kernel
theorem dX1_neighbour_5 : decode cX1_neighbour 5 = .ok (.iload_n 2, 1) := by decide +kernel
theorem dX1_neighbour_6 : decode cX1_neighbour 6 = .ok (.ifCond .eq 7, 3) := by decide +kernel
theorem dX1_neighbour_9 : decode cX1_neighbour 9 = .ok (.iconst 1, 1) := by decide +kernel
theorem dX1_neighbour_10 : decode cX1_neighbour 10 = .ok (.goto 4, 3) := by decide +kernel
theorem dX1_neighbour_13 : decode cX1_neighbour 13 = .ok (.iconst (-1), 1) := by decide +kernel
theorem dX1_neighbour_14 : decode cX1_neighbour 14 = .ok (.iadd, 1) := by decide +kernel
theorem dX1_neighbour_15 : decode cX1_neighbour 15 = .ok (.istore_n 3, 1) := by decide +kernel
theorem dX1_neighbour_16 : decode cX1_neighbour 16 = .ok (.aload_n 0, 1) := by decide +kernel
theorem dX1_neighbour_17 : decode cX1_neighbour 17 = .ok (.getfield 9, 3) := by decide +kernel
theorem dX1_neighbour_20 : decode cX1_neighbour 20 = .ok (.iconst 1, 1) := by decide +kernel
theorem dX1_neighbour_21 : decode cX1_neighbour 21 = .ok (.if_icmp .ne 11, 3) := by decide +kernel
theorem dX1_neighbour_24 : decode cX1_neighbour 24 = .ok (.aload_n 0, 1) := by decide +kernel
theorem dX1_neighbour_25 : decode cX1_neighbour 25 = .ok (.getfield 31, 3) := by decide +kernel
theorem dX1_neighbour_28 : decode cX1_neighbour 28 = .ok (.ineg, 1) := by decide +kernel
theorem dX1_neighbour_29 : decode cX1_neighbour 29 = .ok (.goto 4, 3) := by decide +kernel
theorem dX1_neighbour_32 : decode cX1_neighbour 32 = .ok (.iconst 0, 1) := by decide +kernel
theorem dX1_neighbour_33 : decode cX1_neighbour 33 = .ok (.istore 4, 2) := by decide +kernel
theorem dX1_neighbour_35 : decode cX1_neighbour 35 = .ok (.iload_n 3, 1) := by decide +kernel
theorem dX1_neighbour_36 : decode cX1_neighbour 36 = .ok (.iload 4, 2) := by decide +kernel
theorem dX1_neighbour_38 : decode cX1_neighbour 38 = .ok (.if_icmp .lt 11, 3) := by decide +kernel
theorem dX1_neighbour_41 : decode cX1_neighbour 41 = .ok (.iload_n 3, 1) := by decide +kernel
theorem dX1_neighbour_42 : decode cX1_neighbour 42 = .ok (.aload_n 0, 1) := by decide +kernel
theorem dX1_neighbour_43 : decode cX1_neighbour 43 = .ok (.getfield 31, 3) := by decide +kernel
theorem dX1_neighbour_46 : decode cX1_neighbour 46 = .ok (.if_icmp .le 6, 3) := by decide +kernel
theorem dX1_neighbour_49 : decode cX1_neighbour 49 = .ok (.bipush (-9), 2) := by decide +kernel
theorem dX1_neighbour_51 : decode cX1_neighbour 51 = .ok (.ireturn, 1) := by decide +kernel
theorem dX1_neighbour_52 : decode cX1_neighbour 52 = .ok (.iload_n 3, 1) := by decide +kernel
theorem dX1_neighbour_53 : decode cX1_neighbour 53 = .ok (.ifCond .lt 11, 3) := by decide +kernel
theorem dX1_neighbour_56 : decode cX1_neighbour 56 = .ok (.iload_n 3, 1) := by decide +kernel
theorem dX1_neighbour_57 : decode cX1_neighbour 57 = .ok (.ifCond .ne 11, 3) := by decide +kernel
theorem dX1_neighbour_60 : decode cX1_neighbour 60 = .ok (.iload_n 2, 1) := by decide +kernel
theorem dX1_neighbour_61 : decode cX1_neighbour 61 = .ok (.ifCond .eq 7, 3) := by decide +kernel
theorem dX1_neighbour_64 : decode cX1_neighbour 64 = .ok (.iconst 1, 1) := by decide +kernel
theorem dX1_neighbour_65 : decode cX1_neighbour 65 = .ok (.goto 4, 3) := by decide +kernel
theorem dX1_neighbour_68 : decode cX1_neighbour 68 = .ok (.iconst 0, 1) := by decide +kernel
theorem dX1_neighbour_69 : decode cX1_neighbour 69 = .ok (.istore 5, 2) := by decide +kernel
theorem dX1_neighbour_71 : decode cX1_neighbour 71 = .ok (.aload_n 0, 1) := by decide +kernel
theorem dX1_neighbour_72 : decode cX1_neighbour 72 = .ok (.iload 5, 2) := by decide +kernel
theorem dX1_neighbour_74 : decode cX1_neighbour 74 = .ok (.iload_n 3, 1) := by decide +kernel
theorem dX1_neighbour_75 : decode cX1_neighbour 75 = .ok (.invokestatic 82, 3) := by decide +kernel
theorem dX1_neighbour_78 : decode cX1_neighbour 78 = .ok (.invokevirtual 44, 3) := by decide +kernel
theorem dX1_neighbour_81 : decode cX1_neighbour 81 = .ok (.ireturn, 1) := by decide +kernel
theorem dX1_numbersBetween_0 : decode cX1_numbersBetween 0 = .ok (.ldc2_w 87, 3) := by decide +kernel
theorem dX1_numbersBetween_3 : decode cX1_numbersBetween 3 = .ok (.lstore 5, 2) := by decide +kernel
theorem dX1_numbersBetween_5 : decode cX1_numbersBetween 5 = .ok (.lload 5, 2) := by decide +kernel
theorem dX1_numbersBetween_7 : decode cX1_numbersBetween 7 = .ok (.lneg, 1) := by decide +kernel
theorem dX1_numbersBetween_8 : decode cX1_numbersBetween 8 = .ok (.lload 5, 2) := by decide +kernel
theorem dX1_numbersBetween_10 : decode cX1_numbersBetween 10 = .ok (.lload_n 1, 1) := by decide +kernel
theorem dX1_numbersBetween_11 : decode cX1_numbersBetween 11 = .ok (.invokestatic 89, 3) := by decide +kernel
theorem dX1_numbersBetween_14 : decode cX1_numbersBetween 14 = .ok (.invokestatic 93, 3) := by decide +kernel
theorem dX1_numbersBetween_17 : decode cX1_numbersBetween 17 = .ok (.lstore 7, 2) := by decide +kernel
theorem dX1_numbersBetween_19 : decode cX1_numbersBetween 19 = .ok (.lload 5, 2) := by decide +kernel
theorem dX1_numbersBetween_21 : decode cX1_numbersBetween 21 = .ok (.lneg, 1) := by decide +kernel
theorem dX1_numbersBetween_22 : decode cX1_numbersBetween 22 = .ok (.lload 5, 2) := by decide +kernel
theorem dX1_numbersBetween_24 : decode cX1_numbersBetween 24 = .ok (.lload_n 3, 1) := by decide +kernel
theorem dX1_numbersBetween_25 : decode cX1_numbersBetween 25 = .ok (.invokestatic 89, 3) := by decide +kernel
theorem dX1_numbersBetween_28 : decode cX1_numbersBetween 28 = .ok (.invokestatic 93, 3) := by decide +kernel
theorem dX1_numbersBetween_31 : decode cX1_numbersBetween 31 = .ok (.lstore 9, 2) := by decide +kernel
theorem dX1_numbersBetween_33 : decode cX1_numbersBetween 33 = .ok (.lload 7, 2) := by decide +kernel
theorem dX1_numbersBetween_35 : decode cX1_numbersBetween 35 = .ok (.lload 9, 2) := by decide +kernel
theorem dX1_numbersBetween_37 : decode cX1_numbersBetween 37 = .ok (.lcmp, 1) := by decide +kernel
theorem dX1_numbersBetween_38 : decode cX1_numbersBetween 38 = .ok (.ifCond .le 5, 3) := by decide +kernel
theorem dX1_numbersBetween_41 : decode cX1_numbersBetween 41 = .ok (.iconst 0, 1) := by decide +kernel
theorem dX1_numbersBetween_42 : decode cX1_numbersBetween 42 = .ok (.ireturn, 1) := by decide +kernel
theorem dX1_numbersBetween_43 : decode cX1_numbersBetween 43 = .ok (.aload_n 0, 1) := by decide +kernel
theorem dX1_numbersBetween_44 : decode cX1_numbersBetween 44 = .ok (.lload 9, 2) := by decide +kernel
theorem dX1_numbersBetween_46 : decode cX1_numbersBetween 46 = .ok (.invokevirtual 96, 3) := by decide +kernel
theorem dX1_numbersBetween_49 : decode cX1_numbersBetween 49 = .ok (.aload_n 0, 1) := by decide +kernel
theorem dX1_numbersBetween_50 : decode cX1_numbersBetween 50 = .ok (.lload 7, 2) := by decide +kernel
theorem dX1_numbersBetween_52 : decode cX1_numbersBetween 52 = .ok (.lconst 1, 1) := by decide +kernel
theorem dX1_numbersBetween_53 : decode cX1_numbersBetween 53 = .ok (.lsub, 1) := by decide +kernel
theorem dX1_numbersBetween_54 : decode cX1_numbersBetween 54 = .ok (.invokevirtual 96, 3) := by decide +kernel
theorem dX1_numbersBetween_57 : decode cX1_numbersBetween 57 = .ok (.isub, 1) := by decide +kernel
theorem dX1_numbersBetween_58 : decode cX1_numbersBetween 58 = .ok (.istore 11, 2) := by decide +kernel
theorem dX1_numbersBetween_60 : decode cX1_numbersBetween 60 = .ok (.aload_n 0, 1) := by decide +kernel
theorem dX1_numbersBetween_61 : decode cX1_numbersBetween 61 = .ok (.lload 7, 2) := by decide +kernel
theorem dX1_numbersBetween_63 : decode cX1_numbersBetween 63 = .ok (.lneg, 1) := by decide +kernel
theorem dX1_numbersBetween_64 : decode cX1_numbersBetween 64 = .ok (.invokevirtual 96, 3) := by decide +kernel
theorem dX1_numbersBetween_67 : decode cX1_numbersBetween 67 = .ok (.aload_n 0, 1) := by decide +kernel
theorem dX1_numbersBetween_68 : decode cX1_numbersBetween 68 = .ok (.lload 9, 2) := by decide +kernel
theorem dX1_numbersBetween_70 : decode cX1_numbersBetween 70 = .ok (.lneg, 1) := by decide +kernel
theorem dX1_numbersBetween_71 : decode cX1_numbersBetween 71 = .ok (.lconst 1, 1) := by decide +kernel
theorem dX1_numbersBetween_72 : decode cX1_numbersBetween 72 = .ok (.lsub, 1) := by decide +kernel
theorem dX1_numbersBetween_73 : decode cX1_numbersBetween 73 = .ok (.invokevirtual 96, 3) := by decide +kernel
theorem dX1_numbersBetween_76 : decode cX1_numbersBetween 76 = .ok (.isub, 1) := by decide +kernel
theorem dX1_numbersBetween_77 : decode cX1_numbersBetween 77 = .ok (.istore 12, 2) := by decide +kernel
theorem dX1_numbersBetween_79 : decode cX1_numbersBetween 79 = .ok (.aload_n 0, 1) := by decide +kernel
theorem dX1_numbersBetween_80 : decode cX1_numbersBetween 80 = .ok (.getfield 9, 3) := by decide +kernel
theorem dX1_numbersBetween_83 : decode cX1_numbersBetween 83 = .ok (.iconst 1, 1) := by decide +kernel
theorem dX1_numbersBetween_84 : decode cX1_numbersBetween 84 = .ok (.if_icmp .ne 11, 3) := by decide +kernel
theorem dX1_numbersBetween_87 : decode cX1_numbersBetween 87 = .ok (.iload 11, 2) := by decide +kernel
theorem dX1_numbersBetween_89 : decode cX1_numbersBetween 89 = .ok (.iload 12, 2) := by decide +kernel
theorem dX1_numbersBetween_91 : decode cX1_numbersBetween 91 = .ok (.iadd, 1) := by decide +kernel
theorem dX1_numbersBetween_92 : decode cX1_numbersBetween 92 = .ok (.goto 5, 3) := by decide +kernel
theorem dX1_numbersBetween_95 : decode cX1_numbersBetween 95 = .ok (.iload 11, 2) := by decide +kernel
theorem dX1_numbersBetween_97 : decode cX1_numbersBetween 97 = .ok (.ireturn, 1) := by decide +kernel
theorem dX1_magnitudesUpTo_0 : decode cX1_magnitudesUpTo 0 = .ok (.lload_n 1, 1) := by decide +kernel
theorem dX1_magnitudesUpTo_1 : decode cX1_magnitudesUpTo 1 = .ok (.lconst 0, 1) := by decide +kernel
theorem dX1_magnitudesUpTo_2 : decode cX1_magnitudesUpTo 2 = .ok (.lcmp, 1) := by decide +kernel
theorem dX1_magnitudesUpTo_3 : decode cX1_magnitudesUpTo 3 = .ok (.ifCond .ge 5, 3) := by decide +kernel
theorem dX1_magnitudesUpTo_6 : decode cX1_magnitudesUpTo 6 = .ok (.iconst 0, 1) := by decide +kernel
theorem dX1_magnitudesUpTo_7 : decode cX1_magnitudesUpTo 7 = .ok (.ireturn, 1) := by decide +kernel
theorem dX1_magnitudesUpTo_8 : decode cX1_magnitudesUpTo 8 = .ok (.iconst 1, 1) := by decide +kernel
theorem dX1_magnitudesUpTo_9 : decode cX1_magnitudesUpTo 9 = .ok (.istore_n 3, 1) := by decide +kernel
theorem dX1_magnitudesUpTo_10 : decode cX1_magnitudesUpTo 10 = .ok (.sipush 256, 3) := by decide +kernel
theorem dX1_magnitudesUpTo_13 : decode cX1_magnitudesUpTo 13 = .ok (.istore 4, 2) := by decide +kernel
theorem dX1_magnitudesUpTo_15 : decode cX1_magnitudesUpTo 15 = .ok (.iload 4, 2) := by decide +kernel
theorem dX1_magnitudesUpTo_17 : decode cX1_magnitudesUpTo 17 = .ok (.ifCond .le 45, 3) := by decide +kernel
theorem dX1_magnitudesUpTo_20 : decode cX1_magnitudesUpTo 20 = .ok (.iload_n 3, 1) := by decide +kernel
theorem dX1_magnitudesUpTo_21 : decode cX1_magnitudesUpTo 21 = .ok (.iload 4, 2) := by decide +kernel
theorem dX1_magnitudesUpTo_23 : decode cX1_magnitudesUpTo 23 = .ok (.iadd, 1) := by decide +kernel
theorem dX1_magnitudesUpTo_24 : decode cX1_magnitudesUpTo 24 = .ok (.aload_n 0, 1) := by decide +kernel
theorem dX1_magnitudesUpTo_25 : decode cX1_magnitudesUpTo 25 = .ok (.getfield 31, 3) := by decide +kernel
theorem dX1_magnitudesUpTo_28 : decode cX1_magnitudesUpTo 28 = .ok (.iconst 1, 1) := by decide +kernel
theorem dX1_magnitudesUpTo_29 : decode cX1_magnitudesUpTo 29 = .ok (.iadd, 1) := by decide +kernel
theorem dX1_magnitudesUpTo_30 : decode cX1_magnitudesUpTo 30 = .ok (.if_icmp .gt 23, 3) := by decide +kernel
theorem dX1_magnitudesUpTo_33 : decode cX1_magnitudesUpTo 33 = .ok (.aload_n 0, 1) := by decide +kernel
theorem dX1_magnitudesUpTo_34 : decode cX1_magnitudesUpTo 34 = .ok (.iload_n 3, 1) := by decide +kernel
theorem dX1_magnitudesUpTo_35 : decode cX1_magnitudesUpTo 35 = .ok (.iload 4, 2) := by decide +kernel
theorem dX1_magnitudesUpTo_37 : decode cX1_magnitudesUpTo 37 = .ok (.iadd, 1) := by decide +kernel
theorem dX1_magnitudesUpTo_38 : decode cX1_magnitudesUpTo 38 = .ok (.iconst 1, 1) := by decide +kernel
theorem dX1_magnitudesUpTo_39 : decode cX1_magnitudesUpTo 39 = .ok (.isub, 1) := by decide +kernel
theorem dX1_magnitudesUpTo_40 : decode cX1_magnitudesUpTo 40 = .ok (.invokevirtual 34, 3) := by decide +kernel
theorem dX1_magnitudesUpTo_43 : decode cX1_magnitudesUpTo 43 = .ok (.lload_n 1, 1) := by decide +kernel
theorem dX1_magnitudesUpTo_44 : decode cX1_magnitudesUpTo 44 = .ok (.lcmp, 1) := by decide +kernel
theorem dX1_magnitudesUpTo_45 : decode cX1_magnitudesUpTo 45 = .ok (.ifCond .gt 8, 3) := by decide +kernel
theorem dX1_magnitudesUpTo_48 : decode cX1_magnitudesUpTo 48 = .ok (.iload_n 3, 1) := by decide +kernel
theorem dX1_magnitudesUpTo_49 : decode cX1_magnitudesUpTo 49 = .ok (.iload 4, 2) := by decide +kernel
theorem dX1_magnitudesUpTo_51 : decode cX1_magnitudesUpTo 51 = .ok (.iadd, 1) := by decide +kernel
theorem dX1_magnitudesUpTo_52 : decode cX1_magnitudesUpTo 52 = .ok (.istore_n 3, 1) := by decide +kernel
theorem dX1_magnitudesUpTo_53 : decode cX1_magnitudesUpTo 53 = .ok (.iload 4, 2) := by decide +kernel
theorem dX1_magnitudesUpTo_55 : decode cX1_magnitudesUpTo 55 = .ok (.iconst 1, 1) := by decide +kernel
theorem dX1_magnitudesUpTo_56 : decode cX1_magnitudesUpTo 56 = .ok (.ishr, 1) := by decide +kernel
theorem dX1_magnitudesUpTo_57 : decode cX1_magnitudesUpTo 57 = .ok (.istore 4, 2) := by decide +kernel
theorem dX1_magnitudesUpTo_59 : decode cX1_magnitudesUpTo 59 = .ok (.goto (-44), 3) := by decide +kernel
theorem dX1_magnitudesUpTo_62 : decode cX1_magnitudesUpTo 62 = .ok (.iload_n 3, 1) := by decide +kernel
theorem dX1_magnitudesUpTo_63 : decode cX1_magnitudesUpTo 63 = .ok (.ireturn, 1) := by decide +kernel
theorem dX2_init_0 : decode cX2_init 0 = .ok (.aload_n 0, 1) := by decide +kernel
theorem dX2_init_1 : decode cX2_init 1 = .ok (.invokespecial 3, 3) := by decide +kernel
theorem dX2_init_4 : decode cX2_init 4 = .ok (.aload_n 0, 1) := by decide +kernel
theorem dX2_init_5 : decode cX2_init 5 = .ok (.aconst_null, 1) := by decide +kernel
theorem dX2_init_6 : decode cX2_init 6 = .ok (.putfield 9, 3) := by decide +kernel
theorem dX2_init_9 : decode cX2_init 9 = .ok (.aload_n 0, 1) := by decide +kernel
theorem dX2_init_10 : decode cX2_init 10 = .ok (.iconst 0, 1) := by decide +kernel
theorem dX2_init_11 : decode cX2_init 11 = .ok (.putfield 15, 3) := by decide +kernel
theorem dX2_init_14 : decode cX2_init 14 = .ok (.aload_n 0, 1) := by decide +kernel
theorem dX2_init_15 : decode cX2_init 15 = .ok (.bipush 16, 2) := by decide +kernel
theorem dX2_init_17 : decode cX2_init 17 = .ok (.newarray .int, 2) := by decide +kernel
theorem dX2_init_19 : decode cX2_init 19 = .ok (.putfield 19, 3) := by decide +kernel
theorem dX2_init_22 : decode cX2_init 22 = .ok (.return_, 1) := by decide +kernel
theorem dX2_become_0 : decode cX2_become 0 = .ok (.aload_n 0, 1) := by decide +kernel
theorem dX2_become_1 : decode cX2_become 1 = .ok (.aload_n 1, 1) := by decide +kernel
theorem dX2_become_2 : decode cX2_become 2 = .ok (.putfield 9, 3) := by decide +kernel
theorem dX2_become_5 : decode cX2_become 5 = .ok (.aload_n 0, 1) := by decide +kernel
theorem dX2_become_6 : decode cX2_become 6 = .ok (.iconst 0, 1) := by decide +kernel
theorem dX2_become_7 : decode cX2_become 7 = .ok (.iload_n 2, 1) := by decide +kernel
theorem dX2_become_8 : decode cX2_become 8 = .ok (.aload_n 0, 1) := by decide +kernel
theorem dX2_become_9 : decode cX2_become 9 = .ok (.getfield 19, 3) := by decide +kernel
theorem dX2_become_12 : decode cX2_become 12 = .ok (.arraylength, 1) := by decide +kernel
theorem dX2_become_13 : decode cX2_become 13 = .ok (.invokestatic 23, 3) := by decide +kernel
theorem dX2_become_16 : decode cX2_become 16 = .ok (.invokestatic 29, 3) := by decide +kernel
theorem dX2_become_19 : decode cX2_become 19 = .ok (.putfield 15, 3) := by decide +kernel
theorem dX2_become_22 : decode cX2_become 22 = .ok (.iconst 0, 1) := by decide +kernel
theorem dX2_become_23 : decode cX2_become 23 = .ok (.istore_n 3, 1) := by decide +kernel
theorem dX2_become_24 : decode cX2_become 24 = .ok (.iload_n 3, 1) := by decide +kernel
theorem dX2_become_25 : decode cX2_become 25 = .ok (.aload_n 0, 1) := by decide +kernel
theorem dX2_become_26 : decode cX2_become 26 = .ok (.getfield 19, 3) := by decide +kernel
theorem dX2_become_29 : decode cX2_become 29 = .ok (.arraylength, 1) := by decide +kernel
theorem dX2_become_30 : decode cX2_become 30 = .ok (.if_icmp .ge 16, 3) := by decide +kernel
theorem dX2_become_33 : decode cX2_become 33 = .ok (.aload_n 0, 1) := by decide +kernel
theorem dX2_become_34 : decode cX2_become 34 = .ok (.getfield 19, 3) := by decide +kernel
theorem dX2_become_37 : decode cX2_become 37 = .ok (.iload_n 3, 1) := by decide +kernel
theorem dX2_become_38 : decode cX2_become 38 = .ok (.iconst 0, 1) := by decide +kernel
theorem dX2_become_39 : decode cX2_become 39 = .ok (.iastore, 1) := by decide +kernel
theorem dX2_become_40 : decode cX2_become 40 = .ok (.iinc 3 1, 3) := by decide +kernel
theorem dX2_become_43 : decode cX2_become 43 = .ok (.goto (-19), 3) := by decide +kernel
theorem dX2_become_46 : decode cX2_become 46 = .ok (.return_, 1) := by decide +kernel
theorem dX2_hasPlace_0 : decode cX2_hasPlace 0 = .ok (.iload_n 1, 1) := by decide +kernel
theorem dX2_hasPlace_1 : decode cX2_hasPlace 1 = .ok (.ifCond .lt 15, 3) := by decide +kernel
theorem dX2_hasPlace_4 : decode cX2_hasPlace 4 = .ok (.iload_n 1, 1) := by decide +kernel
theorem dX2_hasPlace_5 : decode cX2_hasPlace 5 = .ok (.aload_n 0, 1) := by decide +kernel
theorem dX2_hasPlace_6 : decode cX2_hasPlace 6 = .ok (.getfield 15, 3) := by decide +kernel
theorem dX2_hasPlace_9 : decode cX2_hasPlace 9 = .ok (.if_icmp .ge 7, 3) := by decide +kernel
theorem dX2_hasPlace_12 : decode cX2_hasPlace 12 = .ok (.iconst 1, 1) := by decide +kernel
theorem dX2_hasPlace_13 : decode cX2_hasPlace 13 = .ok (.goto 4, 3) := by decide +kernel
theorem dX2_hasPlace_16 : decode cX2_hasPlace 16 = .ok (.iconst 0, 1) := by decide +kernel
theorem dX2_hasPlace_17 : decode cX2_hasPlace 17 = .ok (.ireturn, 1) := by decide +kernel
theorem dX2_codeAt_0 : decode cX2_codeAt 0 = .ok (.iload_n 1, 1) := by decide +kernel
theorem dX2_codeAt_1 : decode cX2_codeAt 1 = .ok (.ifCond .lt 21, 3) := by decide +kernel
theorem dX2_codeAt_4 : decode cX2_codeAt 4 = .ok (.iload_n 1, 1) := by decide +kernel
theorem dX2_codeAt_5 : decode cX2_codeAt 5 = .ok (.aload_n 0, 1) := by decide +kernel
theorem dX2_codeAt_6 : decode cX2_codeAt 6 = .ok (.getfield 19, 3) := by decide +kernel
theorem dX2_codeAt_9 : decode cX2_codeAt 9 = .ok (.arraylength, 1) := by decide +kernel
theorem dX2_codeAt_10 : decode cX2_codeAt 10 = .ok (.if_icmp .ge 12, 3) := by decide +kernel
theorem dX2_codeAt_13 : decode cX2_codeAt 13 = .ok (.aload_n 0, 1) := by decide +kernel
theorem dX2_codeAt_14 : decode cX2_codeAt 14 = .ok (.getfield 19, 3) := by decide +kernel
theorem dX2_codeAt_17 : decode cX2_codeAt 17 = .ok (.iload_n 1, 1) := by decide +kernel
theorem dX2_codeAt_18 : decode cX2_codeAt 18 = .ok (.iaload, 1) := by decide +kernel
theorem dX2_codeAt_19 : decode cX2_codeAt 19 = .ok (.goto 4, 3) := by decide +kernel
theorem dX2_codeAt_22 : decode cX2_codeAt 22 = .ok (.iconst 0, 1) := by decide +kernel
theorem dX2_codeAt_23 : decode cX2_codeAt 23 = .ok (.ireturn, 1) := by decide +kernel
theorem dX2_setCode_0 : decode cX2_setCode 0 = .ok (.iload_n 1, 1) := by decide +kernel
theorem dX2_setCode_1 : decode cX2_setCode 1 = .ok (.ifCond .lt 19, 3) := by decide +kernel
theorem dX2_setCode_4 : decode cX2_setCode 4 = .ok (.iload_n 1, 1) := by decide +kernel
theorem dX2_setCode_5 : decode cX2_setCode 5 = .ok (.aload_n 0, 1) := by decide +kernel
theorem dX2_setCode_6 : decode cX2_setCode 6 = .ok (.getfield 19, 3) := by decide +kernel
theorem dX2_setCode_9 : decode cX2_setCode 9 = .ok (.arraylength, 1) := by decide +kernel
theorem dX2_setCode_10 : decode cX2_setCode 10 = .ok (.if_icmp .ge 10, 3) := by decide +kernel
theorem dX2_setCode_13 : decode cX2_setCode 13 = .ok (.aload_n 0, 1) := by decide +kernel
theorem dX2_setCode_14 : decode cX2_setCode 14 = .ok (.getfield 19, 3) := by decide +kernel
theorem dX2_setCode_17 : decode cX2_setCode 17 = .ok (.iload_n 1, 1) := by decide +kernel
theorem dX2_setCode_18 : decode cX2_setCode 18 = .ok (.iload_n 2, 1) := by decide +kernel
theorem dX2_setCode_19 : decode cX2_setCode 19 = .ok (.iastore, 1) := by decide +kernel
theorem dX2_setCode_20 : decode cX2_setCode 20 = .ok (.return_, 1) := by decide +kernel
theorem dX2_byteCount_0 : decode cX2_byteCount 0 = .ok (.aload_n 0, 1) := by decide +kernel
theorem dX2_byteCount_1 : decode cX2_byteCount 1 = .ok (.getfield 15, 3) := by decide +kernel
theorem dX2_byteCount_4 : decode cX2_byteCount 4 = .ok (.aload_n 0, 1) := by decide +kernel
theorem dX2_byteCount_5 : decode cX2_byteCount 5 = .ok (.getfield 9, 3) := by decide +kernel
theorem dX2_byteCount_8 : decode cX2_byteCount 8 = .ok (.invokevirtual 32, 3) := by decide +kernel
theorem dX2_byteCount_11 : decode cX2_byteCount 11 = .ok (.imul, 1) := by decide +kernel
theorem dX2_byteCount_12 : decode cX2_byteCount 12 = .ok (.bipush 7, 2) := by decide +kernel
theorem dX2_byteCount_14 : decode cX2_byteCount 14 = .ok (.iadd, 1) := by decide +kernel
theorem dX2_byteCount_15 : decode cX2_byteCount 15 = .ok (.iconst 3, 1) := by decide +kernel
theorem dX2_byteCount_16 : decode cX2_byteCount 16 = .ok (.ishr, 1) := by decide +kernel
theorem dX2_byteCount_17 : decode cX2_byteCount 17 = .ok (.ireturn, 1) := by decide +kernel
theorem dX2_byteAt_0 : decode cX2_byteAt 0 = .ok (.iconst 0, 1) := by decide +kernel
theorem dX2_byteAt_1 : decode cX2_byteAt 1 = .ok (.istore_n 2, 1) := by decide +kernel
theorem dX2_byteAt_2 : decode cX2_byteAt 2 = .ok (.iconst 0, 1) := by decide +kernel
theorem dX2_byteAt_3 : decode cX2_byteAt 3 = .ok (.istore_n 3, 1) := by decide +kernel
theorem dX2_byteAt_4 : decode cX2_byteAt 4 = .ok (.iload_n 3, 1) := by decide +kernel
theorem dX2_byteAt_5 : decode cX2_byteAt 5 = .ok (.aload_n 0, 1) := by decide +kernel
theorem dX2_byteAt_6 : decode cX2_byteAt 6 = .ok (.getfield 15, 3) := by decide +kernel
theorem dX2_byteAt_9 : decode cX2_byteAt 9 = .ok (.if_icmp .ge 81, 3) := by decide +kernel
theorem dX2_byteAt_12 : decode cX2_byteAt 12 = .ok (.iload_n 3, 1) := by decide +kernel
theorem dX2_byteAt_13 : decode cX2_byteAt 13 = .ok (.aload_n 0, 1) := by decide +kernel
theorem dX2_byteAt_14 : decode cX2_byteAt 14 = .ok (.getfield 9, 3) := by decide +kernel
theorem dX2_byteAt_17 : decode cX2_byteAt 17 = .ok (.invokevirtual 32, 3) := by decide +kernel
theorem dX2_byteAt_20 : decode cX2_byteAt 20 = .ok (.imul, 1) := by decide +kernel
theorem dX2_byteAt_21 : decode cX2_byteAt 21 = .ok (.bipush 8, 2) := by decide +kernel
theorem dX2_byteAt_23 : decode cX2_byteAt 23 = .ok (.iload_n 1, 1) := by decide +kernel
theorem dX2_byteAt_24 : decode cX2_byteAt 24 = .ok (.imul, 1) := by decide +kernel
theorem dX2_byteAt_25 : decode cX2_byteAt 25 = .ok (.isub, 1) := by decide +kernel
theorem dX2_byteAt_26 : decode cX2_byteAt 26 = .ok (.istore 4, 2) := by decide +kernel
theorem dX2_byteAt_28 : decode cX2_byteAt 28 = .ok (.iload 4, 2) := by decide +kernel
theorem dX2_byteAt_30 : decode cX2_byteAt 30 = .ok (.ifCond .lt 24, 3) := by decide +kernel
theorem dX2_byteAt_33 : decode cX2_byteAt 33 = .ok (.iload 4, 2) := by decide +kernel
theorem dX2_byteAt_35 : decode cX2_byteAt 35 = .ok (.bipush 8, 2) := by decide +kernel
theorem dX2_byteAt_37 : decode cX2_byteAt 37 = .ok (.if_icmp .ge 17, 3) := by decide +kernel
theorem dX2_byteAt_40 : decode cX2_byteAt 40 = .ok (.iload_n 2, 1) := by decide +kernel
theorem dX2_byteAt_41 : decode cX2_byteAt 41 = .ok (.aload_n 0, 1) := by decide +kernel
theorem dX2_byteAt_42 : decode cX2_byteAt 42 = .ok (.iload_n 3, 1) := by decide +kernel
theorem dX2_byteAt_43 : decode cX2_byteAt 43 = .ok (.invokevirtual 38, 3) := by decide +kernel
theorem dX2_byteAt_46 : decode cX2_byteAt 46 = .ok (.iload 4, 2) := by decide +kernel
theorem dX2_byteAt_48 : decode cX2_byteAt 48 = .ok (.ishl, 1) := by decide +kernel
theorem dX2_byteAt_49 : decode cX2_byteAt 49 = .ok (.ior, 1) := by decide +kernel
theorem dX2_byteAt_50 : decode cX2_byteAt 50 = .ok (.istore_n 2, 1) := by decide +kernel
theorem dX2_byteAt_51 : decode cX2_byteAt 51 = .ok (.goto 33, 3) := by decide +kernel
theorem dX2_byteAt_54 : decode cX2_byteAt 54 = .ok (.iload 4, 2) := by decide +kernel
theorem dX2_byteAt_56 : decode cX2_byteAt 56 = .ok (.ifCond .ge 28, 3) := by decide +kernel
theorem dX2_byteAt_59 : decode cX2_byteAt 59 = .ok (.iload 4, 2) := by decide +kernel
theorem dX2_byteAt_61 : decode cX2_byteAt 61 = .ok (.aload_n 0, 1) := by decide +kernel
theorem dX2_byteAt_62 : decode cX2_byteAt 62 = .ok (.getfield 9, 3) := by decide +kernel
theorem dX2_byteAt_65 : decode cX2_byteAt 65 = .ok (.invokevirtual 32, 3) := by decide +kernel
theorem dX2_byteAt_68 : decode cX2_byteAt 68 = .ok (.ineg, 1) := by decide +kernel
theorem dX2_byteAt_69 : decode cX2_byteAt 69 = .ok (.if_icmp .le 15, 3) := by decide +kernel
theorem dX2_byteAt_72 : decode cX2_byteAt 72 = .ok (.iload_n 2, 1) := by decide +kernel
theorem dX2_byteAt_73 : decode cX2_byteAt 73 = .ok (.aload_n 0, 1) := by decide +kernel
theorem dX2_byteAt_74 : decode cX2_byteAt 74 = .ok (.iload_n 3, 1) := by decide +kernel
theorem dX2_byteAt_75 : decode cX2_byteAt 75 = .ok (.invokevirtual 38, 3) := by decide +kernel
theorem dX2_byteAt_78 : decode cX2_byteAt 78 = .ok (.iload 4, 2) := by decide +kernel
theorem dX2_byteAt_80 : decode cX2_byteAt 80 = .ok (.ineg, 1) := by decide +kernel
theorem dX2_byteAt_81 : decode cX2_byteAt 81 = .ok (.ishr, 1) := by decide +kernel
theorem dX2_byteAt_82 : decode cX2_byteAt 82 = .ok (.ior, 1) := by decide +kernel
theorem dX2_byteAt_83 : decode cX2_byteAt 83 = .ok (.istore_n 2, 1) := by decide +kernel
theorem dX2_byteAt_84 : decode cX2_byteAt 84 = .ok (.iinc 3 1, 3) := by decide +kernel
theorem dX2_byteAt_87 : decode cX2_byteAt 87 = .ok (.goto (-83), 3) := by decide +kernel
theorem dX2_byteAt_90 : decode cX2_byteAt 90 = .ok (.iload_n 2, 1) := by decide +kernel
theorem dX2_byteAt_91 : decode cX2_byteAt 91 = .ok (.sipush 255, 3) := by decide +kernel
theorem dX2_byteAt_94 : decode cX2_byteAt 94 = .ok (.iand, 1) := by decide +kernel
theorem dX2_byteAt_95 : decode cX2_byteAt 95 = .ok (.ireturn, 1) := by decide +kernel
theorem dX2_areNumbers_0 : decode cX2_areNumbers 0 = .ok (.aload_n 0, 1) := by decide +kernel
theorem dX2_areNumbers_1 : decode cX2_areNumbers 1 = .ok (.getfield 9, 3) := by decide +kernel
theorem dX2_areNumbers_4 : decode cX2_areNumbers 4 = .ok (.aload_n 0, 1) := by decide +kernel
theorem dX2_areNumbers_5 : decode cX2_areNumbers 5 = .ok (.iload_n 2, 1) := by decide +kernel
theorem dX2_areNumbers_6 : decode cX2_areNumbers 6 = .ok (.invokevirtual 38, 3) := by decide +kernel
theorem dX2_areNumbers_9 : decode cX2_areNumbers 9 = .ok (.invokevirtual 42, 3) := by decide +kernel
theorem dX2_areNumbers_12 : decode cX2_areNumbers 12 = .ok (.ifCond .eq 22, 3) := by decide +kernel
theorem dX2_areNumbers_15 : decode cX2_areNumbers 15 = .ok (.aload_n 1, 1) := by decide +kernel
theorem dX2_areNumbers_16 : decode cX2_areNumbers 16 = .ok (.getfield 9, 3) := by decide +kernel
theorem dX2_areNumbers_19 : decode cX2_areNumbers 19 = .ok (.aload_n 1, 1) := by decide +kernel
theorem dX2_areNumbers_20 : decode cX2_areNumbers 20 = .ok (.iload_n 2, 1) := by decide +kernel
theorem dX2_areNumbers_21 : decode cX2_areNumbers 21 = .ok (.invokevirtual 38, 3) := by decide +kernel
theorem dX2_areNumbers_24 : decode cX2_areNumbers 24 = .ok (.invokevirtual 42, 3) := by decide +kernel
theorem dX2_areNumbers_27 : decode cX2_areNumbers 27 = .ok (.ifCond .eq 7, 3) := by decide +kernel
theorem dX2_areNumbers_30 : decode cX2_areNumbers 30 = .ok (.iconst 1, 1) := by decide +kernel
theorem dX2_areNumbers_31 : decode cX2_areNumbers 31 = .ok (.goto 4, 3) := by decide +kernel
theorem dX2_areNumbers_34 : decode cX2_areNumbers 34 = .ok (.iconst 0, 1) := by decide +kernel
theorem dX2_areNumbers_35 : decode cX2_areNumbers 35 = .ok (.ireturn, 1) := by decide +kernel
theorem dX2_distance_0 : decode cX2_distance 0 = .ok (.aload_n 0, 1) := by decide +kernel
theorem dX2_distance_1 : decode cX2_distance 1 = .ok (.getfield 9, 3) := by decide +kernel
theorem dX2_distance_4 : decode cX2_distance 4 = .ok (.invokevirtual 46, 3) := by decide +kernel
theorem dX2_distance_7 : decode cX2_distance 7 = .ok (.aload_n 1, 1) := by decide +kernel
theorem dX2_distance_8 : decode cX2_distance 8 = .ok (.getfield 9, 3) := by decide +kernel
theorem dX2_distance_11 : decode cX2_distance 11 = .ok (.invokevirtual 46, 3) := by decide +kernel
theorem dX2_distance_14 : decode cX2_distance 14 = .ok (.invokestatic 29, 3) := by decide +kernel
theorem dX2_distance_17 : decode cX2_distance 17 = .ok (.istore_n 3, 1) := by decide +kernel
theorem dX2_distance_18 : decode cX2_distance 18 = .ok (.aload_n 0, 1) := by decide +kernel
theorem dX2_distance_19 : decode cX2_distance 19 = .ok (.getfield 9, 3) := by decide +kernel
theorem dX2_distance_22 : decode cX2_distance 22 = .ok (.aload_n 0, 1) := by decide +kernel
theorem dX2_distance_23 : decode cX2_distance 23 = .ok (.iload_n 2, 1) := by decide +kernel
theorem dX2_distance_24 : decode cX2_distance 24 = .ok (.invokevirtual 38, 3) := by decide +kernel
theorem dX2_distance_27 : decode cX2_distance 27 = .ok (.invokevirtual 49, 3) := by decide +kernel
theorem dX2_distance_30 : decode cX2_distance 30 = .ok (.iload_n 3, 1) := by decide +kernel
theorem dX2_distance_31 : decode cX2_distance 31 = .ok (.aload_n 0, 1) := by decide +kernel
theorem dX2_distance_32 : decode cX2_distance 32 = .ok (.getfield 9, 3) := by decide +kernel
theorem dX2_distance_35 : decode cX2_distance 35 = .ok (.invokevirtual 46, 3) := by decide +kernel
theorem dX2_distance_38 : decode cX2_distance 38 = .ok (.isub, 1) := by decide +kernel
theorem dX2_distance_39 : decode cX2_distance 39 = .ok (.lshl, 1) := by decide +kernel
theorem dX2_distance_40 : decode cX2_distance 40 = .ok (.lstore 4, 2) := by decide +kernel
theorem dX2_distance_42 : decode cX2_distance 42 = .ok (.aload_n 1, 1) := by decide +kernel
theorem dX2_distance_43 : decode cX2_distance 43 = .ok (.getfield 9, 3) := by decide +kernel
theorem dX2_distance_46 : decode cX2_distance 46 = .ok (.aload_n 1, 1) := by decide +kernel
theorem dX2_distance_47 : decode cX2_distance 47 = .ok (.iload_n 2, 1) := by decide +kernel
theorem dX2_distance_48 : decode cX2_distance 48 = .ok (.invokevirtual 38, 3) := by decide +kernel
theorem dX2_distance_51 : decode cX2_distance 51 = .ok (.invokevirtual 49, 3) := by decide +kernel
theorem dX2_distance_54 : decode cX2_distance 54 = .ok (.iload_n 3, 1) := by decide +kernel
theorem dX2_distance_55 : decode cX2_distance 55 = .ok (.aload_n 1, 1) := by decide +kernel
theorem dX2_distance_56 : decode cX2_distance 56 = .ok (.getfield 9, 3) := by decide +kernel
theorem dX2_distance_59 : decode cX2_distance 59 = .ok (.invokevirtual 46, 3) := by decide +kernel
theorem dX2_distance_62 : decode cX2_distance 62 = .ok (.isub, 1) := by decide +kernel
theorem dX2_distance_63 : decode cX2_distance 63 = .ok (.lshl, 1) := by decide +kernel
theorem dX2_distance_64 : decode cX2_distance 64 = .ok (.lstore 6, 2) := by decide +kernel
theorem dX2_distance_66 : decode cX2_distance 66 = .ok (.lload 4, 2) := by decide +kernel
theorem dX2_distance_68 : decode cX2_distance 68 = .ok (.lload 6, 2) := by decide +kernel
theorem dX2_distance_70 : decode cX2_distance 70 = .ok (.lsub, 1) := by decide +kernel
theorem dX2_distance_71 : decode cX2_distance 71 = .ok (.invokestatic 53, 3) := by decide +kernel
theorem dX2_distance_74 : decode cX2_distance 74 = .ok (.lreturn, 1) := by decide +kernel
theorem dX2_worstPlace_0 : decode cX2_worstPlace 0 = .ok (.bipush (-9), 2) := by decide +kernel
theorem dX2_worstPlace_2 : decode cX2_worstPlace 2 = .ok (.istore_n 2, 1) := by decide +kernel
theorem dX2_worstPlace_3 : decode cX2_worstPlace 3 = .ok (.lconst 0, 1) := by decide +kernel
theorem dX2_worstPlace_4 : decode cX2_worstPlace 4 = .ok (.lstore_n 3, 1) := by decide +kernel
theorem dX2_worstPlace_5 : decode cX2_worstPlace 5 = .ok (.iconst 0, 1) := by decide +kernel
theorem dX2_worstPlace_6 : decode cX2_worstPlace 6 = .ok (.istore 5, 2) := by decide +kernel
theorem dX2_worstPlace_8 : decode cX2_worstPlace 8 = .ok (.iload 5, 2) := by decide +kernel
theorem dX2_worstPlace_10 : decode cX2_worstPlace 10 = .ok (.aload_n 0, 1) := by decide +kernel
theorem dX2_worstPlace_11 : decode cX2_worstPlace 11 = .ok (.getfield 15, 3) := by decide +kernel
theorem dX2_worstPlace_14 : decode cX2_worstPlace 14 = .ok (.if_icmp .ge 42, 3) := by decide +kernel
theorem dX2_worstPlace_17 : decode cX2_worstPlace 17 = .ok (.aload_n 0, 1) := by decide +kernel
theorem dX2_worstPlace_18 : decode cX2_worstPlace 18 = .ok (.aload_n 1, 1) := by decide +kernel
theorem dX2_worstPlace_19 : decode cX2_worstPlace 19 = .ok (.iload 5, 2) := by decide +kernel
theorem dX2_worstPlace_21 : decode cX2_worstPlace 21 = .ok (.invokevirtual 57, 3) := by decide +kernel
theorem dX2_worstPlace_24 : decode cX2_worstPlace 24 = .ok (.ifCond .eq 26, 3) := by decide +kernel
theorem dX2_worstPlace_27 : decode cX2_worstPlace 27 = .ok (.aload_n 0, 1) := by decide +kernel
theorem dX2_worstPlace_28 : decode cX2_worstPlace 28 = .ok (.aload_n 1, 1) := by decide +kernel
theorem dX2_worstPlace_29 : decode cX2_worstPlace 29 = .ok (.iload 5, 2) := by decide +kernel
theorem dX2_worstPlace_31 : decode cX2_worstPlace 31 = .ok (.invokevirtual 61, 3) := by decide +kernel
theorem dX2_worstPlace_34 : decode cX2_worstPlace 34 = .ok (.lload_n 3, 1) := by decide +kernel
theorem dX2_worstPlace_35 : decode cX2_worstPlace 35 = .ok (.lcmp, 1) := by decide +kernel
theorem dX2_worstPlace_36 : decode cX2_worstPlace 36 = .ok (.ifCond .le 14, 3) := by decide +kernel
theorem dX2_worstPlace_39 : decode cX2_worstPlace 39 = .ok (.aload_n 0, 1) := by decide +kernel
theorem dX2_worstPlace_40 : decode cX2_worstPlace 40 = .ok (.aload_n 1, 1) := by decide +kernel
theorem dX2_worstPlace_41 : decode cX2_worstPlace 41 = .ok (.iload 5, 2) := by decide +kernel
theorem dX2_worstPlace_43 : decode cX2_worstPlace 43 = .ok (.invokevirtual 61, 3) := by decide +kernel
theorem dX2_worstPlace_46 : decode cX2_worstPlace 46 = .ok (.lstore_n 3, 1) := by decide +kernel
theorem dX2_worstPlace_47 : decode cX2_worstPlace 47 = .ok (.iload 5, 2) := by decide +kernel
theorem dX2_worstPlace_49 : decode cX2_worstPlace 49 = .ok (.istore_n 2, 1) := by decide +kernel
theorem dX2_worstPlace_50 : decode cX2_worstPlace 50 = .ok (.iinc 5 1, 3) := by decide +kernel
theorem dX2_worstPlace_53 : decode cX2_worstPlace 53 = .ok (.goto (-45), 3) := by decide +kernel
theorem dX2_worstPlace_56 : decode cX2_worstPlace 56 = .ok (.iload_n 2, 1) := by decide +kernel
theorem dX2_worstPlace_57 : decode cX2_worstPlace 57 = .ok (.ireturn, 1) := by decide +kernel
theorem dX2_differences_0 : decode cX2_differences 0 = .ok (.iconst 0, 1) := by decide +kernel
theorem dX2_differences_1 : decode cX2_differences 1 = .ok (.istore_n 2, 1) := by decide +kernel
theorem dX2_differences_2 : decode cX2_differences 2 = .ok (.iconst 0, 1) := by decide +kernel
theorem dX2_differences_3 : decode cX2_differences 3 = .ok (.istore_n 3, 1) := by decide +kernel
theorem dX2_differences_4 : decode cX2_differences 4 = .ok (.iload_n 3, 1) := by decide +kernel
theorem dX2_differences_5 : decode cX2_differences 5 = .ok (.aload_n 0, 1) := by decide +kernel
theorem dX2_differences_6 : decode cX2_differences 6 = .ok (.getfield 15, 3) := by decide +kernel
theorem dX2_differences_9 : decode cX2_differences 9 = .ok (.if_icmp .ge 32, 3) := by decide +kernel
theorem dX2_differences_12 : decode cX2_differences 12 = .ok (.aload_n 0, 1) := by decide +kernel
theorem dX2_differences_13 : decode cX2_differences 13 = .ok (.aload_n 1, 1) := by decide +kernel
theorem dX2_differences_14 : decode cX2_differences 14 = .ok (.iload_n 3, 1) := by decide +kernel
theorem dX2_differences_15 : decode cX2_differences 15 = .ok (.invokevirtual 57, 3) := by decide +kernel
theorem dX2_differences_18 : decode cX2_differences 18 = .ok (.ifCond .eq 17, 3) := by decide +kernel
theorem dX2_differences_21 : decode cX2_differences 21 = .ok (.aload_n 0, 1) := by decide +kernel
theorem dX2_differences_22 : decode cX2_differences 22 = .ok (.aload_n 1, 1) := by decide +kernel
theorem dX2_differences_23 : decode cX2_differences 23 = .ok (.iload_n 3, 1) := by decide +kernel
theorem dX2_differences_24 : decode cX2_differences 24 = .ok (.invokevirtual 61, 3) := by decide +kernel
theorem dX2_differences_27 : decode cX2_differences 27 = .ok (.lconst 0, 1) := by decide +kernel
theorem dX2_differences_28 : decode cX2_differences 28 = .ok (.lcmp, 1) := by decide +kernel
theorem dX2_differences_29 : decode cX2_differences 29 = .ok (.ifCond .le 6, 3) := by decide +kernel
theorem dX2_differences_32 : decode cX2_differences 32 = .ok (.iinc 2 1, 3) := by decide +kernel
theorem dX2_differences_35 : decode cX2_differences 35 = .ok (.iinc 3 1, 3) := by decide +kernel
theorem dX2_differences_38 : decode cX2_differences 38 = .ok (.goto (-34), 3) := by decide +kernel
theorem dX2_differences_41 : decode cX2_differences 41 = .ok (.iload_n 2, 1) := by decide +kernel
theorem dX2_differences_42 : decode cX2_differences 42 = .ok (.ireturn, 1) := by decide +kernel
theorem dX2_noNumbers_0 : decode cX2_noNumbers 0 = .ok (.iconst 0, 1) := by decide +kernel
theorem dX2_noNumbers_1 : decode cX2_noNumbers 1 = .ok (.istore_n 2, 1) := by decide +kernel
theorem dX2_noNumbers_2 : decode cX2_noNumbers 2 = .ok (.iconst 0, 1) := by decide +kernel
theorem dX2_noNumbers_3 : decode cX2_noNumbers 3 = .ok (.istore_n 3, 1) := by decide +kernel
theorem dX2_noNumbers_4 : decode cX2_noNumbers 4 = .ok (.iload_n 3, 1) := by decide +kernel
theorem dX2_noNumbers_5 : decode cX2_noNumbers 5 = .ok (.aload_n 0, 1) := by decide +kernel
theorem dX2_noNumbers_6 : decode cX2_noNumbers 6 = .ok (.getfield 15, 3) := by decide +kernel
theorem dX2_noNumbers_9 : decode cX2_noNumbers 9 = .ok (.if_icmp .ge 21, 3) := by decide +kernel
theorem dX2_noNumbers_12 : decode cX2_noNumbers 12 = .ok (.aload_n 0, 1) := by decide +kernel
theorem dX2_noNumbers_13 : decode cX2_noNumbers 13 = .ok (.aload_n 1, 1) := by decide +kernel
theorem dX2_noNumbers_14 : decode cX2_noNumbers 14 = .ok (.iload_n 3, 1) := by decide +kernel
theorem dX2_noNumbers_15 : decode cX2_noNumbers 15 = .ok (.invokevirtual 57, 3) := by decide +kernel
theorem dX2_noNumbers_18 : decode cX2_noNumbers 18 = .ok (.ifCond .ne 6, 3) := by decide +kernel
theorem dX2_noNumbers_21 : decode cX2_noNumbers 21 = .ok (.iinc 2 1, 3) := by decide +kernel
theorem dX2_noNumbers_24 : decode cX2_noNumbers 24 = .ok (.iinc 3 1, 3) := by decide +kernel
theorem dX2_noNumbers_27 : decode cX2_noNumbers 27 = .ok (.goto (-23), 3) := by decide +kernel
theorem dX2_noNumbers_30 : decode cX2_noNumbers 30 = .ok (.iload_n 2, 1) := by decide +kernel
theorem dX2_noNumbers_31 : decode cX2_noNumbers 31 = .ok (.ireturn, 1) := by decide +kernel
theorem dX3_init_0 : decode cX3_init 0 = .ok (.aload_n 0, 1) := by decide +kernel
theorem dX3_init_1 : decode cX3_init 1 = .ok (.invokespecial 1, 3) := by decide +kernel
theorem dX3_init_4 : decode cX3_init 4 = .ok (.aload_n 0, 1) := by decide +kernel
theorem dX3_init_5 : decode cX3_init 5 = .ok (.iconst 0, 1) := by decide +kernel
theorem dX3_init_6 : decode cX3_init 6 = .ok (.putfield 7, 3) := by decide +kernel
theorem dX3_init_9 : decode cX3_init 9 = .ok (.aload_n 0, 1) := by decide +kernel
theorem dX3_init_10 : decode cX3_init 10 = .ok (.iconst 0, 1) := by decide +kernel
theorem dX3_init_11 : decode cX3_init 11 = .ok (.putfield 13, 3) := by decide +kernel
theorem dX3_init_14 : decode cX3_init 14 = .ok (.aload_n 0, 1) := by decide +kernel
theorem dX3_init_15 : decode cX3_init 15 = .ok (.iconst 0, 1) := by decide +kernel
theorem dX3_init_16 : decode cX3_init 16 = .ok (.putfield 16, 3) := by decide +kernel
theorem dX3_init_19 : decode cX3_init 19 = .ok (.return_, 1) := by decide +kernel
theorem dX3_clear_0 : decode cX3_clear 0 = .ok (.aload_n 0, 1) := by decide +kernel
theorem dX3_clear_1 : decode cX3_clear 1 = .ok (.iconst 0, 1) := by decide +kernel
theorem dX3_clear_2 : decode cX3_clear 2 = .ok (.putfield 7, 3) := by decide +kernel
theorem dX3_clear_5 : decode cX3_clear 5 = .ok (.aload_n 0, 1) := by decide +kernel
theorem dX3_clear_6 : decode cX3_clear 6 = .ok (.iconst 0, 1) := by decide +kernel
theorem dX3_clear_7 : decode cX3_clear 7 = .ok (.putfield 13, 3) := by decide +kernel
theorem dX3_clear_10 : decode cX3_clear 10 = .ok (.aload_n 0, 1) := by decide +kernel
theorem dX3_clear_11 : decode cX3_clear 11 = .ok (.iconst 0, 1) := by decide +kernel
theorem dX3_clear_12 : decode cX3_clear 12 = .ok (.putfield 16, 3) := by decide +kernel
theorem dX3_clear_15 : decode cX3_clear 15 = .ok (.return_, 1) := by decide +kernel
theorem dX3_add_0 : decode cX3_add 0 = .ok (.aload_n 0, 1) := by decide +kernel
theorem dX3_add_1 : decode cX3_add 1 = .ok (.dup, 1) := by decide +kernel
theorem dX3_add_2 : decode cX3_add 2 = .ok (.getfield 7, 3) := by decide +kernel
theorem dX3_add_5 : decode cX3_add 5 = .ok (.aload_n 1, 1) := by decide +kernel
theorem dX3_add_6 : decode cX3_add 6 = .ok (.getfield 7, 3) := by decide +kernel
theorem dX3_add_9 : decode cX3_add 9 = .ok (.iadd, 1) := by decide +kernel
theorem dX3_add_10 : decode cX3_add 10 = .ok (.putfield 7, 3) := by decide +kernel
theorem dX3_add_13 : decode cX3_add 13 = .ok (.aload_n 0, 1) := by decide +kernel
theorem dX3_add_14 : decode cX3_add 14 = .ok (.dup, 1) := by decide +kernel
theorem dX3_add_15 : decode cX3_add 15 = .ok (.getfield 13, 3) := by decide +kernel
theorem dX3_add_18 : decode cX3_add 18 = .ok (.aload_n 1, 1) := by decide +kernel
theorem dX3_add_19 : decode cX3_add 19 = .ok (.getfield 13, 3) := by decide +kernel
theorem dX3_add_22 : decode cX3_add 22 = .ok (.iadd, 1) := by decide +kernel
theorem dX3_add_23 : decode cX3_add 23 = .ok (.putfield 13, 3) := by decide +kernel
theorem dX3_add_26 : decode cX3_add 26 = .ok (.aload_n 0, 1) := by decide +kernel
theorem dX3_add_27 : decode cX3_add 27 = .ok (.dup, 1) := by decide +kernel
theorem dX3_add_28 : decode cX3_add 28 = .ok (.getfield 16, 3) := by decide +kernel
theorem dX3_add_31 : decode cX3_add 31 = .ok (.aload_n 1, 1) := by decide +kernel
theorem dX3_add_32 : decode cX3_add 32 = .ok (.getfield 16, 3) := by decide +kernel
theorem dX3_add_35 : decode cX3_add 35 = .ok (.iadd, 1) := by decide +kernel
theorem dX3_add_36 : decode cX3_add 36 = .ok (.putfield 16, 3) := by decide +kernel
theorem dX3_add_39 : decode cX3_add 39 = .ok (.return_, 1) := by decide +kernel
theorem dX4_init_0 : decode cX4_init 0 = .ok (.aload_n 0, 1) := by decide +kernel
theorem dX4_init_1 : decode cX4_init 1 = .ok (.invokespecial 3, 3) := by decide +kernel
theorem dX4_init_4 : decode cX4_init 4 = .ok (.aload_n 0, 1) := by decide +kernel
theorem dX4_init_5 : decode cX4_init 5 = .ok (.bipush 10, 2) := by decide +kernel
theorem dX4_init_7 : decode cX4_init 7 = .ok (.anewarray 11, 3) := by decide +kernel
theorem dX4_init_10 : decode cX4_init 10 = .ok (.putfield 13, 3) := by decide +kernel
theorem dX4_init_13 : decode cX4_init 13 = .ok (.aload_n 0, 1) := by decide +kernel
theorem dX4_init_14 : decode cX4_init 14 = .ok (.iconst 0, 1) := by decide +kernel
theorem dX4_init_15 : decode cX4_init 15 = .ok (.putfield 17, 3) := by decide +kernel
theorem dX4_init_18 : decode cX4_init 18 = .ok (.aload_n 0, 1) := by decide +kernel
theorem dX4_init_19 : decode cX4_init 19 = .ok (.iconst 4, 1) := by decide +kernel
theorem dX4_init_20 : decode cX4_init 20 = .ok (.anewarray 21, 3) := by decide +kernel
theorem dX4_init_23 : decode cX4_init 23 = .ok (.putfield 23, 3) := by decide +kernel
theorem dX4_init_26 : decode cX4_init 26 = .ok (.aload_n 0, 1) := by decide +kernel
theorem dX4_init_27 : decode cX4_init 27 = .ok (.bipush 16, 2) := by decide +kernel
theorem dX4_init_29 : decode cX4_init 29 = .ok (.newarray .int, 2) := by decide +kernel
theorem dX4_init_31 : decode cX4_init 31 = .ok (.putfield 27, 3) := by decide +kernel
theorem dX4_init_34 : decode cX4_init 34 = .ok (.aload_n 0, 1) := by decide +kernel
theorem dX4_init_35 : decode cX4_init 35 = .ok (.new 31, 3) := by decide +kernel
theorem dX4_init_38 : decode cX4_init 38 = .ok (.dup, 1) := by decide +kernel
theorem dX4_init_39 : decode cX4_init 39 = .ok (.invokespecial 33, 3) := by decide +kernel
theorem dX4_init_42 : decode cX4_init 42 = .ok (.putfield 34, 3) := by decide +kernel
theorem dX4_init_45 : decode cX4_init 45 = .ok (.aload_n 0, 1) := by decide +kernel
theorem dX4_init_46 : decode cX4_init 46 = .ok (.new 38, 3) := by decide +kernel
theorem dX4_init_49 : decode cX4_init 49 = .ok (.dup, 1) := by decide +kernel
theorem dX4_init_50 : decode cX4_init 50 = .ok (.invokespecial 40, 3) := by decide +kernel
theorem dX4_init_53 : decode cX4_init 53 = .ok (.putfield 41, 3) := by decide +kernel
theorem dX4_init_56 : decode cX4_init 56 = .ok (.aload_n 0, 1) := by decide +kernel
theorem dX4_init_57 : decode cX4_init 57 = .ok (.iconst 0, 1) := by decide +kernel
theorem dX4_init_58 : decode cX4_init 58 = .ok (.putfield 45, 3) := by decide +kernel
theorem dX4_init_61 : decode cX4_init 61 = .ok (.aload_n 0, 1) := by decide +kernel
theorem dX4_init_62 : decode cX4_init 62 = .ok (.aconst_null, 1) := by decide +kernel
theorem dX4_init_63 : decode cX4_init 63 = .ok (.putfield 48, 3) := by decide +kernel
theorem dX4_init_66 : decode cX4_init 66 = .ok (.aload_n 0, 1) := by decide +kernel
theorem dX4_init_67 : decode cX4_init 67 = .ok (.iconst 0, 1) := by decide +kernel
theorem dX4_init_68 : decode cX4_init 68 = .ok (.putfield 52, 3) := by decide +kernel
theorem dX4_init_71 : decode cX4_init 71 = .ok (.aload_n 0, 1) := by decide +kernel
theorem dX4_init_72 : decode cX4_init 72 = .ok (.iconst 0, 1) := by decide +kernel
theorem dX4_init_73 : decode cX4_init 73 = .ok (.putfield 55, 3) := by decide +kernel
theorem dX4_init_76 : decode cX4_init 76 = .ok (.aload_n 0, 1) := by decide +kernel
theorem dX4_init_77 : decode cX4_init 77 = .ok (.iconst 0, 1) := by decide +kernel
theorem dX4_init_78 : decode cX4_init 78 = .ok (.putfield 58, 3) := by decide +kernel
theorem dX4_init_81 : decode cX4_init 81 = .ok (.iconst 0, 1) := by decide +kernel
theorem dX4_init_82 : decode cX4_init 82 = .ok (.istore_n 1, 1) := by decide +kernel
theorem dX4_init_83 : decode cX4_init 83 = .ok (.iload_n 1, 1) := by decide +kernel
theorem dX4_init_84 : decode cX4_init 84 = .ok (.iconst 4, 1) := by decide +kernel
theorem dX4_init_85 : decode cX4_init 85 = .ok (.if_icmp .ge 22, 3) := by decide +kernel
theorem dX4_init_88 : decode cX4_init 88 = .ok (.aload_n 0, 1) := by decide +kernel
theorem dX4_init_89 : decode cX4_init 89 = .ok (.getfield 23, 3) := by decide +kernel
theorem dX4_init_92 : decode cX4_init 92 = .ok (.iload_n 1, 1) := by decide +kernel
theorem dX4_init_93 : decode cX4_init 93 = .ok (.new 21, 3) := by decide +kernel
theorem dX4_init_96 : decode cX4_init 96 = .ok (.dup, 1) := by decide +kernel
theorem dX4_init_97 : decode cX4_init 97 = .ok (.invokespecial 61, 3) := by decide +kernel
theorem dX4_init_100 : decode cX4_init 100 = .ok (.aastore, 1) := by decide +kernel
theorem dX4_init_101 : decode cX4_init 101 = .ok (.iinc 1 1, 3) := by decide +kernel
theorem dX4_init_104 : decode cX4_init 104 = .ok (.goto (-21), 3) := by decide +kernel
theorem dX4_init_107 : decode cX4_init 107 = .ok (.return_, 1) := by decide +kernel
theorem dX4_format_0 : decode cX4_format 0 = .ok (.iload_n 1, 1) := by decide +kernel
theorem dX4_format_1 : decode cX4_format 1 = .ok (.iconst 0, 1) := by decide +kernel
theorem dX4_format_2 : decode cX4_format 2 = .ok (.iconst 1, 1) := by decide +kernel
theorem dX4_format_3 : decode cX4_format 3 = .ok (.invokestatic 62, 3) := by decide +kernel
theorem dX4_format_6 : decode cX4_format 6 = .ok (.ifCond .eq 30, 3) := by decide +kernel
theorem dX4_format_9 : decode cX4_format 9 = .ok (.iload_n 2, 1) := by decide +kernel
theorem dX4_format_10 : decode cX4_format 10 = .ok (.iconst 1, 1) := by decide +kernel
theorem dX4_format_11 : decode cX4_format 11 = .ok (.iconst 4, 1) := by decide +kernel
theorem dX4_format_12 : decode cX4_format 12 = .ok (.invokestatic 62, 3) := by decide +kernel
theorem dX4_format_15 : decode cX4_format 15 = .ok (.ifCond .eq 21, 3) := by decide +kernel
theorem dX4_format_18 : decode cX4_format 18 = .ok (.iload_n 3, 1) := by decide +kernel
theorem dX4_format_19 : decode cX4_format 19 = .ok (.iconst 0, 1) := by decide +kernel
theorem dX4_format_20 : decode cX4_format 20 = .ok (.iconst 5, 1) := by decide +kernel
theorem dX4_format_21 : decode cX4_format 21 = .ok (.invokestatic 62, 3) := by decide +kernel
theorem dX4_format_24 : decode cX4_format 24 = .ok (.ifCond .eq 12, 3) := by decide +kernel
theorem dX4_format_27 : decode cX4_format 27 = .ok (.iload_n 1, 1) := by decide +kernel
theorem dX4_format_28 : decode cX4_format 28 = .ok (.iload_n 2, 1) := by decide +kernel
theorem dX4_format_29 : decode cX4_format 29 = .ok (.iadd, 1) := by decide +kernel
theorem dX4_format_30 : decode cX4_format 30 = .ok (.iload_n 3, 1) := by decide +kernel
theorem dX4_format_31 : decode cX4_format 31 = .ok (.iadd, 1) := by decide +kernel
theorem dX4_format_32 : decode cX4_format 32 = .ok (.iconst 3, 1) := by decide +kernel
theorem dX4_format_33 : decode cX4_format 33 = .ok (.if_icmp .ge 9, 3) := by decide +kernel
theorem dX4_format_36 : decode cX4_format 36 = .ok (.aload_n 0, 1) := by decide +kernel
theorem dX4_format_37 : decode cX4_format 37 = .ok (.iconst (-1), 1) := by decide +kernel
theorem dX4_format_38 : decode cX4_format 38 = .ok (.invokevirtual 66, 3) := by decide +kernel
theorem dX4_format_41 : decode cX4_format 41 = .ok (.ireturn, 1) := by decide +kernel
theorem dX4_format_42 : decode cX4_format 42 = .ok (.iload 4, 2) := by decide +kernel
theorem dX4_format_44 : decode cX4_format 44 = .ok (.iconst 0, 1) := by decide +kernel
theorem dX4_format_45 : decode cX4_format 45 = .ok (.bipush 15, 2) := by decide +kernel
theorem dX4_format_47 : decode cX4_format 47 = .ok (.invokestatic 62, 3) := by decide +kernel
theorem dX4_format_50 : decode cX4_format 50 = .ok (.ifCond .eq 13, 3) := by decide +kernel
theorem dX4_format_53 : decode cX4_format 53 = .ok (.iload 6, 2) := by decide +kernel
theorem dX4_format_55 : decode cX4_format 55 = .ok (.iconst 0, 1) := by decide +kernel
theorem dX4_format_56 : decode cX4_format 56 = .ok (.iconst 2, 1) := by decide +kernel
theorem dX4_format_57 : decode cX4_format 57 = .ok (.invokestatic 62, 3) := by decide +kernel
theorem dX4_format_60 : decode cX4_format 60 = .ok (.ifCond .ne 9, 3) := by decide +kernel
theorem dX4_format_63 : decode cX4_format 63 = .ok (.aload_n 0, 1) := by decide +kernel
theorem dX4_format_64 : decode cX4_format 64 = .ok (.iconst (-1), 1) := by decide +kernel
theorem dX4_format_65 : decode cX4_format 65 = .ok (.invokevirtual 66, 3) := by decide +kernel
theorem dX4_format_68 : decode cX4_format 68 = .ok (.ireturn, 1) := by decide +kernel
theorem dX4_format_69 : decode cX4_format 69 = .ok (.new 11, 3) := by decide +kernel
theorem dX4_format_72 : decode cX4_format 72 = .ok (.dup, 1) := by decide +kernel
theorem dX4_format_73 : decode cX4_format 73 = .ok (.iload_n 1, 1) := by decide +kernel
theorem dX4_format_74 : decode cX4_format 74 = .ok (.iload_n 2, 1) := by decide +kernel
theorem dX4_format_75 : decode cX4_format 75 = .ok (.iload_n 3, 1) := by decide +kernel
theorem dX4_format_76 : decode cX4_format 76 = .ok (.iload 4, 2) := by decide +kernel
theorem dX4_format_78 : decode cX4_format 78 = .ok (.iload 5, 2) := by decide +kernel
theorem dX4_format_80 : decode cX4_format 80 = .ok (.iload 6, 2) := by decide +kernel
theorem dX4_format_82 : decode cX4_format 82 = .ok (.invokespecial 70, 3) := by decide +kernel
theorem dX4_format_85 : decode cX4_format 85 = .ok (.astore 7, 2) := by decide +kernel
theorem dX4_format_87 : decode cX4_format 87 = .ok (.iconst 0, 1) := by decide +kernel
theorem dX4_format_88 : decode cX4_format 88 = .ok (.istore 8, 2) := by decide +kernel
theorem dX4_format_90 : decode cX4_format 90 = .ok (.iload 8, 2) := by decide +kernel
theorem dX4_format_92 : decode cX4_format 92 = .ok (.aload_n 0, 1) := by decide +kernel
theorem dX4_format_93 : decode cX4_format 93 = .ok (.getfield 17, 3) := by decide +kernel
theorem dX4_format_96 : decode cX4_format 96 = .ok (.if_icmp .ge 39, 3) := by decide +kernel
theorem dX4_format_99 : decode cX4_format 99 = .ok (.aload_n 0, 1) := by decide +kernel
theorem dX4_format_100 : decode cX4_format 100 = .ok (.iload 8, 2) := by decide +kernel
theorem dX4_format_102 : decode cX4_format 102 = .ok (.invokevirtual 73, 3) := by decide +kernel
theorem dX4_format_105 : decode cX4_format 105 = .ok (.astore 9, 2) := by decide +kernel
theorem dX4_format_107 : decode cX4_format 107 = .ok (.aload 9, 2) := by decide +kernel
theorem dX4_format_109 : decode cX4_format 109 = .ok (.ifnull 20, 3) := by decide +kernel
theorem dX4_format_112 : decode cX4_format 112 = .ok (.aload 9, 2) := by decide +kernel
theorem dX4_format_114 : decode cX4_format 114 = .ok (.aload 7, 2) := by decide +kernel
theorem dX4_format_116 : decode cX4_format 116 = .ok (.invokevirtual 77, 3) := by decide +kernel
theorem dX4_format_119 : decode cX4_format 119 = .ok (.ifCond .eq 10, 3) := by decide +kernel
theorem dX4_format_122 : decode cX4_format 122 = .ok (.aload_n 0, 1) := by decide +kernel
theorem dX4_format_123 : decode cX4_format 123 = .ok (.iload 8, 2) := by decide +kernel
theorem dX4_format_125 : decode cX4_format 125 = .ok (.invokevirtual 81, 3) := by decide +kernel
theorem dX4_format_128 : decode cX4_format 128 = .ok (.ireturn, 1) := by decide +kernel
theorem dX4_format_129 : decode cX4_format 129 = .ok (.iinc 8 1, 3) := by decide +kernel
theorem dX4_format_132 : decode cX4_format 132 = .ok (.goto (-42), 3) := by decide +kernel
theorem dX4_format_135 : decode cX4_format 135 = .ok (.aload_n 0, 1) := by decide +kernel
theorem dX4_format_136 : decode cX4_format 136 = .ok (.getfield 17, 3) := by decide +kernel
theorem dX4_format_139 : decode cX4_format 139 = .ok (.bipush 10, 2) := by decide +kernel
theorem dX4_format_141 : decode cX4_format 141 = .ok (.if_icmp .lt 10, 3) := by decide +kernel
theorem dX4_format_144 : decode cX4_format 144 = .ok (.aload_n 0, 1) := by decide +kernel
theorem dX4_format_145 : decode cX4_format 145 = .ok (.bipush (-3), 2) := by decide +kernel
theorem dX4_format_147 : decode cX4_format 147 = .ok (.invokevirtual 66, 3) := by decide +kernel
theorem dX4_format_150 : decode cX4_format 150 = .ok (.ireturn, 1) := by decide +kernel
theorem dX4_format_151 : decode cX4_format 151 = .ok (.aload_n 0, 1) := by decide +kernel
theorem dX4_format_152 : decode cX4_format 152 = .ok (.getfield 13, 3) := by decide +kernel
theorem dX4_format_155 : decode cX4_format 155 = .ok (.aload_n 0, 1) := by decide +kernel
theorem dX4_format_156 : decode cX4_format 156 = .ok (.getfield 17, 3) := by decide +kernel
theorem dX4_format_159 : decode cX4_format 159 = .ok (.aload 7, 2) := by decide +kernel
theorem dX4_format_161 : decode cX4_format 161 = .ok (.aastore, 1) := by decide +kernel
theorem dX4_format_162 : decode cX4_format 162 = .ok (.aload_n 0, 1) := by decide +kernel
theorem dX4_format_163 : decode cX4_format 163 = .ok (.dup, 1) := by decide +kernel
theorem dX4_format_164 : decode cX4_format 164 = .ok (.getfield 17, 3) := by decide +kernel
theorem dX4_format_167 : decode cX4_format 167 = .ok (.iconst 1, 1) := by decide +kernel
theorem dX4_format_168 : decode cX4_format 168 = .ok (.iadd, 1) := by decide +kernel
theorem dX4_format_169 : decode cX4_format 169 = .ok (.putfield 17, 3) := by decide +kernel
theorem dX4_format_172 : decode cX4_format 172 = .ok (.aload_n 0, 1) := by decide +kernel
theorem dX4_format_173 : decode cX4_format 173 = .ok (.aload_n 0, 1) := by decide +kernel
theorem dX4_format_174 : decode cX4_format 174 = .ok (.getfield 17, 3) := by decide +kernel
theorem dX4_format_177 : decode cX4_format 177 = .ok (.iconst 1, 1) := by decide +kernel
theorem dX4_format_178 : decode cX4_format 178 = .ok (.isub, 1) := by decide +kernel
theorem dX4_format_179 : decode cX4_format 179 = .ok (.invokevirtual 81, 3) := by decide +kernel
theorem dX4_format_182 : decode cX4_format 182 = .ok (.ireturn, 1) := by decide +kernel
theorem dX4_about_0 : decode cX4_about 0 = .ok (.aload_n 0, 1) := by decide +kernel
theorem dX4_about_1 : decode cX4_about 1 = .ok (.iload_n 1, 1) := by decide +kernel
theorem dX4_about_2 : decode cX4_about 2 = .ok (.invokevirtual 73, 3) := by decide +kernel
theorem dX4_about_5 : decode cX4_about 5 = .ok (.astore_n 3, 1) := by decide +kernel
theorem dX4_about_6 : decode cX4_about 6 = .ok (.aload_n 3, 1) := by decide +kernel
theorem dX4_about_7 : decode cX4_about 7 = .ok (.ifnull 13, 3) := by decide +kernel
theorem dX4_about_10 : decode cX4_about 10 = .ok (.iload_n 2, 1) := by decide +kernel
theorem dX4_about_11 : decode cX4_about 11 = .ok (.iconst 0, 1) := by decide +kernel
theorem dX4_about_12 : decode cX4_about 12 = .ok (.bipush 6, 2) := by decide +kernel
theorem dX4_about_14 : decode cX4_about 14 = .ok (.invokestatic 62, 3) := by decide +kernel
theorem dX4_about_17 : decode cX4_about 17 = .ok (.ifCond .ne 9, 3) := by decide +kernel
theorem dX4_about_20 : decode cX4_about 20 = .ok (.aload_n 0, 1) := by decide +kernel
theorem dX4_about_21 : decode cX4_about 21 = .ok (.iconst (-1), 1) := by decide +kernel
theorem dX4_about_22 : decode cX4_about 22 = .ok (.invokevirtual 66, 3) := by decide +kernel
theorem dX4_about_25 : decode cX4_about 25 = .ok (.ireturn, 1) := by decide +kernel
theorem dX4_about_26 : decode cX4_about 26 = .ok (.iload_n 2, 1) := by decide +kernel
theorem dX4_about_27 : decode cX4_about 27 = .ok (.tableswitch 113 0 5 #[37, 46, 55, 66, 75, 97], 37) := by decide +kernel
theorem dX4_about_64 : decode cX4_about 64 = .ok (.aload_n 0, 1) := by decide +kernel
theorem dX4_about_65 : decode cX4_about 65 = .ok (.aload_n 3, 1) := by decide +kernel
theorem dX4_about_66 : decode cX4_about 66 = .ok (.invokevirtual 84, 3) := by decide +kernel
theorem dX4_about_69 : decode cX4_about 69 = .ok (.invokevirtual 81, 3) := by decide +kernel
theorem dX4_about_72 : decode cX4_about 72 = .ok (.ireturn, 1) := by decide +kernel
theorem dX4_about_73 : decode cX4_about 73 = .ok (.aload_n 0, 1) := by decide +kernel
theorem dX4_about_74 : decode cX4_about 74 = .ok (.aload_n 3, 1) := by decide +kernel
theorem dX4_about_75 : decode cX4_about 75 = .ok (.getfield 88, 3) := by decide +kernel
theorem dX4_about_78 : decode cX4_about 78 = .ok (.invokevirtual 81, 3) := by decide +kernel
theorem dX4_about_81 : decode cX4_about 81 = .ok (.ireturn, 1) := by decide +kernel
theorem dX4_about_82 : decode cX4_about 82 = .ok (.aload_n 0, 1) := by decide +kernel
theorem dX4_about_83 : decode cX4_about 83 = .ok (.aload_n 3, 1) := by decide +kernel
theorem dX4_about_84 : decode cX4_about 84 = .ok (.getfield 88, 3) := by decide +kernel
theorem dX4_about_87 : decode cX4_about 87 = .ok (.iconst 1, 1) := by decide +kernel
theorem dX4_about_88 : decode cX4_about 88 = .ok (.isub, 1) := by decide +kernel
theorem dX4_about_89 : decode cX4_about 89 = .ok (.invokevirtual 81, 3) := by decide +kernel
theorem dX4_about_92 : decode cX4_about 92 = .ok (.ireturn, 1) := by decide +kernel
theorem dX4_about_93 : decode cX4_about 93 = .ok (.aload_n 0, 1) := by decide +kernel
theorem dX4_about_94 : decode cX4_about 94 = .ok (.aload_n 3, 1) := by decide +kernel
theorem dX4_about_95 : decode cX4_about 95 = .ok (.invokevirtual 91, 3) := by decide +kernel
theorem dX4_about_98 : decode cX4_about 98 = .ok (.invokevirtual 81, 3) := by decide +kernel
theorem dX4_about_101 : decode cX4_about 101 = .ok (.ireturn, 1) := by decide +kernel
theorem dX4_about_102 : decode cX4_about 102 = .ok (.aload_n 0, 1) := by decide +kernel
theorem dX4_about_103 : decode cX4_about 103 = .ok (.aload_n 3, 1) := by decide +kernel
theorem dX4_about_104 : decode cX4_about 104 = .ok (.getfield 94, 3) := by decide +kernel
theorem dX4_about_107 : decode cX4_about 107 = .ok (.ifCond .ne 11, 3) := by decide +kernel
theorem dX4_about_110 : decode cX4_about 110 = .ok (.aload_n 3, 1) := by decide +kernel
theorem dX4_about_111 : decode cX4_about 111 = .ok (.iconst 0, 1) := by decide +kernel
theorem dX4_about_112 : decode cX4_about 112 = .ok (.invokevirtual 97, 3) := by decide +kernel
theorem dX4_about_115 : decode cX4_about 115 = .ok (.goto 5, 3) := by decide +kernel
theorem dX4_about_118 : decode cX4_about 118 = .ok (.bipush (-9), 2) := by decide +kernel
theorem dX4_about_120 : decode cX4_about 120 = .ok (.invokevirtual 81, 3) := by decide +kernel
theorem dX4_about_123 : decode cX4_about 123 = .ok (.ireturn, 1) := by decide +kernel
theorem dX4_about_124 : decode cX4_about 124 = .ok (.aload_n 0, 1) := by decide +kernel
theorem dX4_about_125 : decode cX4_about 125 = .ok (.aload_n 3, 1) := by decide +kernel
theorem dX4_about_126 : decode cX4_about 126 = .ok (.getfield 88, 3) := by decide +kernel
theorem dX4_about_129 : decode cX4_about 129 = .ok (.iconst 1, 1) := by decide +kernel
theorem dX4_about_130 : decode cX4_about 130 = .ok (.iadd, 1) := by decide +kernel
theorem dX4_about_131 : decode cX4_about 131 = .ok (.aload_n 3, 1) := by decide +kernel
theorem dX4_about_132 : decode cX4_about 132 = .ok (.getfield 101, 3) := by decide +kernel
theorem dX4_about_135 : decode cX4_about 135 = .ok (.ishl, 1) := by decide +kernel
theorem dX4_about_136 : decode cX4_about 136 = .ok (.invokevirtual 81, 3) := by decide +kernel
theorem dX4_about_139 : decode cX4_about 139 = .ok (.ireturn, 1) := by decide +kernel
theorem dX4_about_140 : decode cX4_about 140 = .ok (.aload_n 0, 1) := by decide +kernel
theorem dX4_about_141 : decode cX4_about 141 = .ok (.aload_n 3, 1) := by decide +kernel
theorem dX4_about_142 : decode cX4_about 142 = .ok (.invokevirtual 104, 3) := by decide +kernel
theorem dX4_about_145 : decode cX4_about 145 = .ok (.invokevirtual 81, 3) := by decide +kernel
theorem dX4_about_148 : decode cX4_about 148 = .ok (.ireturn, 1) := by decide +kernel
theorem dX4_kind_0 : decode cX4_kind 0 = .ok (.aload_n 0, 1) := by decide +kernel
theorem dX4_kind_1 : decode cX4_kind 1 = .ok (.iload_n 1, 1) := by decide +kernel
theorem dX4_kind_2 : decode cX4_kind 2 = .ok (.invokevirtual 73, 3) := by decide +kernel
theorem dX4_kind_5 : decode cX4_kind 5 = .ok (.astore 4, 2) := by decide +kernel
theorem dX4_kind_7 : decode cX4_kind 7 = .ok (.aload 4, 2) := by decide +kernel
theorem dX4_kind_9 : decode cX4_kind 9 = .ok (.ifnull 21, 3) := by decide +kernel
theorem dX4_kind_12 : decode cX4_kind 12 = .ok (.aload 4, 2) := by decide +kernel
theorem dX4_kind_14 : decode cX4_kind 14 = .ok (.iload_n 2, 1) := by decide +kernel
theorem dX4_kind_15 : decode cX4_kind 15 = .ok (.invokevirtual 107, 3) := by decide +kernel
theorem dX4_kind_18 : decode cX4_kind 18 = .ok (.ifCond .eq 12, 3) := by decide +kernel
theorem dX4_kind_21 : decode cX4_kind 21 = .ok (.iload_n 3, 1) := by decide +kernel
theorem dX4_kind_22 : decode cX4_kind 22 = .ok (.iconst 0, 1) := by decide +kernel
theorem dX4_kind_23 : decode cX4_kind 23 = .ok (.iconst 1, 1) := by decide +kernel
theorem dX4_kind_24 : decode cX4_kind 24 = .ok (.invokestatic 62, 3) := by decide +kernel
theorem dX4_kind_27 : decode cX4_kind 27 = .ok (.ifCond .ne 9, 3) := by decide +kernel
theorem dX4_kind_30 : decode cX4_kind 30 = .ok (.aload_n 0, 1) := by decide +kernel
theorem dX4_kind_31 : decode cX4_kind 31 = .ok (.iconst (-1), 1) := by decide +kernel
theorem dX4_kind_32 : decode cX4_kind 32 = .ok (.invokevirtual 66, 3) := by decide +kernel
theorem dX4_kind_35 : decode cX4_kind 35 = .ok (.ireturn, 1) := by decide +kernel
theorem dX4_kind_36 : decode cX4_kind 36 = .ok (.iload_n 3, 1) := by decide +kernel
theorem dX4_kind_37 : decode cX4_kind 37 = .ok (.iconst 1, 1) := by decide +kernel
theorem dX4_kind_38 : decode cX4_kind 38 = .ok (.if_icmp .ne 22, 3) := by decide +kernel
theorem dX4_kind_41 : decode cX4_kind 41 = .ok (.aload_n 0, 1) := by decide +kernel
theorem dX4_kind_42 : decode cX4_kind 42 = .ok (.aload 4, 2) := by decide +kernel
theorem dX4_kind_44 : decode cX4_kind 44 = .ok (.iload_n 2, 1) := by decide +kernel
theorem dX4_kind_45 : decode cX4_kind 45 = .ok (.invokevirtual 111, 3) := by decide +kernel
theorem dX4_kind_48 : decode cX4_kind 48 = .ok (.ifCond .eq 7, 3) := by decide +kernel
theorem dX4_kind_51 : decode cX4_kind 51 = .ok (.iconst 1, 1) := by decide +kernel
theorem dX4_kind_52 : decode cX4_kind 52 = .ok (.goto 4, 3) := by decide +kernel
theorem dX4_kind_55 : decode cX4_kind 55 = .ok (.iconst 0, 1) := by decide +kernel
theorem dX4_kind_56 : decode cX4_kind 56 = .ok (.invokevirtual 81, 3) := by decide +kernel
theorem dX4_kind_59 : decode cX4_kind 59 = .ok (.ireturn, 1) := by decide +kernel
theorem dX4_kind_60 : decode cX4_kind 60 = .ok (.aload_n 0, 1) := by decide +kernel
theorem dX4_kind_61 : decode cX4_kind 61 = .ok (.aload 4, 2) := by decide +kernel
theorem dX4_kind_63 : decode cX4_kind 63 = .ok (.iload_n 2, 1) := by decide +kernel
theorem dX4_kind_64 : decode cX4_kind 64 = .ok (.invokevirtual 114, 3) := by decide +kernel
theorem dX4_kind_67 : decode cX4_kind 67 = .ok (.invokevirtual 81, 3) := by decide +kernel
theorem dX4_kind_70 : decode cX4_kind 70 = .ok (.ireturn, 1) := by decide +kernel
theorem dX4_units_0 : decode cX4_units 0 = .ok (.aload_n 0, 1) := by decide +kernel
theorem dX4_units_1 : decode cX4_units 1 = .ok (.iload_n 1, 1) := by decide +kernel
theorem dX4_units_2 : decode cX4_units 2 = .ok (.invokevirtual 73, 3) := by decide +kernel
theorem dX4_units_5 : decode cX4_units 5 = .ok (.astore_n 3, 1) := by decide +kernel
theorem dX4_units_6 : decode cX4_units 6 = .ok (.aload_n 3, 1) := by decide +kernel
theorem dX4_units_7 : decode cX4_units 7 = .ok (.ifnull 11, 3) := by decide +kernel
theorem dX4_units_10 : decode cX4_units 10 = .ok (.aload_n 3, 1) := by decide +kernel
theorem dX4_units_11 : decode cX4_units 11 = .ok (.iload_n 2, 1) := by decide +kernel
theorem dX4_units_12 : decode cX4_units 12 = .ok (.invokevirtual 107, 3) := by decide +kernel
theorem dX4_units_15 : decode cX4_units 15 = .ok (.ifCond .ne 13, 3) := by decide +kernel
theorem dX4_units_18 : decode cX4_units 18 = .ok (.aload_n 0, 1) := by decide +kernel
theorem dX4_units_19 : decode cX4_units 19 = .ok (.iconst (-1), 1) := by decide +kernel
theorem dX4_units_20 : decode cX4_units 20 = .ok (.invokevirtual 66, 3) := by decide +kernel
theorem dX4_units_23 : decode cX4_units 23 = .ok (.pop, 1) := by decide +kernel
theorem dX4_units_24 : decode cX4_units 24 = .ok (.ldc2_w 117, 3) := by decide +kernel
theorem dX4_units_27 : decode cX4_units 27 = .ok (.lreturn, 1) := by decide +kernel
theorem dX4_units_28 : decode cX4_units 28 = .ok (.aload_n 0, 1) := by decide +kernel
theorem dX4_units_29 : decode cX4_units 29 = .ok (.iconst 0, 1) := by decide +kernel
theorem dX4_units_30 : decode cX4_units 30 = .ok (.invokevirtual 81, 3) := by decide +kernel
theorem dX4_units_33 : decode cX4_units 33 = .ok (.pop, 1) := by decide +kernel
theorem dX4_units_34 : decode cX4_units 34 = .ok (.aload_n 3, 1) := by decide +kernel
theorem dX4_units_35 : decode cX4_units 35 = .ok (.iload_n 2, 1) := by decide +kernel
theorem dX4_units_36 : decode cX4_units 36 = .ok (.invokevirtual 119, 3) := by decide +kernel
theorem dX4_units_39 : decode cX4_units 39 = .ok (.ifCond .eq 11, 3) := by decide +kernel
theorem dX4_units_42 : decode cX4_units 42 = .ok (.aload_n 3, 1) := by decide +kernel
theorem dX4_units_43 : decode cX4_units 43 = .ok (.iload_n 2, 1) := by decide +kernel
theorem dX4_units_44 : decode cX4_units 44 = .ok (.invokevirtual 122, 3) := by decide +kernel
theorem dX4_units_47 : decode cX4_units 47 = .ok (.goto 6, 3) := by decide +kernel
theorem dX4_units_50 : decode cX4_units 50 = .ok (.ldc2_w 117, 3) := by decide +kernel
theorem dX4_units_53 : decode cX4_units 53 = .ok (.lreturn, 1) := by decide +kernel
theorem dX4_code_0 : decode cX4_code 0 = .ok (.aload_n 0, 1) := by decide +kernel
theorem dX4_code_1 : decode cX4_code 1 = .ok (.iload_n 1, 1) := by decide +kernel
theorem dX4_code_2 : decode cX4_code 2 = .ok (.invokevirtual 73, 3) := by decide +kernel
theorem dX4_code_5 : decode cX4_code 5 = .ok (.astore 7, 2) := by decide +kernel
theorem dX4_code_7 : decode cX4_code 7 = .ok (.aload 7, 2) := by decide +kernel
theorem dX4_code_9 : decode cX4_code 9 = .ok (.ifnull 43, 3) := by decide +kernel
theorem dX4_code_12 : decode cX4_code 12 = .ok (.lload_n 2, 1) := by decide +kernel
theorem dX4_code_13 : decode cX4_code 13 = .ok (.ldc2_w 126, 3) := by decide +kernel
theorem dX4_code_16 : decode cX4_code 16 = .ok (.lcmp, 1) := by decide +kernel
theorem dX4_code_17 : decode cX4_code 17 = .ok (.ifCond .lt 35, 3) := by decide +kernel
theorem dX4_code_20 : decode cX4_code 20 = .ok (.lload_n 2, 1) := by decide +kernel
theorem dX4_code_21 : decode cX4_code 21 = .ok (.ldc2_w 128, 3) := by decide +kernel
theorem dX4_code_24 : decode cX4_code 24 = .ok (.lcmp, 1) := by decide +kernel
theorem dX4_code_25 : decode cX4_code 25 = .ok (.ifCond .gt 27, 3) := by decide +kernel
theorem dX4_code_28 : decode cX4_code 28 = .ok (.lload 4, 2) := by decide +kernel
theorem dX4_code_30 : decode cX4_code 30 = .ok (.lconst 1, 1) := by decide +kernel
theorem dX4_code_31 : decode cX4_code 31 = .ok (.lcmp, 1) := by decide +kernel
theorem dX4_code_32 : decode cX4_code 32 = .ok (.ifCond .lt 20, 3) := by decide +kernel
theorem dX4_code_35 : decode cX4_code 35 = .ok (.lload 4, 2) := by decide +kernel
theorem dX4_code_37 : decode cX4_code 37 = .ok (.ldc2_w 130, 3) := by decide +kernel
theorem dX4_code_40 : decode cX4_code 40 = .ok (.lcmp, 1) := by decide +kernel
theorem dX4_code_41 : decode cX4_code 41 = .ok (.ifCond .gt 11, 3) := by decide +kernel
theorem dX4_code_44 : decode cX4_code 44 = .ok (.iload 6, 2) := by decide +kernel
theorem dX4_code_46 : decode cX4_code 46 = .ok (.invokestatic 132, 3) := by decide +kernel
theorem dX4_code_49 : decode cX4_code 49 = .ok (.ifCond .ne 9, 3) := by decide +kernel
theorem dX4_code_52 : decode cX4_code 52 = .ok (.aload_n 0, 1) := by decide +kernel
theorem dX4_code_53 : decode cX4_code 53 = .ok (.iconst (-1), 1) := by decide +kernel
theorem dX4_code_54 : decode cX4_code 54 = .ok (.invokevirtual 66, 3) := by decide +kernel
theorem dX4_code_57 : decode cX4_code 57 = .ok (.ireturn, 1) := by decide +kernel
theorem dX4_code_58 : decode cX4_code 58 = .ok (.aload_n 0, 1) := by decide +kernel
theorem dX4_code_59 : decode cX4_code 59 = .ok (.getfield 34, 3) := by decide +kernel
theorem dX4_code_62 : decode cX4_code 62 = .ok (.getfield 135, 3) := by decide +kernel
theorem dX4_code_65 : decode cX4_code 65 = .ok (.invokevirtual 138, 3) := by decide +kernel
theorem dX4_code_68 : decode cX4_code 68 = .ok (.aload_n 0, 1) := by decide +kernel
theorem dX4_code_69 : decode cX4_code 69 = .ok (.aload_n 0, 1) := by decide +kernel
theorem dX4_code_70 : decode cX4_code 70 = .ok (.getfield 34, 3) := by decide +kernel
theorem dX4_code_73 : decode cX4_code 73 = .ok (.aload 7, 2) := by decide +kernel
theorem dX4_code_75 : decode cX4_code 75 = .ok (.lload_n 2, 1) := by decide +kernel
theorem dX4_code_76 : decode cX4_code 76 = .ok (.lload 4, 2) := by decide +kernel
theorem dX4_code_78 : decode cX4_code 78 = .ok (.iload 6, 2) := by decide +kernel
theorem dX4_code_80 : decode cX4_code 80 = .ok (.invokevirtual 141, 3) := by decide +kernel
theorem dX4_code_83 : decode cX4_code 83 = .ok (.invokevirtual 145, 3) := by decide +kernel
theorem dX4_code_86 : decode cX4_code 86 = .ok (.ireturn, 1) := by decide +kernel
theorem dX4_cross_0 : decode cX4_cross 0 = .ok (.aload_n 0, 1) := by decide +kernel
theorem dX4_cross_1 : decode cX4_cross 1 = .ok (.iload_n 1, 1) := by decide +kernel
theorem dX4_cross_2 : decode cX4_cross 2 = .ok (.invokevirtual 73, 3) := by decide +kernel
theorem dX4_cross_5 : decode cX4_cross 5 = .ok (.astore 5, 2) := by decide +kernel
theorem dX4_cross_7 : decode cX4_cross 7 = .ok (.aload_n 0, 1) := by decide +kernel
theorem dX4_cross_8 : decode cX4_cross 8 = .ok (.iload_n 3, 1) := by decide +kernel
theorem dX4_cross_9 : decode cX4_cross 9 = .ok (.invokevirtual 73, 3) := by decide +kernel
theorem dX4_cross_12 : decode cX4_cross 12 = .ok (.astore 6, 2) := by decide +kernel
theorem dX4_cross_14 : decode cX4_cross 14 = .ok (.aload 5, 2) := by decide +kernel
theorem dX4_cross_16 : decode cX4_cross 16 = .ok (.ifnull 25, 3) := by decide +kernel
theorem dX4_cross_19 : decode cX4_cross 19 = .ok (.aload 6, 2) := by decide +kernel
theorem dX4_cross_21 : decode cX4_cross 21 = .ok (.ifnull 20, 3) := by decide +kernel
theorem dX4_cross_24 : decode cX4_cross 24 = .ok (.aload 5, 2) := by decide +kernel
theorem dX4_cross_26 : decode cX4_cross 26 = .ok (.iload_n 2, 1) := by decide +kernel
theorem dX4_cross_27 : decode cX4_cross 27 = .ok (.invokevirtual 107, 3) := by decide +kernel
theorem dX4_cross_30 : decode cX4_cross 30 = .ok (.ifCond .eq 11, 3) := by decide +kernel
theorem dX4_cross_33 : decode cX4_cross 33 = .ok (.iload 4, 2) := by decide +kernel
theorem dX4_cross_35 : decode cX4_cross 35 = .ok (.invokestatic 132, 3) := by decide +kernel
theorem dX4_cross_38 : decode cX4_cross 38 = .ok (.ifCond .ne 9, 3) := by decide +kernel
theorem dX4_cross_41 : decode cX4_cross 41 = .ok (.aload_n 0, 1) := by decide +kernel
theorem dX4_cross_42 : decode cX4_cross 42 = .ok (.iconst (-1), 1) := by decide +kernel
theorem dX4_cross_43 : decode cX4_cross 43 = .ok (.invokevirtual 66, 3) := by decide +kernel
theorem dX4_cross_46 : decode cX4_cross 46 = .ok (.ireturn, 1) := by decide +kernel
theorem dX4_cross_47 : decode cX4_cross 47 = .ok (.aload_n 0, 1) := by decide +kernel
theorem dX4_cross_48 : decode cX4_cross 48 = .ok (.getfield 34, 3) := by decide +kernel
theorem dX4_cross_51 : decode cX4_cross 51 = .ok (.getfield 135, 3) := by decide +kernel
theorem dX4_cross_54 : decode cX4_cross 54 = .ok (.invokevirtual 138, 3) := by decide +kernel
theorem dX4_cross_57 : decode cX4_cross 57 = .ok (.aload_n 0, 1) := by decide +kernel
theorem dX4_cross_58 : decode cX4_cross 58 = .ok (.aload_n 0, 1) := by decide +kernel
theorem dX4_cross_59 : decode cX4_cross 59 = .ok (.getfield 34, 3) := by decide +kernel
theorem dX4_cross_62 : decode cX4_cross 62 = .ok (.aload 5, 2) := by decide +kernel
theorem dX4_cross_64 : decode cX4_cross 64 = .ok (.iload_n 2, 1) := by decide +kernel
theorem dX4_cross_65 : decode cX4_cross 65 = .ok (.aload 6, 2) := by decide +kernel
theorem dX4_cross_67 : decode cX4_cross 67 = .ok (.iload 4, 2) := by decide +kernel
theorem dX4_cross_69 : decode cX4_cross 69 = .ok (.invokevirtual 148, 3) := by decide +kernel
theorem dX4_cross_72 : decode cX4_cross 72 = .ok (.invokevirtual 145, 3) := by decide +kernel
theorem dX4_cross_75 : decode cX4_cross 75 = .ok (.ireturn, 1) := by decide +kernel
theorem dX4_act_0 : decode cX4_act 0 = .ok (.aload_n 0, 1) := by decide +kernel
theorem dX4_act_1 : decode cX4_act 1 = .ok (.iload_n 1, 1) := by decide +kernel
theorem dX4_act_2 : decode cX4_act 2 = .ok (.invokevirtual 73, 3) := by decide +kernel
theorem dX4_act_5 : decode cX4_act 5 = .ok (.astore 6, 2) := by decide +kernel
theorem dX4_act_7 : decode cX4_act 7 = .ok (.aload 6, 2) := by decide +kernel
theorem dX4_act_9 : decode cX4_act 9 = .ok (.ifnull 30, 3) := by decide +kernel
theorem dX4_act_12 : decode cX4_act 12 = .ok (.iload_n 2, 1) := by decide +kernel
theorem dX4_act_13 : decode cX4_act 13 = .ok (.iconst 0, 1) := by decide +kernel
theorem dX4_act_14 : decode cX4_act 14 = .ok (.bipush 6, 2) := by decide +kernel
theorem dX4_act_16 : decode cX4_act 16 = .ok (.invokestatic 62, 3) := by decide +kernel
theorem dX4_act_19 : decode cX4_act 19 = .ok (.ifCond .eq 20, 3) := by decide +kernel
theorem dX4_act_22 : decode cX4_act 22 = .ok (.aload 6, 2) := by decide +kernel
theorem dX4_act_24 : decode cX4_act 24 = .ok (.iload_n 3, 1) := by decide +kernel
theorem dX4_act_25 : decode cX4_act 25 = .ok (.invokevirtual 107, 3) := by decide +kernel
theorem dX4_act_28 : decode cX4_act 28 = .ok (.ifCond .eq 11, 3) := by decide +kernel
theorem dX4_act_31 : decode cX4_act 31 = .ok (.iload 5, 2) := by decide +kernel
theorem dX4_act_33 : decode cX4_act 33 = .ok (.invokestatic 132, 3) := by decide +kernel
theorem dX4_act_36 : decode cX4_act 36 = .ok (.ifCond .ne 9, 3) := by decide +kernel
theorem dX4_act_39 : decode cX4_act 39 = .ok (.aload_n 0, 1) := by decide +kernel
theorem dX4_act_40 : decode cX4_act 40 = .ok (.iconst (-1), 1) := by decide +kernel
theorem dX4_act_41 : decode cX4_act 41 = .ok (.invokevirtual 66, 3) := by decide +kernel
theorem dX4_act_44 : decode cX4_act 44 = .ok (.ireturn, 1) := by decide +kernel
theorem dX4_act_45 : decode cX4_act 45 = .ok (.iload_n 2, 1) := by decide +kernel
theorem dX4_act_46 : decode cX4_act 46 = .ok (.iconst 4, 1) := by decide +kernel
theorem dX4_act_47 : decode cX4_act 47 = .ok (.if_icmp .eq 19, 3) := by decide +kernel
theorem dX4_act_50 : decode cX4_act 50 = .ok (.aload 6, 2) := by decide +kernel
theorem dX4_act_52 : decode cX4_act 52 = .ok (.iload 4, 2) := by decide +kernel
theorem dX4_act_54 : decode cX4_act 54 = .ok (.invokevirtual 107, 3) := by decide +kernel
theorem dX4_act_57 : decode cX4_act 57 = .ok (.ifCond .ne 9, 3) := by decide +kernel
theorem dX4_act_60 : decode cX4_act 60 = .ok (.aload_n 0, 1) := by decide +kernel
theorem dX4_act_61 : decode cX4_act 61 = .ok (.iconst (-1), 1) := by decide +kernel
theorem dX4_act_62 : decode cX4_act 62 = .ok (.invokevirtual 66, 3) := by decide +kernel
theorem dX4_act_65 : decode cX4_act 65 = .ok (.ireturn, 1) := by decide +kernel
theorem dX4_act_66 : decode cX4_act 66 = .ok (.aload_n 0, 1) := by decide +kernel
theorem dX4_act_67 : decode cX4_act 67 = .ok (.getfield 34, 3) := by decide +kernel
theorem dX4_act_70 : decode cX4_act 70 = .ok (.getfield 135, 3) := by decide +kernel
theorem dX4_act_73 : decode cX4_act 73 = .ok (.invokevirtual 138, 3) := by decide +kernel
theorem dX4_act_76 : decode cX4_act 76 = .ok (.aload_n 0, 1) := by decide +kernel
theorem dX4_act_77 : decode cX4_act 77 = .ok (.aload_n 0, 1) := by decide +kernel
theorem dX4_act_78 : decode cX4_act 78 = .ok (.getfield 34, 3) := by decide +kernel
theorem dX4_act_81 : decode cX4_act 81 = .ok (.aload 6, 2) := by decide +kernel
theorem dX4_act_83 : decode cX4_act 83 = .ok (.iload_n 2, 1) := by decide +kernel
theorem dX4_act_84 : decode cX4_act 84 = .ok (.iload_n 3, 1) := by decide +kernel
theorem dX4_act_85 : decode cX4_act 85 = .ok (.iload 4, 2) := by decide +kernel
theorem dX4_act_87 : decode cX4_act 87 = .ok (.iload 5, 2) := by decide +kernel
theorem dX4_act_89 : decode cX4_act 89 = .ok (.invokevirtual 152, 3) := by decide +kernel
theorem dX4_act_92 : decode cX4_act 92 = .ok (.invokevirtual 145, 3) := by decide +kernel
theorem dX4_act_95 : decode cX4_act 95 = .ok (.ireturn, 1) := by decide +kernel
theorem dX4_fused_0 : decode cX4_fused 0 = .ok (.aload_n 0, 1) := by decide +kernel
theorem dX4_fused_1 : decode cX4_fused 1 = .ok (.iload_n 1, 1) := by decide +kernel
theorem dX4_fused_2 : decode cX4_fused 2 = .ok (.invokevirtual 73, 3) := by decide +kernel
theorem dX4_fused_5 : decode cX4_fused 5 = .ok (.astore 6, 2) := by decide +kernel
theorem dX4_fused_7 : decode cX4_fused 7 = .ok (.aload 6, 2) := by decide +kernel
theorem dX4_fused_9 : decode cX4_fused 9 = .ok (.ifnull 39, 3) := by decide +kernel
theorem dX4_fused_12 : decode cX4_fused 12 = .ok (.aload 6, 2) := by decide +kernel
theorem dX4_fused_14 : decode cX4_fused 14 = .ok (.iload_n 2, 1) := by decide +kernel
theorem dX4_fused_15 : decode cX4_fused 15 = .ok (.invokevirtual 107, 3) := by decide +kernel
theorem dX4_fused_18 : decode cX4_fused 18 = .ok (.ifCond .eq 30, 3) := by decide +kernel
theorem dX4_fused_21 : decode cX4_fused 21 = .ok (.aload 6, 2) := by decide +kernel
theorem dX4_fused_23 : decode cX4_fused 23 = .ok (.iload_n 3, 1) := by decide +kernel
theorem dX4_fused_24 : decode cX4_fused 24 = .ok (.invokevirtual 107, 3) := by decide +kernel
theorem dX4_fused_27 : decode cX4_fused 27 = .ok (.ifCond .eq 21, 3) := by decide +kernel
theorem dX4_fused_30 : decode cX4_fused 30 = .ok (.aload 6, 2) := by decide +kernel
theorem dX4_fused_32 : decode cX4_fused 32 = .ok (.iload 4, 2) := by decide +kernel
theorem dX4_fused_34 : decode cX4_fused 34 = .ok (.invokevirtual 107, 3) := by decide +kernel
theorem dX4_fused_37 : decode cX4_fused 37 = .ok (.ifCond .eq 11, 3) := by decide +kernel
theorem dX4_fused_40 : decode cX4_fused 40 = .ok (.iload 5, 2) := by decide +kernel
theorem dX4_fused_42 : decode cX4_fused 42 = .ok (.invokestatic 132, 3) := by decide +kernel
theorem dX4_fused_45 : decode cX4_fused 45 = .ok (.ifCond .ne 9, 3) := by decide +kernel
theorem dX4_fused_48 : decode cX4_fused 48 = .ok (.aload_n 0, 1) := by decide +kernel
theorem dX4_fused_49 : decode cX4_fused 49 = .ok (.iconst (-1), 1) := by decide +kernel
theorem dX4_fused_50 : decode cX4_fused 50 = .ok (.invokevirtual 66, 3) := by decide +kernel
theorem dX4_fused_53 : decode cX4_fused 53 = .ok (.ireturn, 1) := by decide +kernel
theorem dX4_fused_54 : decode cX4_fused 54 = .ok (.aload_n 0, 1) := by decide +kernel
theorem dX4_fused_55 : decode cX4_fused 55 = .ok (.getfield 34, 3) := by decide +kernel
theorem dX4_fused_58 : decode cX4_fused 58 = .ok (.getfield 135, 3) := by decide +kernel
theorem dX4_fused_61 : decode cX4_fused 61 = .ok (.invokevirtual 138, 3) := by decide +kernel
theorem dX4_fused_64 : decode cX4_fused 64 = .ok (.aload_n 0, 1) := by decide +kernel
theorem dX4_fused_65 : decode cX4_fused 65 = .ok (.aload_n 0, 1) := by decide +kernel
theorem dX4_fused_66 : decode cX4_fused 66 = .ok (.getfield 34, 3) := by decide +kernel
theorem dX4_fused_69 : decode cX4_fused 69 = .ok (.aload 6, 2) := by decide +kernel
theorem dX4_fused_71 : decode cX4_fused 71 = .ok (.iload_n 2, 1) := by decide +kernel
theorem dX4_fused_72 : decode cX4_fused 72 = .ok (.iload_n 3, 1) := by decide +kernel
theorem dX4_fused_73 : decode cX4_fused 73 = .ok (.iload 4, 2) := by decide +kernel
theorem dX4_fused_75 : decode cX4_fused 75 = .ok (.iload 5, 2) := by decide +kernel
theorem dX4_fused_77 : decode cX4_fused 77 = .ok (.invokevirtual 156, 3) := by decide +kernel
theorem dX4_fused_80 : decode cX4_fused 80 = .ok (.invokevirtual 145, 3) := by decide +kernel
theorem dX4_fused_83 : decode cX4_fused 83 = .ok (.ireturn, 1) := by decide +kernel
theorem dX4_next_0 : decode cX4_next 0 = .ok (.aload_n 0, 1) := by decide +kernel
theorem dX4_next_1 : decode cX4_next 1 = .ok (.iload_n 1, 1) := by decide +kernel
theorem dX4_next_2 : decode cX4_next 2 = .ok (.invokevirtual 73, 3) := by decide +kernel
theorem dX4_next_5 : decode cX4_next 5 = .ok (.astore 4, 2) := by decide +kernel
theorem dX4_next_7 : decode cX4_next 7 = .ok (.aload 4, 2) := by decide +kernel
theorem dX4_next_9 : decode cX4_next 9 = .ok (.ifnull 21, 3) := by decide +kernel
theorem dX4_next_12 : decode cX4_next 12 = .ok (.aload 4, 2) := by decide +kernel
theorem dX4_next_14 : decode cX4_next 14 = .ok (.iload_n 2, 1) := by decide +kernel
theorem dX4_next_15 : decode cX4_next 15 = .ok (.invokevirtual 107, 3) := by decide +kernel
theorem dX4_next_18 : decode cX4_next 18 = .ok (.ifCond .eq 12, 3) := by decide +kernel
theorem dX4_next_21 : decode cX4_next 21 = .ok (.aload 4, 2) := by decide +kernel
theorem dX4_next_23 : decode cX4_next 23 = .ok (.iload_n 2, 1) := by decide +kernel
theorem dX4_next_24 : decode cX4_next 24 = .ok (.invokevirtual 119, 3) := by decide +kernel
theorem dX4_next_27 : decode cX4_next 27 = .ok (.ifCond .ne 9, 3) := by decide +kernel
theorem dX4_next_30 : decode cX4_next 30 = .ok (.aload_n 0, 1) := by decide +kernel
theorem dX4_next_31 : decode cX4_next 31 = .ok (.iconst (-1), 1) := by decide +kernel
theorem dX4_next_32 : decode cX4_next 32 = .ok (.invokevirtual 66, 3) := by decide +kernel
theorem dX4_next_35 : decode cX4_next 35 = .ok (.ireturn, 1) := by decide +kernel
theorem dX4_next_36 : decode cX4_next 36 = .ok (.aload_n 0, 1) := by decide +kernel
theorem dX4_next_37 : decode cX4_next 37 = .ok (.aload 4, 2) := by decide +kernel
theorem dX4_next_39 : decode cX4_next 39 = .ok (.iload_n 2, 1) := by decide +kernel
theorem dX4_next_40 : decode cX4_next 40 = .ok (.iload_n 3, 1) := by decide +kernel
theorem dX4_next_41 : decode cX4_next 41 = .ok (.invokevirtual 159, 3) := by decide +kernel
theorem dX4_next_44 : decode cX4_next 44 = .ok (.invokevirtual 81, 3) := by decide +kernel
theorem dX4_next_47 : decode cX4_next 47 = .ok (.ireturn, 1) := by decide +kernel
theorem dX4_order_0 : decode cX4_order 0 = .ok (.aload_n 0, 1) := by decide +kernel
theorem dX4_order_1 : decode cX4_order 1 = .ok (.iload_n 1, 1) := by decide +kernel
theorem dX4_order_2 : decode cX4_order 2 = .ok (.invokevirtual 73, 3) := by decide +kernel
theorem dX4_order_5 : decode cX4_order 5 = .ok (.astore 4, 2) := by decide +kernel
theorem dX4_order_7 : decode cX4_order 7 = .ok (.aload 4, 2) := by decide +kernel
theorem dX4_order_9 : decode cX4_order 9 = .ok (.ifnull 21, 3) := by decide +kernel
theorem dX4_order_12 : decode cX4_order 12 = .ok (.aload 4, 2) := by decide +kernel
theorem dX4_order_14 : decode cX4_order 14 = .ok (.iload_n 2, 1) := by decide +kernel
theorem dX4_order_15 : decode cX4_order 15 = .ok (.invokevirtual 107, 3) := by decide +kernel
theorem dX4_order_18 : decode cX4_order 18 = .ok (.ifCond .eq 12, 3) := by decide +kernel
theorem dX4_order_21 : decode cX4_order 21 = .ok (.aload 4, 2) := by decide +kernel
theorem dX4_order_23 : decode cX4_order 23 = .ok (.iload_n 3, 1) := by decide +kernel
theorem dX4_order_24 : decode cX4_order 24 = .ok (.invokevirtual 107, 3) := by decide +kernel
theorem dX4_order_27 : decode cX4_order 27 = .ok (.ifCond .ne 9, 3) := by decide +kernel
theorem dX4_order_30 : decode cX4_order 30 = .ok (.aload_n 0, 1) := by decide +kernel
theorem dX4_order_31 : decode cX4_order 31 = .ok (.iconst (-1), 1) := by decide +kernel
theorem dX4_order_32 : decode cX4_order 32 = .ok (.invokevirtual 66, 3) := by decide +kernel
theorem dX4_order_35 : decode cX4_order 35 = .ok (.ireturn, 1) := by decide +kernel
theorem dX4_order_36 : decode cX4_order 36 = .ok (.aload 4, 2) := by decide +kernel
theorem dX4_order_38 : decode cX4_order 38 = .ok (.iload_n 2, 1) := by decide +kernel
theorem dX4_order_39 : decode cX4_order 39 = .ok (.invokevirtual 163, 3) := by decide +kernel
theorem dX4_order_42 : decode cX4_order 42 = .ok (.ifCond .ne 12, 3) := by decide +kernel
theorem dX4_order_45 : decode cX4_order 45 = .ok (.aload 4, 2) := by decide +kernel
theorem dX4_order_47 : decode cX4_order 47 = .ok (.iload_n 3, 1) := by decide +kernel
theorem dX4_order_48 : decode cX4_order 48 = .ok (.invokevirtual 163, 3) := by decide +kernel
theorem dX4_order_51 : decode cX4_order 51 = .ok (.ifCond .eq 9, 3) := by decide +kernel
theorem dX4_order_54 : decode cX4_order 54 = .ok (.aload_n 0, 1) := by decide +kernel
theorem dX4_order_55 : decode cX4_order 55 = .ok (.iconst 2, 1) := by decide +kernel
theorem dX4_order_56 : decode cX4_order 56 = .ok (.invokevirtual 81, 3) := by decide +kernel
theorem dX4_order_59 : decode cX4_order 59 = .ok (.ireturn, 1) := by decide +kernel
theorem dX4_order_60 : decode cX4_order 60 = .ok (.aload_n 0, 1) := by decide +kernel
theorem dX4_order_61 : decode cX4_order 61 = .ok (.aload 4, 2) := by decide +kernel
theorem dX4_order_63 : decode cX4_order 63 = .ok (.iload_n 2, 1) := by decide +kernel
theorem dX4_order_64 : decode cX4_order 64 = .ok (.invokevirtual 166, 3) := by decide +kernel
theorem dX4_order_67 : decode cX4_order 67 = .ok (.aload 4, 2) := by decide +kernel
theorem dX4_order_69 : decode cX4_order 69 = .ok (.iload_n 3, 1) := by decide +kernel
theorem dX4_order_70 : decode cX4_order 70 = .ok (.invokevirtual 166, 3) := by decide +kernel
theorem dX4_order_73 : decode cX4_order 73 = .ok (.invokestatic 169, 3) := by decide +kernel
theorem dX4_order_76 : decode cX4_order 76 = .ok (.invokevirtual 81, 3) := by decide +kernel
theorem dX4_order_79 : decode cX4_order 79 = .ok (.ireturn, 1) := by decide +kernel
theorem dX4_numbers_0 : decode cX4_numbers 0 = .ok (.aload_n 0, 1) := by decide +kernel
theorem dX4_numbers_1 : decode cX4_numbers 1 = .ok (.iload_n 1, 1) := by decide +kernel
theorem dX4_numbers_2 : decode cX4_numbers 2 = .ok (.invokevirtual 73, 3) := by decide +kernel
theorem dX4_numbers_5 : decode cX4_numbers 5 = .ok (.astore 6, 2) := by decide +kernel
theorem dX4_numbers_7 : decode cX4_numbers 7 = .ok (.aload 6, 2) := by decide +kernel
theorem dX4_numbers_9 : decode cX4_numbers 9 = .ok (.ifnonnull 9, 3) := by decide +kernel
theorem dX4_numbers_12 : decode cX4_numbers 12 = .ok (.aload_n 0, 1) := by decide +kernel
theorem dX4_numbers_13 : decode cX4_numbers 13 = .ok (.iconst (-1), 1) := by decide +kernel
theorem dX4_numbers_14 : decode cX4_numbers 14 = .ok (.invokevirtual 66, 3) := by decide +kernel
theorem dX4_numbers_17 : decode cX4_numbers 17 = .ok (.ireturn, 1) := by decide +kernel
theorem dX4_numbers_18 : decode cX4_numbers 18 = .ok (.aload_n 0, 1) := by decide +kernel
theorem dX4_numbers_19 : decode cX4_numbers 19 = .ok (.aload 6, 2) := by decide +kernel
theorem dX4_numbers_21 : decode cX4_numbers 21 = .ok (.lload_n 2, 1) := by decide +kernel
theorem dX4_numbers_22 : decode cX4_numbers 22 = .ok (.lload 4, 2) := by decide +kernel
theorem dX4_numbers_24 : decode cX4_numbers 24 = .ok (.invokevirtual 175, 3) := by decide +kernel
theorem dX4_numbers_27 : decode cX4_numbers 27 = .ok (.invokevirtual 81, 3) := by decide +kernel
theorem dX4_numbers_30 : decode cX4_numbers 30 = .ok (.ireturn, 1) := by decide +kernel
theorem dX4_row_0 : decode cX4_row 0 = .ok (.aload_n 0, 1) := by decide +kernel
theorem dX4_row_1 : decode cX4_row 1 = .ok (.iload_n 2, 1) := by decide +kernel
theorem dX4_row_2 : decode cX4_row 2 = .ok (.invokevirtual 73, 3) := by decide +kernel
theorem dX4_row_5 : decode cX4_row 5 = .ok (.astore 4, 2) := by decide +kernel
theorem dX4_row_7 : decode cX4_row 7 = .ok (.iload_n 1, 1) := by decide +kernel
theorem dX4_row_8 : decode cX4_row 8 = .ok (.iconst 0, 1) := by decide +kernel
theorem dX4_row_9 : decode cX4_row 9 = .ok (.iconst 3, 1) := by decide +kernel
theorem dX4_row_10 : decode cX4_row 10 = .ok (.invokestatic 62, 3) := by decide +kernel
theorem dX4_row_13 : decode cX4_row 13 = .ok (.ifCond .eq 18, 3) := by decide +kernel
theorem dX4_row_16 : decode cX4_row 16 = .ok (.aload 4, 2) := by decide +kernel
theorem dX4_row_18 : decode cX4_row 18 = .ok (.ifnull 13, 3) := by decide +kernel
theorem dX4_row_21 : decode cX4_row 21 = .ok (.iload_n 3, 1) := by decide +kernel
theorem dX4_row_22 : decode cX4_row 22 = .ok (.iconst 0, 1) := by decide +kernel
theorem dX4_row_23 : decode cX4_row 23 = .ok (.bipush 16, 2) := by decide +kernel
theorem dX4_row_25 : decode cX4_row 25 = .ok (.invokestatic 62, 3) := by decide +kernel
theorem dX4_row_28 : decode cX4_row 28 = .ok (.ifCond .ne 9, 3) := by decide +kernel
theorem dX4_row_31 : decode cX4_row 31 = .ok (.aload_n 0, 1) := by decide +kernel
theorem dX4_row_32 : decode cX4_row 32 = .ok (.iconst (-1), 1) := by decide +kernel
theorem dX4_row_33 : decode cX4_row 33 = .ok (.invokevirtual 66, 3) := by decide +kernel
theorem dX4_row_36 : decode cX4_row 36 = .ok (.ireturn, 1) := by decide +kernel
theorem dX4_row_37 : decode cX4_row 37 = .ok (.aload_n 0, 1) := by decide +kernel
theorem dX4_row_38 : decode cX4_row 38 = .ok (.getfield 23, 3) := by decide +kernel
theorem dX4_row_41 : decode cX4_row 41 = .ok (.iload_n 1, 1) := by decide +kernel
theorem dX4_row_42 : decode cX4_row 42 = .ok (.aaload, 1) := by decide +kernel
theorem dX4_row_43 : decode cX4_row 43 = .ok (.aload 4, 2) := by decide +kernel
theorem dX4_row_45 : decode cX4_row 45 = .ok (.iload_n 3, 1) := by decide +kernel
theorem dX4_row_46 : decode cX4_row 46 = .ok (.invokevirtual 179, 3) := by decide +kernel
theorem dX4_row_49 : decode cX4_row 49 = .ok (.aload_n 0, 1) := by decide +kernel
theorem dX4_row_50 : decode cX4_row 50 = .ok (.iconst 1, 1) := by decide +kernel
theorem dX4_row_51 : decode cX4_row 51 = .ok (.invokevirtual 81, 3) := by decide +kernel
theorem dX4_row_54 : decode cX4_row 54 = .ok (.ireturn, 1) := by decide +kernel
theorem dX4_put_0 : decode cX4_put 0 = .ok (.aload_n 0, 1) := by decide +kernel
theorem dX4_put_1 : decode cX4_put 1 = .ok (.iload_n 1, 1) := by decide +kernel
theorem dX4_put_2 : decode cX4_put 2 = .ok (.invokevirtual 183, 3) := by decide +kernel
theorem dX4_put_5 : decode cX4_put 5 = .ok (.astore 4, 2) := by decide +kernel
theorem dX4_put_7 : decode cX4_put 7 = .ok (.aload 4, 2) := by decide +kernel
theorem dX4_put_9 : decode cX4_put 9 = .ok (.ifnull 24, 3) := by decide +kernel
theorem dX4_put_12 : decode cX4_put 12 = .ok (.aload 4, 2) := by decide +kernel
theorem dX4_put_14 : decode cX4_put 14 = .ok (.iload_n 2, 1) := by decide +kernel
theorem dX4_put_15 : decode cX4_put 15 = .ok (.invokevirtual 187, 3) := by decide +kernel
theorem dX4_put_18 : decode cX4_put 18 = .ok (.ifCond .eq 15, 3) := by decide +kernel
theorem dX4_put_21 : decode cX4_put 21 = .ok (.aload 4, 2) := by decide +kernel
theorem dX4_put_23 : decode cX4_put 23 = .ok (.getfield 190, 3) := by decide +kernel
theorem dX4_put_26 : decode cX4_put 26 = .ok (.iload_n 3, 1) := by decide +kernel
theorem dX4_put_27 : decode cX4_put 27 = .ok (.invokevirtual 107, 3) := by decide +kernel
theorem dX4_put_30 : decode cX4_put 30 = .ok (.ifCond .ne 9, 3) := by decide +kernel
theorem dX4_put_33 : decode cX4_put 33 = .ok (.aload_n 0, 1) := by decide +kernel
theorem dX4_put_34 : decode cX4_put 34 = .ok (.iconst (-1), 1) := by decide +kernel
theorem dX4_put_35 : decode cX4_put 35 = .ok (.invokevirtual 66, 3) := by decide +kernel
theorem dX4_put_38 : decode cX4_put 38 = .ok (.ireturn, 1) := by decide +kernel
theorem dX4_put_39 : decode cX4_put 39 = .ok (.aload 4, 2) := by decide +kernel
theorem dX4_put_41 : decode cX4_put 41 = .ok (.iload_n 2, 1) := by decide +kernel
theorem dX4_put_42 : decode cX4_put 42 = .ok (.invokevirtual 193, 3) := by decide +kernel
theorem dX4_put_45 : decode cX4_put 45 = .ok (.istore 5, 2) := by decide +kernel
theorem dX4_put_47 : decode cX4_put 47 = .ok (.aload 4, 2) := by decide +kernel
theorem dX4_put_49 : decode cX4_put 49 = .ok (.iload_n 2, 1) := by decide +kernel
theorem dX4_put_50 : decode cX4_put 50 = .ok (.iload_n 3, 1) := by decide +kernel
theorem dX4_put_51 : decode cX4_put 51 = .ok (.invokevirtual 196, 3) := by decide +kernel
theorem dX4_put_54 : decode cX4_put 54 = .ok (.aload_n 0, 1) := by decide +kernel
theorem dX4_put_55 : decode cX4_put 55 = .ok (.iload 5, 2) := by decide +kernel
theorem dX4_put_57 : decode cX4_put 57 = .ok (.invokevirtual 81, 3) := by decide +kernel
theorem dX4_put_60 : decode cX4_put 60 = .ok (.ireturn, 1) := by decide +kernel
theorem dX4_at_0 : decode cX4_at 0 = .ok (.aload_n 0, 1) := by decide +kernel
theorem dX4_at_1 : decode cX4_at 1 = .ok (.iload_n 1, 1) := by decide +kernel
theorem dX4_at_2 : decode cX4_at 2 = .ok (.invokevirtual 183, 3) := by decide +kernel
theorem dX4_at_5 : decode cX4_at 5 = .ok (.astore_n 3, 1) := by decide +kernel
theorem dX4_at_6 : decode cX4_at 6 = .ok (.aload_n 3, 1) := by decide +kernel
theorem dX4_at_7 : decode cX4_at 7 = .ok (.ifnull 11, 3) := by decide +kernel
theorem dX4_at_10 : decode cX4_at 10 = .ok (.aload_n 3, 1) := by decide +kernel
theorem dX4_at_11 : decode cX4_at 11 = .ok (.iload_n 2, 1) := by decide +kernel
theorem dX4_at_12 : decode cX4_at 12 = .ok (.invokevirtual 187, 3) := by decide +kernel
theorem dX4_at_15 : decode cX4_at 15 = .ok (.ifCond .ne 9, 3) := by decide +kernel
theorem dX4_at_18 : decode cX4_at 18 = .ok (.aload_n 0, 1) := by decide +kernel
theorem dX4_at_19 : decode cX4_at 19 = .ok (.iconst (-1), 1) := by decide +kernel
theorem dX4_at_20 : decode cX4_at 20 = .ok (.invokevirtual 66, 3) := by decide +kernel
theorem dX4_at_23 : decode cX4_at 23 = .ok (.ireturn, 1) := by decide +kernel
theorem dX4_at_24 : decode cX4_at 24 = .ok (.aload_n 0, 1) := by decide +kernel
theorem dX4_at_25 : decode cX4_at 25 = .ok (.aload_n 3, 1) := by decide +kernel
theorem dX4_at_26 : decode cX4_at 26 = .ok (.iload_n 2, 1) := by decide +kernel
theorem dX4_at_27 : decode cX4_at 27 = .ok (.invokevirtual 193, 3) := by decide +kernel
theorem dX4_at_30 : decode cX4_at 30 = .ok (.invokevirtual 81, 3) := by decide +kernel
theorem dX4_at_33 : decode cX4_at 33 = .ok (.ireturn, 1) := by decide +kernel
theorem dX4_packed_0 : decode cX4_packed 0 = .ok (.aload_n 0, 1) := by decide +kernel
theorem dX4_packed_1 : decode cX4_packed 1 = .ok (.iload_n 1, 1) := by decide +kernel
theorem dX4_packed_2 : decode cX4_packed 2 = .ok (.invokevirtual 183, 3) := by decide +kernel
theorem dX4_packed_5 : decode cX4_packed 5 = .ok (.astore_n 3, 1) := by decide +kernel
theorem dX4_packed_6 : decode cX4_packed 6 = .ok (.aload_n 3, 1) := by decide +kernel
theorem dX4_packed_7 : decode cX4_packed 7 = .ok (.ifnull 17, 3) := by decide +kernel
theorem dX4_packed_10 : decode cX4_packed 10 = .ok (.iload_n 2, 1) := by decide +kernel
theorem dX4_packed_11 : decode cX4_packed 11 = .ok (.iconst (-1), 1) := by decide +kernel
theorem dX4_packed_12 : decode cX4_packed 12 = .ok (.aload_n 3, 1) := by decide +kernel
theorem dX4_packed_13 : decode cX4_packed 13 = .ok (.invokevirtual 200, 3) := by decide +kernel
theorem dX4_packed_16 : decode cX4_packed 16 = .ok (.iconst 1, 1) := by decide +kernel
theorem dX4_packed_17 : decode cX4_packed 17 = .ok (.isub, 1) := by decide +kernel
theorem dX4_packed_18 : decode cX4_packed 18 = .ok (.invokestatic 62, 3) := by decide +kernel
theorem dX4_packed_21 : decode cX4_packed 21 = .ok (.ifCond .ne 9, 3) := by decide +kernel
theorem dX4_packed_24 : decode cX4_packed 24 = .ok (.aload_n 0, 1) := by decide +kernel
theorem dX4_packed_25 : decode cX4_packed 25 = .ok (.iconst (-1), 1) := by decide +kernel
theorem dX4_packed_26 : decode cX4_packed 26 = .ok (.invokevirtual 66, 3) := by decide +kernel
theorem dX4_packed_29 : decode cX4_packed 29 = .ok (.ireturn, 1) := by decide +kernel
theorem dX4_packed_30 : decode cX4_packed 30 = .ok (.aload_n 0, 1) := by decide +kernel
theorem dX4_packed_31 : decode cX4_packed 31 = .ok (.iload_n 2, 1) := by decide +kernel
theorem dX4_packed_32 : decode cX4_packed 32 = .ok (.iconst (-1), 1) := by decide +kernel
theorem dX4_packed_33 : decode cX4_packed 33 = .ok (.if_icmp .ne 10, 3) := by decide +kernel
theorem dX4_packed_36 : decode cX4_packed 36 = .ok (.aload_n 3, 1) := by decide +kernel
theorem dX4_packed_37 : decode cX4_packed 37 = .ok (.invokevirtual 200, 3) := by decide +kernel
theorem dX4_packed_40 : decode cX4_packed 40 = .ok (.goto 8, 3) := by decide +kernel
theorem dX4_packed_43 : decode cX4_packed 43 = .ok (.aload_n 3, 1) := by decide +kernel
theorem dX4_packed_44 : decode cX4_packed 44 = .ok (.iload_n 2, 1) := by decide +kernel
theorem dX4_packed_45 : decode cX4_packed 45 = .ok (.invokevirtual 203, 3) := by decide +kernel
theorem dX4_packed_48 : decode cX4_packed 48 = .ok (.invokevirtual 81, 3) := by decide +kernel
theorem dX4_packed_51 : decode cX4_packed 51 = .ok (.ireturn, 1) := by decide +kernel
theorem dX4_quantise_0 : decode cX4_quantise 0 = .ok (.aload_n 0, 1) := by decide +kernel
theorem dX4_quantise_1 : decode cX4_quantise 1 = .ok (.iload_n 2, 1) := by decide +kernel
theorem dX4_quantise_2 : decode cX4_quantise 2 = .ok (.invokevirtual 183, 3) := by decide +kernel
theorem dX4_quantise_5 : decode cX4_quantise 5 = .ok (.astore 5, 2) := by decide +kernel
theorem dX4_quantise_7 : decode cX4_quantise 7 = .ok (.aload_n 0, 1) := by decide +kernel
theorem dX4_quantise_8 : decode cX4_quantise 8 = .ok (.iload_n 3, 1) := by decide +kernel
theorem dX4_quantise_9 : decode cX4_quantise 9 = .ok (.invokevirtual 73, 3) := by decide +kernel
theorem dX4_quantise_12 : decode cX4_quantise 12 = .ok (.astore 6, 2) := by decide +kernel
theorem dX4_quantise_14 : decode cX4_quantise 14 = .ok (.iload_n 1, 1) := by decide +kernel
theorem dX4_quantise_15 : decode cX4_quantise 15 = .ok (.iconst 0, 1) := by decide +kernel
theorem dX4_quantise_16 : decode cX4_quantise 16 = .ok (.iconst 3, 1) := by decide +kernel
theorem dX4_quantise_17 : decode cX4_quantise 17 = .ok (.invokestatic 62, 3) := by decide +kernel
theorem dX4_quantise_20 : decode cX4_quantise 20 = .ok (.ifCond .eq 26, 3) := by decide +kernel
theorem dX4_quantise_23 : decode cX4_quantise 23 = .ok (.iload_n 1, 1) := by decide +kernel
theorem dX4_quantise_24 : decode cX4_quantise 24 = .ok (.iload_n 2, 1) := by decide +kernel
theorem dX4_quantise_25 : decode cX4_quantise 25 = .ok (.if_icmp .eq 21, 3) := by decide +kernel
theorem dX4_quantise_28 : decode cX4_quantise 28 = .ok (.aload 5, 2) := by decide +kernel
theorem dX4_quantise_30 : decode cX4_quantise 30 = .ok (.ifnull 16, 3) := by decide +kernel
theorem dX4_quantise_33 : decode cX4_quantise 33 = .ok (.aload 6, 2) := by decide +kernel
theorem dX4_quantise_35 : decode cX4_quantise 35 = .ok (.ifnull 11, 3) := by decide +kernel
theorem dX4_quantise_38 : decode cX4_quantise 38 = .ok (.iload 4, 2) := by decide +kernel
theorem dX4_quantise_40 : decode cX4_quantise 40 = .ok (.invokestatic 132, 3) := by decide +kernel
theorem dX4_quantise_43 : decode cX4_quantise 43 = .ok (.ifCond .ne 9, 3) := by decide +kernel
theorem dX4_quantise_46 : decode cX4_quantise 46 = .ok (.aload_n 0, 1) := by decide +kernel
theorem dX4_quantise_47 : decode cX4_quantise 47 = .ok (.iconst (-1), 1) := by decide +kernel
theorem dX4_quantise_48 : decode cX4_quantise 48 = .ok (.invokevirtual 66, 3) := by decide +kernel
theorem dX4_quantise_51 : decode cX4_quantise 51 = .ok (.ireturn, 1) := by decide +kernel
theorem dX4_quantise_52 : decode cX4_quantise 52 = .ok (.aload_n 0, 1) := by decide +kernel
theorem dX4_quantise_53 : decode cX4_quantise 53 = .ok (.getfield 34, 3) := by decide +kernel
theorem dX4_quantise_56 : decode cX4_quantise 56 = .ok (.getfield 135, 3) := by decide +kernel
theorem dX4_quantise_59 : decode cX4_quantise 59 = .ok (.invokevirtual 138, 3) := by decide +kernel
theorem dX4_quantise_62 : decode cX4_quantise 62 = .ok (.iconst 0, 1) := by decide +kernel
theorem dX4_quantise_63 : decode cX4_quantise 63 = .ok (.istore 7, 2) := by decide +kernel
theorem dX4_quantise_65 : decode cX4_quantise 65 = .ok (.iload 7, 2) := by decide +kernel
theorem dX4_quantise_67 : decode cX4_quantise 67 = .ok (.aload 5, 2) := by decide +kernel
theorem dX4_quantise_69 : decode cX4_quantise 69 = .ok (.getfield 206, 3) := by decide +kernel
theorem dX4_quantise_72 : decode cX4_quantise 72 = .ok (.if_icmp .ge 68, 3) := by decide +kernel
theorem dX4_quantise_75 : decode cX4_quantise 75 = .ok (.iload 7, 2) := by decide +kernel
theorem dX4_quantise_77 : decode cX4_quantise 77 = .ok (.aload_n 0, 1) := by decide +kernel
theorem dX4_quantise_78 : decode cX4_quantise 78 = .ok (.getfield 27, 3) := by decide +kernel
theorem dX4_quantise_81 : decode cX4_quantise 81 = .ok (.arraylength, 1) := by decide +kernel
theorem dX4_quantise_82 : decode cX4_quantise 82 = .ok (.if_icmp .ge 58, 3) := by decide +kernel
theorem dX4_quantise_85 : decode cX4_quantise 85 = .ok (.aload_n 0, 1) := by decide +kernel
theorem dX4_quantise_86 : decode cX4_quantise 86 = .ok (.getfield 27, 3) := by decide +kernel
theorem dX4_quantise_89 : decode cX4_quantise 89 = .ok (.iload 7, 2) := by decide +kernel
theorem dX4_quantise_91 : decode cX4_quantise 91 = .ok (.aload_n 0, 1) := by decide +kernel
theorem dX4_quantise_92 : decode cX4_quantise 92 = .ok (.getfield 34, 3) := by decide +kernel
theorem dX4_quantise_95 : decode cX4_quantise 95 = .ok (.aload 5, 2) := by decide +kernel
theorem dX4_quantise_97 : decode cX4_quantise 97 = .ok (.getfield 190, 3) := by decide +kernel
theorem dX4_quantise_100 : decode cX4_quantise 100 = .ok (.aload 5, 2) := by decide +kernel
theorem dX4_quantise_102 : decode cX4_quantise 102 = .ok (.iload 7, 2) := by decide +kernel
theorem dX4_quantise_104 : decode cX4_quantise 104 = .ok (.invokevirtual 193, 3) := by decide +kernel
theorem dX4_quantise_107 : decode cX4_quantise 107 = .ok (.aload 6, 2) := by decide +kernel
theorem dX4_quantise_109 : decode cX4_quantise 109 = .ok (.iload 4, 2) := by decide +kernel
theorem dX4_quantise_111 : decode cX4_quantise 111 = .ok (.invokevirtual 148, 3) := by decide +kernel
theorem dX4_quantise_114 : decode cX4_quantise 114 = .ok (.iastore, 1) := by decide +kernel
theorem dX4_quantise_115 : decode cX4_quantise 115 = .ok (.aload_n 0, 1) := by decide +kernel
theorem dX4_quantise_116 : decode cX4_quantise 116 = .ok (.getfield 27, 3) := by decide +kernel
theorem dX4_quantise_119 : decode cX4_quantise 119 = .ok (.iload 7, 2) := by decide +kernel
theorem dX4_quantise_121 : decode cX4_quantise 121 = .ok (.iaload, 1) := by decide +kernel
theorem dX4_quantise_122 : decode cX4_quantise 122 = .ok (.bipush (-4), 2) := by decide +kernel
theorem dX4_quantise_124 : decode cX4_quantise 124 = .ok (.if_icmp .ne 10, 3) := by decide +kernel
theorem dX4_quantise_127 : decode cX4_quantise 127 = .ok (.aload_n 0, 1) := by decide +kernel
theorem dX4_quantise_128 : decode cX4_quantise 128 = .ok (.bipush (-4), 2) := by decide +kernel
theorem dX4_quantise_130 : decode cX4_quantise 130 = .ok (.invokevirtual 145, 3) := by decide +kernel
theorem dX4_quantise_133 : decode cX4_quantise 133 = .ok (.ireturn, 1) := by decide +kernel
theorem dX4_quantise_134 : decode cX4_quantise 134 = .ok (.iinc 7 1, 3) := by decide +kernel
theorem dX4_quantise_137 : decode cX4_quantise 137 = .ok (.goto (-72), 3) := by decide +kernel
theorem dX4_quantise_140 : decode cX4_quantise 140 = .ok (.aload_n 0, 1) := by decide +kernel
theorem dX4_quantise_141 : decode cX4_quantise 141 = .ok (.getfield 23, 3) := by decide +kernel
theorem dX4_quantise_144 : decode cX4_quantise 144 = .ok (.iload_n 1, 1) := by decide +kernel
theorem dX4_quantise_145 : decode cX4_quantise 145 = .ok (.aaload, 1) := by decide +kernel
theorem dX4_quantise_146 : decode cX4_quantise 146 = .ok (.astore 7, 2) := by decide +kernel
theorem dX4_quantise_148 : decode cX4_quantise 148 = .ok (.aload 7, 2) := by decide +kernel
theorem dX4_quantise_150 : decode cX4_quantise 150 = .ok (.aload 6, 2) := by decide +kernel
theorem dX4_quantise_152 : decode cX4_quantise 152 = .ok (.aload 5, 2) := by decide +kernel
theorem dX4_quantise_154 : decode cX4_quantise 154 = .ok (.getfield 206, 3) := by decide +kernel
theorem dX4_quantise_157 : decode cX4_quantise 157 = .ok (.invokevirtual 179, 3) := by decide +kernel
theorem dX4_quantise_160 : decode cX4_quantise 160 = .ok (.iconst 0, 1) := by decide +kernel
theorem dX4_quantise_161 : decode cX4_quantise 161 = .ok (.istore 8, 2) := by decide +kernel
theorem dX4_quantise_163 : decode cX4_quantise 163 = .ok (.iload 8, 2) := by decide +kernel
theorem dX4_quantise_165 : decode cX4_quantise 165 = .ok (.aload 7, 2) := by decide +kernel
theorem dX4_quantise_167 : decode cX4_quantise 167 = .ok (.getfield 206, 3) := by decide +kernel
theorem dX4_quantise_170 : decode cX4_quantise 170 = .ok (.if_icmp .ge 33, 3) := by decide +kernel
theorem dX4_quantise_173 : decode cX4_quantise 173 = .ok (.iload 8, 2) := by decide +kernel
theorem dX4_quantise_175 : decode cX4_quantise 175 = .ok (.aload_n 0, 1) := by decide +kernel
theorem dX4_quantise_176 : decode cX4_quantise 176 = .ok (.getfield 27, 3) := by decide +kernel
theorem dX4_quantise_179 : decode cX4_quantise 179 = .ok (.arraylength, 1) := by decide +kernel
theorem dX4_quantise_180 : decode cX4_quantise 180 = .ok (.if_icmp .ge 23, 3) := by decide +kernel
theorem dX4_quantise_183 : decode cX4_quantise 183 = .ok (.aload 7, 2) := by decide +kernel
theorem dX4_quantise_185 : decode cX4_quantise 185 = .ok (.iload 8, 2) := by decide +kernel
theorem dX4_quantise_187 : decode cX4_quantise 187 = .ok (.aload_n 0, 1) := by decide +kernel
theorem dX4_quantise_188 : decode cX4_quantise 188 = .ok (.getfield 27, 3) := by decide +kernel
theorem dX4_quantise_191 : decode cX4_quantise 191 = .ok (.iload 8, 2) := by decide +kernel
theorem dX4_quantise_193 : decode cX4_quantise 193 = .ok (.iaload, 1) := by decide +kernel
theorem dX4_quantise_194 : decode cX4_quantise 194 = .ok (.invokevirtual 196, 3) := by decide +kernel
theorem dX4_quantise_197 : decode cX4_quantise 197 = .ok (.iinc 8 1, 3) := by decide +kernel
theorem dX4_quantise_200 : decode cX4_quantise 200 = .ok (.goto (-37), 3) := by decide +kernel
theorem dX4_quantise_203 : decode cX4_quantise 203 = .ok (.aload_n 0, 1) := by decide +kernel
theorem dX4_quantise_204 : decode cX4_quantise 204 = .ok (.iconst 1, 1) := by decide +kernel
theorem dX4_quantise_205 : decode cX4_quantise 205 = .ok (.invokevirtual 145, 3) := by decide +kernel
theorem dX4_quantise_208 : decode cX4_quantise 208 = .ok (.ireturn, 1) := by decide +kernel
theorem dX4_worst_0 : decode cX4_worst 0 = .ok (.aload_n 0, 1) := by decide +kernel
theorem dX4_worst_1 : decode cX4_worst 1 = .ok (.iload_n 1, 1) := by decide +kernel
theorem dX4_worst_2 : decode cX4_worst 2 = .ok (.invokevirtual 183, 3) := by decide +kernel
theorem dX4_worst_5 : decode cX4_worst 5 = .ok (.astore 4, 2) := by decide +kernel
theorem dX4_worst_7 : decode cX4_worst 7 = .ok (.aload_n 0, 1) := by decide +kernel
theorem dX4_worst_8 : decode cX4_worst 8 = .ok (.iload_n 2, 1) := by decide +kernel
theorem dX4_worst_9 : decode cX4_worst 9 = .ok (.invokevirtual 183, 3) := by decide +kernel
theorem dX4_worst_12 : decode cX4_worst 12 = .ok (.astore 5, 2) := by decide +kernel
theorem dX4_worst_14 : decode cX4_worst 14 = .ok (.aload 4, 2) := by decide +kernel
theorem dX4_worst_16 : decode cX4_worst 16 = .ok (.ifnull 17, 3) := by decide +kernel
theorem dX4_worst_19 : decode cX4_worst 19 = .ok (.aload 5, 2) := by decide +kernel
theorem dX4_worst_21 : decode cX4_worst 21 = .ok (.ifnull 12, 3) := by decide +kernel
theorem dX4_worst_24 : decode cX4_worst 24 = .ok (.iload_n 3, 1) := by decide +kernel
theorem dX4_worst_25 : decode cX4_worst 25 = .ok (.iconst 0, 1) := by decide +kernel
theorem dX4_worst_26 : decode cX4_worst 26 = .ok (.iconst 2, 1) := by decide +kernel
theorem dX4_worst_27 : decode cX4_worst 27 = .ok (.invokestatic 62, 3) := by decide +kernel
theorem dX4_worst_30 : decode cX4_worst 30 = .ok (.ifCond .ne 9, 3) := by decide +kernel
theorem dX4_worst_33 : decode cX4_worst 33 = .ok (.aload_n 0, 1) := by decide +kernel
theorem dX4_worst_34 : decode cX4_worst 34 = .ok (.iconst (-1), 1) := by decide +kernel
theorem dX4_worst_35 : decode cX4_worst 35 = .ok (.invokevirtual 66, 3) := by decide +kernel
theorem dX4_worst_38 : decode cX4_worst 38 = .ok (.ireturn, 1) := by decide +kernel
theorem dX4_worst_39 : decode cX4_worst 39 = .ok (.aload 4, 2) := by decide +kernel
theorem dX4_worst_41 : decode cX4_worst 41 = .ok (.getfield 206, 3) := by decide +kernel
theorem dX4_worst_44 : decode cX4_worst 44 = .ok (.aload 5, 2) := by decide +kernel
theorem dX4_worst_46 : decode cX4_worst 46 = .ok (.getfield 206, 3) := by decide +kernel
theorem dX4_worst_49 : decode cX4_worst 49 = .ok (.if_icmp .eq 10, 3) := by decide +kernel
theorem dX4_worst_52 : decode cX4_worst 52 = .ok (.aload_n 0, 1) := by decide +kernel
theorem dX4_worst_53 : decode cX4_worst 53 = .ok (.bipush (-2), 2) := by decide +kernel
theorem dX4_worst_55 : decode cX4_worst 55 = .ok (.invokevirtual 66, 3) := by decide +kernel
theorem dX4_worst_58 : decode cX4_worst 58 = .ok (.ireturn, 1) := by decide +kernel
theorem dX4_worst_59 : decode cX4_worst 59 = .ok (.iload_n 3, 1) := by decide +kernel
theorem dX4_worst_60 : decode cX4_worst 60 = .ok (.lookupswitch 52 #[(0, 28), (1, 40)], 28) := by decide +kernel
theorem dX4_worst_88 : decode cX4_worst 88 = .ok (.aload_n 0, 1) := by decide +kernel
theorem dX4_worst_89 : decode cX4_worst 89 = .ok (.aload 4, 2) := by decide +kernel
theorem dX4_worst_91 : decode cX4_worst 91 = .ok (.aload 5, 2) := by decide +kernel
theorem dX4_worst_93 : decode cX4_worst 93 = .ok (.invokevirtual 209, 3) := by decide +kernel
theorem dX4_worst_96 : decode cX4_worst 96 = .ok (.invokevirtual 81, 3) := by decide +kernel
theorem dX4_worst_99 : decode cX4_worst 99 = .ok (.ireturn, 1) := by decide +kernel
theorem dX4_worst_100 : decode cX4_worst 100 = .ok (.aload_n 0, 1) := by decide +kernel
theorem dX4_worst_101 : decode cX4_worst 101 = .ok (.aload 4, 2) := by decide +kernel
theorem dX4_worst_103 : decode cX4_worst 103 = .ok (.aload 5, 2) := by decide +kernel
theorem dX4_worst_105 : decode cX4_worst 105 = .ok (.invokevirtual 213, 3) := by decide +kernel
theorem dX4_worst_108 : decode cX4_worst 108 = .ok (.invokevirtual 81, 3) := by decide +kernel
theorem dX4_worst_111 : decode cX4_worst 111 = .ok (.ireturn, 1) := by decide +kernel
theorem dX4_worst_112 : decode cX4_worst 112 = .ok (.aload_n 0, 1) := by decide +kernel
theorem dX4_worst_113 : decode cX4_worst 113 = .ok (.aload 4, 2) := by decide +kernel
theorem dX4_worst_115 : decode cX4_worst 115 = .ok (.aload 5, 2) := by decide +kernel
theorem dX4_worst_117 : decode cX4_worst 117 = .ok (.invokevirtual 216, 3) := by decide +kernel
theorem dX4_worst_120 : decode cX4_worst 120 = .ok (.invokevirtual 81, 3) := by decide +kernel
theorem dX4_worst_123 : decode cX4_worst 123 = .ok (.ireturn, 1) := by decide +kernel
theorem dX4_sum_0 : decode cX4_sum 0 = .ok (.aload_n 0, 1) := by decide +kernel
theorem dX4_sum_1 : decode cX4_sum 1 = .ok (.iload_n 1, 1) := by decide +kernel
theorem dX4_sum_2 : decode cX4_sum 2 = .ok (.invokevirtual 183, 3) := by decide +kernel
theorem dX4_sum_5 : decode cX4_sum 5 = .ok (.astore 4, 2) := by decide +kernel
theorem dX4_sum_7 : decode cX4_sum 7 = .ok (.aload 4, 2) := by decide +kernel
theorem dX4_sum_9 : decode cX4_sum 9 = .ok (.ifnull 10, 3) := by decide +kernel
theorem dX4_sum_12 : decode cX4_sum 12 = .ok (.iload_n 2, 1) := by decide +kernel
theorem dX4_sum_13 : decode cX4_sum 13 = .ok (.invokestatic 132, 3) := by decide +kernel
theorem dX4_sum_16 : decode cX4_sum 16 = .ok (.ifCond .ne 9, 3) := by decide +kernel
theorem dX4_sum_19 : decode cX4_sum 19 = .ok (.aload_n 0, 1) := by decide +kernel
theorem dX4_sum_20 : decode cX4_sum 20 = .ok (.iconst (-1), 1) := by decide +kernel
theorem dX4_sum_21 : decode cX4_sum 21 = .ok (.invokevirtual 66, 3) := by decide +kernel
theorem dX4_sum_24 : decode cX4_sum 24 = .ok (.ireturn, 1) := by decide +kernel
theorem dX4_sum_25 : decode cX4_sum 25 = .ok (.aload_n 0, 1) := by decide +kernel
theorem dX4_sum_26 : decode cX4_sum 26 = .ok (.getfield 34, 3) := by decide +kernel
theorem dX4_sum_29 : decode cX4_sum 29 = .ok (.getfield 135, 3) := by decide +kernel
theorem dX4_sum_32 : decode cX4_sum 32 = .ok (.invokevirtual 138, 3) := by decide +kernel
theorem dX4_sum_35 : decode cX4_sum 35 = .ok (.aload_n 0, 1) := by decide +kernel
theorem dX4_sum_36 : decode cX4_sum 36 = .ok (.iload_n 3, 1) := by decide +kernel
theorem dX4_sum_37 : decode cX4_sum 37 = .ok (.ifCond .eq 17, 3) := by decide +kernel
theorem dX4_sum_40 : decode cX4_sum 40 = .ok (.aload_n 0, 1) := by decide +kernel
theorem dX4_sum_41 : decode cX4_sum 41 = .ok (.getfield 34, 3) := by decide +kernel
theorem dX4_sum_44 : decode cX4_sum 44 = .ok (.aload 4, 2) := by decide +kernel
theorem dX4_sum_46 : decode cX4_sum 46 = .ok (.aconst_null, 1) := by decide +kernel
theorem dX4_sum_47 : decode cX4_sum 47 = .ok (.iload_n 2, 1) := by decide +kernel
theorem dX4_sum_48 : decode cX4_sum 48 = .ok (.invokevirtual 219, 3) := by decide +kernel
theorem dX4_sum_51 : decode cX4_sum 51 = .ok (.goto 14, 3) := by decide +kernel
theorem dX4_sum_54 : decode cX4_sum 54 = .ok (.aload_n 0, 1) := by decide +kernel
theorem dX4_sum_55 : decode cX4_sum 55 = .ok (.getfield 34, 3) := by decide +kernel
theorem dX4_sum_58 : decode cX4_sum 58 = .ok (.aload 4, 2) := by decide +kernel
theorem dX4_sum_60 : decode cX4_sum 60 = .ok (.aconst_null, 1) := by decide +kernel
theorem dX4_sum_61 : decode cX4_sum 61 = .ok (.iload_n 2, 1) := by decide +kernel
theorem dX4_sum_62 : decode cX4_sum 62 = .ok (.invokevirtual 223, 3) := by decide +kernel
theorem dX4_sum_65 : decode cX4_sum 65 = .ok (.invokevirtual 145, 3) := by decide +kernel
theorem dX4_sum_68 : decode cX4_sum 68 = .ok (.ireturn, 1) := by decide +kernel
theorem dX4_dot_0 : decode cX4_dot 0 = .ok (.aload_n 0, 1) := by decide +kernel
theorem dX4_dot_1 : decode cX4_dot 1 = .ok (.iload_n 1, 1) := by decide +kernel
theorem dX4_dot_2 : decode cX4_dot 2 = .ok (.invokevirtual 183, 3) := by decide +kernel
theorem dX4_dot_5 : decode cX4_dot 5 = .ok (.astore 5, 2) := by decide +kernel
theorem dX4_dot_7 : decode cX4_dot 7 = .ok (.aload_n 0, 1) := by decide +kernel
theorem dX4_dot_8 : decode cX4_dot 8 = .ok (.iload_n 2, 1) := by decide +kernel
theorem dX4_dot_9 : decode cX4_dot 9 = .ok (.invokevirtual 183, 3) := by decide +kernel
theorem dX4_dot_12 : decode cX4_dot 12 = .ok (.astore 6, 2) := by decide +kernel
theorem dX4_dot_14 : decode cX4_dot 14 = .ok (.aload 5, 2) := by decide +kernel
theorem dX4_dot_16 : decode cX4_dot 16 = .ok (.ifnull 15, 3) := by decide +kernel
theorem dX4_dot_19 : decode cX4_dot 19 = .ok (.aload 6, 2) := by decide +kernel
theorem dX4_dot_21 : decode cX4_dot 21 = .ok (.ifnull 10, 3) := by decide +kernel
theorem dX4_dot_24 : decode cX4_dot 24 = .ok (.iload_n 3, 1) := by decide +kernel
theorem dX4_dot_25 : decode cX4_dot 25 = .ok (.invokestatic 132, 3) := by decide +kernel
theorem dX4_dot_28 : decode cX4_dot 28 = .ok (.ifCond .ne 9, 3) := by decide +kernel
theorem dX4_dot_31 : decode cX4_dot 31 = .ok (.aload_n 0, 1) := by decide +kernel
theorem dX4_dot_32 : decode cX4_dot 32 = .ok (.iconst (-1), 1) := by decide +kernel
theorem dX4_dot_33 : decode cX4_dot 33 = .ok (.invokevirtual 66, 3) := by decide +kernel
theorem dX4_dot_36 : decode cX4_dot 36 = .ok (.ireturn, 1) := by decide +kernel
theorem dX4_dot_37 : decode cX4_dot 37 = .ok (.aload 5, 2) := by decide +kernel
theorem dX4_dot_39 : decode cX4_dot 39 = .ok (.getfield 190, 3) := by decide +kernel
theorem dX4_dot_42 : decode cX4_dot 42 = .ok (.aload 6, 2) := by decide +kernel
theorem dX4_dot_44 : decode cX4_dot 44 = .ok (.getfield 190, 3) := by decide +kernel
theorem dX4_dot_47 : decode cX4_dot 47 = .ok (.invokevirtual 77, 3) := by decide +kernel
theorem dX4_dot_50 : decode cX4_dot 50 = .ok (.ifCond .ne 10, 3) := by decide +kernel
theorem dX4_dot_53 : decode cX4_dot 53 = .ok (.aload_n 0, 1) := by decide +kernel
theorem dX4_dot_54 : decode cX4_dot 54 = .ok (.bipush (-2), 2) := by decide +kernel
theorem dX4_dot_56 : decode cX4_dot 56 = .ok (.invokevirtual 66, 3) := by decide +kernel
theorem dX4_dot_59 : decode cX4_dot 59 = .ok (.ireturn, 1) := by decide +kernel
theorem dX4_dot_60 : decode cX4_dot 60 = .ok (.aload_n 0, 1) := by decide +kernel
theorem dX4_dot_61 : decode cX4_dot 61 = .ok (.getfield 34, 3) := by decide +kernel
theorem dX4_dot_64 : decode cX4_dot 64 = .ok (.getfield 135, 3) := by decide +kernel
theorem dX4_dot_67 : decode cX4_dot 67 = .ok (.invokevirtual 138, 3) := by decide +kernel
theorem dX4_dot_70 : decode cX4_dot 70 = .ok (.aload_n 0, 1) := by decide +kernel
theorem dX4_dot_71 : decode cX4_dot 71 = .ok (.iload 4, 2) := by decide +kernel
theorem dX4_dot_73 : decode cX4_dot 73 = .ok (.ifCond .eq 18, 3) := by decide +kernel
theorem dX4_dot_76 : decode cX4_dot 76 = .ok (.aload_n 0, 1) := by decide +kernel
theorem dX4_dot_77 : decode cX4_dot 77 = .ok (.getfield 34, 3) := by decide +kernel
theorem dX4_dot_80 : decode cX4_dot 80 = .ok (.aload 5, 2) := by decide +kernel
theorem dX4_dot_82 : decode cX4_dot 82 = .ok (.aload 6, 2) := by decide +kernel
theorem dX4_dot_84 : decode cX4_dot 84 = .ok (.iload_n 3, 1) := by decide +kernel
theorem dX4_dot_85 : decode cX4_dot 85 = .ok (.invokevirtual 219, 3) := by decide +kernel
theorem dX4_dot_88 : decode cX4_dot 88 = .ok (.goto 15, 3) := by decide +kernel
theorem dX4_dot_91 : decode cX4_dot 91 = .ok (.aload_n 0, 1) := by decide +kernel
theorem dX4_dot_92 : decode cX4_dot 92 = .ok (.getfield 34, 3) := by decide +kernel
theorem dX4_dot_95 : decode cX4_dot 95 = .ok (.aload 5, 2) := by decide +kernel
theorem dX4_dot_97 : decode cX4_dot 97 = .ok (.aload 6, 2) := by decide +kernel
theorem dX4_dot_99 : decode cX4_dot 99 = .ok (.iload_n 3, 1) := by decide +kernel
theorem dX4_dot_100 : decode cX4_dot 100 = .ok (.invokevirtual 223, 3) := by decide +kernel
theorem dX4_dot_103 : decode cX4_dot 103 = .ok (.invokevirtual 145, 3) := by decide +kernel
theorem dX4_dot_106 : decode cX4_dot 106 = .ok (.ireturn, 1) := by decide +kernel
theorem dX4_table_0 : decode cX4_table 0 = .ok (.aload_n 0, 1) := by decide +kernel
theorem dX4_table_1 : decode cX4_table 1 = .ok (.iload_n 1, 1) := by decide +kernel
theorem dX4_table_2 : decode cX4_table 2 = .ok (.invokevirtual 73, 3) := by decide +kernel
theorem dX4_table_5 : decode cX4_table 5 = .ok (.astore 4, 2) := by decide +kernel
theorem dX4_table_7 : decode cX4_table 7 = .ok (.aload 4, 2) := by decide +kernel
theorem dX4_table_9 : decode cX4_table 9 = .ok (.ifnull 20, 3) := by decide +kernel
theorem dX4_table_12 : decode cX4_table 12 = .ok (.iload_n 2, 1) := by decide +kernel
theorem dX4_table_13 : decode cX4_table 13 = .ok (.iconst 0, 1) := by decide +kernel
theorem dX4_table_14 : decode cX4_table 14 = .ok (.bipush 6, 2) := by decide +kernel
theorem dX4_table_16 : decode cX4_table 16 = .ok (.invokestatic 62, 3) := by decide +kernel
theorem dX4_table_19 : decode cX4_table 19 = .ok (.ifCond .eq 10, 3) := by decide +kernel
theorem dX4_table_22 : decode cX4_table 22 = .ok (.iload_n 3, 1) := by decide +kernel
theorem dX4_table_23 : decode cX4_table 23 = .ok (.invokestatic 132, 3) := by decide +kernel
theorem dX4_table_26 : decode cX4_table 26 = .ok (.ifCond .ne 9, 3) := by decide +kernel
theorem dX4_table_29 : decode cX4_table 29 = .ok (.aload_n 0, 1) := by decide +kernel
theorem dX4_table_30 : decode cX4_table 30 = .ok (.iconst (-1), 1) := by decide +kernel
theorem dX4_table_31 : decode cX4_table 31 = .ok (.invokevirtual 66, 3) := by decide +kernel
theorem dX4_table_34 : decode cX4_table 34 = .ok (.ireturn, 1) := by decide +kernel
theorem dX4_table_35 : decode cX4_table 35 = .ok (.aload 4, 2) := by decide +kernel
theorem dX4_table_37 : decode cX4_table 37 = .ok (.invokevirtual 84, 3) := by decide +kernel
theorem dX4_table_40 : decode cX4_table 40 = .ok (.bipush 6, 2) := by decide +kernel
theorem dX4_table_42 : decode cX4_table 42 = .ok (.if_icmp .le 10, 3) := by decide +kernel
theorem dX4_table_45 : decode cX4_table 45 = .ok (.aload_n 0, 1) := by decide +kernel
theorem dX4_table_46 : decode cX4_table 46 = .ok (.bipush (-2), 2) := by decide +kernel
theorem dX4_table_48 : decode cX4_table 48 = .ok (.invokevirtual 66, 3) := by decide +kernel
theorem dX4_table_51 : decode cX4_table 51 = .ok (.ireturn, 1) := by decide +kernel
theorem dX4_table_52 : decode cX4_table 52 = .ok (.aload_n 0, 1) := by decide +kernel
theorem dX4_table_53 : decode cX4_table 53 = .ok (.getfield 58, 3) := by decide +kernel
theorem dX4_table_56 : decode cX4_table 56 = .ok (.bipush 100, 2) := by decide +kernel
theorem dX4_table_58 : decode cX4_table 58 = .ok (.if_icmp .lt 10, 3) := by decide +kernel
theorem dX4_table_61 : decode cX4_table 61 = .ok (.aload_n 0, 1) := by decide +kernel
theorem dX4_table_62 : decode cX4_table 62 = .ok (.bipush (-3), 2) := by decide +kernel
theorem dX4_table_64 : decode cX4_table 64 = .ok (.invokevirtual 66, 3) := by decide +kernel
theorem dX4_table_67 : decode cX4_table 67 = .ok (.ireturn, 1) := by decide +kernel
theorem dX4_table_68 : decode cX4_table 68 = .ok (.aload_n 0, 1) := by decide +kernel
theorem dX4_table_69 : decode cX4_table 69 = .ok (.dup, 1) := by decide +kernel
theorem dX4_table_70 : decode cX4_table 70 = .ok (.getfield 58, 3) := by decide +kernel
theorem dX4_table_73 : decode cX4_table 73 = .ok (.iconst 1, 1) := by decide +kernel
theorem dX4_table_74 : decode cX4_table 74 = .ok (.iadd, 1) := by decide +kernel
theorem dX4_table_75 : decode cX4_table 75 = .ok (.putfield 58, 3) := by decide +kernel
theorem dX4_table_78 : decode cX4_table 78 = .ok (.aload_n 0, 1) := by decide +kernel
theorem dX4_table_79 : decode cX4_table 79 = .ok (.aload 4, 2) := by decide +kernel
theorem dX4_table_81 : decode cX4_table 81 = .ok (.putfield 48, 3) := by decide +kernel
theorem dX4_table_84 : decode cX4_table 84 = .ok (.aload_n 0, 1) := by decide +kernel
theorem dX4_table_85 : decode cX4_table 85 = .ok (.iload_n 2, 1) := by decide +kernel
theorem dX4_table_86 : decode cX4_table 86 = .ok (.putfield 52, 3) := by decide +kernel
theorem dX4_table_89 : decode cX4_table 89 = .ok (.aload_n 0, 1) := by decide +kernel
theorem dX4_table_90 : decode cX4_table 90 = .ok (.iload_n 3, 1) := by decide +kernel
theorem dX4_table_91 : decode cX4_table 91 = .ok (.putfield 55, 3) := by decide +kernel
theorem dX4_table_94 : decode cX4_table 94 = .ok (.aload_n 0, 1) := by decide +kernel
theorem dX4_table_95 : decode cX4_table 95 = .ok (.iconst 1, 1) := by decide +kernel
theorem dX4_table_96 : decode cX4_table 96 = .ok (.iconst 2, 1) := by decide +kernel
theorem dX4_table_97 : decode cX4_table 97 = .ok (.aload 4, 2) := by decide +kernel
theorem dX4_table_99 : decode cX4_table 99 = .ok (.invokevirtual 84, 3) := by decide +kernel
theorem dX4_table_102 : decode cX4_table 102 = .ok (.imul, 1) := by decide +kernel
theorem dX4_table_103 : decode cX4_table 103 = .ok (.ishl, 1) := by decide +kernel
theorem dX4_table_104 : decode cX4_table 104 = .ok (.invokevirtual 81, 3) := by decide +kernel
theorem dX4_table_107 : decode cX4_table 107 = .ok (.ireturn, 1) := by decide +kernel
theorem dX4_lookup_0 : decode cX4_lookup 0 = .ok (.aload_n 0, 1) := by decide +kernel
theorem dX4_lookup_1 : decode cX4_lookup 1 = .ok (.getfield 48, 3) := by decide +kernel
theorem dX4_lookup_4 : decode cX4_lookup 4 = .ok (.ifnonnull 10, 3) := by decide +kernel
theorem dX4_lookup_7 : decode cX4_lookup 7 = .ok (.aload_n 0, 1) := by decide +kernel
theorem dX4_lookup_8 : decode cX4_lookup 8 = .ok (.bipush (-2), 2) := by decide +kernel
theorem dX4_lookup_10 : decode cX4_lookup 10 = .ok (.invokevirtual 66, 3) := by decide +kernel
theorem dX4_lookup_13 : decode cX4_lookup 13 = .ok (.ireturn, 1) := by decide +kernel
theorem dX4_lookup_14 : decode cX4_lookup 14 = .ok (.aload_n 0, 1) := by decide +kernel
theorem dX4_lookup_15 : decode cX4_lookup 15 = .ok (.getfield 48, 3) := by decide +kernel
theorem dX4_lookup_18 : decode cX4_lookup 18 = .ok (.iload_n 1, 1) := by decide +kernel
theorem dX4_lookup_19 : decode cX4_lookup 19 = .ok (.invokevirtual 107, 3) := by decide +kernel
theorem dX4_lookup_22 : decode cX4_lookup 22 = .ok (.ifCond .eq 14, 3) := by decide +kernel
theorem dX4_lookup_25 : decode cX4_lookup 25 = .ok (.aload_n 0, 1) := by decide +kernel
theorem dX4_lookup_26 : decode cX4_lookup 26 = .ok (.getfield 48, 3) := by decide +kernel
theorem dX4_lookup_29 : decode cX4_lookup 29 = .ok (.iload_n 2, 1) := by decide +kernel
theorem dX4_lookup_30 : decode cX4_lookup 30 = .ok (.invokevirtual 107, 3) := by decide +kernel
theorem dX4_lookup_33 : decode cX4_lookup 33 = .ok (.ifCond .ne 9, 3) := by decide +kernel
theorem dX4_lookup_36 : decode cX4_lookup 36 = .ok (.aload_n 0, 1) := by decide +kernel
theorem dX4_lookup_37 : decode cX4_lookup 37 = .ok (.iconst (-1), 1) := by decide +kernel
theorem dX4_lookup_38 : decode cX4_lookup 38 = .ok (.invokevirtual 66, 3) := by decide +kernel
theorem dX4_lookup_41 : decode cX4_lookup 41 = .ok (.ireturn, 1) := by decide +kernel
theorem dX4_lookup_42 : decode cX4_lookup 42 = .ok (.aload_n 0, 1) := by decide +kernel
theorem dX4_lookup_43 : decode cX4_lookup 43 = .ok (.getfield 34, 3) := by decide +kernel
theorem dX4_lookup_46 : decode cX4_lookup 46 = .ok (.aload_n 0, 1) := by decide +kernel
theorem dX4_lookup_47 : decode cX4_lookup 47 = .ok (.getfield 48, 3) := by decide +kernel
theorem dX4_lookup_50 : decode cX4_lookup 50 = .ok (.aload_n 0, 1) := by decide +kernel
theorem dX4_lookup_51 : decode cX4_lookup 51 = .ok (.getfield 52, 3) := by decide +kernel
theorem dX4_lookup_54 : decode cX4_lookup 54 = .ok (.iload_n 1, 1) := by decide +kernel
theorem dX4_lookup_55 : decode cX4_lookup 55 = .ok (.iload_n 2, 1) := by decide +kernel
theorem dX4_lookup_56 : decode cX4_lookup 56 = .ok (.aload_n 0, 1) := by decide +kernel
theorem dX4_lookup_57 : decode cX4_lookup 57 = .ok (.getfield 55, 3) := by decide +kernel
theorem dX4_lookup_60 : decode cX4_lookup 60 = .ok (.invokevirtual 152, 3) := by decide +kernel
theorem dX4_lookup_63 : decode cX4_lookup 63 = .ok (.istore_n 3, 1) := by decide +kernel
theorem dX4_lookup_64 : decode cX4_lookup 64 = .ok (.aload_n 0, 1) := by decide +kernel
theorem dX4_lookup_65 : decode cX4_lookup 65 = .ok (.iload_n 3, 1) := by decide +kernel
theorem dX4_lookup_66 : decode cX4_lookup 66 = .ok (.bipush (-4), 2) := by decide +kernel
theorem dX4_lookup_68 : decode cX4_lookup 68 = .ok (.if_icmp .ne 7, 3) := by decide +kernel
theorem dX4_lookup_71 : decode cX4_lookup 71 = .ok (.iconst (-1), 1) := by decide +kernel
theorem dX4_lookup_72 : decode cX4_lookup 72 = .ok (.goto 4, 3) := by decide +kernel
theorem dX4_lookup_75 : decode cX4_lookup 75 = .ok (.iload_n 3, 1) := by decide +kernel
theorem dX4_lookup_76 : decode cX4_lookup 76 = .ok (.invokevirtual 81, 3) := by decide +kernel
theorem dX4_lookup_79 : decode cX4_lookup 79 = .ok (.ireturn, 1) := by decide +kernel
theorem dX4_count_0 : decode cX4_count 0 = .ok (.iload_n 1, 1) := by decide +kernel
theorem dX4_count_1 : decode cX4_count 1 = .ok (.tableswitch 60 0 3 #[31, 39, 47, 55], 31) := by decide +kernel
theorem dX4_count_32 : decode cX4_count 32 = .ok (.aload_n 0, 1) := by decide +kernel
theorem dX4_count_33 : decode cX4_count 33 = .ok (.getfield 41, 3) := by decide +kernel
theorem dX4_count_36 : decode cX4_count 36 = .ok (.getfield 226, 3) := by decide +kernel
theorem dX4_count_39 : decode cX4_count 39 = .ok (.ireturn, 1) := by decide +kernel
theorem dX4_count_40 : decode cX4_count 40 = .ok (.aload_n 0, 1) := by decide +kernel
theorem dX4_count_41 : decode cX4_count 41 = .ok (.getfield 41, 3) := by decide +kernel
theorem dX4_count_44 : decode cX4_count 44 = .ok (.getfield 229, 3) := by decide +kernel
theorem dX4_count_47 : decode cX4_count 47 = .ok (.ireturn, 1) := by decide +kernel
theorem dX4_count_48 : decode cX4_count 48 = .ok (.aload_n 0, 1) := by decide +kernel
theorem dX4_count_49 : decode cX4_count 49 = .ok (.getfield 41, 3) := by decide +kernel
theorem dX4_count_52 : decode cX4_count 52 = .ok (.getfield 232, 3) := by decide +kernel
theorem dX4_count_55 : decode cX4_count 55 = .ok (.ireturn, 1) := by decide +kernel
theorem dX4_count_56 : decode cX4_count 56 = .ok (.aload_n 0, 1) := by decide +kernel
theorem dX4_count_57 : decode cX4_count 57 = .ok (.getfield 17, 3) := by decide +kernel
theorem dX4_count_60 : decode cX4_count 60 = .ok (.ireturn, 1) := by decide +kernel
theorem dX4_count_61 : decode cX4_count 61 = .ok (.iconst (-1), 1) := by decide +kernel
theorem dX4_count_62 : decode cX4_count 62 = .ok (.ireturn, 1) := by decide +kernel
theorem dX4_told_0 : decode cX4_told 0 = .ok (.aload_n 0, 1) := by decide +kernel
theorem dX4_told_1 : decode cX4_told 1 = .ok (.getfield 45, 3) := by decide +kernel
theorem dX4_told_4 : decode cX4_told 4 = .ok (.ireturn, 1) := by decide +kernel
theorem dX4_answered_0 : decode cX4_answered 0 = .ok (.aload_n 0, 1) := by decide +kernel
theorem dX4_answered_1 : decode cX4_answered 1 = .ok (.iconst 0, 1) := by decide +kernel
theorem dX4_answered_2 : decode cX4_answered 2 = .ok (.putfield 45, 3) := by decide +kernel
theorem dX4_answered_5 : decode cX4_answered 5 = .ok (.iload_n 1, 1) := by decide +kernel
theorem dX4_answered_6 : decode cX4_answered 6 = .ok (.ireturn, 1) := by decide +kernel
theorem dX4_refused_0 : decode cX4_refused 0 = .ok (.aload_n 0, 1) := by decide +kernel
theorem dX4_refused_1 : decode cX4_refused 1 = .ok (.iload_n 1, 1) := by decide +kernel
theorem dX4_refused_2 : decode cX4_refused 2 = .ok (.putfield 45, 3) := by decide +kernel
theorem dX4_refused_5 : decode cX4_refused 5 = .ok (.iload_n 1, 1) := by decide +kernel
theorem dX4_refused_6 : decode cX4_refused 6 = .ok (.ireturn, 1) := by decide +kernel
theorem dX4_settled_0 : decode cX4_settled 0 = .ok (.iload_n 1, 1) := by decide +kernel
theorem dX4_settled_1 : decode cX4_settled 1 = .ok (.bipush (-4), 2) := by decide +kernel
theorem dX4_settled_3 : decode cX4_settled 3 = .ok (.if_icmp .ne 23, 3) := by decide +kernel
theorem dX4_settled_6 : decode cX4_settled 6 = .ok (.aload_n 0, 1) := by decide +kernel
theorem dX4_settled_7 : decode cX4_settled 7 = .ok (.getfield 41, 3) := by decide +kernel
theorem dX4_settled_10 : decode cX4_settled 10 = .ok (.dup, 1) := by decide +kernel
theorem dX4_settled_11 : decode cX4_settled 11 = .ok (.getfield 232, 3) := by decide +kernel
theorem dX4_settled_14 : decode cX4_settled 14 = .ok (.iconst 1, 1) := by decide +kernel
theorem dX4_settled_15 : decode cX4_settled 15 = .ok (.iadd, 1) := by decide +kernel
theorem dX4_settled_16 : decode cX4_settled 16 = .ok (.putfield 232, 3) := by decide +kernel
theorem dX4_settled_19 : decode cX4_settled 19 = .ok (.aload_n 0, 1) := by decide +kernel
theorem dX4_settled_20 : decode cX4_settled 20 = .ok (.bipush (-4), 2) := by decide +kernel
theorem dX4_settled_22 : decode cX4_settled 22 = .ok (.invokevirtual 66, 3) := by decide +kernel
theorem dX4_settled_25 : decode cX4_settled 25 = .ok (.ireturn, 1) := by decide +kernel
theorem dX4_settled_26 : decode cX4_settled 26 = .ok (.aload_n 0, 1) := by decide +kernel
theorem dX4_settled_27 : decode cX4_settled 27 = .ok (.getfield 41, 3) := by decide +kernel
theorem dX4_settled_30 : decode cX4_settled 30 = .ok (.aload_n 0, 1) := by decide +kernel
theorem dX4_settled_31 : decode cX4_settled 31 = .ok (.getfield 34, 3) := by decide +kernel
theorem dX4_settled_34 : decode cX4_settled 34 = .ok (.getfield 135, 3) := by decide +kernel
theorem dX4_settled_37 : decode cX4_settled 37 = .ok (.invokevirtual 235, 3) := by decide +kernel
theorem dX4_settled_40 : decode cX4_settled 40 = .ok (.aload_n 0, 1) := by decide +kernel
theorem dX4_settled_41 : decode cX4_settled 41 = .ok (.iload_n 1, 1) := by decide +kernel
theorem dX4_settled_42 : decode cX4_settled 42 = .ok (.invokevirtual 81, 3) := by decide +kernel
theorem dX4_settled_45 : decode cX4_settled 45 = .ok (.ireturn, 1) := by decide +kernel
theorem dX4_formatAt_0 : decode cX4_formatAt 0 = .ok (.iload_n 1, 1) := by decide +kernel
theorem dX4_formatAt_1 : decode cX4_formatAt 1 = .ok (.iconst 0, 1) := by decide +kernel
theorem dX4_formatAt_2 : decode cX4_formatAt 2 = .ok (.bipush 9, 2) := by decide +kernel
theorem dX4_formatAt_4 : decode cX4_formatAt 4 = .ok (.invokestatic 62, 3) := by decide +kernel
theorem dX4_formatAt_7 : decode cX4_formatAt 7 = .ok (.ifCond .eq 12, 3) := by decide +kernel
theorem dX4_formatAt_10 : decode cX4_formatAt 10 = .ok (.aload_n 0, 1) := by decide +kernel
theorem dX4_formatAt_11 : decode cX4_formatAt 11 = .ok (.getfield 13, 3) := by decide +kernel
theorem dX4_formatAt_14 : decode cX4_formatAt 14 = .ok (.iload_n 1, 1) := by decide +kernel
theorem dX4_formatAt_15 : decode cX4_formatAt 15 = .ok (.aaload, 1) := by decide +kernel
theorem dX4_formatAt_16 : decode cX4_formatAt 16 = .ok (.goto 4, 3) := by decide +kernel
theorem dX4_formatAt_19 : decode cX4_formatAt 19 = .ok (.aconst_null, 1) := by decide +kernel
theorem dX4_formatAt_20 : decode cX4_formatAt 20 = .ok (.areturn, 1) := by decide +kernel
theorem dX4_rowAt_0 : decode cX4_rowAt 0 = .ok (.iload_n 1, 1) := by decide +kernel
theorem dX4_rowAt_1 : decode cX4_rowAt 1 = .ok (.iconst 0, 1) := by decide +kernel
theorem dX4_rowAt_2 : decode cX4_rowAt 2 = .ok (.iconst 3, 1) := by decide +kernel
theorem dX4_rowAt_3 : decode cX4_rowAt 3 = .ok (.invokestatic 62, 3) := by decide +kernel
theorem dX4_rowAt_6 : decode cX4_rowAt 6 = .ok (.ifCond .eq 24, 3) := by decide +kernel
theorem dX4_rowAt_9 : decode cX4_rowAt 9 = .ok (.aload_n 0, 1) := by decide +kernel
theorem dX4_rowAt_10 : decode cX4_rowAt 10 = .ok (.getfield 23, 3) := by decide +kernel
theorem dX4_rowAt_13 : decode cX4_rowAt 13 = .ok (.iload_n 1, 1) := by decide +kernel
theorem dX4_rowAt_14 : decode cX4_rowAt 14 = .ok (.aaload, 1) := by decide +kernel
theorem dX4_rowAt_15 : decode cX4_rowAt 15 = .ok (.getfield 190, 3) := by decide +kernel
theorem dX4_rowAt_18 : decode cX4_rowAt 18 = .ok (.ifnull 12, 3) := by decide +kernel
theorem dX4_rowAt_21 : decode cX4_rowAt 21 = .ok (.aload_n 0, 1) := by decide +kernel
theorem dX4_rowAt_22 : decode cX4_rowAt 22 = .ok (.getfield 23, 3) := by decide +kernel
theorem dX4_rowAt_25 : decode cX4_rowAt 25 = .ok (.iload_n 1, 1) := by decide +kernel
theorem dX4_rowAt_26 : decode cX4_rowAt 26 = .ok (.aaload, 1) := by decide +kernel
theorem dX4_rowAt_27 : decode cX4_rowAt 27 = .ok (.goto 4, 3) := by decide +kernel
theorem dX4_rowAt_30 : decode cX4_rowAt 30 = .ok (.aconst_null, 1) := by decide +kernel
theorem dX4_rowAt_31 : decode cX4_rowAt 31 = .ok (.areturn, 1) := by decide +kernel
theorem dX4_isMode_0 : decode cX4_isMode 0 = .ok (.iload_n 0, 1) := by decide +kernel
theorem dX4_isMode_1 : decode cX4_isMode 1 = .ok (.iconst 0, 1) := by decide +kernel
theorem dX4_isMode_2 : decode cX4_isMode 2 = .ok (.iconst 5, 1) := by decide +kernel
theorem dX4_isMode_3 : decode cX4_isMode 3 = .ok (.invokestatic 62, 3) := by decide +kernel
theorem dX4_isMode_6 : decode cX4_isMode 6 = .ok (.ireturn, 1) := by decide +kernel
theorem dX4_within_0 : decode cX4_within 0 = .ok (.iload_n 1, 1) := by decide +kernel
theorem dX4_within_1 : decode cX4_within 1 = .ok (.iload_n 0, 1) := by decide +kernel
theorem dX4_within_2 : decode cX4_within 2 = .ok (.if_icmp .gt 12, 3) := by decide +kernel
theorem dX4_within_5 : decode cX4_within 5 = .ok (.iload_n 0, 1) := by decide +kernel
theorem dX4_within_6 : decode cX4_within 6 = .ok (.iload_n 2, 1) := by decide +kernel
theorem dX4_within_7 : decode cX4_within 7 = .ok (.if_icmp .gt 7, 3) := by decide +kernel
theorem dX4_within_10 : decode cX4_within 10 = .ok (.iconst 1, 1) := by decide +kernel
theorem dX4_within_11 : decode cX4_within 11 = .ok (.goto 4, 3) := by decide +kernel
theorem dX4_within_14 : decode cX4_within 14 = .ok (.iconst 0, 1) := by decide +kernel
theorem dX4_within_15 : decode cX4_within 15 = .ok (.ireturn, 1) := by decide +kernel
theorem dX5_init_0 : decode cX5_init 0 = .ok (.aload_n 0, 1) := by decide +kernel
theorem dX5_init_1 : decode cX5_init 1 = .ok (.invokespecial 1, 3) := by decide +kernel
theorem dX5_init_4 : decode cX5_init 4 = .ok (.aload_n 0, 1) := by decide +kernel
theorem dX5_init_5 : decode cX5_init 5 = .ok (.bipush 10, 2) := by decide +kernel
theorem dX5_init_7 : decode cX5_init 7 = .ok (.newarray .int, 2) := by decide +kernel
theorem dX5_init_9 : decode cX5_init 9 = .ok (.putfield 7, 3) := by decide +kernel
theorem dX5_init_12 : decode cX5_init 12 = .ok (.aload_n 0, 1) := by decide +kernel
theorem dX5_init_13 : decode cX5_init 13 = .ok (.bipush 10, 2) := by decide +kernel
theorem dX5_init_15 : decode cX5_init 15 = .ok (.newarray .int, 2) := by decide +kernel
theorem dX5_init_17 : decode cX5_init 17 = .ok (.putfield 13, 3) := by decide +kernel
theorem dX5_init_20 : decode cX5_init 20 = .ok (.aload_n 0, 1) := by decide +kernel
theorem dX5_init_21 : decode cX5_init 21 = .ok (.bipush 10, 2) := by decide +kernel
theorem dX5_init_23 : decode cX5_init 23 = .ok (.newarray .int, 2) := by decide +kernel
theorem dX5_init_25 : decode cX5_init 25 = .ok (.putfield 16, 3) := by decide +kernel
theorem dX5_init_28 : decode cX5_init 28 = .ok (.aload_n 0, 1) := by decide +kernel
theorem dX5_init_29 : decode cX5_init 29 = .ok (.bipush 10, 2) := by decide +kernel
theorem dX5_init_31 : decode cX5_init 31 = .ok (.newarray .int, 2) := by decide +kernel
theorem dX5_init_33 : decode cX5_init 33 = .ok (.putfield 19, 3) := by decide +kernel
theorem dX5_init_36 : decode cX5_init 36 = .ok (.aload_n 0, 1) := by decide +kernel
theorem dX5_init_37 : decode cX5_init 37 = .ok (.bipush 10, 2) := by decide +kernel
theorem dX5_init_39 : decode cX5_init 39 = .ok (.newarray .boolean, 2) := by decide +kernel
theorem dX5_init_41 : decode cX5_init 41 = .ok (.putfield 22, 3) := by decide +kernel
theorem dX5_init_44 : decode cX5_init 44 = .ok (.aload_n 0, 1) := by decide +kernel
theorem dX5_init_45 : decode cX5_init 45 = .ok (.bipush 10, 2) := by decide +kernel
theorem dX5_init_47 : decode cX5_init 47 = .ok (.newarray .int, 2) := by decide +kernel
theorem dX5_init_49 : decode cX5_init 49 = .ok (.putfield 26, 3) := by decide +kernel
theorem dX5_init_52 : decode cX5_init 52 = .ok (.aload_n 0, 1) := by decide +kernel
theorem dX5_init_53 : decode cX5_init 53 = .ok (.iconst 4, 1) := by decide +kernel
theorem dX5_init_54 : decode cX5_init 54 = .ok (.newarray .int, 2) := by decide +kernel
theorem dX5_init_56 : decode cX5_init 56 = .ok (.dup, 1) := by decide +kernel
theorem dX5_init_57 : decode cX5_init 57 = .ok (.iconst 0, 1) := by decide +kernel
theorem dX5_init_58 : decode cX5_init 58 = .ok (.iconst (-1), 1) := by decide +kernel
theorem dX5_init_59 : decode cX5_init 59 = .ok (.iastore, 1) := by decide +kernel
theorem dX5_init_60 : decode cX5_init 60 = .ok (.dup, 1) := by decide +kernel
theorem dX5_init_61 : decode cX5_init 61 = .ok (.iconst 1, 1) := by decide +kernel
theorem dX5_init_62 : decode cX5_init 62 = .ok (.iconst (-1), 1) := by decide +kernel
theorem dX5_init_63 : decode cX5_init 63 = .ok (.iastore, 1) := by decide +kernel
theorem dX5_init_64 : decode cX5_init 64 = .ok (.dup, 1) := by decide +kernel
theorem dX5_init_65 : decode cX5_init 65 = .ok (.iconst 2, 1) := by decide +kernel
theorem dX5_init_66 : decode cX5_init 66 = .ok (.iconst (-1), 1) := by decide +kernel
theorem dX5_init_67 : decode cX5_init 67 = .ok (.iastore, 1) := by decide +kernel
theorem dX5_init_68 : decode cX5_init 68 = .ok (.dup, 1) := by decide +kernel
theorem dX5_init_69 : decode cX5_init 69 = .ok (.iconst 3, 1) := by decide +kernel
theorem dX5_init_70 : decode cX5_init 70 = .ok (.iconst (-1), 1) := by decide +kernel
theorem dX5_init_71 : decode cX5_init 71 = .ok (.iastore, 1) := by decide +kernel
theorem dX5_init_72 : decode cX5_init 72 = .ok (.putfield 29, 3) := by decide +kernel
theorem dX5_init_75 : decode cX5_init 75 = .ok (.aload_n 0, 1) := by decide +kernel
theorem dX5_init_76 : decode cX5_init 76 = .ok (.iconst 4, 1) := by decide +kernel
theorem dX5_init_77 : decode cX5_init 77 = .ok (.newarray .int, 2) := by decide +kernel
theorem dX5_init_79 : decode cX5_init 79 = .ok (.putfield 32, 3) := by decide +kernel
theorem dX5_init_82 : decode cX5_init 82 = .ok (.aload_n 0, 1) := by decide +kernel
theorem dX5_init_83 : decode cX5_init 83 = .ok (.bipush 64, 2) := by decide +kernel
theorem dX5_init_85 : decode cX5_init 85 = .ok (.newarray .int, 2) := by decide +kernel
theorem dX5_init_87 : decode cX5_init 87 = .ok (.putfield 35, 3) := by decide +kernel
theorem dX5_init_90 : decode cX5_init 90 = .ok (.aload_n 0, 1) := by decide +kernel
theorem dX5_init_91 : decode cX5_init 91 = .ok (.iconst (-1), 1) := by decide +kernel
theorem dX5_init_92 : decode cX5_init 92 = .ok (.putfield 38, 3) := by decide +kernel
theorem dX5_init_95 : decode cX5_init 95 = .ok (.aload_n 0, 1) := by decide +kernel
theorem dX5_init_96 : decode cX5_init 96 = .ok (.bipush 16, 2) := by decide +kernel
theorem dX5_init_98 : decode cX5_init 98 = .ok (.newarray .int, 2) := by decide +kernel
theorem dX5_init_100 : decode cX5_init 100 = .ok (.putfield 42, 3) := by decide +kernel
theorem dX5_init_103 : decode cX5_init 103 = .ok (.aload_n 0, 1) := by decide +kernel
theorem dX5_init_104 : decode cX5_init 104 = .ok (.iconst 0, 1) := by decide +kernel
theorem dX5_init_105 : decode cX5_init 105 = .ok (.putfield 45, 3) := by decide +kernel
theorem dX5_init_108 : decode cX5_init 108 = .ok (.return_, 1) := by decide +kernel
theorem dX5_in_0 : decode cX5_in 0 = .ok (.lload_n 0, 1) := by decide +kernel
theorem dX5_in_1 : decode cX5_in 1 = .ok (.lload_n 2, 1) := by decide +kernel
theorem dX5_in_2 : decode cX5_in 2 = .ok (.lcmp, 1) := by decide +kernel
theorem dX5_in_3 : decode cX5_in 3 = .ok (.ifCond .lt 14, 3) := by decide +kernel
theorem dX5_in_6 : decode cX5_in 6 = .ok (.lload_n 0, 1) := by decide +kernel
theorem dX5_in_7 : decode cX5_in 7 = .ok (.lload 4, 2) := by decide +kernel
theorem dX5_in_9 : decode cX5_in 9 = .ok (.lcmp, 1) := by decide +kernel
theorem dX5_in_10 : decode cX5_in 10 = .ok (.ifCond .gt 7, 3) := by decide +kernel
theorem dX5_in_13 : decode cX5_in 13 = .ok (.iconst 1, 1) := by decide +kernel
theorem dX5_in_14 : decode cX5_in 14 = .ok (.goto 4, 3) := by decide +kernel
theorem dX5_in_17 : decode cX5_in 17 = .ok (.iconst 0, 1) := by decide +kernel
theorem dX5_in_18 : decode cX5_in 18 = .ok (.ireturn, 1) := by decide +kernel
theorem dX5_refused_0 : decode cX5_refused 0 = .ok (.aload_n 0, 1) := by decide +kernel
theorem dX5_refused_1 : decode cX5_refused 1 = .ok (.iload_n 1, 1) := by decide +kernel
theorem dX5_refused_2 : decode cX5_refused 2 = .ok (.putfield 48, 3) := by decide +kernel
theorem dX5_refused_5 : decode cX5_refused 5 = .ok (.iload_n 1, 1) := by decide +kernel
theorem dX5_refused_6 : decode cX5_refused 6 = .ok (.ireturn, 1) := by decide +kernel
theorem dX5_fine_0 : decode cX5_fine 0 = .ok (.aload_n 0, 1) := by decide +kernel
theorem dX5_fine_1 : decode cX5_fine 1 = .ok (.iconst 0, 1) := by decide +kernel
theorem dX5_fine_2 : decode cX5_fine 2 = .ok (.putfield 48, 3) := by decide +kernel
theorem dX5_fine_5 : decode cX5_fine 5 = .ok (.iload_n 1, 1) := by decide +kernel
theorem dX5_fine_6 : decode cX5_fine 6 = .ok (.ireturn, 1) := by decide +kernel
theorem dX5_begins_0 : decode cX5_begins 0 = .ok (.aload_n 0, 1) := by decide +kernel
theorem dX5_begins_1 : decode cX5_begins 1 = .ok (.iconst 0, 1) := by decide +kernel
theorem dX5_begins_2 : decode cX5_begins 2 = .ok (.putfield 51, 3) := by decide +kernel
theorem dX5_begins_5 : decode cX5_begins 5 = .ok (.aload_n 0, 1) := by decide +kernel
theorem dX5_begins_6 : decode cX5_begins 6 = .ok (.iconst 0, 1) := by decide +kernel
theorem dX5_begins_7 : decode cX5_begins 7 = .ok (.putfield 54, 3) := by decide +kernel
theorem dX5_begins_10 : decode cX5_begins 10 = .ok (.return_, 1) := by decide +kernel
theorem dX5_ends_0 : decode cX5_ends 0 = .ok (.iload_n 1, 1) := by decide +kernel
theorem dX5_ends_1 : decode cX5_ends 1 = .ok (.ifCond .ge 9, 3) := by decide +kernel
theorem dX5_ends_4 : decode cX5_ends 4 = .ok (.aload_n 0, 1) := by decide +kernel
theorem dX5_ends_5 : decode cX5_ends 5 = .ok (.iload_n 1, 1) := by decide +kernel
theorem dX5_ends_6 : decode cX5_ends 6 = .ok (.invokevirtual 57, 3) := by decide +kernel
theorem dX5_ends_9 : decode cX5_ends 9 = .ok (.ireturn, 1) := by decide +kernel
theorem dX5_ends_10 : decode cX5_ends 10 = .ok (.aload_n 0, 1) := by decide +kernel
theorem dX5_ends_11 : decode cX5_ends 11 = .ok (.dup, 1) := by decide +kernel
theorem dX5_ends_12 : decode cX5_ends 12 = .ok (.getfield 61, 3) := by decide +kernel
theorem dX5_ends_15 : decode cX5_ends 15 = .ok (.aload_n 0, 1) := by decide +kernel
theorem dX5_ends_16 : decode cX5_ends 16 = .ok (.getfield 51, 3) := by decide +kernel
theorem dX5_ends_19 : decode cX5_ends 19 = .ok (.iadd, 1) := by decide +kernel
theorem dX5_ends_20 : decode cX5_ends 20 = .ok (.putfield 61, 3) := by decide +kernel
theorem dX5_ends_23 : decode cX5_ends 23 = .ok (.aload_n 0, 1) := by decide +kernel
theorem dX5_ends_24 : decode cX5_ends 24 = .ok (.dup, 1) := by decide +kernel
theorem dX5_ends_25 : decode cX5_ends 25 = .ok (.getfield 64, 3) := by decide +kernel
theorem dX5_ends_28 : decode cX5_ends 28 = .ok (.aload_n 0, 1) := by decide +kernel
theorem dX5_ends_29 : decode cX5_ends 29 = .ok (.getfield 54, 3) := by decide +kernel
theorem dX5_ends_32 : decode cX5_ends 32 = .ok (.iadd, 1) := by decide +kernel
theorem dX5_ends_33 : decode cX5_ends 33 = .ok (.putfield 64, 3) := by decide +kernel
theorem dX5_ends_36 : decode cX5_ends 36 = .ok (.aload_n 0, 1) := by decide +kernel
theorem dX5_ends_37 : decode cX5_ends 37 = .ok (.iload_n 1, 1) := by decide +kernel
theorem dX5_ends_38 : decode cX5_ends 38 = .ok (.invokevirtual 67, 3) := by decide +kernel
theorem dX5_ends_41 : decode cX5_ends 41 = .ok (.ireturn, 1) := by decide +kernel
theorem dX5_isFormat_0 : decode cX5_isFormat 0 = .ok (.iload_n 1, 1) := by decide +kernel
theorem dX5_isFormat_1 : decode cX5_isFormat 1 = .ok (.i2l, 1) := by decide +kernel
theorem dX5_isFormat_2 : decode cX5_isFormat 2 = .ok (.lconst 0, 1) := by decide +kernel
theorem dX5_isFormat_3 : decode cX5_isFormat 3 = .ok (.aload_n 0, 1) := by decide +kernel
theorem dX5_isFormat_4 : decode cX5_isFormat 4 = .ok (.getfield 45, 3) := by decide +kernel
theorem dX5_isFormat_7 : decode cX5_isFormat 7 = .ok (.iconst 1, 1) := by decide +kernel
theorem dX5_isFormat_8 : decode cX5_isFormat 8 = .ok (.isub, 1) := by decide +kernel
theorem dX5_isFormat_9 : decode cX5_isFormat 9 = .ok (.i2l, 1) := by decide +kernel
theorem dX5_isFormat_10 : decode cX5_isFormat 10 = .ok (.invokestatic 70, 3) := by decide +kernel
theorem dX5_isFormat_13 : decode cX5_isFormat 13 = .ok (.ireturn, 1) := by decide +kernel
theorem dX5_bits_0 : decode cX5_bits 0 = .ok (.aload_n 0, 1) := by decide +kernel
theorem dX5_bits_1 : decode cX5_bits 1 = .ok (.getfield 7, 3) := by decide +kernel
theorem dX5_bits_4 : decode cX5_bits 4 = .ok (.iload_n 1, 1) := by decide +kernel
theorem dX5_bits_5 : decode cX5_bits 5 = .ok (.iaload, 1) := by decide +kernel
theorem dX5_bits_6 : decode cX5_bits 6 = .ok (.aload_n 0, 1) := by decide +kernel
theorem dX5_bits_7 : decode cX5_bits 7 = .ok (.getfield 13, 3) := by decide +kernel
theorem dX5_bits_10 : decode cX5_bits 10 = .ok (.iload_n 1, 1) := by decide +kernel
theorem dX5_bits_11 : decode cX5_bits 11 = .ok (.iaload, 1) := by decide +kernel
theorem dX5_bits_12 : decode cX5_bits 12 = .ok (.iadd, 1) := by decide +kernel
theorem dX5_bits_13 : decode cX5_bits 13 = .ok (.aload_n 0, 1) := by decide +kernel
theorem dX5_bits_14 : decode cX5_bits 14 = .ok (.getfield 16, 3) := by decide +kernel
theorem dX5_bits_17 : decode cX5_bits 17 = .ok (.iload_n 1, 1) := by decide +kernel
theorem dX5_bits_18 : decode cX5_bits 18 = .ok (.iaload, 1) := by decide +kernel
theorem dX5_bits_19 : decode cX5_bits 19 = .ok (.iadd, 1) := by decide +kernel
theorem dX5_bits_20 : decode cX5_bits 20 = .ok (.ireturn, 1) := by decide +kernel
theorem dX5_isCode_0 : decode cX5_isCode 0 = .ok (.iload_n 2, 1) := by decide +kernel
theorem dX5_isCode_1 : decode cX5_isCode 1 = .ok (.i2l, 1) := by decide +kernel
theorem dX5_isCode_2 : decode cX5_isCode 2 = .ok (.lconst 0, 1) := by decide +kernel
theorem dX5_isCode_3 : decode cX5_isCode 3 = .ok (.iconst 1, 1) := by decide +kernel
theorem dX5_isCode_4 : decode cX5_isCode 4 = .ok (.aload_n 0, 1) := by decide +kernel
theorem dX5_isCode_5 : decode cX5_isCode 5 = .ok (.iload_n 1, 1) := by decide +kernel
theorem dX5_isCode_6 : decode cX5_isCode 6 = .ok (.invokevirtual 74, 3) := by decide +kernel
theorem dX5_isCode_9 : decode cX5_isCode 9 = .ok (.ishl, 1) := by decide +kernel
theorem dX5_isCode_10 : decode cX5_isCode 10 = .ok (.iconst 1, 1) := by decide +kernel
theorem dX5_isCode_11 : decode cX5_isCode 11 = .ok (.isub, 1) := by decide +kernel
theorem dX5_isCode_12 : decode cX5_isCode 12 = .ok (.i2l, 1) := by decide +kernel
theorem dX5_isCode_13 : decode cX5_isCode 13 = .ok (.invokestatic 70, 3) := by decide +kernel
theorem dX5_isCode_16 : decode cX5_isCode 16 = .ok (.ireturn, 1) := by decide +kernel
theorem dX5_signBit_0 : decode cX5_signBit 0 = .ok (.iconst 1, 1) := by decide +kernel
theorem dX5_signBit_1 : decode cX5_signBit 1 = .ok (.aload_n 0, 1) := by decide +kernel
theorem dX5_signBit_2 : decode cX5_signBit 2 = .ok (.getfield 13, 3) := by decide +kernel
theorem dX5_signBit_5 : decode cX5_signBit 5 = .ok (.iload_n 1, 1) := by decide +kernel
theorem dX5_signBit_6 : decode cX5_signBit 6 = .ok (.iaload, 1) := by decide +kernel
theorem dX5_signBit_7 : decode cX5_signBit 7 = .ok (.aload_n 0, 1) := by decide +kernel
theorem dX5_signBit_8 : decode cX5_signBit 8 = .ok (.getfield 16, 3) := by decide +kernel
theorem dX5_signBit_11 : decode cX5_signBit 11 = .ok (.iload_n 1, 1) := by decide +kernel
theorem dX5_signBit_12 : decode cX5_signBit 12 = .ok (.iaload, 1) := by decide +kernel
theorem dX5_signBit_13 : decode cX5_signBit 13 = .ok (.iadd, 1) := by decide +kernel
theorem dX5_signBit_14 : decode cX5_signBit 14 = .ok (.ishl, 1) := by decide +kernel
theorem dX5_signBit_15 : decode cX5_signBit 15 = .ok (.ireturn, 1) := by decide +kernel
theorem dX5_isMinus_0 : decode cX5_isMinus 0 = .ok (.aload_n 0, 1) := by decide +kernel
theorem dX5_isMinus_1 : decode cX5_isMinus 1 = .ok (.getfield 7, 3) := by decide +kernel
theorem dX5_isMinus_4 : decode cX5_isMinus 4 = .ok (.iload_n 1, 1) := by decide +kernel
theorem dX5_isMinus_5 : decode cX5_isMinus 5 = .ok (.iaload, 1) := by decide +kernel
theorem dX5_isMinus_6 : decode cX5_isMinus 6 = .ok (.iconst 1, 1) := by decide +kernel
theorem dX5_isMinus_7 : decode cX5_isMinus 7 = .ok (.if_icmp .ne 17, 3) := by decide +kernel
theorem dX5_isMinus_10 : decode cX5_isMinus 10 = .ok (.iload_n 2, 1) := by decide +kernel
theorem dX5_isMinus_11 : decode cX5_isMinus 11 = .ok (.aload_n 0, 1) := by decide +kernel
theorem dX5_isMinus_12 : decode cX5_isMinus 12 = .ok (.iload_n 1, 1) := by decide +kernel
theorem dX5_isMinus_13 : decode cX5_isMinus 13 = .ok (.invokevirtual 77, 3) := by decide +kernel
theorem dX5_isMinus_16 : decode cX5_isMinus 16 = .ok (.iand, 1) := by decide +kernel
theorem dX5_isMinus_17 : decode cX5_isMinus 17 = .ok (.ifCond .eq 7, 3) := by decide +kernel
theorem dX5_isMinus_20 : decode cX5_isMinus 20 = .ok (.iconst 1, 1) := by decide +kernel
theorem dX5_isMinus_21 : decode cX5_isMinus 21 = .ok (.goto 4, 3) := by decide +kernel
theorem dX5_isMinus_24 : decode cX5_isMinus 24 = .ok (.iconst 0, 1) := by decide +kernel
theorem dX5_isMinus_25 : decode cX5_isMinus 25 = .ok (.ireturn, 1) := by decide +kernel
theorem dX5_plain_0 : decode cX5_plain 0 = .ok (.iload_n 2, 1) := by decide +kernel
theorem dX5_plain_1 : decode cX5_plain 1 = .ok (.aload_n 0, 1) := by decide +kernel
theorem dX5_plain_2 : decode cX5_plain 2 = .ok (.iload_n 1, 1) := by decide +kernel
theorem dX5_plain_3 : decode cX5_plain 3 = .ok (.invokevirtual 77, 3) := by decide +kernel
theorem dX5_plain_6 : decode cX5_plain 6 = .ok (.iconst 1, 1) := by decide +kernel
theorem dX5_plain_7 : decode cX5_plain 7 = .ok (.isub, 1) := by decide +kernel
theorem dX5_plain_8 : decode cX5_plain 8 = .ok (.iand, 1) := by decide +kernel
theorem dX5_plain_9 : decode cX5_plain 9 = .ok (.ireturn, 1) := by decide +kernel
theorem dX5_signed_0 : decode cX5_signed 0 = .ok (.aload_n 0, 1) := by decide +kernel
theorem dX5_signed_1 : decode cX5_signed 1 = .ok (.getfield 7, 3) := by decide +kernel
theorem dX5_signed_4 : decode cX5_signed 4 = .ok (.iload_n 1, 1) := by decide +kernel
theorem dX5_signed_5 : decode cX5_signed 5 = .ok (.iaload, 1) := by decide +kernel
theorem dX5_signed_6 : decode cX5_signed 6 = .ok (.iconst 1, 1) := by decide +kernel
theorem dX5_signed_7 : decode cX5_signed 7 = .ok (.if_icmp .ne 17, 3) := by decide +kernel
theorem dX5_signed_10 : decode cX5_signed 10 = .ok (.iload_n 3, 1) := by decide +kernel
theorem dX5_signed_11 : decode cX5_signed 11 = .ok (.ifCond .eq 13, 3) := by decide +kernel
theorem dX5_signed_14 : decode cX5_signed 14 = .ok (.iload_n 2, 1) := by decide +kernel
theorem dX5_signed_15 : decode cX5_signed 15 = .ok (.aload_n 0, 1) := by decide +kernel
theorem dX5_signed_16 : decode cX5_signed 16 = .ok (.iload_n 1, 1) := by decide +kernel
theorem dX5_signed_17 : decode cX5_signed 17 = .ok (.invokevirtual 77, 3) := by decide +kernel
theorem dX5_signed_20 : decode cX5_signed 20 = .ok (.ior, 1) := by decide +kernel
theorem dX5_signed_21 : decode cX5_signed 21 = .ok (.goto 4, 3) := by decide +kernel
theorem dX5_signed_24 : decode cX5_signed 24 = .ok (.iload_n 2, 1) := by decide +kernel
theorem dX5_signed_25 : decode cX5_signed 25 = .ok (.ireturn, 1) := by decide +kernel
theorem dX5_allOnes_0 : decode cX5_allOnes 0 = .ok (.iconst 1, 1) := by decide +kernel
theorem dX5_allOnes_1 : decode cX5_allOnes 1 = .ok (.aload_n 0, 1) := by decide +kernel
theorem dX5_allOnes_2 : decode cX5_allOnes 2 = .ok (.getfield 13, 3) := by decide +kernel
theorem dX5_allOnes_5 : decode cX5_allOnes 5 = .ok (.iload_n 1, 1) := by decide +kernel
theorem dX5_allOnes_6 : decode cX5_allOnes 6 = .ok (.iaload, 1) := by decide +kernel
theorem dX5_allOnes_7 : decode cX5_allOnes 7 = .ok (.ishl, 1) := by decide +kernel
theorem dX5_allOnes_8 : decode cX5_allOnes 8 = .ok (.iconst 1, 1) := by decide +kernel
theorem dX5_allOnes_9 : decode cX5_allOnes 9 = .ok (.isub, 1) := by decide +kernel
theorem dX5_allOnes_10 : decode cX5_allOnes 10 = .ok (.ireturn, 1) := by decide +kernel
theorem dX5_kindOf_0 : decode cX5_kindOf 0 = .ok (.aload_n 0, 1) := by decide +kernel
theorem dX5_kindOf_1 : decode cX5_kindOf 1 = .ok (.iload_n 1, 1) := by decide +kernel
theorem dX5_kindOf_2 : decode cX5_kindOf 2 = .ok (.iload_n 2, 1) := by decide +kernel
theorem dX5_kindOf_3 : decode cX5_kindOf 3 = .ok (.invokevirtual 80, 3) := by decide +kernel
theorem dX5_kindOf_6 : decode cX5_kindOf 6 = .ok (.aload_n 0, 1) := by decide +kernel
theorem dX5_kindOf_7 : decode cX5_kindOf 7 = .ok (.getfield 16, 3) := by decide +kernel
theorem dX5_kindOf_10 : decode cX5_kindOf 10 = .ok (.iload_n 1, 1) := by decide +kernel
theorem dX5_kindOf_11 : decode cX5_kindOf 11 = .ok (.iaload, 1) := by decide +kernel
theorem dX5_kindOf_12 : decode cX5_kindOf 12 = .ok (.ishr, 1) := by decide +kernel
theorem dX5_kindOf_13 : decode cX5_kindOf 13 = .ok (.istore_n 3, 1) := by decide +kernel
theorem dX5_kindOf_14 : decode cX5_kindOf 14 = .ok (.iload_n 2, 1) := by decide +kernel
theorem dX5_kindOf_15 : decode cX5_kindOf 15 = .ok (.iconst 1, 1) := by decide +kernel
theorem dX5_kindOf_16 : decode cX5_kindOf 16 = .ok (.aload_n 0, 1) := by decide +kernel
theorem dX5_kindOf_17 : decode cX5_kindOf 17 = .ok (.getfield 16, 3) := by decide +kernel
theorem dX5_kindOf_20 : decode cX5_kindOf 20 = .ok (.iload_n 1, 1) := by decide +kernel
theorem dX5_kindOf_21 : decode cX5_kindOf 21 = .ok (.iaload, 1) := by decide +kernel
theorem dX5_kindOf_22 : decode cX5_kindOf 22 = .ok (.ishl, 1) := by decide +kernel
theorem dX5_kindOf_23 : decode cX5_kindOf 23 = .ok (.iconst 1, 1) := by decide +kernel
theorem dX5_kindOf_24 : decode cX5_kindOf 24 = .ok (.isub, 1) := by decide +kernel
theorem dX5_kindOf_25 : decode cX5_kindOf 25 = .ok (.iand, 1) := by decide +kernel
theorem dX5_kindOf_26 : decode cX5_kindOf 26 = .ok (.istore 4, 2) := by decide +kernel
theorem dX5_kindOf_28 : decode cX5_kindOf 28 = .ok (.aload_n 0, 1) := by decide +kernel
theorem dX5_kindOf_29 : decode cX5_kindOf 29 = .ok (.getfield 26, 3) := by decide +kernel
theorem dX5_kindOf_32 : decode cX5_kindOf 32 = .ok (.iload_n 1, 1) := by decide +kernel
theorem dX5_kindOf_33 : decode cX5_kindOf 33 = .ok (.iaload, 1) := by decide +kernel
theorem dX5_kindOf_34 : decode cX5_kindOf 34 = .ok (.ifCond .ne 23, 3) := by decide +kernel
theorem dX5_kindOf_37 : decode cX5_kindOf 37 = .ok (.iload_n 3, 1) := by decide +kernel
theorem dX5_kindOf_38 : decode cX5_kindOf 38 = .ok (.aload_n 0, 1) := by decide +kernel
theorem dX5_kindOf_39 : decode cX5_kindOf 39 = .ok (.iload_n 1, 1) := by decide +kernel
theorem dX5_kindOf_40 : decode cX5_kindOf 40 = .ok (.invokevirtual 84, 3) := by decide +kernel
theorem dX5_kindOf_43 : decode cX5_kindOf 43 = .ok (.if_icmp .ne 14, 3) := by decide +kernel
theorem dX5_kindOf_46 : decode cX5_kindOf 46 = .ok (.iload 4, 2) := by decide +kernel
theorem dX5_kindOf_48 : decode cX5_kindOf 48 = .ok (.ifCond .ne 7, 3) := by decide +kernel
theorem dX5_kindOf_51 : decode cX5_kindOf 51 = .ok (.iconst 3, 1) := by decide +kernel
theorem dX5_kindOf_52 : decode cX5_kindOf 52 = .ok (.goto 4, 3) := by decide +kernel
theorem dX5_kindOf_55 : decode cX5_kindOf 55 = .ok (.iconst 4, 1) := by decide +kernel
theorem dX5_kindOf_56 : decode cX5_kindOf 56 = .ok (.ireturn, 1) := by decide +kernel
theorem dX5_kindOf_57 : decode cX5_kindOf 57 = .ok (.aload_n 0, 1) := by decide +kernel
theorem dX5_kindOf_58 : decode cX5_kindOf 58 = .ok (.getfield 26, 3) := by decide +kernel
theorem dX5_kindOf_61 : decode cX5_kindOf 61 = .ok (.iload_n 1, 1) := by decide +kernel
theorem dX5_kindOf_62 : decode cX5_kindOf 62 = .ok (.iaload, 1) := by decide +kernel
theorem dX5_kindOf_63 : decode cX5_kindOf 63 = .ok (.iconst 1, 1) := by decide +kernel
theorem dX5_kindOf_64 : decode cX5_kindOf 64 = .ok (.if_icmp .ne 21, 3) := by decide +kernel
theorem dX5_kindOf_67 : decode cX5_kindOf 67 = .ok (.aload_n 0, 1) := by decide +kernel
theorem dX5_kindOf_68 : decode cX5_kindOf 68 = .ok (.iload_n 1, 1) := by decide +kernel
theorem dX5_kindOf_69 : decode cX5_kindOf 69 = .ok (.iload_n 2, 1) := by decide +kernel
theorem dX5_kindOf_70 : decode cX5_kindOf 70 = .ok (.invokevirtual 80, 3) := by decide +kernel
theorem dX5_kindOf_73 : decode cX5_kindOf 73 = .ok (.aload_n 0, 1) := by decide +kernel
theorem dX5_kindOf_74 : decode cX5_kindOf 74 = .ok (.iload_n 1, 1) := by decide +kernel
theorem dX5_kindOf_75 : decode cX5_kindOf 75 = .ok (.invokevirtual 77, 3) := by decide +kernel
theorem dX5_kindOf_78 : decode cX5_kindOf 78 = .ok (.iconst 1, 1) := by decide +kernel
theorem dX5_kindOf_79 : decode cX5_kindOf 79 = .ok (.isub, 1) := by decide +kernel
theorem dX5_kindOf_80 : decode cX5_kindOf 80 = .ok (.if_icmp .ne 5, 3) := by decide +kernel
theorem dX5_kindOf_83 : decode cX5_kindOf 83 = .ok (.iconst 4, 1) := by decide +kernel
theorem dX5_kindOf_84 : decode cX5_kindOf 84 = .ok (.ireturn, 1) := by decide +kernel
theorem dX5_kindOf_85 : decode cX5_kindOf 85 = .ok (.aload_n 0, 1) := by decide +kernel
theorem dX5_kindOf_86 : decode cX5_kindOf 86 = .ok (.iload_n 1, 1) := by decide +kernel
theorem dX5_kindOf_87 : decode cX5_kindOf 87 = .ok (.iload_n 2, 1) := by decide +kernel
theorem dX5_kindOf_88 : decode cX5_kindOf 88 = .ok (.invokevirtual 80, 3) := by decide +kernel
theorem dX5_kindOf_91 : decode cX5_kindOf 91 = .ok (.ifCond .ne 5, 3) := by decide +kernel
theorem dX5_kindOf_94 : decode cX5_kindOf 94 = .ok (.iconst 0, 1) := by decide +kernel
theorem dX5_kindOf_95 : decode cX5_kindOf 95 = .ok (.ireturn, 1) := by decide +kernel
theorem dX5_kindOf_96 : decode cX5_kindOf 96 = .ok (.iload_n 3, 1) := by decide +kernel
theorem dX5_kindOf_97 : decode cX5_kindOf 97 = .ok (.ifCond .ne 16, 3) := by decide +kernel
theorem dX5_kindOf_100 : decode cX5_kindOf 100 = .ok (.aload_n 0, 1) := by decide +kernel
theorem dX5_kindOf_101 : decode cX5_kindOf 101 = .ok (.getfield 22, 3) := by decide +kernel
theorem dX5_kindOf_104 : decode cX5_kindOf 104 = .ok (.iload_n 1, 1) := by decide +kernel
theorem dX5_kindOf_105 : decode cX5_kindOf 105 = .ok (.baload, 1) := by decide +kernel
theorem dX5_kindOf_106 : decode cX5_kindOf 106 = .ok (.ifCond .eq 7, 3) := by decide +kernel
theorem dX5_kindOf_109 : decode cX5_kindOf 109 = .ok (.iconst 1, 1) := by decide +kernel
theorem dX5_kindOf_110 : decode cX5_kindOf 110 = .ok (.goto 4, 3) := by decide +kernel
theorem dX5_kindOf_113 : decode cX5_kindOf 113 = .ok (.iconst 2, 1) := by decide +kernel
theorem dX5_kindOf_114 : decode cX5_kindOf 114 = .ok (.ireturn, 1) := by decide +kernel
theorem dX5_isNumber_0 : decode cX5_isNumber 0 = .ok (.aload_n 0, 1) := by decide +kernel
theorem dX5_isNumber_1 : decode cX5_isNumber 1 = .ok (.iload_n 1, 1) := by decide +kernel
theorem dX5_isNumber_2 : decode cX5_isNumber 2 = .ok (.iload_n 2, 1) := by decide +kernel
theorem dX5_isNumber_3 : decode cX5_isNumber 3 = .ok (.invokevirtual 87, 3) := by decide +kernel
theorem dX5_isNumber_6 : decode cX5_isNumber 6 = .ok (.iconst 3, 1) := by decide +kernel
theorem dX5_isNumber_7 : decode cX5_isNumber 7 = .ok (.if_icmp .ge 7, 3) := by decide +kernel
theorem dX5_isNumber_10 : decode cX5_isNumber 10 = .ok (.iconst 1, 1) := by decide +kernel
theorem dX5_isNumber_11 : decode cX5_isNumber 11 = .ok (.goto 4, 3) := by decide +kernel
theorem dX5_isNumber_14 : decode cX5_isNumber 14 = .ok (.iconst 0, 1) := by decide +kernel
theorem dX5_isNumber_15 : decode cX5_isNumber 15 = .ok (.ireturn, 1) := by decide +kernel
theorem dX5_size_0 : decode cX5_size 0 = .ok (.iload_n 2, 1) := by decide +kernel
theorem dX5_size_1 : decode cX5_size 1 = .ok (.aload_n 0, 1) := by decide +kernel
theorem dX5_size_2 : decode cX5_size 2 = .ok (.getfield 16, 3) := by decide +kernel
theorem dX5_size_5 : decode cX5_size 5 = .ok (.iload_n 1, 1) := by decide +kernel
theorem dX5_size_6 : decode cX5_size 6 = .ok (.iaload, 1) := by decide +kernel
theorem dX5_size_7 : decode cX5_size 7 = .ok (.ishr, 1) := by decide +kernel
theorem dX5_size_8 : decode cX5_size 8 = .ok (.istore_n 3, 1) := by decide +kernel
theorem dX5_size_9 : decode cX5_size 9 = .ok (.iload_n 2, 1) := by decide +kernel
theorem dX5_size_10 : decode cX5_size 10 = .ok (.iconst 1, 1) := by decide +kernel
theorem dX5_size_11 : decode cX5_size 11 = .ok (.aload_n 0, 1) := by decide +kernel
theorem dX5_size_12 : decode cX5_size 12 = .ok (.getfield 16, 3) := by decide +kernel
theorem dX5_size_15 : decode cX5_size 15 = .ok (.iload_n 1, 1) := by decide +kernel
theorem dX5_size_16 : decode cX5_size 16 = .ok (.iaload, 1) := by decide +kernel
theorem dX5_size_17 : decode cX5_size 17 = .ok (.ishl, 1) := by decide +kernel
theorem dX5_size_18 : decode cX5_size 18 = .ok (.iconst 1, 1) := by decide +kernel
theorem dX5_size_19 : decode cX5_size 19 = .ok (.isub, 1) := by decide +kernel
theorem dX5_size_20 : decode cX5_size 20 = .ok (.iand, 1) := by decide +kernel
theorem dX5_size_21 : decode cX5_size 21 = .ok (.i2l, 1) := by decide +kernel
theorem dX5_size_22 : decode cX5_size 22 = .ok (.lstore 4, 2) := by decide +kernel
theorem dX5_size_24 : decode cX5_size 24 = .ok (.iload_n 2, 1) := by decide +kernel
theorem dX5_size_25 : decode cX5_size 25 = .ok (.ifCond .ne 5, 3) := by decide +kernel
theorem dX5_size_28 : decode cX5_size 28 = .ok (.lconst 0, 1) := by decide +kernel
theorem dX5_size_29 : decode cX5_size 29 = .ok (.lreturn, 1) := by decide +kernel
theorem dX5_size_30 : decode cX5_size 30 = .ok (.iload_n 3, 1) := by decide +kernel
theorem dX5_size_31 : decode cX5_size 31 = .ok (.ifCond .ne 21, 3) := by decide +kernel
theorem dX5_size_34 : decode cX5_size 34 = .ok (.aload_n 0, 1) := by decide +kernel
theorem dX5_size_35 : decode cX5_size 35 = .ok (.getfield 22, 3) := by decide +kernel
theorem dX5_size_38 : decode cX5_size 38 = .ok (.iload_n 1, 1) := by decide +kernel
theorem dX5_size_39 : decode cX5_size 39 = .ok (.baload, 1) := by decide +kernel
theorem dX5_size_40 : decode cX5_size 40 = .ok (.ifCond .eq 12, 3) := by decide +kernel
theorem dX5_size_43 : decode cX5_size 43 = .ok (.ldc2_w 90, 3) := by decide +kernel
theorem dX5_size_46 : decode cX5_size 46 = .ok (.lload 4, 2) := by decide +kernel
theorem dX5_size_48 : decode cX5_size 48 = .ok (.lmul, 1) := by decide +kernel
theorem dX5_size_49 : decode cX5_size 49 = .ok (.goto 16, 3) := by decide +kernel
theorem dX5_size_52 : decode cX5_size 52 = .ok (.lconst 1, 1) := by decide +kernel
theorem dX5_size_53 : decode cX5_size 53 = .ok (.aload_n 0, 1) := by decide +kernel
theorem dX5_size_54 : decode cX5_size 54 = .ok (.getfield 16, 3) := by decide +kernel
theorem dX5_size_57 : decode cX5_size 57 = .ok (.iload_n 1, 1) := by decide +kernel
theorem dX5_size_58 : decode cX5_size 58 = .ok (.iaload, 1) := by decide +kernel
theorem dX5_size_59 : decode cX5_size 59 = .ok (.lshl, 1) := by decide +kernel
theorem dX5_size_60 : decode cX5_size 60 = .ok (.lload 4, 2) := by decide +kernel
theorem dX5_size_62 : decode cX5_size 62 = .ok (.ladd, 1) := by decide +kernel
theorem dX5_size_63 : decode cX5_size 63 = .ok (.iload_n 3, 1) := by decide +kernel
theorem dX5_size_64 : decode cX5_size 64 = .ok (.lshl, 1) := by decide +kernel
theorem dX5_size_65 : decode cX5_size 65 = .ok (.lreturn, 1) := by decide +kernel
theorem dX5_unitsOf_0 : decode cX5_unitsOf 0 = .ok (.aload_n 0, 1) := by decide +kernel
theorem dX5_unitsOf_1 : decode cX5_unitsOf 1 = .ok (.iload_n 1, 1) := by decide +kernel
theorem dX5_unitsOf_2 : decode cX5_unitsOf 2 = .ok (.aload_n 0, 1) := by decide +kernel
theorem dX5_unitsOf_3 : decode cX5_unitsOf 3 = .ok (.iload_n 1, 1) := by decide +kernel
theorem dX5_unitsOf_4 : decode cX5_unitsOf 4 = .ok (.iload_n 2, 1) := by decide +kernel
theorem dX5_unitsOf_5 : decode cX5_unitsOf 5 = .ok (.invokevirtual 80, 3) := by decide +kernel
theorem dX5_unitsOf_8 : decode cX5_unitsOf 8 = .ok (.invokevirtual 92, 3) := by decide +kernel
theorem dX5_unitsOf_11 : decode cX5_unitsOf 11 = .ok (.lstore_n 3, 1) := by decide +kernel
theorem dX5_unitsOf_12 : decode cX5_unitsOf 12 = .ok (.aload_n 0, 1) := by decide +kernel
theorem dX5_unitsOf_13 : decode cX5_unitsOf 13 = .ok (.iload_n 1, 1) := by decide +kernel
theorem dX5_unitsOf_14 : decode cX5_unitsOf 14 = .ok (.iload_n 2, 1) := by decide +kernel
theorem dX5_unitsOf_15 : decode cX5_unitsOf 15 = .ok (.invokevirtual 96, 3) := by decide +kernel
theorem dX5_unitsOf_18 : decode cX5_unitsOf 18 = .ok (.ifCond .eq 8, 3) := by decide +kernel
theorem dX5_unitsOf_21 : decode cX5_unitsOf 21 = .ok (.lload_n 3, 1) := by decide +kernel
theorem dX5_unitsOf_22 : decode cX5_unitsOf 22 = .ok (.lneg, 1) := by decide +kernel
theorem dX5_unitsOf_23 : decode cX5_unitsOf 23 = .ok (.goto 4, 3) := by decide +kernel
theorem dX5_unitsOf_26 : decode cX5_unitsOf 26 = .ok (.lload_n 3, 1) := by decide +kernel
theorem dX5_unitsOf_27 : decode cX5_unitsOf 27 = .ok (.lreturn, 1) := by decide +kernel
theorem dX5_great_0 : decode cX5_great 0 = .ok (.aload_n 0, 1) := by decide +kernel
theorem dX5_great_1 : decode cX5_great 1 = .ok (.getfield 26, 3) := by decide +kernel
theorem dX5_great_4 : decode cX5_great 4 = .ok (.iload_n 1, 1) := by decide +kernel
theorem dX5_great_5 : decode cX5_great 5 = .ok (.iaload, 1) := by decide +kernel
theorem dX5_great_6 : decode cX5_great 6 = .ok (.ifCond .ne 20, 3) := by decide +kernel
theorem dX5_great_9 : decode cX5_great 9 = .ok (.aload_n 0, 1) := by decide +kernel
theorem dX5_great_10 : decode cX5_great 10 = .ok (.iload_n 1, 1) := by decide +kernel
theorem dX5_great_11 : decode cX5_great 11 = .ok (.invokevirtual 84, 3) := by decide +kernel
theorem dX5_great_14 : decode cX5_great 14 = .ok (.aload_n 0, 1) := by decide +kernel
theorem dX5_great_15 : decode cX5_great 15 = .ok (.getfield 16, 3) := by decide +kernel
theorem dX5_great_18 : decode cX5_great 18 = .ok (.iload_n 1, 1) := by decide +kernel
theorem dX5_great_19 : decode cX5_great 19 = .ok (.iaload, 1) := by decide +kernel
theorem dX5_great_20 : decode cX5_great 20 = .ok (.ishl, 1) := by decide +kernel
theorem dX5_great_21 : decode cX5_great 21 = .ok (.iconst 1, 1) := by decide +kernel
theorem dX5_great_22 : decode cX5_great 22 = .ok (.isub, 1) := by decide +kernel
theorem dX5_great_23 : decode cX5_great 23 = .ok (.goto 24, 3) := by decide +kernel
theorem dX5_great_26 : decode cX5_great 26 = .ok (.aload_n 0, 1) := by decide +kernel
theorem dX5_great_27 : decode cX5_great 27 = .ok (.iload_n 1, 1) := by decide +kernel
theorem dX5_great_28 : decode cX5_great 28 = .ok (.invokevirtual 77, 3) := by decide +kernel
theorem dX5_great_31 : decode cX5_great 31 = .ok (.aload_n 0, 1) := by decide +kernel
theorem dX5_great_32 : decode cX5_great 32 = .ok (.getfield 26, 3) := by decide +kernel
theorem dX5_great_35 : decode cX5_great 35 = .ok (.iload_n 1, 1) := by decide +kernel
theorem dX5_great_36 : decode cX5_great 36 = .ok (.iaload, 1) := by decide +kernel
theorem dX5_great_37 : decode cX5_great 37 = .ok (.iconst 1, 1) := by decide +kernel
theorem dX5_great_38 : decode cX5_great 38 = .ok (.if_icmp .ne 7, 3) := by decide +kernel
theorem dX5_great_41 : decode cX5_great 41 = .ok (.iconst 2, 1) := by decide +kernel
theorem dX5_great_42 : decode cX5_great 42 = .ok (.goto 4, 3) := by decide +kernel
theorem dX5_great_45 : decode cX5_great 45 = .ok (.iconst 1, 1) := by decide +kernel
theorem dX5_great_46 : decode cX5_great 46 = .ok (.isub, 1) := by decide +kernel
theorem dX5_great_47 : decode cX5_great 47 = .ok (.ireturn, 1) := by decide +kernel
theorem dX5_last_0 : decode cX5_last 0 = .ok (.aload_n 0, 1) := by decide +kernel
theorem dX5_last_1 : decode cX5_last 1 = .ok (.iload_n 1, 1) := by decide +kernel
theorem dX5_last_2 : decode cX5_last 2 = .ok (.invokevirtual 100, 3) := by decide +kernel
theorem dX5_last_5 : decode cX5_last 5 = .ok (.ifCond .le 13, 3) := by decide +kernel
theorem dX5_last_8 : decode cX5_last 8 = .ok (.aload_n 0, 1) := by decide +kernel
theorem dX5_last_9 : decode cX5_last 9 = .ok (.iload_n 1, 1) := by decide +kernel
theorem dX5_last_10 : decode cX5_last 10 = .ok (.invokevirtual 100, 3) := by decide +kernel
theorem dX5_last_13 : decode cX5_last 13 = .ok (.iconst 1, 1) := by decide +kernel
theorem dX5_last_14 : decode cX5_last 14 = .ok (.isub, 1) := by decide +kernel
theorem dX5_last_15 : decode cX5_last 15 = .ok (.goto 4, 3) := by decide +kernel
theorem dX5_last_18 : decode cX5_last 18 = .ok (.iconst 0, 1) := by decide +kernel
theorem dX5_last_19 : decode cX5_last 19 = .ok (.ireturn, 1) := by decide +kernel
theorem dX5_noneOf_0 : decode cX5_noneOf 0 = .ok (.aload_n 0, 1) := by decide +kernel
theorem dX5_noneOf_1 : decode cX5_noneOf 1 = .ok (.getfield 26, 3) := by decide +kernel
theorem dX5_noneOf_4 : decode cX5_noneOf 4 = .ok (.iload_n 1, 1) := by decide +kernel
theorem dX5_noneOf_5 : decode cX5_noneOf 5 = .ok (.iaload, 1) := by decide +kernel
theorem dX5_noneOf_6 : decode cX5_noneOf 6 = .ok (.ifCond .ne 41, 3) := by decide +kernel
theorem dX5_noneOf_9 : decode cX5_noneOf 9 = .ok (.aload_n 0, 1) := by decide +kernel
theorem dX5_noneOf_10 : decode cX5_noneOf 10 = .ok (.getfield 16, 3) := by decide +kernel
theorem dX5_noneOf_13 : decode cX5_noneOf 13 = .ok (.iload_n 1, 1) := by decide +kernel
theorem dX5_noneOf_14 : decode cX5_noneOf 14 = .ok (.iaload, 1) := by decide +kernel
theorem dX5_noneOf_15 : decode cX5_noneOf 15 = .ok (.ifCond .ne 8, 3) := by decide +kernel
theorem dX5_noneOf_18 : decode cX5_noneOf 18 = .ok (.bipush (-9), 2) := by decide +kernel
theorem dX5_noneOf_20 : decode cX5_noneOf 20 = .ok (.goto 26, 3) := by decide +kernel
theorem dX5_noneOf_23 : decode cX5_noneOf 23 = .ok (.aload_n 0, 1) := by decide +kernel
theorem dX5_noneOf_24 : decode cX5_noneOf 24 = .ok (.iload_n 1, 1) := by decide +kernel
theorem dX5_noneOf_25 : decode cX5_noneOf 25 = .ok (.invokevirtual 84, 3) := by decide +kernel
theorem dX5_noneOf_28 : decode cX5_noneOf 28 = .ok (.aload_n 0, 1) := by decide +kernel
theorem dX5_noneOf_29 : decode cX5_noneOf 29 = .ok (.getfield 16, 3) := by decide +kernel
theorem dX5_noneOf_32 : decode cX5_noneOf 32 = .ok (.iload_n 1, 1) := by decide +kernel
theorem dX5_noneOf_33 : decode cX5_noneOf 33 = .ok (.iaload, 1) := by decide +kernel
theorem dX5_noneOf_34 : decode cX5_noneOf 34 = .ok (.ishl, 1) := by decide +kernel
theorem dX5_noneOf_35 : decode cX5_noneOf 35 = .ok (.iconst 1, 1) := by decide +kernel
theorem dX5_noneOf_36 : decode cX5_noneOf 36 = .ok (.aload_n 0, 1) := by decide +kernel
theorem dX5_noneOf_37 : decode cX5_noneOf 37 = .ok (.getfield 16, 3) := by decide +kernel
theorem dX5_noneOf_40 : decode cX5_noneOf 40 = .ok (.iload_n 1, 1) := by decide +kernel
theorem dX5_noneOf_41 : decode cX5_noneOf 41 = .ok (.iaload, 1) := by decide +kernel
theorem dX5_noneOf_42 : decode cX5_noneOf 42 = .ok (.iconst 1, 1) := by decide +kernel
theorem dX5_noneOf_43 : decode cX5_noneOf 43 = .ok (.isub, 1) := by decide +kernel
theorem dX5_noneOf_44 : decode cX5_noneOf 44 = .ok (.ishl, 1) := by decide +kernel
theorem dX5_noneOf_45 : decode cX5_noneOf 45 = .ok (.ior, 1) := by decide +kernel
theorem dX5_noneOf_46 : decode cX5_noneOf 46 = .ok (.ireturn, 1) := by decide +kernel
theorem dX5_noneOf_47 : decode cX5_noneOf 47 = .ok (.aload_n 0, 1) := by decide +kernel
theorem dX5_noneOf_48 : decode cX5_noneOf 48 = .ok (.getfield 26, 3) := by decide +kernel
theorem dX5_noneOf_51 : decode cX5_noneOf 51 = .ok (.iload_n 1, 1) := by decide +kernel
theorem dX5_noneOf_52 : decode cX5_noneOf 52 = .ok (.iaload, 1) := by decide +kernel
theorem dX5_noneOf_53 : decode cX5_noneOf 53 = .ok (.iconst 1, 1) := by decide +kernel
theorem dX5_noneOf_54 : decode cX5_noneOf 54 = .ok (.if_icmp .ne 13, 3) := by decide +kernel
theorem dX5_noneOf_57 : decode cX5_noneOf 57 = .ok (.aload_n 0, 1) := by decide +kernel
theorem dX5_noneOf_58 : decode cX5_noneOf 58 = .ok (.iload_n 1, 1) := by decide +kernel
theorem dX5_noneOf_59 : decode cX5_noneOf 59 = .ok (.invokevirtual 77, 3) := by decide +kernel
theorem dX5_noneOf_62 : decode cX5_noneOf 62 = .ok (.iconst 1, 1) := by decide +kernel
theorem dX5_noneOf_63 : decode cX5_noneOf 63 = .ok (.isub, 1) := by decide +kernel
theorem dX5_noneOf_64 : decode cX5_noneOf 64 = .ok (.goto 5, 3) := by decide +kernel
theorem dX5_noneOf_67 : decode cX5_noneOf 67 = .ok (.bipush (-9), 2) := by decide +kernel
theorem dX5_noneOf_69 : decode cX5_noneOf 69 = .ok (.ireturn, 1) := by decide +kernel
theorem dX5_endless_0 : decode cX5_endless 0 = .ok (.aload_n 0, 1) := by decide +kernel
theorem dX5_endless_1 : decode cX5_endless 1 = .ok (.getfield 26, 3) := by decide +kernel
theorem dX5_endless_4 : decode cX5_endless 4 = .ok (.iload_n 1, 1) := by decide +kernel
theorem dX5_endless_5 : decode cX5_endless 5 = .ok (.iaload, 1) := by decide +kernel
theorem dX5_endless_6 : decode cX5_endless 6 = .ok (.ifCond .ne 18, 3) := by decide +kernel
theorem dX5_endless_9 : decode cX5_endless 9 = .ok (.aload_n 0, 1) := by decide +kernel
theorem dX5_endless_10 : decode cX5_endless 10 = .ok (.iload_n 1, 1) := by decide +kernel
theorem dX5_endless_11 : decode cX5_endless 11 = .ok (.invokevirtual 84, 3) := by decide +kernel
theorem dX5_endless_14 : decode cX5_endless 14 = .ok (.aload_n 0, 1) := by decide +kernel
theorem dX5_endless_15 : decode cX5_endless 15 = .ok (.getfield 16, 3) := by decide +kernel
theorem dX5_endless_18 : decode cX5_endless 18 = .ok (.iload_n 1, 1) := by decide +kernel
theorem dX5_endless_19 : decode cX5_endless 19 = .ok (.iaload, 1) := by decide +kernel
theorem dX5_endless_20 : decode cX5_endless 20 = .ok (.ishl, 1) := by decide +kernel
theorem dX5_endless_21 : decode cX5_endless 21 = .ok (.goto 5, 3) := by decide +kernel
theorem dX5_endless_24 : decode cX5_endless 24 = .ok (.bipush (-9), 2) := by decide +kernel
theorem dX5_endless_26 : decode cX5_endless 26 = .ok (.ireturn, 1) := by decide +kernel
theorem dX5_scale_0 : decode cX5_scale 0 = .ok (.aload_n 0, 1) := by decide +kernel
theorem dX5_scale_1 : decode cX5_scale 1 = .ok (.getfield 19, 3) := by decide +kernel
theorem dX5_scale_4 : decode cX5_scale 4 = .ok (.iload_n 1, 1) := by decide +kernel
theorem dX5_scale_5 : decode cX5_scale 5 = .ok (.iaload, 1) := by decide +kernel
theorem dX5_scale_6 : decode cX5_scale 6 = .ok (.aload_n 0, 1) := by decide +kernel
theorem dX5_scale_7 : decode cX5_scale 7 = .ok (.getfield 16, 3) := by decide +kernel
theorem dX5_scale_10 : decode cX5_scale 10 = .ok (.iload_n 1, 1) := by decide +kernel
theorem dX5_scale_11 : decode cX5_scale 11 = .ok (.iaload, 1) := by decide +kernel
theorem dX5_scale_12 : decode cX5_scale 12 = .ok (.iadd, 1) := by decide +kernel
theorem dX5_scale_13 : decode cX5_scale 13 = .ok (.ireturn, 1) := by decide +kernel
theorem dX5_format_0 : decode cX5_format 0 = .ok (.iload_n 1, 1) := by decide +kernel
theorem dX5_format_1 : decode cX5_format 1 = .ok (.i2l, 1) := by decide +kernel
theorem dX5_format_2 : decode cX5_format 2 = .ok (.lconst 0, 1) := by decide +kernel
theorem dX5_format_3 : decode cX5_format 3 = .ok (.lconst 1, 1) := by decide +kernel
theorem dX5_format_4 : decode cX5_format 4 = .ok (.invokestatic 70, 3) := by decide +kernel
theorem dX5_format_7 : decode cX5_format 7 = .ok (.ifCond .eq 62, 3) := by decide +kernel
theorem dX5_format_10 : decode cX5_format 10 = .ok (.iload_n 2, 1) := by decide +kernel
theorem dX5_format_11 : decode cX5_format 11 = .ok (.i2l, 1) := by decide +kernel
theorem dX5_format_12 : decode cX5_format 12 = .ok (.lconst 1, 1) := by decide +kernel
theorem dX5_format_13 : decode cX5_format 13 = .ok (.ldc2_w 103, 3) := by decide +kernel
theorem dX5_format_16 : decode cX5_format 16 = .ok (.invokestatic 70, 3) := by decide +kernel
theorem dX5_format_19 : decode cX5_format 19 = .ok (.ifCond .eq 50, 3) := by decide +kernel
theorem dX5_format_22 : decode cX5_format 22 = .ok (.iload_n 3, 1) := by decide +kernel
theorem dX5_format_23 : decode cX5_format 23 = .ok (.i2l, 1) := by decide +kernel
theorem dX5_format_24 : decode cX5_format 24 = .ok (.lconst 0, 1) := by decide +kernel
theorem dX5_format_25 : decode cX5_format 25 = .ok (.ldc2_w 105, 3) := by decide +kernel
theorem dX5_format_28 : decode cX5_format 28 = .ok (.invokestatic 70, 3) := by decide +kernel
theorem dX5_format_31 : decode cX5_format 31 = .ok (.ifCond .eq 38, 3) := by decide +kernel
theorem dX5_format_34 : decode cX5_format 34 = .ok (.iload 4, 2) := by decide +kernel
theorem dX5_format_36 : decode cX5_format 36 = .ok (.i2l, 1) := by decide +kernel
theorem dX5_format_37 : decode cX5_format 37 = .ok (.lconst 0, 1) := by decide +kernel
theorem dX5_format_38 : decode cX5_format 38 = .ok (.ldc2_w 107, 3) := by decide +kernel
theorem dX5_format_41 : decode cX5_format 41 = .ok (.invokestatic 70, 3) := by decide +kernel
theorem dX5_format_44 : decode cX5_format 44 = .ok (.ifCond .eq 25, 3) := by decide +kernel
theorem dX5_format_47 : decode cX5_format 47 = .ok (.iload 6, 2) := by decide +kernel
theorem dX5_format_49 : decode cX5_format 49 = .ok (.i2l, 1) := by decide +kernel
theorem dX5_format_50 : decode cX5_format 50 = .ok (.lconst 0, 1) := by decide +kernel
theorem dX5_format_51 : decode cX5_format 51 = .ok (.ldc2_w 90, 3) := by decide +kernel
theorem dX5_format_54 : decode cX5_format 54 = .ok (.invokestatic 70, 3) := by decide +kernel
theorem dX5_format_57 : decode cX5_format 57 = .ok (.ifCond .eq 12, 3) := by decide +kernel
theorem dX5_format_60 : decode cX5_format 60 = .ok (.iload_n 1, 1) := by decide +kernel
theorem dX5_format_61 : decode cX5_format 61 = .ok (.iload_n 2, 1) := by decide +kernel
theorem dX5_format_62 : decode cX5_format 62 = .ok (.iadd, 1) := by decide +kernel
theorem dX5_format_63 : decode cX5_format 63 = .ok (.iload_n 3, 1) := by decide +kernel
theorem dX5_format_64 : decode cX5_format 64 = .ok (.iadd, 1) := by decide +kernel
theorem dX5_format_65 : decode cX5_format 65 = .ok (.iconst 3, 1) := by decide +kernel
theorem dX5_format_66 : decode cX5_format 66 = .ok (.if_icmp .ge 9, 3) := by decide +kernel
theorem dX5_format_69 : decode cX5_format 69 = .ok (.aload_n 0, 1) := by decide +kernel
theorem dX5_format_70 : decode cX5_format 70 = .ok (.iconst (-1), 1) := by decide +kernel
theorem dX5_format_71 : decode cX5_format 71 = .ok (.invokevirtual 57, 3) := by decide +kernel
theorem dX5_format_74 : decode cX5_format 74 = .ok (.ireturn, 1) := by decide +kernel
theorem dX5_format_75 : decode cX5_format 75 = .ok (.iconst 0, 1) := by decide +kernel
theorem dX5_format_76 : decode cX5_format 76 = .ok (.istore 7, 2) := by decide +kernel
theorem dX5_format_78 : decode cX5_format 78 = .ok (.iload 7, 2) := by decide +kernel
theorem dX5_format_80 : decode cX5_format 80 = .ok (.aload_n 0, 1) := by decide +kernel
theorem dX5_format_81 : decode cX5_format 81 = .ok (.getfield 45, 3) := by decide +kernel
theorem dX5_format_84 : decode cX5_format 84 = .ok (.if_icmp .ge 85, 3) := by decide +kernel
theorem dX5_format_87 : decode cX5_format 87 = .ok (.aload_n 0, 1) := by decide +kernel
theorem dX5_format_88 : decode cX5_format 88 = .ok (.getfield 7, 3) := by decide +kernel
theorem dX5_format_91 : decode cX5_format 91 = .ok (.iload 7, 2) := by decide +kernel
theorem dX5_format_93 : decode cX5_format 93 = .ok (.iaload, 1) := by decide +kernel
theorem dX5_format_94 : decode cX5_format 94 = .ok (.iload_n 1, 1) := by decide +kernel
theorem dX5_format_95 : decode cX5_format 95 = .ok (.if_icmp .ne 68, 3) := by decide +kernel
theorem dX5_format_98 : decode cX5_format 98 = .ok (.aload_n 0, 1) := by decide +kernel
theorem dX5_format_99 : decode cX5_format 99 = .ok (.getfield 13, 3) := by decide +kernel
theorem dX5_format_102 : decode cX5_format 102 = .ok (.iload 7, 2) := by decide +kernel
theorem dX5_format_104 : decode cX5_format 104 = .ok (.iaload, 1) := by decide +kernel
theorem dX5_format_105 : decode cX5_format 105 = .ok (.iload_n 2, 1) := by decide +kernel
theorem dX5_format_106 : decode cX5_format 106 = .ok (.if_icmp .ne 57, 3) := by decide +kernel
theorem dX5_format_109 : decode cX5_format 109 = .ok (.aload_n 0, 1) := by decide +kernel
theorem dX5_format_110 : decode cX5_format 110 = .ok (.getfield 16, 3) := by decide +kernel
theorem dX5_format_113 : decode cX5_format 113 = .ok (.iload 7, 2) := by decide +kernel
theorem dX5_format_115 : decode cX5_format 115 = .ok (.iaload, 1) := by decide +kernel
theorem dX5_format_116 : decode cX5_format 116 = .ok (.iload_n 3, 1) := by decide +kernel
theorem dX5_format_117 : decode cX5_format 117 = .ok (.if_icmp .ne 46, 3) := by decide +kernel
theorem dX5_format_120 : decode cX5_format 120 = .ok (.aload_n 0, 1) := by decide +kernel
theorem dX5_format_121 : decode cX5_format 121 = .ok (.getfield 19, 3) := by decide +kernel
theorem dX5_format_124 : decode cX5_format 124 = .ok (.iload 7, 2) := by decide +kernel
theorem dX5_format_126 : decode cX5_format 126 = .ok (.iaload, 1) := by decide +kernel
theorem dX5_format_127 : decode cX5_format 127 = .ok (.iload 4, 2) := by decide +kernel
theorem dX5_format_129 : decode cX5_format 129 = .ok (.if_icmp .ne 34, 3) := by decide +kernel
theorem dX5_format_132 : decode cX5_format 132 = .ok (.aload_n 0, 1) := by decide +kernel
theorem dX5_format_133 : decode cX5_format 133 = .ok (.getfield 22, 3) := by decide +kernel
theorem dX5_format_136 : decode cX5_format 136 = .ok (.iload 7, 2) := by decide +kernel
theorem dX5_format_138 : decode cX5_format 138 = .ok (.baload, 1) := by decide +kernel
theorem dX5_format_139 : decode cX5_format 139 = .ok (.iload 5, 2) := by decide +kernel
theorem dX5_format_141 : decode cX5_format 141 = .ok (.if_icmp .ne 22, 3) := by decide +kernel
theorem dX5_format_144 : decode cX5_format 144 = .ok (.aload_n 0, 1) := by decide +kernel
theorem dX5_format_145 : decode cX5_format 145 = .ok (.getfield 26, 3) := by decide +kernel
theorem dX5_format_148 : decode cX5_format 148 = .ok (.iload 7, 2) := by decide +kernel
theorem dX5_format_150 : decode cX5_format 150 = .ok (.iaload, 1) := by decide +kernel
theorem dX5_format_151 : decode cX5_format 151 = .ok (.iload 6, 2) := by decide +kernel
theorem dX5_format_153 : decode cX5_format 153 = .ok (.if_icmp .ne 10, 3) := by decide +kernel
theorem dX5_format_156 : decode cX5_format 156 = .ok (.aload_n 0, 1) := by decide +kernel
theorem dX5_format_157 : decode cX5_format 157 = .ok (.iload 7, 2) := by decide +kernel
theorem dX5_format_159 : decode cX5_format 159 = .ok (.invokevirtual 67, 3) := by decide +kernel
theorem dX5_format_162 : decode cX5_format 162 = .ok (.ireturn, 1) := by decide +kernel
theorem dX5_format_163 : decode cX5_format 163 = .ok (.iinc 7 1, 3) := by decide +kernel
theorem dX5_format_166 : decode cX5_format 166 = .ok (.goto (-88), 3) := by decide +kernel
theorem dX5_format_169 : decode cX5_format 169 = .ok (.aload_n 0, 1) := by decide +kernel
theorem dX5_format_170 : decode cX5_format 170 = .ok (.getfield 45, 3) := by decide +kernel
theorem dX5_format_173 : decode cX5_format 173 = .ok (.bipush 10, 2) := by decide +kernel
theorem dX5_format_175 : decode cX5_format 175 = .ok (.if_icmp .ne 10, 3) := by decide +kernel
theorem dX5_format_178 : decode cX5_format 178 = .ok (.aload_n 0, 1) := by decide +kernel
theorem dX5_format_179 : decode cX5_format 179 = .ok (.bipush (-3), 2) := by decide +kernel
theorem dX5_format_181 : decode cX5_format 181 = .ok (.invokevirtual 57, 3) := by decide +kernel
theorem dX5_format_184 : decode cX5_format 184 = .ok (.ireturn, 1) := by decide +kernel
theorem dX5_format_185 : decode cX5_format 185 = .ok (.aload_n 0, 1) := by decide +kernel
theorem dX5_format_186 : decode cX5_format 186 = .ok (.getfield 7, 3) := by decide +kernel
theorem dX5_format_189 : decode cX5_format 189 = .ok (.aload_n 0, 1) := by decide +kernel
theorem dX5_format_190 : decode cX5_format 190 = .ok (.getfield 45, 3) := by decide +kernel
theorem dX5_format_193 : decode cX5_format 193 = .ok (.iload_n 1, 1) := by decide +kernel
theorem dX5_format_194 : decode cX5_format 194 = .ok (.iastore, 1) := by decide +kernel
theorem dX5_format_195 : decode cX5_format 195 = .ok (.aload_n 0, 1) := by decide +kernel
theorem dX5_format_196 : decode cX5_format 196 = .ok (.getfield 13, 3) := by decide +kernel
theorem dX5_format_199 : decode cX5_format 199 = .ok (.aload_n 0, 1) := by decide +kernel
theorem dX5_format_200 : decode cX5_format 200 = .ok (.getfield 45, 3) := by decide +kernel
theorem dX5_format_203 : decode cX5_format 203 = .ok (.iload_n 2, 1) := by decide +kernel
theorem dX5_format_204 : decode cX5_format 204 = .ok (.iastore, 1) := by decide +kernel
theorem dX5_format_205 : decode cX5_format 205 = .ok (.aload_n 0, 1) := by decide +kernel
theorem dX5_format_206 : decode cX5_format 206 = .ok (.getfield 16, 3) := by decide +kernel
theorem dX5_format_209 : decode cX5_format 209 = .ok (.aload_n 0, 1) := by decide +kernel
theorem dX5_format_210 : decode cX5_format 210 = .ok (.getfield 45, 3) := by decide +kernel
theorem dX5_format_213 : decode cX5_format 213 = .ok (.iload_n 3, 1) := by decide +kernel
theorem dX5_format_214 : decode cX5_format 214 = .ok (.iastore, 1) := by decide +kernel
theorem dX5_format_215 : decode cX5_format 215 = .ok (.aload_n 0, 1) := by decide +kernel
theorem dX5_format_216 : decode cX5_format 216 = .ok (.getfield 19, 3) := by decide +kernel
theorem dX5_format_219 : decode cX5_format 219 = .ok (.aload_n 0, 1) := by decide +kernel
theorem dX5_format_220 : decode cX5_format 220 = .ok (.getfield 45, 3) := by decide +kernel
theorem dX5_format_223 : decode cX5_format 223 = .ok (.iload 4, 2) := by decide +kernel
theorem dX5_format_225 : decode cX5_format 225 = .ok (.iastore, 1) := by decide +kernel
theorem dX5_format_226 : decode cX5_format 226 = .ok (.aload_n 0, 1) := by decide +kernel
theorem dX5_format_227 : decode cX5_format 227 = .ok (.getfield 22, 3) := by decide +kernel
theorem dX5_format_230 : decode cX5_format 230 = .ok (.aload_n 0, 1) := by decide +kernel
theorem dX5_format_231 : decode cX5_format 231 = .ok (.getfield 45, 3) := by decide +kernel
theorem dX5_format_234 : decode cX5_format 234 = .ok (.iload 5, 2) := by decide +kernel
theorem dX5_format_236 : decode cX5_format 236 = .ok (.bastore, 1) := by decide +kernel
theorem dX5_format_237 : decode cX5_format 237 = .ok (.aload_n 0, 1) := by decide +kernel
theorem dX5_format_238 : decode cX5_format 238 = .ok (.getfield 26, 3) := by decide +kernel
theorem dX5_format_241 : decode cX5_format 241 = .ok (.aload_n 0, 1) := by decide +kernel
theorem dX5_format_242 : decode cX5_format 242 = .ok (.getfield 45, 3) := by decide +kernel
theorem dX5_format_245 : decode cX5_format 245 = .ok (.iload 6, 2) := by decide +kernel
theorem dX5_format_247 : decode cX5_format 247 = .ok (.iastore, 1) := by decide +kernel
theorem dX5_format_248 : decode cX5_format 248 = .ok (.aload_n 0, 1) := by decide +kernel
theorem dX5_format_249 : decode cX5_format 249 = .ok (.dup, 1) := by decide +kernel
theorem dX5_format_250 : decode cX5_format 250 = .ok (.getfield 45, 3) := by decide +kernel
theorem dX5_format_253 : decode cX5_format 253 = .ok (.iconst 1, 1) := by decide +kernel
theorem dX5_format_254 : decode cX5_format 254 = .ok (.iadd, 1) := by decide +kernel
theorem dX5_format_255 : decode cX5_format 255 = .ok (.putfield 45, 3) := by decide +kernel
theorem dX5_format_258 : decode cX5_format 258 = .ok (.aload_n 0, 1) := by decide +kernel
theorem dX5_format_259 : decode cX5_format 259 = .ok (.aload_n 0, 1) := by decide +kernel
theorem dX5_format_260 : decode cX5_format 260 = .ok (.getfield 45, 3) := by decide +kernel
theorem dX5_format_263 : decode cX5_format 263 = .ok (.iconst 1, 1) := by decide +kernel
theorem dX5_format_264 : decode cX5_format 264 = .ok (.isub, 1) := by decide +kernel
theorem dX5_format_265 : decode cX5_format 265 = .ok (.invokevirtual 67, 3) := by decide +kernel
theorem dX5_format_268 : decode cX5_format 268 = .ok (.ireturn, 1) := by decide +kernel
theorem dX5_about_0 : decode cX5_about 0 = .ok (.aload_n 0, 1) := by decide +kernel
theorem dX5_about_1 : decode cX5_about 1 = .ok (.iload_n 1, 1) := by decide +kernel
theorem dX5_about_2 : decode cX5_about 2 = .ok (.invokevirtual 109, 3) := by decide +kernel
theorem dX5_about_5 : decode cX5_about 5 = .ok (.ifCond .eq 15, 3) := by decide +kernel
theorem dX5_about_8 : decode cX5_about 8 = .ok (.iload_n 2, 1) := by decide +kernel
theorem dX5_about_9 : decode cX5_about 9 = .ok (.i2l, 1) := by decide +kernel
theorem dX5_about_10 : decode cX5_about 10 = .ok (.lconst 0, 1) := by decide +kernel
theorem dX5_about_11 : decode cX5_about 11 = .ok (.ldc2_w 113, 3) := by decide +kernel
theorem dX5_about_14 : decode cX5_about 14 = .ok (.invokestatic 70, 3) := by decide +kernel
theorem dX5_about_17 : decode cX5_about 17 = .ok (.ifCond .ne 9, 3) := by decide +kernel
theorem dX5_about_20 : decode cX5_about 20 = .ok (.aload_n 0, 1) := by decide +kernel
theorem dX5_about_21 : decode cX5_about 21 = .ok (.iconst (-1), 1) := by decide +kernel
theorem dX5_about_22 : decode cX5_about 22 = .ok (.invokevirtual 57, 3) := by decide +kernel
theorem dX5_about_25 : decode cX5_about 25 = .ok (.ireturn, 1) := by decide +kernel
theorem dX5_about_26 : decode cX5_about 26 = .ok (.iconst 0, 1) := by decide +kernel
theorem dX5_about_27 : decode cX5_about 27 = .ok (.istore_n 3, 1) := by decide +kernel
theorem dX5_about_28 : decode cX5_about 28 = .ok (.iload_n 2, 1) := by decide +kernel
theorem dX5_about_29 : decode cX5_about 29 = .ok (.tableswitch 134 0 5 #[39, 49, 59, 69, 79, 89], 39) := by decide +kernel
theorem dX5_about_68 : decode cX5_about 68 = .ok (.aload_n 0, 1) := by decide +kernel
theorem dX5_about_69 : decode cX5_about 69 = .ok (.aload_n 0, 1) := by decide +kernel
theorem dX5_about_70 : decode cX5_about 70 = .ok (.iload_n 1, 1) := by decide +kernel
theorem dX5_about_71 : decode cX5_about 71 = .ok (.invokevirtual 74, 3) := by decide +kernel
theorem dX5_about_74 : decode cX5_about 74 = .ok (.invokevirtual 67, 3) := by decide +kernel
theorem dX5_about_77 : decode cX5_about 77 = .ok (.ireturn, 1) := by decide +kernel
theorem dX5_about_78 : decode cX5_about 78 = .ok (.aload_n 0, 1) := by decide +kernel
theorem dX5_about_79 : decode cX5_about 79 = .ok (.aload_n 0, 1) := by decide +kernel
theorem dX5_about_80 : decode cX5_about 80 = .ok (.iload_n 1, 1) := by decide +kernel
theorem dX5_about_81 : decode cX5_about 81 = .ok (.invokevirtual 100, 3) := by decide +kernel
theorem dX5_about_84 : decode cX5_about 84 = .ok (.invokevirtual 67, 3) := by decide +kernel
theorem dX5_about_87 : decode cX5_about 87 = .ok (.ireturn, 1) := by decide +kernel
theorem dX5_about_88 : decode cX5_about 88 = .ok (.aload_n 0, 1) := by decide +kernel
theorem dX5_about_89 : decode cX5_about 89 = .ok (.aload_n 0, 1) := by decide +kernel
theorem dX5_about_90 : decode cX5_about 90 = .ok (.iload_n 1, 1) := by decide +kernel
theorem dX5_about_91 : decode cX5_about 91 = .ok (.invokevirtual 115, 3) := by decide +kernel
theorem dX5_about_94 : decode cX5_about 94 = .ok (.invokevirtual 67, 3) := by decide +kernel
theorem dX5_about_97 : decode cX5_about 97 = .ok (.ireturn, 1) := by decide +kernel
theorem dX5_about_98 : decode cX5_about 98 = .ok (.aload_n 0, 1) := by decide +kernel
theorem dX5_about_99 : decode cX5_about 99 = .ok (.aload_n 0, 1) := by decide +kernel
theorem dX5_about_100 : decode cX5_about 100 = .ok (.iload_n 1, 1) := by decide +kernel
theorem dX5_about_101 : decode cX5_about 101 = .ok (.invokevirtual 118, 3) := by decide +kernel
theorem dX5_about_104 : decode cX5_about 104 = .ok (.invokevirtual 67, 3) := by decide +kernel
theorem dX5_about_107 : decode cX5_about 107 = .ok (.ireturn, 1) := by decide +kernel
theorem dX5_about_108 : decode cX5_about 108 = .ok (.aload_n 0, 1) := by decide +kernel
theorem dX5_about_109 : decode cX5_about 109 = .ok (.aload_n 0, 1) := by decide +kernel
theorem dX5_about_110 : decode cX5_about 110 = .ok (.iload_n 1, 1) := by decide +kernel
theorem dX5_about_111 : decode cX5_about 111 = .ok (.invokevirtual 121, 3) := by decide +kernel
theorem dX5_about_114 : decode cX5_about 114 = .ok (.invokevirtual 67, 3) := by decide +kernel
theorem dX5_about_117 : decode cX5_about 117 = .ok (.ireturn, 1) := by decide +kernel
theorem dX5_about_118 : decode cX5_about 118 = .ok (.iconst 0, 1) := by decide +kernel
theorem dX5_about_119 : decode cX5_about 119 = .ok (.istore 4, 2) := by decide +kernel
theorem dX5_about_121 : decode cX5_about 121 = .ok (.iload 4, 2) := by decide +kernel
theorem dX5_about_123 : decode cX5_about 123 = .ok (.iconst 1, 1) := by decide +kernel
theorem dX5_about_124 : decode cX5_about 124 = .ok (.aload_n 0, 1) := by decide +kernel
theorem dX5_about_125 : decode cX5_about 125 = .ok (.iload_n 1, 1) := by decide +kernel
theorem dX5_about_126 : decode cX5_about 126 = .ok (.invokevirtual 74, 3) := by decide +kernel
theorem dX5_about_129 : decode cX5_about 129 = .ok (.ishl, 1) := by decide +kernel
theorem dX5_about_130 : decode cX5_about 130 = .ok (.if_icmp .ge 27, 3) := by decide +kernel
theorem dX5_about_133 : decode cX5_about 133 = .ok (.iload_n 3, 1) := by decide +kernel
theorem dX5_about_134 : decode cX5_about 134 = .ok (.aload_n 0, 1) := by decide +kernel
theorem dX5_about_135 : decode cX5_about 135 = .ok (.iload_n 1, 1) := by decide +kernel
theorem dX5_about_136 : decode cX5_about 136 = .ok (.iload 4, 2) := by decide +kernel
theorem dX5_about_138 : decode cX5_about 138 = .ok (.invokevirtual 124, 3) := by decide +kernel
theorem dX5_about_141 : decode cX5_about 141 = .ok (.ifCond .eq 7, 3) := by decide +kernel
theorem dX5_about_144 : decode cX5_about 144 = .ok (.iconst 1, 1) := by decide +kernel
theorem dX5_about_145 : decode cX5_about 145 = .ok (.goto 4, 3) := by decide +kernel
theorem dX5_about_148 : decode cX5_about 148 = .ok (.iconst 0, 1) := by decide +kernel
theorem dX5_about_149 : decode cX5_about 149 = .ok (.iadd, 1) := by decide +kernel
theorem dX5_about_150 : decode cX5_about 150 = .ok (.istore_n 3, 1) := by decide +kernel
theorem dX5_about_151 : decode cX5_about 151 = .ok (.iinc 4 1, 3) := by decide +kernel
theorem dX5_about_154 : decode cX5_about 154 = .ok (.goto (-33), 3) := by decide +kernel
theorem dX5_about_157 : decode cX5_about 157 = .ok (.aload_n 0, 1) := by decide +kernel
theorem dX5_about_158 : decode cX5_about 158 = .ok (.iload_n 3, 1) := by decide +kernel
theorem dX5_about_159 : decode cX5_about 159 = .ok (.invokevirtual 67, 3) := by decide +kernel
theorem dX5_about_162 : decode cX5_about 162 = .ok (.ireturn, 1) := by decide +kernel
theorem dX5_about_163 : decode cX5_about 163 = .ok (.aload_n 0, 1) := by decide +kernel
theorem dX5_about_164 : decode cX5_about 164 = .ok (.aload_n 0, 1) := by decide +kernel
theorem dX5_about_165 : decode cX5_about 165 = .ok (.iload_n 1, 1) := by decide +kernel
theorem dX5_about_166 : decode cX5_about 166 = .ok (.invokevirtual 127, 3) := by decide +kernel
theorem dX5_about_169 : decode cX5_about 169 = .ok (.invokevirtual 67, 3) := by decide +kernel
theorem dX5_about_172 : decode cX5_about 172 = .ok (.ireturn, 1) := by decide +kernel
theorem dX5_kind_0 : decode cX5_kind 0 = .ok (.aload_n 0, 1) := by decide +kernel
theorem dX5_kind_1 : decode cX5_kind 1 = .ok (.iload_n 1, 1) := by decide +kernel
theorem dX5_kind_2 : decode cX5_kind 2 = .ok (.invokevirtual 109, 3) := by decide +kernel
theorem dX5_kind_5 : decode cX5_kind 5 = .ok (.ifCond .eq 22, 3) := by decide +kernel
theorem dX5_kind_8 : decode cX5_kind 8 = .ok (.aload_n 0, 1) := by decide +kernel
theorem dX5_kind_9 : decode cX5_kind 9 = .ok (.iload_n 1, 1) := by decide +kernel
theorem dX5_kind_10 : decode cX5_kind 10 = .ok (.iload_n 2, 1) := by decide +kernel
theorem dX5_kind_11 : decode cX5_kind 11 = .ok (.invokevirtual 130, 3) := by decide +kernel
theorem dX5_kind_14 : decode cX5_kind 14 = .ok (.ifCond .eq 13, 3) := by decide +kernel
theorem dX5_kind_17 : decode cX5_kind 17 = .ok (.iload_n 3, 1) := by decide +kernel
theorem dX5_kind_18 : decode cX5_kind 18 = .ok (.i2l, 1) := by decide +kernel
theorem dX5_kind_19 : decode cX5_kind 19 = .ok (.lconst 0, 1) := by decide +kernel
theorem dX5_kind_20 : decode cX5_kind 20 = .ok (.lconst 1, 1) := by decide +kernel
theorem dX5_kind_21 : decode cX5_kind 21 = .ok (.invokestatic 70, 3) := by decide +kernel
theorem dX5_kind_24 : decode cX5_kind 24 = .ok (.ifCond .ne 9, 3) := by decide +kernel
theorem dX5_kind_27 : decode cX5_kind 27 = .ok (.aload_n 0, 1) := by decide +kernel
theorem dX5_kind_28 : decode cX5_kind 28 = .ok (.iconst (-1), 1) := by decide +kernel
theorem dX5_kind_29 : decode cX5_kind 29 = .ok (.invokevirtual 57, 3) := by decide +kernel
theorem dX5_kind_32 : decode cX5_kind 32 = .ok (.ireturn, 1) := by decide +kernel
theorem dX5_kind_33 : decode cX5_kind 33 = .ok (.aload_n 0, 1) := by decide +kernel
theorem dX5_kind_34 : decode cX5_kind 34 = .ok (.iload_n 3, 1) := by decide +kernel
theorem dX5_kind_35 : decode cX5_kind 35 = .ok (.ifCond .ne 12, 3) := by decide +kernel
theorem dX5_kind_38 : decode cX5_kind 38 = .ok (.aload_n 0, 1) := by decide +kernel
theorem dX5_kind_39 : decode cX5_kind 39 = .ok (.iload_n 1, 1) := by decide +kernel
theorem dX5_kind_40 : decode cX5_kind 40 = .ok (.iload_n 2, 1) := by decide +kernel
theorem dX5_kind_41 : decode cX5_kind 41 = .ok (.invokevirtual 87, 3) := by decide +kernel
theorem dX5_kind_44 : decode cX5_kind 44 = .ok (.goto 17, 3) := by decide +kernel
theorem dX5_kind_47 : decode cX5_kind 47 = .ok (.aload_n 0, 1) := by decide +kernel
theorem dX5_kind_48 : decode cX5_kind 48 = .ok (.iload_n 1, 1) := by decide +kernel
theorem dX5_kind_49 : decode cX5_kind 49 = .ok (.iload_n 2, 1) := by decide +kernel
theorem dX5_kind_50 : decode cX5_kind 50 = .ok (.invokevirtual 96, 3) := by decide +kernel
theorem dX5_kind_53 : decode cX5_kind 53 = .ok (.ifCond .eq 7, 3) := by decide +kernel
theorem dX5_kind_56 : decode cX5_kind 56 = .ok (.iconst 1, 1) := by decide +kernel
theorem dX5_kind_57 : decode cX5_kind 57 = .ok (.goto 4, 3) := by decide +kernel
theorem dX5_kind_60 : decode cX5_kind 60 = .ok (.iconst 0, 1) := by decide +kernel
theorem dX5_kind_61 : decode cX5_kind 61 = .ok (.invokevirtual 67, 3) := by decide +kernel
theorem dX5_kind_64 : decode cX5_kind 64 = .ok (.ireturn, 1) := by decide +kernel
theorem dX5_units_0 : decode cX5_units 0 = .ok (.aload_n 0, 1) := by decide +kernel
theorem dX5_units_1 : decode cX5_units 1 = .ok (.iload_n 1, 1) := by decide +kernel
theorem dX5_units_2 : decode cX5_units 2 = .ok (.invokevirtual 109, 3) := by decide +kernel
theorem dX5_units_5 : decode cX5_units 5 = .ok (.ifCond .eq 12, 3) := by decide +kernel
theorem dX5_units_8 : decode cX5_units 8 = .ok (.aload_n 0, 1) := by decide +kernel
theorem dX5_units_9 : decode cX5_units 9 = .ok (.iload_n 1, 1) := by decide +kernel
theorem dX5_units_10 : decode cX5_units 10 = .ok (.iload_n 2, 1) := by decide +kernel
theorem dX5_units_11 : decode cX5_units 11 = .ok (.invokevirtual 130, 3) := by decide +kernel
theorem dX5_units_14 : decode cX5_units 14 = .ok (.ifCond .ne 13, 3) := by decide +kernel
theorem dX5_units_17 : decode cX5_units 17 = .ok (.aload_n 0, 1) := by decide +kernel
theorem dX5_units_18 : decode cX5_units 18 = .ok (.iconst (-1), 1) := by decide +kernel
theorem dX5_units_19 : decode cX5_units 19 = .ok (.invokevirtual 57, 3) := by decide +kernel
theorem dX5_units_22 : decode cX5_units 22 = .ok (.istore_n 3, 1) := by decide +kernel
theorem dX5_units_23 : decode cX5_units 23 = .ok (.ldc2_w 133, 3) := by decide +kernel
theorem dX5_units_26 : decode cX5_units 26 = .ok (.lreturn, 1) := by decide +kernel
theorem dX5_units_27 : decode cX5_units 27 = .ok (.aload_n 0, 1) := by decide +kernel
theorem dX5_units_28 : decode cX5_units 28 = .ok (.iconst 0, 1) := by decide +kernel
theorem dX5_units_29 : decode cX5_units 29 = .ok (.putfield 48, 3) := by decide +kernel
theorem dX5_units_32 : decode cX5_units 32 = .ok (.aload_n 0, 1) := by decide +kernel
theorem dX5_units_33 : decode cX5_units 33 = .ok (.iload_n 1, 1) := by decide +kernel
theorem dX5_units_34 : decode cX5_units 34 = .ok (.iload_n 2, 1) := by decide +kernel
theorem dX5_units_35 : decode cX5_units 35 = .ok (.invokevirtual 124, 3) := by decide +kernel
theorem dX5_units_38 : decode cX5_units 38 = .ok (.ifCond .eq 12, 3) := by decide +kernel
theorem dX5_units_41 : decode cX5_units 41 = .ok (.aload_n 0, 1) := by decide +kernel
theorem dX5_units_42 : decode cX5_units 42 = .ok (.iload_n 1, 1) := by decide +kernel
theorem dX5_units_43 : decode cX5_units 43 = .ok (.iload_n 2, 1) := by decide +kernel
theorem dX5_units_44 : decode cX5_units 44 = .ok (.invokevirtual 135, 3) := by decide +kernel
theorem dX5_units_47 : decode cX5_units 47 = .ok (.goto 6, 3) := by decide +kernel
theorem dX5_units_50 : decode cX5_units 50 = .ok (.ldc2_w 133, 3) := by decide +kernel
theorem dX5_units_53 : decode cX5_units 53 = .ok (.lreturn, 1) := by decide +kernel
theorem dX5_twiceBeside_0 : decode cX5_twiceBeside 0 = .ok (.aload_n 0, 1) := by decide +kernel
theorem dX5_twiceBeside_1 : decode cX5_twiceBeside 1 = .ok (.getfield 138, 3) := by decide +kernel
theorem dX5_twiceBeside_4 : decode cX5_twiceBeside 4 = .ok (.ifCond .eq 14, 3) := by decide +kernel
theorem dX5_twiceBeside_7 : decode cX5_twiceBeside 7 = .ok (.ldc2_w 103, 3) := by decide +kernel
theorem dX5_twiceBeside_10 : decode cX5_twiceBeside 10 = .ok (.aload_n 0, 1) := by decide +kernel
theorem dX5_twiceBeside_11 : decode cX5_twiceBeside 11 = .ok (.getfield 142, 3) := by decide +kernel
theorem dX5_twiceBeside_14 : decode cX5_twiceBeside 14 = .ok (.lmul, 1) := by decide +kernel
theorem dX5_twiceBeside_15 : decode cX5_twiceBeside 15 = .ok (.goto 11, 3) := by decide +kernel
theorem dX5_twiceBeside_18 : decode cX5_twiceBeside 18 = .ok (.ldc2_w 90, 3) := by decide +kernel
theorem dX5_twiceBeside_21 : decode cX5_twiceBeside 21 = .ok (.aload_n 0, 1) := by decide +kernel
theorem dX5_twiceBeside_22 : decode cX5_twiceBeside 22 = .ok (.getfield 142, 3) := by decide +kernel
theorem dX5_twiceBeside_25 : decode cX5_twiceBeside 25 = .ok (.lmul, 1) := by decide +kernel
theorem dX5_twiceBeside_26 : decode cX5_twiceBeside 26 = .ok (.lstore_n 3, 1) := by decide +kernel
theorem dX5_twiceBeside_27 : decode cX5_twiceBeside 27 = .ok (.aload_n 0, 1) := by decide +kernel
theorem dX5_twiceBeside_28 : decode cX5_twiceBeside 28 = .ok (.getfield 138, 3) := by decide +kernel
theorem dX5_twiceBeside_31 : decode cX5_twiceBeside 31 = .ok (.ifCond .eq 9, 3) := by decide +kernel
theorem dX5_twiceBeside_34 : decode cX5_twiceBeside 34 = .ok (.lload_n 1, 1) := by decide +kernel
theorem dX5_twiceBeside_35 : decode cX5_twiceBeside 35 = .ok (.lload_n 1, 1) := by decide +kernel
theorem dX5_twiceBeside_36 : decode cX5_twiceBeside 36 = .ok (.lmul, 1) := by decide +kernel
theorem dX5_twiceBeside_37 : decode cX5_twiceBeside 37 = .ok (.goto 9, 3) := by decide +kernel
theorem dX5_twiceBeside_40 : decode cX5_twiceBeside 40 = .ok (.lload_n 1, 1) := by decide +kernel
theorem dX5_twiceBeside_41 : decode cX5_twiceBeside 41 = .ok (.aload_n 0, 1) := by decide +kernel
theorem dX5_twiceBeside_42 : decode cX5_twiceBeside 42 = .ok (.getfield 146, 3) := by decide +kernel
theorem dX5_twiceBeside_45 : decode cX5_twiceBeside 45 = .ok (.lmul, 1) := by decide +kernel
theorem dX5_twiceBeside_46 : decode cX5_twiceBeside 46 = .ok (.lstore 5, 2) := by decide +kernel
theorem dX5_twiceBeside_48 : decode cX5_twiceBeside 48 = .ok (.lload_n 3, 1) := by decide +kernel
theorem dX5_twiceBeside_49 : decode cX5_twiceBeside 49 = .ok (.lload 5, 2) := by decide +kernel
theorem dX5_twiceBeside_51 : decode cX5_twiceBeside 51 = .ok (.lcmp, 1) := by decide +kernel
theorem dX5_twiceBeside_52 : decode cX5_twiceBeside 52 = .ok (.ifCond .ge 7, 3) := by decide +kernel
theorem dX5_twiceBeside_55 : decode cX5_twiceBeside 55 = .ok (.iconst (-1), 1) := by decide +kernel
theorem dX5_twiceBeside_56 : decode cX5_twiceBeside 56 = .ok (.goto 15, 3) := by decide +kernel
theorem dX5_twiceBeside_59 : decode cX5_twiceBeside 59 = .ok (.lload_n 3, 1) := by decide +kernel
theorem dX5_twiceBeside_60 : decode cX5_twiceBeside 60 = .ok (.lload 5, 2) := by decide +kernel
theorem dX5_twiceBeside_62 : decode cX5_twiceBeside 62 = .ok (.lcmp, 1) := by decide +kernel
theorem dX5_twiceBeside_63 : decode cX5_twiceBeside 63 = .ok (.ifCond .le 7, 3) := by decide +kernel
theorem dX5_twiceBeside_66 : decode cX5_twiceBeside 66 = .ok (.iconst 1, 1) := by decide +kernel
theorem dX5_twiceBeside_67 : decode cX5_twiceBeside 67 = .ok (.goto 4, 3) := by decide +kernel
theorem dX5_twiceBeside_70 : decode cX5_twiceBeside 70 = .ok (.iconst 0, 1) := by decide +kernel
theorem dX5_twiceBeside_71 : decode cX5_twiceBeside 71 = .ok (.ireturn, 1) := by decide +kernel
theorem dX5_beyond_0 : decode cX5_beyond 0 = .ok (.aload_n 0, 1) := by decide +kernel
theorem dX5_beyond_1 : decode cX5_beyond 1 = .ok (.getfield 26, 3) := by decide +kernel
theorem dX5_beyond_4 : decode cX5_beyond 4 = .ok (.iload_n 1, 1) := by decide +kernel
theorem dX5_beyond_5 : decode cX5_beyond 5 = .ok (.iaload, 1) := by decide +kernel
theorem dX5_beyond_6 : decode cX5_beyond 6 = .ok (.ifCond .ne 15, 3) := by decide +kernel
theorem dX5_beyond_9 : decode cX5_beyond 9 = .ok (.aload_n 0, 1) := by decide +kernel
theorem dX5_beyond_10 : decode cX5_beyond 10 = .ok (.iload_n 1, 1) := by decide +kernel
theorem dX5_beyond_11 : decode cX5_beyond 11 = .ok (.aload_n 0, 1) := by decide +kernel
theorem dX5_beyond_12 : decode cX5_beyond 12 = .ok (.iload_n 1, 1) := by decide +kernel
theorem dX5_beyond_13 : decode cX5_beyond 13 = .ok (.invokevirtual 121, 3) := by decide +kernel
theorem dX5_beyond_16 : decode cX5_beyond 16 = .ok (.iload_n 2, 1) := by decide +kernel
theorem dX5_beyond_17 : decode cX5_beyond 17 = .ok (.invokevirtual 149, 3) := by decide +kernel
theorem dX5_beyond_20 : decode cX5_beyond 20 = .ok (.ireturn, 1) := by decide +kernel
theorem dX5_beyond_21 : decode cX5_beyond 21 = .ok (.aload_n 0, 1) := by decide +kernel
theorem dX5_beyond_22 : decode cX5_beyond 22 = .ok (.getfield 26, 3) := by decide +kernel
theorem dX5_beyond_25 : decode cX5_beyond 25 = .ok (.iload_n 1, 1) := by decide +kernel
theorem dX5_beyond_26 : decode cX5_beyond 26 = .ok (.iaload, 1) := by decide +kernel
theorem dX5_beyond_27 : decode cX5_beyond 27 = .ok (.iconst 1, 1) := by decide +kernel
theorem dX5_beyond_28 : decode cX5_beyond 28 = .ok (.if_icmp .ne 11, 3) := by decide +kernel
theorem dX5_beyond_31 : decode cX5_beyond 31 = .ok (.aload_n 0, 1) := by decide +kernel
theorem dX5_beyond_32 : decode cX5_beyond 32 = .ok (.iload_n 1, 1) := by decide +kernel
theorem dX5_beyond_33 : decode cX5_beyond 33 = .ok (.invokevirtual 118, 3) := by decide +kernel
theorem dX5_beyond_36 : decode cX5_beyond 36 = .ok (.goto 14, 3) := by decide +kernel
theorem dX5_beyond_39 : decode cX5_beyond 39 = .ok (.aload_n 0, 1) := by decide +kernel
theorem dX5_beyond_40 : decode cX5_beyond 40 = .ok (.iload_n 1, 1) := by decide +kernel
theorem dX5_beyond_41 : decode cX5_beyond 41 = .ok (.aload_n 0, 1) := by decide +kernel
theorem dX5_beyond_42 : decode cX5_beyond 42 = .ok (.iload_n 1, 1) := by decide +kernel
theorem dX5_beyond_43 : decode cX5_beyond 43 = .ok (.invokevirtual 100, 3) := by decide +kernel
theorem dX5_beyond_46 : decode cX5_beyond 46 = .ok (.iload_n 2, 1) := by decide +kernel
theorem dX5_beyond_47 : decode cX5_beyond 47 = .ok (.invokevirtual 149, 3) := by decide +kernel
theorem dX5_beyond_50 : decode cX5_beyond 50 = .ok (.ireturn, 1) := by decide +kernel
theorem dX5_roundedAbove_0 : decode cX5_roundedAbove 0 = .ok (.aload_n 0, 1) := by decide +kernel
theorem dX5_roundedAbove_1 : decode cX5_roundedAbove 1 = .ok (.dup, 1) := by decide +kernel
theorem dX5_roundedAbove_2 : decode cX5_roundedAbove 2 = .ok (.getfield 51, 3) := by decide +kernel
theorem dX5_roundedAbove_5 : decode cX5_roundedAbove 5 = .ok (.iconst 1, 1) := by decide +kernel
theorem dX5_roundedAbove_6 : decode cX5_roundedAbove 6 = .ok (.iadd, 1) := by decide +kernel
theorem dX5_roundedAbove_7 : decode cX5_roundedAbove 7 = .ok (.putfield 51, 3) := by decide +kernel
theorem dX5_roundedAbove_10 : decode cX5_roundedAbove 10 = .ok (.aload_n 0, 1) := by decide +kernel
theorem dX5_roundedAbove_11 : decode cX5_roundedAbove 11 = .ok (.dup, 1) := by decide +kernel
theorem dX5_roundedAbove_12 : decode cX5_roundedAbove 12 = .ok (.getfield 54, 3) := by decide +kernel
theorem dX5_roundedAbove_15 : decode cX5_roundedAbove 15 = .ok (.iconst 1, 1) := by decide +kernel
theorem dX5_roundedAbove_16 : decode cX5_roundedAbove 16 = .ok (.iadd, 1) := by decide +kernel
theorem dX5_roundedAbove_17 : decode cX5_roundedAbove 17 = .ok (.putfield 54, 3) := by decide +kernel
theorem dX5_roundedAbove_20 : decode cX5_roundedAbove 20 = .ok (.aload_n 0, 1) := by decide +kernel
theorem dX5_roundedAbove_21 : decode cX5_roundedAbove 21 = .ok (.iload_n 1, 1) := by decide +kernel
theorem dX5_roundedAbove_22 : decode cX5_roundedAbove 22 = .ok (.aload_n 0, 1) := by decide +kernel
theorem dX5_roundedAbove_23 : decode cX5_roundedAbove 23 = .ok (.iload_n 1, 1) := by decide +kernel
theorem dX5_roundedAbove_24 : decode cX5_roundedAbove 24 = .ok (.invokevirtual 100, 3) := by decide +kernel
theorem dX5_roundedAbove_27 : decode cX5_roundedAbove 27 = .ok (.invokevirtual 92, 3) := by decide +kernel
theorem dX5_roundedAbove_30 : decode cX5_roundedAbove 30 = .ok (.lstore 4, 2) := by decide +kernel
theorem dX5_roundedAbove_32 : decode cX5_roundedAbove 32 = .ok (.iconst 0, 1) := by decide +kernel
theorem dX5_roundedAbove_33 : decode cX5_roundedAbove 33 = .ok (.istore 6, 2) := by decide +kernel
theorem dX5_roundedAbove_35 : decode cX5_roundedAbove 35 = .ok (.iload_n 3, 1) := by decide +kernel
theorem dX5_roundedAbove_36 : decode cX5_roundedAbove 36 = .ok (.ifCond .eq 8, 3) := by decide +kernel
theorem dX5_roundedAbove_39 : decode cX5_roundedAbove 39 = .ok (.iload_n 3, 1) := by decide +kernel
theorem dX5_roundedAbove_40 : decode cX5_roundedAbove 40 = .ok (.iconst 1, 1) := by decide +kernel
theorem dX5_roundedAbove_41 : decode cX5_roundedAbove 41 = .ok (.if_icmp .ne 37, 3) := by decide +kernel
theorem dX5_roundedAbove_44 : decode cX5_roundedAbove 44 = .ok (.aload_n 0, 1) := by decide +kernel
theorem dX5_roundedAbove_45 : decode cX5_roundedAbove 45 = .ok (.ldc2_w 153, 3) := by decide +kernel
theorem dX5_roundedAbove_48 : decode cX5_roundedAbove 48 = .ok (.lload 4, 2) := by decide +kernel
theorem dX5_roundedAbove_50 : decode cX5_roundedAbove 50 = .ok (.lmul, 1) := by decide +kernel
theorem dX5_roundedAbove_51 : decode cX5_roundedAbove 51 = .ok (.aload_n 0, 1) := by decide +kernel
theorem dX5_roundedAbove_52 : decode cX5_roundedAbove 52 = .ok (.iload_n 1, 1) := by decide +kernel
theorem dX5_roundedAbove_53 : decode cX5_roundedAbove 53 = .ok (.aload_n 0, 1) := by decide +kernel
theorem dX5_roundedAbove_54 : decode cX5_roundedAbove 54 = .ok (.iload_n 1, 1) := by decide +kernel
theorem dX5_roundedAbove_55 : decode cX5_roundedAbove 55 = .ok (.invokevirtual 115, 3) := by decide +kernel
theorem dX5_roundedAbove_58 : decode cX5_roundedAbove 58 = .ok (.invokevirtual 92, 3) := by decide +kernel
theorem dX5_roundedAbove_61 : decode cX5_roundedAbove 61 = .ok (.lsub, 1) := by decide +kernel
theorem dX5_roundedAbove_62 : decode cX5_roundedAbove 62 = .ok (.invokevirtual 155, 3) := by decide +kernel
theorem dX5_roundedAbove_65 : decode cX5_roundedAbove 65 = .ok (.ifCond .lt 7, 3) := by decide +kernel
theorem dX5_roundedAbove_68 : decode cX5_roundedAbove 68 = .ok (.iconst 1, 1) := by decide +kernel
theorem dX5_roundedAbove_69 : decode cX5_roundedAbove 69 = .ok (.goto 4, 3) := by decide +kernel
theorem dX5_roundedAbove_72 : decode cX5_roundedAbove 72 = .ok (.iconst 0, 1) := by decide +kernel
theorem dX5_roundedAbove_73 : decode cX5_roundedAbove 73 = .ok (.istore 6, 2) := by decide +kernel
theorem dX5_roundedAbove_75 : decode cX5_roundedAbove 75 = .ok (.goto 55, 3) := by decide +kernel
theorem dX5_roundedAbove_78 : decode cX5_roundedAbove 78 = .ok (.iload_n 3, 1) := by decide +kernel
theorem dX5_roundedAbove_79 : decode cX5_roundedAbove 79 = .ok (.iconst 3, 1) := by decide +kernel
theorem dX5_roundedAbove_80 : decode cX5_roundedAbove 80 = .ok (.if_icmp .ne 9, 3) := by decide +kernel
theorem dX5_roundedAbove_83 : decode cX5_roundedAbove 83 = .ok (.iload_n 2, 1) := by decide +kernel
theorem dX5_roundedAbove_84 : decode cX5_roundedAbove 84 = .ok (.istore 6, 2) := by decide +kernel
theorem dX5_roundedAbove_86 : decode cX5_roundedAbove 86 = .ok (.goto 44, 3) := by decide +kernel
theorem dX5_roundedAbove_89 : decode cX5_roundedAbove 89 = .ok (.iload_n 3, 1) := by decide +kernel
theorem dX5_roundedAbove_90 : decode cX5_roundedAbove 90 = .ok (.iconst 4, 1) := by decide +kernel
theorem dX5_roundedAbove_91 : decode cX5_roundedAbove 91 = .ok (.if_icmp .ne 17, 3) := by decide +kernel
theorem dX5_roundedAbove_94 : decode cX5_roundedAbove 94 = .ok (.iload_n 2, 1) := by decide +kernel
theorem dX5_roundedAbove_95 : decode cX5_roundedAbove 95 = .ok (.ifCond .ne 7, 3) := by decide +kernel
theorem dX5_roundedAbove_98 : decode cX5_roundedAbove 98 = .ok (.iconst 1, 1) := by decide +kernel
theorem dX5_roundedAbove_99 : decode cX5_roundedAbove 99 = .ok (.goto 4, 3) := by decide +kernel
theorem dX5_roundedAbove_102 : decode cX5_roundedAbove 102 = .ok (.iconst 0, 1) := by decide +kernel
theorem dX5_roundedAbove_103 : decode cX5_roundedAbove 103 = .ok (.istore 6, 2) := by decide +kernel
theorem dX5_roundedAbove_105 : decode cX5_roundedAbove 105 = .ok (.goto 25, 3) := by decide +kernel
theorem dX5_roundedAbove_108 : decode cX5_roundedAbove 108 = .ok (.iload_n 3, 1) := by decide +kernel
theorem dX5_roundedAbove_109 : decode cX5_roundedAbove 109 = .ok (.iconst 2, 1) := by decide +kernel
theorem dX5_roundedAbove_110 : decode cX5_roundedAbove 110 = .ok (.if_icmp .eq 20, 3) := by decide +kernel
theorem dX5_roundedAbove_113 : decode cX5_roundedAbove 113 = .ok (.aload_n 0, 1) := by decide +kernel
theorem dX5_roundedAbove_114 : decode cX5_roundedAbove 114 = .ok (.iload_n 1, 1) := by decide +kernel
theorem dX5_roundedAbove_115 : decode cX5_roundedAbove 115 = .ok (.invokevirtual 100, 3) := by decide +kernel
theorem dX5_roundedAbove_118 : decode cX5_roundedAbove 118 = .ok (.iconst 1, 1) := by decide +kernel
theorem dX5_roundedAbove_119 : decode cX5_roundedAbove 119 = .ok (.iand, 1) := by decide +kernel
theorem dX5_roundedAbove_120 : decode cX5_roundedAbove 120 = .ok (.ifCond .ne 7, 3) := by decide +kernel
theorem dX5_roundedAbove_123 : decode cX5_roundedAbove 123 = .ok (.iconst 1, 1) := by decide +kernel
theorem dX5_roundedAbove_124 : decode cX5_roundedAbove 124 = .ok (.goto 4, 3) := by decide +kernel
theorem dX5_roundedAbove_127 : decode cX5_roundedAbove 127 = .ok (.iconst 0, 1) := by decide +kernel
theorem dX5_roundedAbove_128 : decode cX5_roundedAbove 128 = .ok (.istore 6, 2) := by decide +kernel
theorem dX5_roundedAbove_130 : decode cX5_roundedAbove 130 = .ok (.iload 6, 2) := by decide +kernel
theorem dX5_roundedAbove_132 : decode cX5_roundedAbove 132 = .ok (.ifCond .eq 12, 3) := by decide +kernel
theorem dX5_roundedAbove_135 : decode cX5_roundedAbove 135 = .ok (.aload_n 0, 1) := by decide +kernel
theorem dX5_roundedAbove_136 : decode cX5_roundedAbove 136 = .ok (.iload_n 1, 1) := by decide +kernel
theorem dX5_roundedAbove_137 : decode cX5_roundedAbove 137 = .ok (.iload_n 2, 1) := by decide +kernel
theorem dX5_roundedAbove_138 : decode cX5_roundedAbove 138 = .ok (.invokevirtual 159, 3) := by decide +kernel
theorem dX5_roundedAbove_141 : decode cX5_roundedAbove 141 = .ok (.goto 14, 3) := by decide +kernel
theorem dX5_roundedAbove_144 : decode cX5_roundedAbove 144 = .ok (.aload_n 0, 1) := by decide +kernel
theorem dX5_roundedAbove_145 : decode cX5_roundedAbove 145 = .ok (.iload_n 1, 1) := by decide +kernel
theorem dX5_roundedAbove_146 : decode cX5_roundedAbove 146 = .ok (.aload_n 0, 1) := by decide +kernel
theorem dX5_roundedAbove_147 : decode cX5_roundedAbove 147 = .ok (.iload_n 1, 1) := by decide +kernel
theorem dX5_roundedAbove_148 : decode cX5_roundedAbove 148 = .ok (.invokevirtual 100, 3) := by decide +kernel
theorem dX5_roundedAbove_151 : decode cX5_roundedAbove 151 = .ok (.iload_n 2, 1) := by decide +kernel
theorem dX5_roundedAbove_152 : decode cX5_roundedAbove 152 = .ok (.invokevirtual 149, 3) := by decide +kernel
theorem dX5_roundedAbove_155 : decode cX5_roundedAbove 155 = .ok (.ireturn, 1) := by decide +kernel
theorem dX5_rounded_0 : decode cX5_rounded 0 = .ok (.iload_n 2, 1) := by decide +kernel
theorem dX5_rounded_1 : decode cX5_rounded 1 = .ok (.ifCond .eq 24, 3) := by decide +kernel
theorem dX5_rounded_4 : decode cX5_rounded 4 = .ok (.aload_n 0, 1) := by decide +kernel
theorem dX5_rounded_5 : decode cX5_rounded 5 = .ok (.getfield 7, 3) := by decide +kernel
theorem dX5_rounded_8 : decode cX5_rounded 8 = .ok (.iload_n 1, 1) := by decide +kernel
theorem dX5_rounded_9 : decode cX5_rounded 9 = .ok (.iaload, 1) := by decide +kernel
theorem dX5_rounded_10 : decode cX5_rounded 10 = .ok (.ifCond .ne 15, 3) := by decide +kernel
theorem dX5_rounded_13 : decode cX5_rounded 13 = .ok (.aload_n 0, 1) := by decide +kernel
theorem dX5_rounded_14 : decode cX5_rounded 14 = .ok (.dup, 1) := by decide +kernel
theorem dX5_rounded_15 : decode cX5_rounded 15 = .ok (.getfield 51, 3) := by decide +kernel
theorem dX5_rounded_18 : decode cX5_rounded 18 = .ok (.iconst 1, 1) := by decide +kernel
theorem dX5_rounded_19 : decode cX5_rounded 19 = .ok (.iadd, 1) := by decide +kernel
theorem dX5_rounded_20 : decode cX5_rounded 20 = .ok (.putfield 51, 3) := by decide +kernel
theorem dX5_rounded_23 : decode cX5_rounded 23 = .ok (.iconst 0, 1) := by decide +kernel
theorem dX5_rounded_24 : decode cX5_rounded 24 = .ok (.ireturn, 1) := by decide +kernel
theorem dX5_rounded_25 : decode cX5_rounded 25 = .ok (.aload_n 0, 1) := by decide +kernel
theorem dX5_rounded_26 : decode cX5_rounded 26 = .ok (.iload_n 1, 1) := by decide +kernel
theorem dX5_rounded_27 : decode cX5_rounded 27 = .ok (.invokevirtual 100, 3) := by decide +kernel
theorem dX5_rounded_30 : decode cX5_rounded 30 = .ok (.istore 4, 2) := by decide +kernel
theorem dX5_rounded_32 : decode cX5_rounded 32 = .ok (.aload_n 0, 1) := by decide +kernel
theorem dX5_rounded_33 : decode cX5_rounded 33 = .ok (.ldc2_w 90, 3) := by decide +kernel
theorem dX5_rounded_36 : decode cX5_rounded 36 = .ok (.aload_n 0, 1) := by decide +kernel
theorem dX5_rounded_37 : decode cX5_rounded 37 = .ok (.iload_n 1, 1) := by decide +kernel
theorem dX5_rounded_38 : decode cX5_rounded 38 = .ok (.iload 4, 2) := by decide +kernel
theorem dX5_rounded_40 : decode cX5_rounded 40 = .ok (.invokevirtual 92, 3) := by decide +kernel
theorem dX5_rounded_43 : decode cX5_rounded 43 = .ok (.lmul, 1) := by decide +kernel
theorem dX5_rounded_44 : decode cX5_rounded 44 = .ok (.invokevirtual 155, 3) := by decide +kernel
theorem dX5_rounded_47 : decode cX5_rounded 47 = .ok (.ifCond .le 11, 3) := by decide +kernel
theorem dX5_rounded_50 : decode cX5_rounded 50 = .ok (.aload_n 0, 1) := by decide +kernel
theorem dX5_rounded_51 : decode cX5_rounded 51 = .ok (.iload_n 1, 1) := by decide +kernel
theorem dX5_rounded_52 : decode cX5_rounded 52 = .ok (.iload_n 2, 1) := by decide +kernel
theorem dX5_rounded_53 : decode cX5_rounded 53 = .ok (.iload_n 3, 1) := by decide +kernel
theorem dX5_rounded_54 : decode cX5_rounded 54 = .ok (.invokevirtual 163, 3) := by decide +kernel
theorem dX5_rounded_57 : decode cX5_rounded 57 = .ok (.ireturn, 1) := by decide +kernel
theorem dX5_rounded_58 : decode cX5_rounded 58 = .ok (.iconst 0, 1) := by decide +kernel
theorem dX5_rounded_59 : decode cX5_rounded 59 = .ok (.istore 5, 2) := by decide +kernel
theorem dX5_rounded_61 : decode cX5_rounded 61 = .ok (.iload 5, 2) := by decide +kernel
theorem dX5_rounded_63 : decode cX5_rounded 63 = .ok (.iload 4, 2) := by decide +kernel
theorem dX5_rounded_65 : decode cX5_rounded 65 = .ok (.if_icmp .ge 29, 3) := by decide +kernel
theorem dX5_rounded_68 : decode cX5_rounded 68 = .ok (.aload_n 0, 1) := by decide +kernel
theorem dX5_rounded_69 : decode cX5_rounded 69 = .ok (.ldc2_w 90, 3) := by decide +kernel
theorem dX5_rounded_72 : decode cX5_rounded 72 = .ok (.aload_n 0, 1) := by decide +kernel
theorem dX5_rounded_73 : decode cX5_rounded 73 = .ok (.iload_n 1, 1) := by decide +kernel
theorem dX5_rounded_74 : decode cX5_rounded 74 = .ok (.iload 5, 2) := by decide +kernel
theorem dX5_rounded_76 : decode cX5_rounded 76 = .ok (.iconst 1, 1) := by decide +kernel
theorem dX5_rounded_77 : decode cX5_rounded 77 = .ok (.iadd, 1) := by decide +kernel
theorem dX5_rounded_78 : decode cX5_rounded 78 = .ok (.invokevirtual 92, 3) := by decide +kernel
theorem dX5_rounded_81 : decode cX5_rounded 81 = .ok (.lmul, 1) := by decide +kernel
theorem dX5_rounded_82 : decode cX5_rounded 82 = .ok (.invokevirtual 155, 3) := by decide +kernel
theorem dX5_rounded_85 : decode cX5_rounded 85 = .ok (.ifCond .lt 9, 3) := by decide +kernel
theorem dX5_rounded_88 : decode cX5_rounded 88 = .ok (.iinc 5 1, 3) := by decide +kernel
theorem dX5_rounded_91 : decode cX5_rounded 91 = .ok (.goto (-30), 3) := by decide +kernel
theorem dX5_rounded_94 : decode cX5_rounded 94 = .ok (.aload_n 0, 1) := by decide +kernel
theorem dX5_rounded_95 : decode cX5_rounded 95 = .ok (.ldc2_w 90, 3) := by decide +kernel
theorem dX5_rounded_98 : decode cX5_rounded 98 = .ok (.aload_n 0, 1) := by decide +kernel
theorem dX5_rounded_99 : decode cX5_rounded 99 = .ok (.iload_n 1, 1) := by decide +kernel
theorem dX5_rounded_100 : decode cX5_rounded 100 = .ok (.iload 5, 2) := by decide +kernel
theorem dX5_rounded_102 : decode cX5_rounded 102 = .ok (.invokevirtual 92, 3) := by decide +kernel
theorem dX5_rounded_105 : decode cX5_rounded 105 = .ok (.lmul, 1) := by decide +kernel
theorem dX5_rounded_106 : decode cX5_rounded 106 = .ok (.invokevirtual 155, 3) := by decide +kernel
theorem dX5_rounded_109 : decode cX5_rounded 109 = .ok (.ifCond .ne 12, 3) := by decide +kernel
theorem dX5_rounded_112 : decode cX5_rounded 112 = .ok (.aload_n 0, 1) := by decide +kernel
theorem dX5_rounded_113 : decode cX5_rounded 113 = .ok (.iload_n 1, 1) := by decide +kernel
theorem dX5_rounded_114 : decode cX5_rounded 114 = .ok (.iload 5, 2) := by decide +kernel
theorem dX5_rounded_116 : decode cX5_rounded 116 = .ok (.iload_n 2, 1) := by decide +kernel
theorem dX5_rounded_117 : decode cX5_rounded 117 = .ok (.invokevirtual 149, 3) := by decide +kernel
theorem dX5_rounded_120 : decode cX5_rounded 120 = .ok (.ireturn, 1) := by decide +kernel
theorem dX5_rounded_121 : decode cX5_rounded 121 = .ok (.aload_n 0, 1) := by decide +kernel
theorem dX5_rounded_122 : decode cX5_rounded 122 = .ok (.dup, 1) := by decide +kernel
theorem dX5_rounded_123 : decode cX5_rounded 123 = .ok (.getfield 51, 3) := by decide +kernel
theorem dX5_rounded_126 : decode cX5_rounded 126 = .ok (.iconst 1, 1) := by decide +kernel
theorem dX5_rounded_127 : decode cX5_rounded 127 = .ok (.iadd, 1) := by decide +kernel
theorem dX5_rounded_128 : decode cX5_rounded 128 = .ok (.putfield 51, 3) := by decide +kernel
theorem dX5_rounded_131 : decode cX5_rounded 131 = .ok (.iload 5, 2) := by decide +kernel
theorem dX5_rounded_133 : decode cX5_rounded 133 = .ok (.iconst 1, 1) := by decide +kernel
theorem dX5_rounded_134 : decode cX5_rounded 134 = .ok (.iadd, 1) := by decide +kernel
theorem dX5_rounded_135 : decode cX5_rounded 135 = .ok (.istore 6, 2) := by decide +kernel
theorem dX5_rounded_137 : decode cX5_rounded 137 = .ok (.aload_n 0, 1) := by decide +kernel
theorem dX5_rounded_138 : decode cX5_rounded 138 = .ok (.aload_n 0, 1) := by decide +kernel
theorem dX5_rounded_139 : decode cX5_rounded 139 = .ok (.iload_n 1, 1) := by decide +kernel
theorem dX5_rounded_140 : decode cX5_rounded 140 = .ok (.iload 5, 2) := by decide +kernel
theorem dX5_rounded_142 : decode cX5_rounded 142 = .ok (.invokevirtual 92, 3) := by decide +kernel
theorem dX5_rounded_145 : decode cX5_rounded 145 = .ok (.aload_n 0, 1) := by decide +kernel
theorem dX5_rounded_146 : decode cX5_rounded 146 = .ok (.iload_n 1, 1) := by decide +kernel
theorem dX5_rounded_147 : decode cX5_rounded 147 = .ok (.iload 6, 2) := by decide +kernel
theorem dX5_rounded_149 : decode cX5_rounded 149 = .ok (.invokevirtual 92, 3) := by decide +kernel
theorem dX5_rounded_152 : decode cX5_rounded 152 = .ok (.ladd, 1) := by decide +kernel
theorem dX5_rounded_153 : decode cX5_rounded 153 = .ok (.invokevirtual 155, 3) := by decide +kernel
theorem dX5_rounded_156 : decode cX5_rounded 156 = .ok (.istore 7, 2) := by decide +kernel
theorem dX5_rounded_158 : decode cX5_rounded 158 = .ok (.iload 5, 2) := by decide +kernel
theorem dX5_rounded_160 : decode cX5_rounded 160 = .ok (.istore 8, 2) := by decide +kernel
theorem dX5_rounded_162 : decode cX5_rounded 162 = .ok (.iload_n 3, 1) := by decide +kernel
theorem dX5_rounded_163 : decode cX5_rounded 163 = .ok (.tableswitch 114 0 4 #[33, 62, 79, 82, 98], 33) := by decide +kernel
theorem dX5_rounded_196 : decode cX5_rounded 196 = .ok (.iload 7, 2) := by decide +kernel
theorem dX5_rounded_198 : decode cX5_rounded 198 = .ok (.ifCond .gt 15, 3) := by decide +kernel
theorem dX5_rounded_201 : decode cX5_rounded 201 = .ok (.iload 7, 2) := by decide +kernel
theorem dX5_rounded_203 : decode cX5_rounded 203 = .ok (.ifCond .ne 15, 3) := by decide +kernel
theorem dX5_rounded_206 : decode cX5_rounded 206 = .ok (.iload 6, 2) := by decide +kernel
theorem dX5_rounded_208 : decode cX5_rounded 208 = .ok (.iconst 1, 1) := by decide +kernel
theorem dX5_rounded_209 : decode cX5_rounded 209 = .ok (.iand, 1) := by decide +kernel
theorem dX5_rounded_210 : decode cX5_rounded 210 = .ok (.ifCond .ne 8, 3) := by decide +kernel
theorem dX5_rounded_213 : decode cX5_rounded 213 = .ok (.iload 6, 2) := by decide +kernel
theorem dX5_rounded_215 : decode cX5_rounded 215 = .ok (.goto 5, 3) := by decide +kernel
theorem dX5_rounded_218 : decode cX5_rounded 218 = .ok (.iload 5, 2) := by decide +kernel
theorem dX5_rounded_220 : decode cX5_rounded 220 = .ok (.istore 8, 2) := by decide +kernel
theorem dX5_rounded_222 : decode cX5_rounded 222 = .ok (.goto 72, 3) := by decide +kernel
theorem dX5_rounded_225 : decode cX5_rounded 225 = .ok (.iload 7, 2) := by decide +kernel
theorem dX5_rounded_227 : decode cX5_rounded 227 = .ok (.ifCond .lt 8, 3) := by decide +kernel
theorem dX5_rounded_230 : decode cX5_rounded 230 = .ok (.iload 6, 2) := by decide +kernel
theorem dX5_rounded_232 : decode cX5_rounded 232 = .ok (.goto 5, 3) := by decide +kernel
theorem dX5_rounded_235 : decode cX5_rounded 235 = .ok (.iload 5, 2) := by decide +kernel
theorem dX5_rounded_237 : decode cX5_rounded 237 = .ok (.istore 8, 2) := by decide +kernel
theorem dX5_rounded_239 : decode cX5_rounded 239 = .ok (.goto 55, 3) := by decide +kernel
theorem dX5_rounded_242 : decode cX5_rounded 242 = .ok (.goto 52, 3) := by decide +kernel
theorem dX5_rounded_245 : decode cX5_rounded 245 = .ok (.iload_n 2, 1) := by decide +kernel
theorem dX5_rounded_246 : decode cX5_rounded 246 = .ok (.ifCond .eq 8, 3) := by decide +kernel
theorem dX5_rounded_249 : decode cX5_rounded 249 = .ok (.iload 6, 2) := by decide +kernel
theorem dX5_rounded_251 : decode cX5_rounded 251 = .ok (.goto 5, 3) := by decide +kernel
theorem dX5_rounded_254 : decode cX5_rounded 254 = .ok (.iload 5, 2) := by decide +kernel
theorem dX5_rounded_256 : decode cX5_rounded 256 = .ok (.istore 8, 2) := by decide +kernel
theorem dX5_rounded_258 : decode cX5_rounded 258 = .ok (.goto 36, 3) := by decide +kernel
theorem dX5_rounded_261 : decode cX5_rounded 261 = .ok (.iload_n 2, 1) := by decide +kernel
theorem dX5_rounded_262 : decode cX5_rounded 262 = .ok (.ifCond .eq 8, 3) := by decide +kernel
theorem dX5_rounded_265 : decode cX5_rounded 265 = .ok (.iload 5, 2) := by decide +kernel
theorem dX5_rounded_267 : decode cX5_rounded 267 = .ok (.goto 5, 3) := by decide +kernel
theorem dX5_rounded_270 : decode cX5_rounded 270 = .ok (.iload 6, 2) := by decide +kernel
theorem dX5_rounded_272 : decode cX5_rounded 272 = .ok (.istore 8, 2) := by decide +kernel
theorem dX5_rounded_274 : decode cX5_rounded 274 = .ok (.goto 20, 3) := by decide +kernel
theorem dX5_rounded_277 : decode cX5_rounded 277 = .ok (.iload 6, 2) := by decide +kernel
theorem dX5_rounded_279 : decode cX5_rounded 279 = .ok (.iconst 1, 1) := by decide +kernel
theorem dX5_rounded_280 : decode cX5_rounded 280 = .ok (.iand, 1) := by decide +kernel
theorem dX5_rounded_281 : decode cX5_rounded 281 = .ok (.iconst 1, 1) := by decide +kernel
theorem dX5_rounded_282 : decode cX5_rounded 282 = .ok (.if_icmp .ne 8, 3) := by decide +kernel
theorem dX5_rounded_285 : decode cX5_rounded 285 = .ok (.iload 6, 2) := by decide +kernel
theorem dX5_rounded_287 : decode cX5_rounded 287 = .ok (.goto 5, 3) := by decide +kernel
theorem dX5_rounded_290 : decode cX5_rounded 290 = .ok (.iload 5, 2) := by decide +kernel
theorem dX5_rounded_292 : decode cX5_rounded 292 = .ok (.istore 8, 2) := by decide +kernel
theorem dX5_rounded_294 : decode cX5_rounded 294 = .ok (.aload_n 0, 1) := by decide +kernel
theorem dX5_rounded_295 : decode cX5_rounded 295 = .ok (.iload_n 1, 1) := by decide +kernel
theorem dX5_rounded_296 : decode cX5_rounded 296 = .ok (.iload 8, 2) := by decide +kernel
theorem dX5_rounded_298 : decode cX5_rounded 298 = .ok (.iload_n 2, 1) := by decide +kernel
theorem dX5_rounded_299 : decode cX5_rounded 299 = .ok (.invokevirtual 149, 3) := by decide +kernel
theorem dX5_rounded_302 : decode cX5_rounded 302 = .ok (.ireturn, 1) := by decide +kernel
theorem dX5_roundedFraction_0 : decode cX5_roundedFraction 0 = .ok (.lload_n 2, 1) := by decide +kernel
theorem dX5_roundedFraction_1 : decode cX5_roundedFraction 1 = .ok (.lconst 0, 1) := by decide +kernel
theorem dX5_roundedFraction_2 : decode cX5_roundedFraction 2 = .ok (.lcmp, 1) := by decide +kernel
theorem dX5_roundedFraction_3 : decode cX5_roundedFraction 3 = .ok (.ifCond .ne 12, 3) := by decide +kernel
theorem dX5_roundedFraction_6 : decode cX5_roundedFraction 6 = .ok (.aload_n 0, 1) := by decide +kernel
theorem dX5_roundedFraction_7 : decode cX5_roundedFraction 7 = .ok (.iload_n 1, 1) := by decide +kernel
theorem dX5_roundedFraction_8 : decode cX5_roundedFraction 8 = .ok (.iconst 0, 1) := by decide +kernel
theorem dX5_roundedFraction_9 : decode cX5_roundedFraction 9 = .ok (.iload 7, 2) := by decide +kernel
theorem dX5_roundedFraction_11 : decode cX5_roundedFraction 11 = .ok (.invokevirtual 149, 3) := by decide +kernel
theorem dX5_roundedFraction_14 : decode cX5_roundedFraction 14 = .ok (.ireturn, 1) := by decide +kernel
theorem dX5_roundedFraction_15 : decode cX5_roundedFraction 15 = .ok (.aload_n 0, 1) := by decide +kernel
theorem dX5_roundedFraction_16 : decode cX5_roundedFraction 16 = .ok (.iconst 0, 1) := by decide +kernel
theorem dX5_roundedFraction_17 : decode cX5_roundedFraction 17 = .ok (.putfield 138, 3) := by decide +kernel
theorem dX5_roundedFraction_20 : decode cX5_roundedFraction 20 = .ok (.aload_n 0, 1) := by decide +kernel
theorem dX5_roundedFraction_21 : decode cX5_roundedFraction 21 = .ok (.lload_n 2, 1) := by decide +kernel
theorem dX5_roundedFraction_22 : decode cX5_roundedFraction 22 = .ok (.lconst 0, 1) := by decide +kernel
theorem dX5_roundedFraction_23 : decode cX5_roundedFraction 23 = .ok (.lcmp, 1) := by decide +kernel
theorem dX5_roundedFraction_24 : decode cX5_roundedFraction 24 = .ok (.ifCond .ge 8, 3) := by decide +kernel
theorem dX5_roundedFraction_27 : decode cX5_roundedFraction 27 = .ok (.lload_n 2, 1) := by decide +kernel
theorem dX5_roundedFraction_28 : decode cX5_roundedFraction 28 = .ok (.lneg, 1) := by decide +kernel
theorem dX5_roundedFraction_29 : decode cX5_roundedFraction 29 = .ok (.goto 4, 3) := by decide +kernel
theorem dX5_roundedFraction_32 : decode cX5_roundedFraction 32 = .ok (.lload_n 2, 1) := by decide +kernel
theorem dX5_roundedFraction_33 : decode cX5_roundedFraction 33 = .ok (.putfield 142, 3) := by decide +kernel
theorem dX5_roundedFraction_36 : decode cX5_roundedFraction 36 = .ok (.aload_n 0, 1) := by decide +kernel
theorem dX5_roundedFraction_37 : decode cX5_roundedFraction 37 = .ok (.lload 4, 2) := by decide +kernel
theorem dX5_roundedFraction_39 : decode cX5_roundedFraction 39 = .ok (.putfield 146, 3) := by decide +kernel
theorem dX5_roundedFraction_42 : decode cX5_roundedFraction 42 = .ok (.aload_n 0, 1) := by decide +kernel
theorem dX5_roundedFraction_43 : decode cX5_roundedFraction 43 = .ok (.iload_n 1, 1) := by decide +kernel
theorem dX5_roundedFraction_44 : decode cX5_roundedFraction 44 = .ok (.lload_n 2, 1) := by decide +kernel
theorem dX5_roundedFraction_45 : decode cX5_roundedFraction 45 = .ok (.lconst 0, 1) := by decide +kernel
theorem dX5_roundedFraction_46 : decode cX5_roundedFraction 46 = .ok (.lcmp, 1) := by decide +kernel
theorem dX5_roundedFraction_47 : decode cX5_roundedFraction 47 = .ok (.ifCond .ge 7, 3) := by decide +kernel
theorem dX5_roundedFraction_50 : decode cX5_roundedFraction 50 = .ok (.iconst 1, 1) := by decide +kernel
theorem dX5_roundedFraction_51 : decode cX5_roundedFraction 51 = .ok (.goto 4, 3) := by decide +kernel
theorem dX5_roundedFraction_54 : decode cX5_roundedFraction 54 = .ok (.iconst 0, 1) := by decide +kernel
theorem dX5_roundedFraction_55 : decode cX5_roundedFraction 55 = .ok (.iload 6, 2) := by decide +kernel
theorem dX5_roundedFraction_57 : decode cX5_roundedFraction 57 = .ok (.invokevirtual 167, 3) := by decide +kernel
theorem dX5_roundedFraction_60 : decode cX5_roundedFraction 60 = .ok (.ireturn, 1) := by decide +kernel
theorem dX5_code_0 : decode cX5_code 0 = .ok (.aload_n 0, 1) := by decide +kernel
theorem dX5_code_1 : decode cX5_code 1 = .ok (.iload_n 1, 1) := by decide +kernel
theorem dX5_code_2 : decode cX5_code 2 = .ok (.invokevirtual 109, 3) := by decide +kernel
theorem dX5_code_5 : decode cX5_code 5 = .ok (.ifCond .eq 41, 3) := by decide +kernel
theorem dX5_code_8 : decode cX5_code 8 = .ok (.lload_n 2, 1) := by decide +kernel
theorem dX5_code_9 : decode cX5_code 9 = .ok (.ldc2_w 170, 3) := by decide +kernel
theorem dX5_code_12 : decode cX5_code 12 = .ok (.ldc2_w 172, 3) := by decide +kernel
theorem dX5_code_15 : decode cX5_code 15 = .ok (.invokestatic 70, 3) := by decide +kernel
theorem dX5_code_18 : decode cX5_code 18 = .ok (.ifCond .eq 28, 3) := by decide +kernel
theorem dX5_code_21 : decode cX5_code 21 = .ok (.lload 4, 2) := by decide +kernel
theorem dX5_code_23 : decode cX5_code 23 = .ok (.lconst 1, 1) := by decide +kernel
theorem dX5_code_24 : decode cX5_code 24 = .ok (.ldc2_w 174, 3) := by decide +kernel
theorem dX5_code_27 : decode cX5_code 27 = .ok (.invokestatic 70, 3) := by decide +kernel
theorem dX5_code_30 : decode cX5_code 30 = .ok (.ifCond .eq 16, 3) := by decide +kernel
theorem dX5_code_33 : decode cX5_code 33 = .ok (.iload 6, 2) := by decide +kernel
theorem dX5_code_35 : decode cX5_code 35 = .ok (.i2l, 1) := by decide +kernel
theorem dX5_code_36 : decode cX5_code 36 = .ok (.lconst 0, 1) := by decide +kernel
theorem dX5_code_37 : decode cX5_code 37 = .ok (.ldc2_w 105, 3) := by decide +kernel
theorem dX5_code_40 : decode cX5_code 40 = .ok (.invokestatic 70, 3) := by decide +kernel
theorem dX5_code_43 : decode cX5_code 43 = .ok (.ifCond .ne 9, 3) := by decide +kernel
theorem dX5_code_46 : decode cX5_code 46 = .ok (.aload_n 0, 1) := by decide +kernel
theorem dX5_code_47 : decode cX5_code 47 = .ok (.iconst (-1), 1) := by decide +kernel
theorem dX5_code_48 : decode cX5_code 48 = .ok (.invokevirtual 57, 3) := by decide +kernel
theorem dX5_code_51 : decode cX5_code 51 = .ok (.ireturn, 1) := by decide +kernel
theorem dX5_code_52 : decode cX5_code 52 = .ok (.aload_n 0, 1) := by decide +kernel
theorem dX5_code_53 : decode cX5_code 53 = .ok (.invokevirtual 176, 3) := by decide +kernel
theorem dX5_code_56 : decode cX5_code 56 = .ok (.aload_n 0, 1) := by decide +kernel
theorem dX5_code_57 : decode cX5_code 57 = .ok (.aload_n 0, 1) := by decide +kernel
theorem dX5_code_58 : decode cX5_code 58 = .ok (.iload_n 1, 1) := by decide +kernel
theorem dX5_code_59 : decode cX5_code 59 = .ok (.lload_n 2, 1) := by decide +kernel
theorem dX5_code_60 : decode cX5_code 60 = .ok (.aload_n 0, 1) := by decide +kernel
theorem dX5_code_61 : decode cX5_code 61 = .ok (.iload_n 1, 1) := by decide +kernel
theorem dX5_code_62 : decode cX5_code 62 = .ok (.invokevirtual 127, 3) := by decide +kernel
theorem dX5_code_65 : decode cX5_code 65 = .ok (.lshl, 1) := by decide +kernel
theorem dX5_code_66 : decode cX5_code 66 = .ok (.lload 4, 2) := by decide +kernel
theorem dX5_code_68 : decode cX5_code 68 = .ok (.iload 6, 2) := by decide +kernel
theorem dX5_code_70 : decode cX5_code 70 = .ok (.iconst 0, 1) := by decide +kernel
theorem dX5_code_71 : decode cX5_code 71 = .ok (.invokevirtual 179, 3) := by decide +kernel
theorem dX5_code_74 : decode cX5_code 74 = .ok (.invokevirtual 183, 3) := by decide +kernel
theorem dX5_code_77 : decode cX5_code 77 = .ok (.ireturn, 1) := by decide +kernel
theorem dX5_invalidIn_0 : decode cX5_invalidIn 0 = .ok (.aload_n 0, 1) := by decide +kernel
theorem dX5_invalidIn_1 : decode cX5_invalidIn 1 = .ok (.dup, 1) := by decide +kernel
theorem dX5_invalidIn_2 : decode cX5_invalidIn 2 = .ok (.getfield 186, 3) := by decide +kernel
theorem dX5_invalidIn_5 : decode cX5_invalidIn 5 = .ok (.iconst 1, 1) := by decide +kernel
theorem dX5_invalidIn_6 : decode cX5_invalidIn 6 = .ok (.iadd, 1) := by decide +kernel
theorem dX5_invalidIn_7 : decode cX5_invalidIn 7 = .ok (.putfield 186, 3) := by decide +kernel
theorem dX5_invalidIn_10 : decode cX5_invalidIn 10 = .ok (.aload_n 0, 1) := by decide +kernel
theorem dX5_invalidIn_11 : decode cX5_invalidIn 11 = .ok (.iload_n 1, 1) := by decide +kernel
theorem dX5_invalidIn_12 : decode cX5_invalidIn 12 = .ok (.invokevirtual 118, 3) := by decide +kernel
theorem dX5_invalidIn_15 : decode cX5_invalidIn 15 = .ok (.ifCond .ge 8, 3) := by decide +kernel
theorem dX5_invalidIn_18 : decode cX5_invalidIn 18 = .ok (.bipush (-4), 2) := by decide +kernel
theorem dX5_invalidIn_20 : decode cX5_invalidIn 20 = .ok (.goto 8, 3) := by decide +kernel
theorem dX5_invalidIn_23 : decode cX5_invalidIn 23 = .ok (.aload_n 0, 1) := by decide +kernel
theorem dX5_invalidIn_24 : decode cX5_invalidIn 24 = .ok (.iload_n 1, 1) := by decide +kernel
theorem dX5_invalidIn_25 : decode cX5_invalidIn 25 = .ok (.invokevirtual 118, 3) := by decide +kernel
theorem dX5_invalidIn_28 : decode cX5_invalidIn 28 = .ok (.ireturn, 1) := by decide +kernel
theorem dX5_crossed_0 : decode cX5_crossed 0 = .ok (.aload_n 0, 1) := by decide +kernel
theorem dX5_crossed_1 : decode cX5_crossed 1 = .ok (.iload_n 1, 1) := by decide +kernel
theorem dX5_crossed_2 : decode cX5_crossed 2 = .ok (.iload_n 2, 1) := by decide +kernel
theorem dX5_crossed_3 : decode cX5_crossed 3 = .ok (.invokevirtual 87, 3) := by decide +kernel
theorem dX5_crossed_6 : decode cX5_crossed 6 = .ok (.istore 5, 2) := by decide +kernel
theorem dX5_crossed_8 : decode cX5_crossed 8 = .ok (.aload_n 0, 1) := by decide +kernel
theorem dX5_crossed_9 : decode cX5_crossed 9 = .ok (.iload_n 1, 1) := by decide +kernel
theorem dX5_crossed_10 : decode cX5_crossed 10 = .ok (.iload_n 2, 1) := by decide +kernel
theorem dX5_crossed_11 : decode cX5_crossed 11 = .ok (.invokevirtual 96, 3) := by decide +kernel
theorem dX5_crossed_14 : decode cX5_crossed 14 = .ok (.istore 6, 2) := by decide +kernel
theorem dX5_crossed_16 : decode cX5_crossed 16 = .ok (.iload 5, 2) := by decide +kernel
theorem dX5_crossed_18 : decode cX5_crossed 18 = .ok (.iconst 4, 1) := by decide +kernel
theorem dX5_crossed_19 : decode cX5_crossed 19 = .ok (.if_icmp .ne 25, 3) := by decide +kernel
theorem dX5_crossed_22 : decode cX5_crossed 22 = .ok (.aload_n 0, 1) := by decide +kernel
theorem dX5_crossed_23 : decode cX5_crossed 23 = .ok (.iload_n 3, 1) := by decide +kernel
theorem dX5_crossed_24 : decode cX5_crossed 24 = .ok (.invokevirtual 118, 3) := by decide +kernel
theorem dX5_crossed_27 : decode cX5_crossed 27 = .ok (.ifCond .lt 11, 3) := by decide +kernel
theorem dX5_crossed_30 : decode cX5_crossed 30 = .ok (.aload_n 0, 1) := by decide +kernel
theorem dX5_crossed_31 : decode cX5_crossed 31 = .ok (.iload_n 3, 1) := by decide +kernel
theorem dX5_crossed_32 : decode cX5_crossed 32 = .ok (.invokevirtual 118, 3) := by decide +kernel
theorem dX5_crossed_35 : decode cX5_crossed 35 = .ok (.goto 8, 3) := by decide +kernel
theorem dX5_crossed_38 : decode cX5_crossed 38 = .ok (.aload_n 0, 1) := by decide +kernel
theorem dX5_crossed_39 : decode cX5_crossed 39 = .ok (.iload_n 3, 1) := by decide +kernel
theorem dX5_crossed_40 : decode cX5_crossed 40 = .ok (.invokevirtual 189, 3) := by decide +kernel
theorem dX5_crossed_43 : decode cX5_crossed 43 = .ok (.ireturn, 1) := by decide +kernel
theorem dX5_crossed_44 : decode cX5_crossed 44 = .ok (.iload 5, 2) := by decide +kernel
theorem dX5_crossed_46 : decode cX5_crossed 46 = .ok (.iconst 3, 1) := by decide +kernel
theorem dX5_crossed_47 : decode cX5_crossed 47 = .ok (.if_icmp .ne 29, 3) := by decide +kernel
theorem dX5_crossed_50 : decode cX5_crossed 50 = .ok (.iload 6, 2) := by decide +kernel
theorem dX5_crossed_52 : decode cX5_crossed 52 = .ok (.ifCond .eq 16, 3) := by decide +kernel
theorem dX5_crossed_55 : decode cX5_crossed 55 = .ok (.aload_n 0, 1) := by decide +kernel
theorem dX5_crossed_56 : decode cX5_crossed 56 = .ok (.getfield 7, 3) := by decide +kernel
theorem dX5_crossed_59 : decode cX5_crossed 59 = .ok (.iload_n 3, 1) := by decide +kernel
theorem dX5_crossed_60 : decode cX5_crossed 60 = .ok (.iaload, 1) := by decide +kernel
theorem dX5_crossed_61 : decode cX5_crossed 61 = .ok (.ifCond .ne 7, 3) := by decide +kernel
theorem dX5_crossed_64 : decode cX5_crossed 64 = .ok (.iconst 0, 1) := by decide +kernel
theorem dX5_crossed_65 : decode cX5_crossed 65 = .ok (.goto 10, 3) := by decide +kernel
theorem dX5_crossed_68 : decode cX5_crossed 68 = .ok (.aload_n 0, 1) := by decide +kernel
theorem dX5_crossed_69 : decode cX5_crossed 69 = .ok (.iload_n 3, 1) := by decide +kernel
theorem dX5_crossed_70 : decode cX5_crossed 70 = .ok (.iload 6, 2) := by decide +kernel
theorem dX5_crossed_72 : decode cX5_crossed 72 = .ok (.invokevirtual 159, 3) := by decide +kernel
theorem dX5_crossed_75 : decode cX5_crossed 75 = .ok (.ireturn, 1) := by decide +kernel
theorem dX5_crossed_76 : decode cX5_crossed 76 = .ok (.aload_n 0, 1) := by decide +kernel
theorem dX5_crossed_77 : decode cX5_crossed 77 = .ok (.iload_n 3, 1) := by decide +kernel
theorem dX5_crossed_78 : decode cX5_crossed 78 = .ok (.invokevirtual 127, 3) := by decide +kernel
theorem dX5_crossed_81 : decode cX5_crossed 81 = .ok (.aload_n 0, 1) := by decide +kernel
theorem dX5_crossed_82 : decode cX5_crossed 82 = .ok (.iload_n 1, 1) := by decide +kernel
theorem dX5_crossed_83 : decode cX5_crossed 83 = .ok (.invokevirtual 127, 3) := by decide +kernel
theorem dX5_crossed_86 : decode cX5_crossed 86 = .ok (.isub, 1) := by decide +kernel
theorem dX5_crossed_87 : decode cX5_crossed 87 = .ok (.istore 7, 2) := by decide +kernel
theorem dX5_crossed_89 : decode cX5_crossed 89 = .ok (.aload_n 0, 1) := by decide +kernel
theorem dX5_crossed_90 : decode cX5_crossed 90 = .ok (.iload_n 1, 1) := by decide +kernel
theorem dX5_crossed_91 : decode cX5_crossed 91 = .ok (.iload_n 2, 1) := by decide +kernel
theorem dX5_crossed_92 : decode cX5_crossed 92 = .ok (.invokevirtual 135, 3) := by decide +kernel
theorem dX5_crossed_95 : decode cX5_crossed 95 = .ok (.lstore 8, 2) := by decide +kernel
theorem dX5_crossed_97 : decode cX5_crossed 97 = .ok (.aload_n 0, 1) := by decide +kernel
theorem dX5_crossed_98 : decode cX5_crossed 98 = .ok (.iload_n 3, 1) := by decide +kernel
theorem dX5_crossed_99 : decode cX5_crossed 99 = .ok (.iload 7, 2) := by decide +kernel
theorem dX5_crossed_101 : decode cX5_crossed 101 = .ok (.ifCond .le 11, 3) := by decide +kernel
theorem dX5_crossed_104 : decode cX5_crossed 104 = .ok (.lload 8, 2) := by decide +kernel
theorem dX5_crossed_106 : decode cX5_crossed 106 = .ok (.iload 7, 2) := by decide +kernel
theorem dX5_crossed_108 : decode cX5_crossed 108 = .ok (.lshl, 1) := by decide +kernel
theorem dX5_crossed_109 : decode cX5_crossed 109 = .ok (.goto 5, 3) := by decide +kernel
theorem dX5_crossed_112 : decode cX5_crossed 112 = .ok (.lload 8, 2) := by decide +kernel
theorem dX5_crossed_114 : decode cX5_crossed 114 = .ok (.iload 7, 2) := by decide +kernel
theorem dX5_crossed_116 : decode cX5_crossed 116 = .ok (.ifCond .ge 11, 3) := by decide +kernel
theorem dX5_crossed_119 : decode cX5_crossed 119 = .ok (.lconst 1, 1) := by decide +kernel
theorem dX5_crossed_120 : decode cX5_crossed 120 = .ok (.iload 7, 2) := by decide +kernel
theorem dX5_crossed_122 : decode cX5_crossed 122 = .ok (.ineg, 1) := by decide +kernel
theorem dX5_crossed_123 : decode cX5_crossed 123 = .ok (.lshl, 1) := by decide +kernel
theorem dX5_crossed_124 : decode cX5_crossed 124 = .ok (.goto 4, 3) := by decide +kernel
theorem dX5_crossed_127 : decode cX5_crossed 127 = .ok (.lconst 1, 1) := by decide +kernel
theorem dX5_crossed_128 : decode cX5_crossed 128 = .ok (.iload 4, 2) := by decide +kernel
theorem dX5_crossed_130 : decode cX5_crossed 130 = .ok (.iload 6, 2) := by decide +kernel
theorem dX5_crossed_132 : decode cX5_crossed 132 = .ok (.invokevirtual 179, 3) := by decide +kernel
theorem dX5_crossed_135 : decode cX5_crossed 135 = .ok (.ireturn, 1) := by decide +kernel
theorem dX5_cross_0 : decode cX5_cross 0 = .ok (.aload_n 0, 1) := by decide +kernel
theorem dX5_cross_1 : decode cX5_cross 1 = .ok (.iload_n 1, 1) := by decide +kernel
theorem dX5_cross_2 : decode cX5_cross 2 = .ok (.invokevirtual 109, 3) := by decide +kernel
theorem dX5_cross_5 : decode cX5_cross 5 = .ok (.ifCond .eq 33, 3) := by decide +kernel
theorem dX5_cross_8 : decode cX5_cross 8 = .ok (.aload_n 0, 1) := by decide +kernel
theorem dX5_cross_9 : decode cX5_cross 9 = .ok (.iload_n 1, 1) := by decide +kernel
theorem dX5_cross_10 : decode cX5_cross 10 = .ok (.iload_n 2, 1) := by decide +kernel
theorem dX5_cross_11 : decode cX5_cross 11 = .ok (.invokevirtual 130, 3) := by decide +kernel
theorem dX5_cross_14 : decode cX5_cross 14 = .ok (.ifCond .eq 24, 3) := by decide +kernel
theorem dX5_cross_17 : decode cX5_cross 17 = .ok (.aload_n 0, 1) := by decide +kernel
theorem dX5_cross_18 : decode cX5_cross 18 = .ok (.iload_n 3, 1) := by decide +kernel
theorem dX5_cross_19 : decode cX5_cross 19 = .ok (.invokevirtual 109, 3) := by decide +kernel
theorem dX5_cross_22 : decode cX5_cross 22 = .ok (.ifCond .eq 16, 3) := by decide +kernel
theorem dX5_cross_25 : decode cX5_cross 25 = .ok (.iload 4, 2) := by decide +kernel
theorem dX5_cross_27 : decode cX5_cross 27 = .ok (.i2l, 1) := by decide +kernel
theorem dX5_cross_28 : decode cX5_cross 28 = .ok (.lconst 0, 1) := by decide +kernel
theorem dX5_cross_29 : decode cX5_cross 29 = .ok (.ldc2_w 105, 3) := by decide +kernel
theorem dX5_cross_32 : decode cX5_cross 32 = .ok (.invokestatic 70, 3) := by decide +kernel
theorem dX5_cross_35 : decode cX5_cross 35 = .ok (.ifCond .ne 9, 3) := by decide +kernel
theorem dX5_cross_38 : decode cX5_cross 38 = .ok (.aload_n 0, 1) := by decide +kernel
theorem dX5_cross_39 : decode cX5_cross 39 = .ok (.iconst (-1), 1) := by decide +kernel
theorem dX5_cross_40 : decode cX5_cross 40 = .ok (.invokevirtual 57, 3) := by decide +kernel
theorem dX5_cross_43 : decode cX5_cross 43 = .ok (.ireturn, 1) := by decide +kernel
theorem dX5_cross_44 : decode cX5_cross 44 = .ok (.aload_n 0, 1) := by decide +kernel
theorem dX5_cross_45 : decode cX5_cross 45 = .ok (.invokevirtual 176, 3) := by decide +kernel
theorem dX5_cross_48 : decode cX5_cross 48 = .ok (.aload_n 0, 1) := by decide +kernel
theorem dX5_cross_49 : decode cX5_cross 49 = .ok (.aload_n 0, 1) := by decide +kernel
theorem dX5_cross_50 : decode cX5_cross 50 = .ok (.iload_n 1, 1) := by decide +kernel
theorem dX5_cross_51 : decode cX5_cross 51 = .ok (.iload_n 2, 1) := by decide +kernel
theorem dX5_cross_52 : decode cX5_cross 52 = .ok (.iload_n 3, 1) := by decide +kernel
theorem dX5_cross_53 : decode cX5_cross 53 = .ok (.iload 4, 2) := by decide +kernel
theorem dX5_cross_55 : decode cX5_cross 55 = .ok (.invokevirtual 192, 3) := by decide +kernel
theorem dX5_cross_58 : decode cX5_cross 58 = .ok (.invokevirtual 183, 3) := by decide +kernel
theorem dX5_cross_61 : decode cX5_cross 61 = .ok (.ireturn, 1) := by decide +kernel
theorem dX5_beside_0 : decode cX5_beside 0 = .ok (.aload_n 0, 1) := by decide +kernel
theorem dX5_beside_1 : decode cX5_beside 1 = .ok (.iload_n 1, 1) := by decide +kernel
theorem dX5_beside_2 : decode cX5_beside 2 = .ok (.iload_n 2, 1) := by decide +kernel
theorem dX5_beside_3 : decode cX5_beside 3 = .ok (.invokevirtual 87, 3) := by decide +kernel
theorem dX5_beside_6 : decode cX5_beside 6 = .ok (.iconst 3, 1) := by decide +kernel
theorem dX5_beside_7 : decode cX5_beside 7 = .ok (.if_icmp .ne 24, 3) := by decide +kernel
theorem dX5_beside_10 : decode cX5_beside 10 = .ok (.aload_n 0, 1) := by decide +kernel
theorem dX5_beside_11 : decode cX5_beside 11 = .ok (.iload_n 1, 1) := by decide +kernel
theorem dX5_beside_12 : decode cX5_beside 12 = .ok (.iload_n 2, 1) := by decide +kernel
theorem dX5_beside_13 : decode cX5_beside 13 = .ok (.invokevirtual 96, 3) := by decide +kernel
theorem dX5_beside_16 : decode cX5_beside 16 = .ok (.ifCond .eq 9, 3) := by decide +kernel
theorem dX5_beside_19 : decode cX5_beside 19 = .ok (.ldc2_w 170, 3) := by decide +kernel
theorem dX5_beside_22 : decode cX5_beside 22 = .ok (.goto 15, 3) := by decide +kernel
theorem dX5_beside_25 : decode cX5_beside 25 = .ok (.ldc2_w 172, 3) := by decide +kernel
theorem dX5_beside_28 : decode cX5_beside 28 = .ok (.goto 9, 3) := by decide +kernel
theorem dX5_beside_31 : decode cX5_beside 31 = .ok (.aload_n 0, 1) := by decide +kernel
theorem dX5_beside_32 : decode cX5_beside 32 = .ok (.iload_n 1, 1) := by decide +kernel
theorem dX5_beside_33 : decode cX5_beside 33 = .ok (.iload_n 2, 1) := by decide +kernel
theorem dX5_beside_34 : decode cX5_beside 34 = .ok (.invokevirtual 135, 3) := by decide +kernel
theorem dX5_beside_37 : decode cX5_beside 37 = .ok (.lstore 4, 2) := by decide +kernel
theorem dX5_beside_39 : decode cX5_beside 39 = .ok (.aload_n 0, 1) := by decide +kernel
theorem dX5_beside_40 : decode cX5_beside 40 = .ok (.iload_n 1, 1) := by decide +kernel
theorem dX5_beside_41 : decode cX5_beside 41 = .ok (.iload_n 3, 1) := by decide +kernel
theorem dX5_beside_42 : decode cX5_beside 42 = .ok (.invokevirtual 87, 3) := by decide +kernel
theorem dX5_beside_45 : decode cX5_beside 45 = .ok (.iconst 3, 1) := by decide +kernel
theorem dX5_beside_46 : decode cX5_beside 46 = .ok (.if_icmp .ne 24, 3) := by decide +kernel
theorem dX5_beside_49 : decode cX5_beside 49 = .ok (.aload_n 0, 1) := by decide +kernel
theorem dX5_beside_50 : decode cX5_beside 50 = .ok (.iload_n 1, 1) := by decide +kernel
theorem dX5_beside_51 : decode cX5_beside 51 = .ok (.iload_n 3, 1) := by decide +kernel
theorem dX5_beside_52 : decode cX5_beside 52 = .ok (.invokevirtual 96, 3) := by decide +kernel
theorem dX5_beside_55 : decode cX5_beside 55 = .ok (.ifCond .eq 9, 3) := by decide +kernel
theorem dX5_beside_58 : decode cX5_beside 58 = .ok (.ldc2_w 170, 3) := by decide +kernel
theorem dX5_beside_61 : decode cX5_beside 61 = .ok (.goto 15, 3) := by decide +kernel
theorem dX5_beside_64 : decode cX5_beside 64 = .ok (.ldc2_w 172, 3) := by decide +kernel
theorem dX5_beside_67 : decode cX5_beside 67 = .ok (.goto 9, 3) := by decide +kernel
theorem dX5_beside_70 : decode cX5_beside 70 = .ok (.aload_n 0, 1) := by decide +kernel
theorem dX5_beside_71 : decode cX5_beside 71 = .ok (.iload_n 1, 1) := by decide +kernel
theorem dX5_beside_72 : decode cX5_beside 72 = .ok (.iload_n 3, 1) := by decide +kernel
theorem dX5_beside_73 : decode cX5_beside 73 = .ok (.invokevirtual 135, 3) := by decide +kernel
theorem dX5_beside_76 : decode cX5_beside 76 = .ok (.lstore 6, 2) := by decide +kernel
theorem dX5_beside_78 : decode cX5_beside 78 = .ok (.lload 4, 2) := by decide +kernel
theorem dX5_beside_80 : decode cX5_beside 80 = .ok (.lload 6, 2) := by decide +kernel
theorem dX5_beside_82 : decode cX5_beside 82 = .ok (.lcmp, 1) := by decide +kernel
theorem dX5_beside_83 : decode cX5_beside 83 = .ok (.ifCond .ge 7, 3) := by decide +kernel
theorem dX5_beside_86 : decode cX5_beside 86 = .ok (.iconst (-1), 1) := by decide +kernel
theorem dX5_beside_87 : decode cX5_beside 87 = .ok (.goto 16, 3) := by decide +kernel
theorem dX5_beside_90 : decode cX5_beside 90 = .ok (.lload 4, 2) := by decide +kernel
theorem dX5_beside_92 : decode cX5_beside 92 = .ok (.lload 6, 2) := by decide +kernel
theorem dX5_beside_94 : decode cX5_beside 94 = .ok (.lcmp, 1) := by decide +kernel
theorem dX5_beside_95 : decode cX5_beside 95 = .ok (.ifCond .le 7, 3) := by decide +kernel
theorem dX5_beside_98 : decode cX5_beside 98 = .ok (.iconst 1, 1) := by decide +kernel
theorem dX5_beside_99 : decode cX5_beside 99 = .ok (.goto 4, 3) := by decide +kernel
theorem dX5_beside_102 : decode cX5_beside 102 = .ok (.iconst 0, 1) := by decide +kernel
theorem dX5_beside_103 : decode cX5_beside 103 = .ok (.ireturn, 1) := by decide +kernel
theorem dX5_lesser_0 : decode cX5_lesser 0 = .ok (.aload_n 0, 1) := by decide +kernel
theorem dX5_lesser_1 : decode cX5_lesser 1 = .ok (.iload_n 1, 1) := by decide +kernel
theorem dX5_lesser_2 : decode cX5_lesser 2 = .ok (.iload_n 2, 1) := by decide +kernel
theorem dX5_lesser_3 : decode cX5_lesser 3 = .ok (.iload_n 3, 1) := by decide +kernel
theorem dX5_lesser_4 : decode cX5_lesser 4 = .ok (.invokevirtual 196, 3) := by decide +kernel
theorem dX5_lesser_7 : decode cX5_lesser 7 = .ok (.istore 5, 2) := by decide +kernel
theorem dX5_lesser_9 : decode cX5_lesser 9 = .ok (.iload 5, 2) := by decide +kernel
theorem dX5_lesser_11 : decode cX5_lesser 11 = .ok (.ifCond .ne 47, 3) := by decide +kernel
theorem dX5_lesser_14 : decode cX5_lesser 14 = .ok (.aload_n 0, 1) := by decide +kernel
theorem dX5_lesser_15 : decode cX5_lesser 15 = .ok (.iload_n 1, 1) := by decide +kernel
theorem dX5_lesser_16 : decode cX5_lesser 16 = .ok (.iload_n 2, 1) := by decide +kernel
theorem dX5_lesser_17 : decode cX5_lesser 17 = .ok (.invokevirtual 80, 3) := by decide +kernel
theorem dX5_lesser_20 : decode cX5_lesser 20 = .ok (.ifCond .ne 38, 3) := by decide +kernel
theorem dX5_lesser_23 : decode cX5_lesser 23 = .ok (.aload_n 0, 1) := by decide +kernel
theorem dX5_lesser_24 : decode cX5_lesser 24 = .ok (.iload_n 1, 1) := by decide +kernel
theorem dX5_lesser_25 : decode cX5_lesser 25 = .ok (.iload_n 2, 1) := by decide +kernel
theorem dX5_lesser_26 : decode cX5_lesser 26 = .ok (.invokevirtual 96, 3) := by decide +kernel
theorem dX5_lesser_29 : decode cX5_lesser 29 = .ok (.aload_n 0, 1) := by decide +kernel
theorem dX5_lesser_30 : decode cX5_lesser 30 = .ok (.iload_n 1, 1) := by decide +kernel
theorem dX5_lesser_31 : decode cX5_lesser 31 = .ok (.iload_n 3, 1) := by decide +kernel
theorem dX5_lesser_32 : decode cX5_lesser 32 = .ok (.invokevirtual 96, 3) := by decide +kernel
theorem dX5_lesser_35 : decode cX5_lesser 35 = .ok (.if_icmp .ne 7, 3) := by decide +kernel
theorem dX5_lesser_38 : decode cX5_lesser 38 = .ok (.iconst 0, 1) := by decide +kernel
theorem dX5_lesser_39 : decode cX5_lesser 39 = .ok (.goto 17, 3) := by decide +kernel
theorem dX5_lesser_42 : decode cX5_lesser 42 = .ok (.aload_n 0, 1) := by decide +kernel
theorem dX5_lesser_43 : decode cX5_lesser 43 = .ok (.iload_n 1, 1) := by decide +kernel
theorem dX5_lesser_44 : decode cX5_lesser 44 = .ok (.iload_n 2, 1) := by decide +kernel
theorem dX5_lesser_45 : decode cX5_lesser 45 = .ok (.invokevirtual 96, 3) := by decide +kernel
theorem dX5_lesser_48 : decode cX5_lesser 48 = .ok (.ifCond .eq 7, 3) := by decide +kernel
theorem dX5_lesser_51 : decode cX5_lesser 51 = .ok (.iconst (-1), 1) := by decide +kernel
theorem dX5_lesser_52 : decode cX5_lesser 52 = .ok (.goto 4, 3) := by decide +kernel
theorem dX5_lesser_55 : decode cX5_lesser 55 = .ok (.iconst 1, 1) := by decide +kernel
theorem dX5_lesser_56 : decode cX5_lesser 56 = .ok (.istore 5, 2) := by decide +kernel
theorem dX5_lesser_58 : decode cX5_lesser 58 = .ok (.iload 5, 2) := by decide +kernel
theorem dX5_lesser_60 : decode cX5_lesser 60 = .ok (.ifCond .eq 18, 3) := by decide +kernel
theorem dX5_lesser_63 : decode cX5_lesser 63 = .ok (.iload 5, 2) := by decide +kernel
theorem dX5_lesser_65 : decode cX5_lesser 65 = .ok (.ifCond .ge 7, 3) := by decide +kernel
theorem dX5_lesser_68 : decode cX5_lesser 68 = .ok (.iconst 1, 1) := by decide +kernel
theorem dX5_lesser_69 : decode cX5_lesser 69 = .ok (.goto 4, 3) := by decide +kernel
theorem dX5_lesser_72 : decode cX5_lesser 72 = .ok (.iconst 0, 1) := by decide +kernel
theorem dX5_lesser_73 : decode cX5_lesser 73 = .ok (.iload 4, 2) := by decide +kernel
theorem dX5_lesser_75 : decode cX5_lesser 75 = .ok (.if_icmp .ne 7, 3) := by decide +kernel
theorem dX5_lesser_78 : decode cX5_lesser 78 = .ok (.iload_n 2, 1) := by decide +kernel
theorem dX5_lesser_79 : decode cX5_lesser 79 = .ok (.goto 4, 3) := by decide +kernel
theorem dX5_lesser_82 : decode cX5_lesser 82 = .ok (.iload_n 3, 1) := by decide +kernel
theorem dX5_lesser_83 : decode cX5_lesser 83 = .ok (.ireturn, 1) := by decide +kernel
theorem dX5_endlessOr_0 : decode cX5_endlessOr 0 = .ok (.iload_n 2, 1) := by decide +kernel
theorem dX5_endlessOr_1 : decode cX5_endlessOr 1 = .ok (.ifCond .eq 16, 3) := by decide +kernel
theorem dX5_endlessOr_4 : decode cX5_endlessOr 4 = .ok (.aload_n 0, 1) := by decide +kernel
theorem dX5_endlessOr_5 : decode cX5_endlessOr 5 = .ok (.getfield 7, 3) := by decide +kernel
theorem dX5_endlessOr_8 : decode cX5_endlessOr 8 = .ok (.iload_n 1, 1) := by decide +kernel
theorem dX5_endlessOr_9 : decode cX5_endlessOr 9 = .ok (.iaload, 1) := by decide +kernel
theorem dX5_endlessOr_10 : decode cX5_endlessOr 10 = .ok (.ifCond .ne 7, 3) := by decide +kernel
theorem dX5_endlessOr_13 : decode cX5_endlessOr 13 = .ok (.iconst 0, 1) := by decide +kernel
theorem dX5_endlessOr_14 : decode cX5_endlessOr 14 = .ok (.goto 14, 3) := by decide +kernel
theorem dX5_endlessOr_17 : decode cX5_endlessOr 17 = .ok (.aload_n 0, 1) := by decide +kernel
theorem dX5_endlessOr_18 : decode cX5_endlessOr 18 = .ok (.iload_n 1, 1) := by decide +kernel
theorem dX5_endlessOr_19 : decode cX5_endlessOr 19 = .ok (.aload_n 0, 1) := by decide +kernel
theorem dX5_endlessOr_20 : decode cX5_endlessOr 20 = .ok (.iload_n 1, 1) := by decide +kernel
theorem dX5_endlessOr_21 : decode cX5_endlessOr 21 = .ok (.invokevirtual 121, 3) := by decide +kernel
theorem dX5_endlessOr_24 : decode cX5_endlessOr 24 = .ok (.iload_n 2, 1) := by decide +kernel
theorem dX5_endlessOr_25 : decode cX5_endlessOr 25 = .ok (.invokevirtual 149, 3) := by decide +kernel
theorem dX5_endlessOr_28 : decode cX5_endlessOr 28 = .ok (.ireturn, 1) := by decide +kernel
theorem dX5_isEndless_0 : decode cX5_isEndless 0 = .ok (.aload_n 0, 1) := by decide +kernel
theorem dX5_isEndless_1 : decode cX5_isEndless 1 = .ok (.iload_n 1, 1) := by decide +kernel
theorem dX5_isEndless_2 : decode cX5_isEndless 2 = .ok (.iload_n 2, 1) := by decide +kernel
theorem dX5_isEndless_3 : decode cX5_isEndless 3 = .ok (.invokevirtual 87, 3) := by decide +kernel
theorem dX5_isEndless_6 : decode cX5_isEndless 6 = .ok (.iconst 3, 1) := by decide +kernel
theorem dX5_isEndless_7 : decode cX5_isEndless 7 = .ok (.if_icmp .ne 7, 3) := by decide +kernel
theorem dX5_isEndless_10 : decode cX5_isEndless 10 = .ok (.iconst 1, 1) := by decide +kernel
theorem dX5_isEndless_11 : decode cX5_isEndless 11 = .ok (.goto 4, 3) := by decide +kernel
theorem dX5_isEndless_14 : decode cX5_isEndless 14 = .ok (.iconst 0, 1) := by decide +kernel
theorem dX5_isEndless_15 : decode cX5_isEndless 15 = .ok (.ireturn, 1) := by decide +kernel
theorem dX5_endlessSum_0 : decode cX5_endlessSum 0 = .ok (.aload_n 0, 1) := by decide +kernel
theorem dX5_endlessSum_1 : decode cX5_endlessSum 1 = .ok (.iload_n 1, 1) := by decide +kernel
theorem dX5_endlessSum_2 : decode cX5_endlessSum 2 = .ok (.iload_n 3, 1) := by decide +kernel
theorem dX5_endlessSum_3 : decode cX5_endlessSum 3 = .ok (.invokevirtual 96, 3) := by decide +kernel
theorem dX5_endlessSum_6 : decode cX5_endlessSum 6 = .ok (.iload 4, 2) := by decide +kernel
theorem dX5_endlessSum_8 : decode cX5_endlessSum 8 = .ok (.if_icmp .eq 7, 3) := by decide +kernel
theorem dX5_endlessSum_11 : decode cX5_endlessSum 11 = .ok (.iconst 1, 1) := by decide +kernel
theorem dX5_endlessSum_12 : decode cX5_endlessSum 12 = .ok (.goto 4, 3) := by decide +kernel
theorem dX5_endlessSum_15 : decode cX5_endlessSum 15 = .ok (.iconst 0, 1) := by decide +kernel
theorem dX5_endlessSum_16 : decode cX5_endlessSum 16 = .ok (.istore 5, 2) := by decide +kernel
theorem dX5_endlessSum_18 : decode cX5_endlessSum 18 = .ok (.aload_n 0, 1) := by decide +kernel
theorem dX5_endlessSum_19 : decode cX5_endlessSum 19 = .ok (.iload_n 1, 1) := by decide +kernel
theorem dX5_endlessSum_20 : decode cX5_endlessSum 20 = .ok (.iload_n 2, 1) := by decide +kernel
theorem dX5_endlessSum_21 : decode cX5_endlessSum 21 = .ok (.invokevirtual 200, 3) := by decide +kernel
theorem dX5_endlessSum_24 : decode cX5_endlessSum 24 = .ok (.ifCond .eq 29, 3) := by decide +kernel
theorem dX5_endlessSum_27 : decode cX5_endlessSum 27 = .ok (.aload_n 0, 1) := by decide +kernel
theorem dX5_endlessSum_28 : decode cX5_endlessSum 28 = .ok (.iload_n 1, 1) := by decide +kernel
theorem dX5_endlessSum_29 : decode cX5_endlessSum 29 = .ok (.iload_n 3, 1) := by decide +kernel
theorem dX5_endlessSum_30 : decode cX5_endlessSum 30 = .ok (.invokevirtual 200, 3) := by decide +kernel
theorem dX5_endlessSum_33 : decode cX5_endlessSum 33 = .ok (.ifCond .eq 20, 3) := by decide +kernel
theorem dX5_endlessSum_36 : decode cX5_endlessSum 36 = .ok (.aload_n 0, 1) := by decide +kernel
theorem dX5_endlessSum_37 : decode cX5_endlessSum 37 = .ok (.iload_n 1, 1) := by decide +kernel
theorem dX5_endlessSum_38 : decode cX5_endlessSum 38 = .ok (.iload_n 2, 1) := by decide +kernel
theorem dX5_endlessSum_39 : decode cX5_endlessSum 39 = .ok (.invokevirtual 96, 3) := by decide +kernel
theorem dX5_endlessSum_42 : decode cX5_endlessSum 42 = .ok (.iload 5, 2) := by decide +kernel
theorem dX5_endlessSum_44 : decode cX5_endlessSum 44 = .ok (.if_icmp .eq 9, 3) := by decide +kernel
theorem dX5_endlessSum_47 : decode cX5_endlessSum 47 = .ok (.aload_n 0, 1) := by decide +kernel
theorem dX5_endlessSum_48 : decode cX5_endlessSum 48 = .ok (.iload_n 1, 1) := by decide +kernel
theorem dX5_endlessSum_49 : decode cX5_endlessSum 49 = .ok (.invokevirtual 189, 3) := by decide +kernel
theorem dX5_endlessSum_52 : decode cX5_endlessSum 52 = .ok (.ireturn, 1) := by decide +kernel
theorem dX5_endlessSum_53 : decode cX5_endlessSum 53 = .ok (.aload_n 0, 1) := by decide +kernel
theorem dX5_endlessSum_54 : decode cX5_endlessSum 54 = .ok (.iload_n 1, 1) := by decide +kernel
theorem dX5_endlessSum_55 : decode cX5_endlessSum 55 = .ok (.aload_n 0, 1) := by decide +kernel
theorem dX5_endlessSum_56 : decode cX5_endlessSum 56 = .ok (.iload_n 1, 1) := by decide +kernel
theorem dX5_endlessSum_57 : decode cX5_endlessSum 57 = .ok (.iload_n 2, 1) := by decide +kernel
theorem dX5_endlessSum_58 : decode cX5_endlessSum 58 = .ok (.invokevirtual 200, 3) := by decide +kernel
theorem dX5_endlessSum_61 : decode cX5_endlessSum 61 = .ok (.ifCond .eq 12, 3) := by decide +kernel
theorem dX5_endlessSum_64 : decode cX5_endlessSum 64 = .ok (.aload_n 0, 1) := by decide +kernel
theorem dX5_endlessSum_65 : decode cX5_endlessSum 65 = .ok (.iload_n 1, 1) := by decide +kernel
theorem dX5_endlessSum_66 : decode cX5_endlessSum 66 = .ok (.iload_n 2, 1) := by decide +kernel
theorem dX5_endlessSum_67 : decode cX5_endlessSum 67 = .ok (.invokevirtual 96, 3) := by decide +kernel
theorem dX5_endlessSum_70 : decode cX5_endlessSum 70 = .ok (.goto 5, 3) := by decide +kernel
theorem dX5_endlessSum_73 : decode cX5_endlessSum 73 = .ok (.iload 5, 2) := by decide +kernel
theorem dX5_endlessSum_75 : decode cX5_endlessSum 75 = .ok (.invokevirtual 203, 3) := by decide +kernel
theorem dX5_endlessSum_78 : decode cX5_endlessSum 78 = .ok (.ireturn, 1) := by decide +kernel
theorem dX5_summed_0 : decode cX5_summed 0 = .ok (.aload_n 0, 1) := by decide +kernel
theorem dX5_summed_1 : decode cX5_summed 1 = .ok (.iload_n 1, 1) := by decide +kernel
theorem dX5_summed_2 : decode cX5_summed 2 = .ok (.iload_n 2, 1) := by decide +kernel
theorem dX5_summed_3 : decode cX5_summed 3 = .ok (.invokevirtual 200, 3) := by decide +kernel
theorem dX5_summed_6 : decode cX5_summed 6 = .ok (.ifCond .ne 12, 3) := by decide +kernel
theorem dX5_summed_9 : decode cX5_summed 9 = .ok (.aload_n 0, 1) := by decide +kernel
theorem dX5_summed_10 : decode cX5_summed 10 = .ok (.iload_n 1, 1) := by decide +kernel
theorem dX5_summed_11 : decode cX5_summed 11 = .ok (.iload_n 3, 1) := by decide +kernel
theorem dX5_summed_12 : decode cX5_summed 12 = .ok (.invokevirtual 200, 3) := by decide +kernel
theorem dX5_summed_15 : decode cX5_summed 15 = .ok (.ifCond .eq 13, 3) := by decide +kernel
theorem dX5_summed_18 : decode cX5_summed 18 = .ok (.aload_n 0, 1) := by decide +kernel
theorem dX5_summed_19 : decode cX5_summed 19 = .ok (.iload_n 1, 1) := by decide +kernel
theorem dX5_summed_20 : decode cX5_summed 20 = .ok (.iload_n 2, 1) := by decide +kernel
theorem dX5_summed_21 : decode cX5_summed 21 = .ok (.iload_n 3, 1) := by decide +kernel
theorem dX5_summed_22 : decode cX5_summed 22 = .ok (.iload 5, 2) := by decide +kernel
theorem dX5_summed_24 : decode cX5_summed 24 = .ok (.invokevirtual 206, 3) := by decide +kernel
theorem dX5_summed_27 : decode cX5_summed 27 = .ok (.ireturn, 1) := by decide +kernel
theorem dX5_summed_28 : decode cX5_summed 28 = .ok (.aload_n 0, 1) := by decide +kernel
theorem dX5_summed_29 : decode cX5_summed 29 = .ok (.iload_n 1, 1) := by decide +kernel
theorem dX5_summed_30 : decode cX5_summed 30 = .ok (.iload_n 2, 1) := by decide +kernel
theorem dX5_summed_31 : decode cX5_summed 31 = .ok (.invokevirtual 135, 3) := by decide +kernel
theorem dX5_summed_34 : decode cX5_summed 34 = .ok (.lstore 6, 2) := by decide +kernel
theorem dX5_summed_36 : decode cX5_summed 36 = .ok (.iload 5, 2) := by decide +kernel
theorem dX5_summed_38 : decode cX5_summed 38 = .ok (.ifCond .eq 13, 3) := by decide +kernel
theorem dX5_summed_41 : decode cX5_summed 41 = .ok (.aload_n 0, 1) := by decide +kernel
theorem dX5_summed_42 : decode cX5_summed 42 = .ok (.iload_n 1, 1) := by decide +kernel
theorem dX5_summed_43 : decode cX5_summed 43 = .ok (.iload_n 3, 1) := by decide +kernel
theorem dX5_summed_44 : decode cX5_summed 44 = .ok (.invokevirtual 135, 3) := by decide +kernel
theorem dX5_summed_47 : decode cX5_summed 47 = .ok (.lneg, 1) := by decide +kernel
theorem dX5_summed_48 : decode cX5_summed 48 = .ok (.goto 9, 3) := by decide +kernel
theorem dX5_summed_51 : decode cX5_summed 51 = .ok (.aload_n 0, 1) := by decide +kernel
theorem dX5_summed_52 : decode cX5_summed 52 = .ok (.iload_n 1, 1) := by decide +kernel
theorem dX5_summed_53 : decode cX5_summed 53 = .ok (.iload_n 3, 1) := by decide +kernel
theorem dX5_summed_54 : decode cX5_summed 54 = .ok (.invokevirtual 135, 3) := by decide +kernel
theorem dX5_summed_57 : decode cX5_summed 57 = .ok (.lstore 8, 2) := by decide +kernel
theorem dX5_summed_59 : decode cX5_summed 59 = .ok (.aload_n 0, 1) := by decide +kernel
theorem dX5_summed_60 : decode cX5_summed 60 = .ok (.iload_n 1, 1) := by decide +kernel
theorem dX5_summed_61 : decode cX5_summed 61 = .ok (.iload_n 3, 1) := by decide +kernel
theorem dX5_summed_62 : decode cX5_summed 62 = .ok (.invokevirtual 96, 3) := by decide +kernel
theorem dX5_summed_65 : decode cX5_summed 65 = .ok (.iload 5, 2) := by decide +kernel
theorem dX5_summed_67 : decode cX5_summed 67 = .ok (.if_icmp .eq 7, 3) := by decide +kernel
theorem dX5_summed_70 : decode cX5_summed 70 = .ok (.iconst 1, 1) := by decide +kernel
theorem dX5_summed_71 : decode cX5_summed 71 = .ok (.goto 4, 3) := by decide +kernel
theorem dX5_summed_74 : decode cX5_summed 74 = .ok (.iconst 0, 1) := by decide +kernel
theorem dX5_summed_75 : decode cX5_summed 75 = .ok (.istore 10, 2) := by decide +kernel
theorem dX5_summed_77 : decode cX5_summed 77 = .ok (.aload_n 0, 1) := by decide +kernel
theorem dX5_summed_78 : decode cX5_summed 78 = .ok (.iload_n 1, 1) := by decide +kernel
theorem dX5_summed_79 : decode cX5_summed 79 = .ok (.iload_n 2, 1) := by decide +kernel
theorem dX5_summed_80 : decode cX5_summed 80 = .ok (.invokevirtual 80, 3) := by decide +kernel
theorem dX5_summed_83 : decode cX5_summed 83 = .ok (.ifCond .ne 27, 3) := by decide +kernel
theorem dX5_summed_86 : decode cX5_summed 86 = .ok (.aload_n 0, 1) := by decide +kernel
theorem dX5_summed_87 : decode cX5_summed 87 = .ok (.iload_n 1, 1) := by decide +kernel
theorem dX5_summed_88 : decode cX5_summed 88 = .ok (.iload_n 3, 1) := by decide +kernel
theorem dX5_summed_89 : decode cX5_summed 89 = .ok (.invokevirtual 80, 3) := by decide +kernel
theorem dX5_summed_92 : decode cX5_summed 92 = .ok (.ifCond .ne 18, 3) := by decide +kernel
theorem dX5_summed_95 : decode cX5_summed 95 = .ok (.aload_n 0, 1) := by decide +kernel
theorem dX5_summed_96 : decode cX5_summed 96 = .ok (.iload_n 1, 1) := by decide +kernel
theorem dX5_summed_97 : decode cX5_summed 97 = .ok (.iload_n 2, 1) := by decide +kernel
theorem dX5_summed_98 : decode cX5_summed 98 = .ok (.invokevirtual 96, 3) := by decide +kernel
theorem dX5_summed_101 : decode cX5_summed 101 = .ok (.iload 10, 2) := by decide +kernel
theorem dX5_summed_103 : decode cX5_summed 103 = .ok (.if_icmp .ne 7, 3) := by decide +kernel
theorem dX5_summed_106 : decode cX5_summed 106 = .ok (.iconst 1, 1) := by decide +kernel
theorem dX5_summed_107 : decode cX5_summed 107 = .ok (.goto 4, 3) := by decide +kernel
theorem dX5_summed_110 : decode cX5_summed 110 = .ok (.iconst 0, 1) := by decide +kernel
theorem dX5_summed_111 : decode cX5_summed 111 = .ok (.istore 11, 2) := by decide +kernel
theorem dX5_summed_113 : decode cX5_summed 113 = .ok (.aload_n 0, 1) := by decide +kernel
theorem dX5_summed_114 : decode cX5_summed 114 = .ok (.iload_n 1, 1) := by decide +kernel
theorem dX5_summed_115 : decode cX5_summed 115 = .ok (.lload 6, 2) := by decide +kernel
theorem dX5_summed_117 : decode cX5_summed 117 = .ok (.lload 8, 2) := by decide +kernel
theorem dX5_summed_119 : decode cX5_summed 119 = .ok (.ladd, 1) := by decide +kernel
theorem dX5_summed_120 : decode cX5_summed 120 = .ok (.lconst 1, 1) := by decide +kernel
theorem dX5_summed_121 : decode cX5_summed 121 = .ok (.iload 4, 2) := by decide +kernel
theorem dX5_summed_123 : decode cX5_summed 123 = .ok (.iload 11, 2) := by decide +kernel
theorem dX5_summed_125 : decode cX5_summed 125 = .ok (.ifCond .eq 8, 3) := by decide +kernel
theorem dX5_summed_128 : decode cX5_summed 128 = .ok (.iload 10, 2) := by decide +kernel
theorem dX5_summed_130 : decode cX5_summed 130 = .ok (.goto 14, 3) := by decide +kernel
theorem dX5_summed_133 : decode cX5_summed 133 = .ok (.iload 4, 2) := by decide +kernel
theorem dX5_summed_135 : decode cX5_summed 135 = .ok (.iconst 3, 1) := by decide +kernel
theorem dX5_summed_136 : decode cX5_summed 136 = .ok (.if_icmp .ne 7, 3) := by decide +kernel
theorem dX5_summed_139 : decode cX5_summed 139 = .ok (.iconst 1, 1) := by decide +kernel
theorem dX5_summed_140 : decode cX5_summed 140 = .ok (.goto 4, 3) := by decide +kernel
theorem dX5_summed_143 : decode cX5_summed 143 = .ok (.iconst 0, 1) := by decide +kernel
theorem dX5_summed_144 : decode cX5_summed 144 = .ok (.invokevirtual 179, 3) := by decide +kernel
theorem dX5_summed_147 : decode cX5_summed 147 = .ok (.ireturn, 1) := by decide +kernel
theorem dX5_multiplied_0 : decode cX5_multiplied 0 = .ok (.aload_n 0, 1) := by decide +kernel
theorem dX5_multiplied_1 : decode cX5_multiplied 1 = .ok (.iload_n 1, 1) := by decide +kernel
theorem dX5_multiplied_2 : decode cX5_multiplied 2 = .ok (.iload_n 2, 1) := by decide +kernel
theorem dX5_multiplied_3 : decode cX5_multiplied 3 = .ok (.invokevirtual 96, 3) := by decide +kernel
theorem dX5_multiplied_6 : decode cX5_multiplied 6 = .ok (.aload_n 0, 1) := by decide +kernel
theorem dX5_multiplied_7 : decode cX5_multiplied 7 = .ok (.iload_n 1, 1) := by decide +kernel
theorem dX5_multiplied_8 : decode cX5_multiplied 8 = .ok (.iload_n 3, 1) := by decide +kernel
theorem dX5_multiplied_9 : decode cX5_multiplied 9 = .ok (.invokevirtual 96, 3) := by decide +kernel
theorem dX5_multiplied_12 : decode cX5_multiplied 12 = .ok (.if_icmp .eq 7, 3) := by decide +kernel
theorem dX5_multiplied_15 : decode cX5_multiplied 15 = .ok (.iconst 1, 1) := by decide +kernel
theorem dX5_multiplied_16 : decode cX5_multiplied 16 = .ok (.goto 4, 3) := by decide +kernel
theorem dX5_multiplied_19 : decode cX5_multiplied 19 = .ok (.iconst 0, 1) := by decide +kernel
theorem dX5_multiplied_20 : decode cX5_multiplied 20 = .ok (.istore 5, 2) := by decide +kernel
theorem dX5_multiplied_22 : decode cX5_multiplied 22 = .ok (.aload_n 0, 1) := by decide +kernel
theorem dX5_multiplied_23 : decode cX5_multiplied 23 = .ok (.iload_n 1, 1) := by decide +kernel
theorem dX5_multiplied_24 : decode cX5_multiplied 24 = .ok (.iload_n 2, 1) := by decide +kernel
theorem dX5_multiplied_25 : decode cX5_multiplied 25 = .ok (.invokevirtual 200, 3) := by decide +kernel
theorem dX5_multiplied_28 : decode cX5_multiplied 28 = .ok (.ifCond .ne 12, 3) := by decide +kernel
theorem dX5_multiplied_31 : decode cX5_multiplied 31 = .ok (.aload_n 0, 1) := by decide +kernel
theorem dX5_multiplied_32 : decode cX5_multiplied 32 = .ok (.iload_n 1, 1) := by decide +kernel
theorem dX5_multiplied_33 : decode cX5_multiplied 33 = .ok (.iload_n 3, 1) := by decide +kernel
theorem dX5_multiplied_34 : decode cX5_multiplied 34 = .ok (.invokevirtual 200, 3) := by decide +kernel
theorem dX5_multiplied_37 : decode cX5_multiplied 37 = .ok (.ifCond .eq 37, 3) := by decide +kernel
theorem dX5_multiplied_40 : decode cX5_multiplied 40 = .ok (.aload_n 0, 1) := by decide +kernel
theorem dX5_multiplied_41 : decode cX5_multiplied 41 = .ok (.iload_n 1, 1) := by decide +kernel
theorem dX5_multiplied_42 : decode cX5_multiplied 42 = .ok (.iload_n 2, 1) := by decide +kernel
theorem dX5_multiplied_43 : decode cX5_multiplied 43 = .ok (.invokevirtual 80, 3) := by decide +kernel
theorem dX5_multiplied_46 : decode cX5_multiplied 46 = .ok (.ifCond .eq 12, 3) := by decide +kernel
theorem dX5_multiplied_49 : decode cX5_multiplied 49 = .ok (.aload_n 0, 1) := by decide +kernel
theorem dX5_multiplied_50 : decode cX5_multiplied 50 = .ok (.iload_n 1, 1) := by decide +kernel
theorem dX5_multiplied_51 : decode cX5_multiplied 51 = .ok (.iload_n 3, 1) := by decide +kernel
theorem dX5_multiplied_52 : decode cX5_multiplied 52 = .ok (.invokevirtual 80, 3) := by decide +kernel
theorem dX5_multiplied_55 : decode cX5_multiplied 55 = .ok (.ifCond .ne 11, 3) := by decide +kernel
theorem dX5_multiplied_58 : decode cX5_multiplied 58 = .ok (.aload_n 0, 1) := by decide +kernel
theorem dX5_multiplied_59 : decode cX5_multiplied 59 = .ok (.iload_n 1, 1) := by decide +kernel
theorem dX5_multiplied_60 : decode cX5_multiplied 60 = .ok (.invokevirtual 189, 3) := by decide +kernel
theorem dX5_multiplied_63 : decode cX5_multiplied 63 = .ok (.goto 10, 3) := by decide +kernel
theorem dX5_multiplied_66 : decode cX5_multiplied 66 = .ok (.aload_n 0, 1) := by decide +kernel
theorem dX5_multiplied_67 : decode cX5_multiplied 67 = .ok (.iload_n 1, 1) := by decide +kernel
theorem dX5_multiplied_68 : decode cX5_multiplied 68 = .ok (.iload 5, 2) := by decide +kernel
theorem dX5_multiplied_70 : decode cX5_multiplied 70 = .ok (.invokevirtual 203, 3) := by decide +kernel
theorem dX5_multiplied_73 : decode cX5_multiplied 73 = .ok (.ireturn, 1) := by decide +kernel
theorem dX5_multiplied_74 : decode cX5_multiplied 74 = .ok (.aload_n 0, 1) := by decide +kernel
theorem dX5_multiplied_75 : decode cX5_multiplied 75 = .ok (.iload_n 1, 1) := by decide +kernel
theorem dX5_multiplied_76 : decode cX5_multiplied 76 = .ok (.aload_n 0, 1) := by decide +kernel
theorem dX5_multiplied_77 : decode cX5_multiplied 77 = .ok (.iload_n 1, 1) := by decide +kernel
theorem dX5_multiplied_78 : decode cX5_multiplied 78 = .ok (.iload_n 2, 1) := by decide +kernel
theorem dX5_multiplied_79 : decode cX5_multiplied 79 = .ok (.invokevirtual 135, 3) := by decide +kernel
theorem dX5_multiplied_82 : decode cX5_multiplied 82 = .ok (.aload_n 0, 1) := by decide +kernel
theorem dX5_multiplied_83 : decode cX5_multiplied 83 = .ok (.iload_n 1, 1) := by decide +kernel
theorem dX5_multiplied_84 : decode cX5_multiplied 84 = .ok (.iload_n 3, 1) := by decide +kernel
theorem dX5_multiplied_85 : decode cX5_multiplied 85 = .ok (.invokevirtual 135, 3) := by decide +kernel
theorem dX5_multiplied_88 : decode cX5_multiplied 88 = .ok (.lmul, 1) := by decide +kernel
theorem dX5_multiplied_89 : decode cX5_multiplied 89 = .ok (.lconst 1, 1) := by decide +kernel
theorem dX5_multiplied_90 : decode cX5_multiplied 90 = .ok (.aload_n 0, 1) := by decide +kernel
theorem dX5_multiplied_91 : decode cX5_multiplied 91 = .ok (.iload_n 1, 1) := by decide +kernel
theorem dX5_multiplied_92 : decode cX5_multiplied 92 = .ok (.invokevirtual 127, 3) := by decide +kernel
theorem dX5_multiplied_95 : decode cX5_multiplied 95 = .ok (.lshl, 1) := by decide +kernel
theorem dX5_multiplied_96 : decode cX5_multiplied 96 = .ok (.iload 4, 2) := by decide +kernel
theorem dX5_multiplied_98 : decode cX5_multiplied 98 = .ok (.iload 5, 2) := by decide +kernel
theorem dX5_multiplied_100 : decode cX5_multiplied 100 = .ok (.invokevirtual 179, 3) := by decide +kernel
theorem dX5_multiplied_103 : decode cX5_multiplied 103 = .ok (.ireturn, 1) := by decide +kernel
theorem dX5_divided_0 : decode cX5_divided 0 = .ok (.aload_n 0, 1) := by decide +kernel
theorem dX5_divided_1 : decode cX5_divided 1 = .ok (.iload_n 1, 1) := by decide +kernel
theorem dX5_divided_2 : decode cX5_divided 2 = .ok (.iload_n 2, 1) := by decide +kernel
theorem dX5_divided_3 : decode cX5_divided 3 = .ok (.invokevirtual 96, 3) := by decide +kernel
theorem dX5_divided_6 : decode cX5_divided 6 = .ok (.aload_n 0, 1) := by decide +kernel
theorem dX5_divided_7 : decode cX5_divided 7 = .ok (.iload_n 1, 1) := by decide +kernel
theorem dX5_divided_8 : decode cX5_divided 8 = .ok (.iload_n 3, 1) := by decide +kernel
theorem dX5_divided_9 : decode cX5_divided 9 = .ok (.invokevirtual 96, 3) := by decide +kernel
theorem dX5_divided_12 : decode cX5_divided 12 = .ok (.if_icmp .eq 7, 3) := by decide +kernel
theorem dX5_divided_15 : decode cX5_divided 15 = .ok (.iconst 1, 1) := by decide +kernel
theorem dX5_divided_16 : decode cX5_divided 16 = .ok (.goto 4, 3) := by decide +kernel
theorem dX5_divided_19 : decode cX5_divided 19 = .ok (.iconst 0, 1) := by decide +kernel
theorem dX5_divided_20 : decode cX5_divided 20 = .ok (.istore 5, 2) := by decide +kernel
theorem dX5_divided_22 : decode cX5_divided 22 = .ok (.aload_n 0, 1) := by decide +kernel
theorem dX5_divided_23 : decode cX5_divided 23 = .ok (.iload_n 1, 1) := by decide +kernel
theorem dX5_divided_24 : decode cX5_divided 24 = .ok (.iload_n 2, 1) := by decide +kernel
theorem dX5_divided_25 : decode cX5_divided 25 = .ok (.invokevirtual 80, 3) := by decide +kernel
theorem dX5_divided_28 : decode cX5_divided 28 = .ok (.ifCond .ne 7, 3) := by decide +kernel
theorem dX5_divided_31 : decode cX5_divided 31 = .ok (.iconst 1, 1) := by decide +kernel
theorem dX5_divided_32 : decode cX5_divided 32 = .ok (.goto 4, 3) := by decide +kernel
theorem dX5_divided_35 : decode cX5_divided 35 = .ok (.iconst 0, 1) := by decide +kernel
theorem dX5_divided_36 : decode cX5_divided 36 = .ok (.istore 6, 2) := by decide +kernel
theorem dX5_divided_38 : decode cX5_divided 38 = .ok (.aload_n 0, 1) := by decide +kernel
theorem dX5_divided_39 : decode cX5_divided 39 = .ok (.iload_n 1, 1) := by decide +kernel
theorem dX5_divided_40 : decode cX5_divided 40 = .ok (.iload_n 3, 1) := by decide +kernel
theorem dX5_divided_41 : decode cX5_divided 41 = .ok (.invokevirtual 80, 3) := by decide +kernel
theorem dX5_divided_44 : decode cX5_divided 44 = .ok (.ifCond .ne 7, 3) := by decide +kernel
theorem dX5_divided_47 : decode cX5_divided 47 = .ok (.iconst 1, 1) := by decide +kernel
theorem dX5_divided_48 : decode cX5_divided 48 = .ok (.goto 4, 3) := by decide +kernel
theorem dX5_divided_51 : decode cX5_divided 51 = .ok (.iconst 0, 1) := by decide +kernel
theorem dX5_divided_52 : decode cX5_divided 52 = .ok (.istore 7, 2) := by decide +kernel
theorem dX5_divided_54 : decode cX5_divided 54 = .ok (.aload_n 0, 1) := by decide +kernel
theorem dX5_divided_55 : decode cX5_divided 55 = .ok (.iload_n 1, 1) := by decide +kernel
theorem dX5_divided_56 : decode cX5_divided 56 = .ok (.iload_n 2, 1) := by decide +kernel
theorem dX5_divided_57 : decode cX5_divided 57 = .ok (.invokevirtual 200, 3) := by decide +kernel
theorem dX5_divided_60 : decode cX5_divided 60 = .ok (.ifCond .eq 12, 3) := by decide +kernel
theorem dX5_divided_63 : decode cX5_divided 63 = .ok (.aload_n 0, 1) := by decide +kernel
theorem dX5_divided_64 : decode cX5_divided 64 = .ok (.iload_n 1, 1) := by decide +kernel
theorem dX5_divided_65 : decode cX5_divided 65 = .ok (.iload_n 3, 1) := by decide +kernel
theorem dX5_divided_66 : decode cX5_divided 66 = .ok (.invokevirtual 200, 3) := by decide +kernel
theorem dX5_divided_69 : decode cX5_divided 69 = .ok (.ifCond .ne 13, 3) := by decide +kernel
theorem dX5_divided_72 : decode cX5_divided 72 = .ok (.iload 6, 2) := by decide +kernel
theorem dX5_divided_74 : decode cX5_divided 74 = .ok (.ifCond .eq 14, 3) := by decide +kernel
theorem dX5_divided_77 : decode cX5_divided 77 = .ok (.iload 7, 2) := by decide +kernel
theorem dX5_divided_79 : decode cX5_divided 79 = .ok (.ifCond .eq 9, 3) := by decide +kernel
theorem dX5_divided_82 : decode cX5_divided 82 = .ok (.aload_n 0, 1) := by decide +kernel
theorem dX5_divided_83 : decode cX5_divided 83 = .ok (.iload_n 1, 1) := by decide +kernel
theorem dX5_divided_84 : decode cX5_divided 84 = .ok (.invokevirtual 189, 3) := by decide +kernel
theorem dX5_divided_87 : decode cX5_divided 87 = .ok (.ireturn, 1) := by decide +kernel
theorem dX5_divided_88 : decode cX5_divided 88 = .ok (.aload_n 0, 1) := by decide +kernel
theorem dX5_divided_89 : decode cX5_divided 89 = .ok (.iload_n 1, 1) := by decide +kernel
theorem dX5_divided_90 : decode cX5_divided 90 = .ok (.iload_n 3, 1) := by decide +kernel
theorem dX5_divided_91 : decode cX5_divided 91 = .ok (.invokevirtual 200, 3) := by decide +kernel
theorem dX5_divided_94 : decode cX5_divided 94 = .ok (.ifCond .eq 12, 3) := by decide +kernel
theorem dX5_divided_97 : decode cX5_divided 97 = .ok (.aload_n 0, 1) := by decide +kernel
theorem dX5_divided_98 : decode cX5_divided 98 = .ok (.iload_n 1, 1) := by decide +kernel
theorem dX5_divided_99 : decode cX5_divided 99 = .ok (.iconst 0, 1) := by decide +kernel
theorem dX5_divided_100 : decode cX5_divided 100 = .ok (.iload 5, 2) := by decide +kernel
theorem dX5_divided_102 : decode cX5_divided 102 = .ok (.invokevirtual 149, 3) := by decide +kernel
theorem dX5_divided_105 : decode cX5_divided 105 = .ok (.ireturn, 1) := by decide +kernel
theorem dX5_divided_106 : decode cX5_divided 106 = .ok (.aload_n 0, 1) := by decide +kernel
theorem dX5_divided_107 : decode cX5_divided 107 = .ok (.iload_n 1, 1) := by decide +kernel
theorem dX5_divided_108 : decode cX5_divided 108 = .ok (.iload_n 2, 1) := by decide +kernel
theorem dX5_divided_109 : decode cX5_divided 109 = .ok (.invokevirtual 200, 3) := by decide +kernel
theorem dX5_divided_112 : decode cX5_divided 112 = .ok (.ifCond .eq 11, 3) := by decide +kernel
theorem dX5_divided_115 : decode cX5_divided 115 = .ok (.aload_n 0, 1) := by decide +kernel
theorem dX5_divided_116 : decode cX5_divided 116 = .ok (.iload_n 1, 1) := by decide +kernel
theorem dX5_divided_117 : decode cX5_divided 117 = .ok (.iload 5, 2) := by decide +kernel
theorem dX5_divided_119 : decode cX5_divided 119 = .ok (.invokevirtual 203, 3) := by decide +kernel
theorem dX5_divided_122 : decode cX5_divided 122 = .ok (.ireturn, 1) := by decide +kernel
theorem dX5_divided_123 : decode cX5_divided 123 = .ok (.iload 7, 2) := by decide +kernel
theorem dX5_divided_125 : decode cX5_divided 125 = .ok (.ifCond .eq 29, 3) := by decide +kernel
theorem dX5_divided_128 : decode cX5_divided 128 = .ok (.iload 5, 2) := by decide +kernel
theorem dX5_divided_130 : decode cX5_divided 130 = .ok (.ifCond .eq 16, 3) := by decide +kernel
theorem dX5_divided_133 : decode cX5_divided 133 = .ok (.aload_n 0, 1) := by decide +kernel
theorem dX5_divided_134 : decode cX5_divided 134 = .ok (.getfield 7, 3) := by decide +kernel
theorem dX5_divided_137 : decode cX5_divided 137 = .ok (.iload_n 1, 1) := by decide +kernel
theorem dX5_divided_138 : decode cX5_divided 138 = .ok (.iaload, 1) := by decide +kernel
theorem dX5_divided_139 : decode cX5_divided 139 = .ok (.ifCond .ne 7, 3) := by decide +kernel
theorem dX5_divided_142 : decode cX5_divided 142 = .ok (.iconst 0, 1) := by decide +kernel
theorem dX5_divided_143 : decode cX5_divided 143 = .ok (.goto 10, 3) := by decide +kernel
theorem dX5_divided_146 : decode cX5_divided 146 = .ok (.aload_n 0, 1) := by decide +kernel
theorem dX5_divided_147 : decode cX5_divided 147 = .ok (.iload_n 1, 1) := by decide +kernel
theorem dX5_divided_148 : decode cX5_divided 148 = .ok (.iload 5, 2) := by decide +kernel
theorem dX5_divided_150 : decode cX5_divided 150 = .ok (.invokevirtual 159, 3) := by decide +kernel
theorem dX5_divided_153 : decode cX5_divided 153 = .ok (.ireturn, 1) := by decide +kernel
theorem dX5_divided_154 : decode cX5_divided 154 = .ok (.aload_n 0, 1) := by decide +kernel
theorem dX5_divided_155 : decode cX5_divided 155 = .ok (.iload_n 1, 1) := by decide +kernel
theorem dX5_divided_156 : decode cX5_divided 156 = .ok (.iload_n 2, 1) := by decide +kernel
theorem dX5_divided_157 : decode cX5_divided 157 = .ok (.invokevirtual 135, 3) := by decide +kernel
theorem dX5_divided_160 : decode cX5_divided 160 = .ok (.aload_n 0, 1) := by decide +kernel
theorem dX5_divided_161 : decode cX5_divided 161 = .ok (.iload_n 1, 1) := by decide +kernel
theorem dX5_divided_162 : decode cX5_divided 162 = .ok (.invokevirtual 127, 3) := by decide +kernel
theorem dX5_divided_165 : decode cX5_divided 165 = .ok (.lshl, 1) := by decide +kernel
theorem dX5_divided_166 : decode cX5_divided 166 = .ok (.lstore 8, 2) := by decide +kernel
theorem dX5_divided_168 : decode cX5_divided 168 = .ok (.aload_n 0, 1) := by decide +kernel
theorem dX5_divided_169 : decode cX5_divided 169 = .ok (.iload_n 1, 1) := by decide +kernel
theorem dX5_divided_170 : decode cX5_divided 170 = .ok (.iload_n 3, 1) := by decide +kernel
theorem dX5_divided_171 : decode cX5_divided 171 = .ok (.invokevirtual 135, 3) := by decide +kernel
theorem dX5_divided_174 : decode cX5_divided 174 = .ok (.lstore 10, 2) := by decide +kernel
theorem dX5_divided_176 : decode cX5_divided 176 = .ok (.aload_n 0, 1) := by decide +kernel
theorem dX5_divided_177 : decode cX5_divided 177 = .ok (.iload_n 1, 1) := by decide +kernel
theorem dX5_divided_178 : decode cX5_divided 178 = .ok (.lload 10, 2) := by decide +kernel
theorem dX5_divided_180 : decode cX5_divided 180 = .ok (.lconst 0, 1) := by decide +kernel
theorem dX5_divided_181 : decode cX5_divided 181 = .ok (.lcmp, 1) := by decide +kernel
theorem dX5_divided_182 : decode cX5_divided 182 = .ok (.ifCond .ge 9, 3) := by decide +kernel
theorem dX5_divided_185 : decode cX5_divided 185 = .ok (.lload 8, 2) := by decide +kernel
theorem dX5_divided_187 : decode cX5_divided 187 = .ok (.lneg, 1) := by decide +kernel
theorem dX5_divided_188 : decode cX5_divided 188 = .ok (.goto 5, 3) := by decide +kernel
theorem dX5_divided_191 : decode cX5_divided 191 = .ok (.lload 8, 2) := by decide +kernel
theorem dX5_divided_193 : decode cX5_divided 193 = .ok (.lload 10, 2) := by decide +kernel
theorem dX5_divided_195 : decode cX5_divided 195 = .ok (.lconst 0, 1) := by decide +kernel
theorem dX5_divided_196 : decode cX5_divided 196 = .ok (.lcmp, 1) := by decide +kernel
theorem dX5_divided_197 : decode cX5_divided 197 = .ok (.ifCond .ge 9, 3) := by decide +kernel
theorem dX5_divided_200 : decode cX5_divided 200 = .ok (.lload 10, 2) := by decide +kernel
theorem dX5_divided_202 : decode cX5_divided 202 = .ok (.lneg, 1) := by decide +kernel
theorem dX5_divided_203 : decode cX5_divided 203 = .ok (.goto 5, 3) := by decide +kernel
theorem dX5_divided_206 : decode cX5_divided 206 = .ok (.lload 10, 2) := by decide +kernel
theorem dX5_divided_208 : decode cX5_divided 208 = .ok (.iload 4, 2) := by decide +kernel
theorem dX5_divided_210 : decode cX5_divided 210 = .ok (.iload 5, 2) := by decide +kernel
theorem dX5_divided_212 : decode cX5_divided 212 = .ok (.invokevirtual 179, 3) := by decide +kernel
theorem dX5_divided_215 : decode cX5_divided 215 = .ok (.ireturn, 1) := by decide +kernel
theorem dX5_rooted_0 : decode cX5_rooted 0 = .ok (.aload_n 0, 1) := by decide +kernel
theorem dX5_rooted_1 : decode cX5_rooted 1 = .ok (.iload_n 1, 1) := by decide +kernel
theorem dX5_rooted_2 : decode cX5_rooted 2 = .ok (.iload_n 2, 1) := by decide +kernel
theorem dX5_rooted_3 : decode cX5_rooted 3 = .ok (.invokevirtual 80, 3) := by decide +kernel
theorem dX5_rooted_6 : decode cX5_rooted 6 = .ok (.ifCond .ne 5, 3) := by decide +kernel
theorem dX5_rooted_9 : decode cX5_rooted 9 = .ok (.iload_n 2, 1) := by decide +kernel
theorem dX5_rooted_10 : decode cX5_rooted 10 = .ok (.ireturn, 1) := by decide +kernel
theorem dX5_rooted_11 : decode cX5_rooted 11 = .ok (.aload_n 0, 1) := by decide +kernel
theorem dX5_rooted_12 : decode cX5_rooted 12 = .ok (.iload_n 1, 1) := by decide +kernel
theorem dX5_rooted_13 : decode cX5_rooted 13 = .ok (.iload_n 2, 1) := by decide +kernel
theorem dX5_rooted_14 : decode cX5_rooted 14 = .ok (.invokevirtual 96, 3) := by decide +kernel
theorem dX5_rooted_17 : decode cX5_rooted 17 = .ok (.ifCond .eq 9, 3) := by decide +kernel
theorem dX5_rooted_20 : decode cX5_rooted 20 = .ok (.aload_n 0, 1) := by decide +kernel
theorem dX5_rooted_21 : decode cX5_rooted 21 = .ok (.iload_n 1, 1) := by decide +kernel
theorem dX5_rooted_22 : decode cX5_rooted 22 = .ok (.invokevirtual 189, 3) := by decide +kernel
theorem dX5_rooted_25 : decode cX5_rooted 25 = .ok (.ireturn, 1) := by decide +kernel
theorem dX5_rooted_26 : decode cX5_rooted 26 = .ok (.aload_n 0, 1) := by decide +kernel
theorem dX5_rooted_27 : decode cX5_rooted 27 = .ok (.iload_n 1, 1) := by decide +kernel
theorem dX5_rooted_28 : decode cX5_rooted 28 = .ok (.iload_n 2, 1) := by decide +kernel
theorem dX5_rooted_29 : decode cX5_rooted 29 = .ok (.invokevirtual 200, 3) := by decide +kernel
theorem dX5_rooted_32 : decode cX5_rooted 32 = .ok (.ifCond .eq 5, 3) := by decide +kernel
theorem dX5_rooted_35 : decode cX5_rooted 35 = .ok (.iload_n 2, 1) := by decide +kernel
theorem dX5_rooted_36 : decode cX5_rooted 36 = .ok (.ireturn, 1) := by decide +kernel
theorem dX5_rooted_37 : decode cX5_rooted 37 = .ok (.aload_n 0, 1) := by decide +kernel
theorem dX5_rooted_38 : decode cX5_rooted 38 = .ok (.iconst 1, 1) := by decide +kernel
theorem dX5_rooted_39 : decode cX5_rooted 39 = .ok (.putfield 138, 3) := by decide +kernel
theorem dX5_rooted_42 : decode cX5_rooted 42 = .ok (.aload_n 0, 1) := by decide +kernel
theorem dX5_rooted_43 : decode cX5_rooted 43 = .ok (.aload_n 0, 1) := by decide +kernel
theorem dX5_rooted_44 : decode cX5_rooted 44 = .ok (.iload_n 1, 1) := by decide +kernel
theorem dX5_rooted_45 : decode cX5_rooted 45 = .ok (.iload_n 2, 1) := by decide +kernel
theorem dX5_rooted_46 : decode cX5_rooted 46 = .ok (.invokevirtual 135, 3) := by decide +kernel
theorem dX5_rooted_49 : decode cX5_rooted 49 = .ok (.aload_n 0, 1) := by decide +kernel
theorem dX5_rooted_50 : decode cX5_rooted 50 = .ok (.iload_n 1, 1) := by decide +kernel
theorem dX5_rooted_51 : decode cX5_rooted 51 = .ok (.invokevirtual 127, 3) := by decide +kernel
theorem dX5_rooted_54 : decode cX5_rooted 54 = .ok (.lshl, 1) := by decide +kernel
theorem dX5_rooted_55 : decode cX5_rooted 55 = .ok (.putfield 142, 3) := by decide +kernel
theorem dX5_rooted_58 : decode cX5_rooted 58 = .ok (.aload_n 0, 1) := by decide +kernel
theorem dX5_rooted_59 : decode cX5_rooted 59 = .ok (.lconst 1, 1) := by decide +kernel
theorem dX5_rooted_60 : decode cX5_rooted 60 = .ok (.putfield 146, 3) := by decide +kernel
theorem dX5_rooted_63 : decode cX5_rooted 63 = .ok (.aload_n 0, 1) := by decide +kernel
theorem dX5_rooted_64 : decode cX5_rooted 64 = .ok (.iload_n 1, 1) := by decide +kernel
theorem dX5_rooted_65 : decode cX5_rooted 65 = .ok (.iconst 0, 1) := by decide +kernel
theorem dX5_rooted_66 : decode cX5_rooted 66 = .ok (.iload_n 3, 1) := by decide +kernel
theorem dX5_rooted_67 : decode cX5_rooted 67 = .ok (.invokevirtual 167, 3) := by decide +kernel
theorem dX5_rooted_70 : decode cX5_rooted 70 = .ok (.ireturn, 1) := by decide +kernel
theorem dX5_acted_0 : decode cX5_acted 0 = .ok (.aload_n 0, 1) := by decide +kernel
theorem dX5_acted_1 : decode cX5_acted 1 = .ok (.iload_n 1, 1) := by decide +kernel
theorem dX5_acted_2 : decode cX5_acted 2 = .ok (.iload_n 3, 1) := by decide +kernel
theorem dX5_acted_3 : decode cX5_acted 3 = .ok (.invokevirtual 87, 3) := by decide +kernel
theorem dX5_acted_6 : decode cX5_acted 6 = .ok (.iconst 4, 1) := by decide +kernel
theorem dX5_acted_7 : decode cX5_acted 7 = .ok (.if_icmp .eq 19, 3) := by decide +kernel
theorem dX5_acted_10 : decode cX5_acted 10 = .ok (.iload_n 2, 1) := by decide +kernel
theorem dX5_acted_11 : decode cX5_acted 11 = .ok (.iconst 4, 1) := by decide +kernel
theorem dX5_acted_12 : decode cX5_acted 12 = .ok (.if_icmp .eq 20, 3) := by decide +kernel
theorem dX5_acted_15 : decode cX5_acted 15 = .ok (.aload_n 0, 1) := by decide +kernel
theorem dX5_acted_16 : decode cX5_acted 16 = .ok (.iload_n 1, 1) := by decide +kernel
theorem dX5_acted_17 : decode cX5_acted 17 = .ok (.iload 4, 2) := by decide +kernel
theorem dX5_acted_19 : decode cX5_acted 19 = .ok (.invokevirtual 87, 3) := by decide +kernel
theorem dX5_acted_22 : decode cX5_acted 22 = .ok (.iconst 4, 1) := by decide +kernel
theorem dX5_acted_23 : decode cX5_acted 23 = .ok (.if_icmp .ne 9, 3) := by decide +kernel
theorem dX5_acted_26 : decode cX5_acted 26 = .ok (.aload_n 0, 1) := by decide +kernel
theorem dX5_acted_27 : decode cX5_acted 27 = .ok (.iload_n 1, 1) := by decide +kernel
theorem dX5_acted_28 : decode cX5_acted 28 = .ok (.invokevirtual 118, 3) := by decide +kernel
theorem dX5_acted_31 : decode cX5_acted 31 = .ok (.ireturn, 1) := by decide +kernel
theorem dX5_acted_32 : decode cX5_acted 32 = .ok (.iload_n 2, 1) := by decide +kernel
theorem dX5_acted_33 : decode cX5_acted 33 = .ok (.tableswitch 90 0 4 #[35, 47, 59, 70, 81], 35) := by decide +kernel
theorem dX5_acted_68 : decode cX5_acted 68 = .ok (.aload_n 0, 1) := by decide +kernel
theorem dX5_acted_69 : decode cX5_acted 69 = .ok (.iload_n 1, 1) := by decide +kernel
theorem dX5_acted_70 : decode cX5_acted 70 = .ok (.iload_n 3, 1) := by decide +kernel
theorem dX5_acted_71 : decode cX5_acted 71 = .ok (.iload 4, 2) := by decide +kernel
theorem dX5_acted_73 : decode cX5_acted 73 = .ok (.iload 5, 2) := by decide +kernel
theorem dX5_acted_75 : decode cX5_acted 75 = .ok (.iconst 0, 1) := by decide +kernel
theorem dX5_acted_76 : decode cX5_acted 76 = .ok (.invokevirtual 210, 3) := by decide +kernel
theorem dX5_acted_79 : decode cX5_acted 79 = .ok (.ireturn, 1) := by decide +kernel
theorem dX5_acted_80 : decode cX5_acted 80 = .ok (.aload_n 0, 1) := by decide +kernel
theorem dX5_acted_81 : decode cX5_acted 81 = .ok (.iload_n 1, 1) := by decide +kernel
theorem dX5_acted_82 : decode cX5_acted 82 = .ok (.iload_n 3, 1) := by decide +kernel
theorem dX5_acted_83 : decode cX5_acted 83 = .ok (.iload 4, 2) := by decide +kernel
theorem dX5_acted_85 : decode cX5_acted 85 = .ok (.iload 5, 2) := by decide +kernel
theorem dX5_acted_87 : decode cX5_acted 87 = .ok (.iconst 1, 1) := by decide +kernel
theorem dX5_acted_88 : decode cX5_acted 88 = .ok (.invokevirtual 210, 3) := by decide +kernel
theorem dX5_acted_91 : decode cX5_acted 91 = .ok (.ireturn, 1) := by decide +kernel
theorem dX5_acted_92 : decode cX5_acted 92 = .ok (.aload_n 0, 1) := by decide +kernel
theorem dX5_acted_93 : decode cX5_acted 93 = .ok (.iload_n 1, 1) := by decide +kernel
theorem dX5_acted_94 : decode cX5_acted 94 = .ok (.iload_n 3, 1) := by decide +kernel
theorem dX5_acted_95 : decode cX5_acted 95 = .ok (.iload 4, 2) := by decide +kernel
theorem dX5_acted_97 : decode cX5_acted 97 = .ok (.iload 5, 2) := by decide +kernel
theorem dX5_acted_99 : decode cX5_acted 99 = .ok (.invokevirtual 214, 3) := by decide +kernel
theorem dX5_acted_102 : decode cX5_acted 102 = .ok (.ireturn, 1) := by decide +kernel
theorem dX5_acted_103 : decode cX5_acted 103 = .ok (.aload_n 0, 1) := by decide +kernel
theorem dX5_acted_104 : decode cX5_acted 104 = .ok (.iload_n 1, 1) := by decide +kernel
theorem dX5_acted_105 : decode cX5_acted 105 = .ok (.iload_n 3, 1) := by decide +kernel
theorem dX5_acted_106 : decode cX5_acted 106 = .ok (.iload 4, 2) := by decide +kernel
theorem dX5_acted_108 : decode cX5_acted 108 = .ok (.iload 5, 2) := by decide +kernel
theorem dX5_acted_110 : decode cX5_acted 110 = .ok (.invokevirtual 217, 3) := by decide +kernel
theorem dX5_acted_113 : decode cX5_acted 113 = .ok (.ireturn, 1) := by decide +kernel
theorem dX5_acted_114 : decode cX5_acted 114 = .ok (.aload_n 0, 1) := by decide +kernel
theorem dX5_acted_115 : decode cX5_acted 115 = .ok (.iload_n 1, 1) := by decide +kernel
theorem dX5_acted_116 : decode cX5_acted 116 = .ok (.iload_n 3, 1) := by decide +kernel
theorem dX5_acted_117 : decode cX5_acted 117 = .ok (.iload 5, 2) := by decide +kernel
theorem dX5_acted_119 : decode cX5_acted 119 = .ok (.invokevirtual 220, 3) := by decide +kernel
theorem dX5_acted_122 : decode cX5_acted 122 = .ok (.ireturn, 1) := by decide +kernel
theorem dX5_acted_123 : decode cX5_acted 123 = .ok (.aload_n 0, 1) := by decide +kernel
theorem dX5_acted_124 : decode cX5_acted 124 = .ok (.iload_n 1, 1) := by decide +kernel
theorem dX5_acted_125 : decode cX5_acted 125 = .ok (.iload_n 3, 1) := by decide +kernel
theorem dX5_acted_126 : decode cX5_acted 126 = .ok (.iload 4, 2) := by decide +kernel
theorem dX5_acted_128 : decode cX5_acted 128 = .ok (.iload_n 2, 1) := by decide +kernel
theorem dX5_acted_129 : decode cX5_acted 129 = .ok (.iconst 5, 1) := by decide +kernel
theorem dX5_acted_130 : decode cX5_acted 130 = .ok (.if_icmp .ne 7, 3) := by decide +kernel
theorem dX5_acted_133 : decode cX5_acted 133 = .ok (.iconst 1, 1) := by decide +kernel
theorem dX5_acted_134 : decode cX5_acted 134 = .ok (.goto 4, 3) := by decide +kernel
theorem dX5_acted_137 : decode cX5_acted 137 = .ok (.iconst 0, 1) := by decide +kernel
theorem dX5_acted_138 : decode cX5_acted 138 = .ok (.invokevirtual 223, 3) := by decide +kernel
theorem dX5_acted_141 : decode cX5_acted 141 = .ok (.ireturn, 1) := by decide +kernel
theorem dX5_act_0 : decode cX5_act 0 = .ok (.aload_n 0, 1) := by decide +kernel
theorem dX5_act_1 : decode cX5_act 1 = .ok (.iload_n 1, 1) := by decide +kernel
theorem dX5_act_2 : decode cX5_act 2 = .ok (.invokevirtual 109, 3) := by decide +kernel
theorem dX5_act_5 : decode cX5_act 5 = .ok (.ifCond .eq 52, 3) := by decide +kernel
theorem dX5_act_8 : decode cX5_act 8 = .ok (.iload_n 2, 1) := by decide +kernel
theorem dX5_act_9 : decode cX5_act 9 = .ok (.i2l, 1) := by decide +kernel
theorem dX5_act_10 : decode cX5_act 10 = .ok (.lconst 0, 1) := by decide +kernel
theorem dX5_act_11 : decode cX5_act 11 = .ok (.ldc2_w 113, 3) := by decide +kernel
theorem dX5_act_14 : decode cX5_act 14 = .ok (.invokestatic 70, 3) := by decide +kernel
theorem dX5_act_17 : decode cX5_act 17 = .ok (.ifCond .eq 40, 3) := by decide +kernel
theorem dX5_act_20 : decode cX5_act 20 = .ok (.aload_n 0, 1) := by decide +kernel
theorem dX5_act_21 : decode cX5_act 21 = .ok (.iload_n 1, 1) := by decide +kernel
theorem dX5_act_22 : decode cX5_act 22 = .ok (.iload_n 3, 1) := by decide +kernel
theorem dX5_act_23 : decode cX5_act 23 = .ok (.invokevirtual 130, 3) := by decide +kernel
theorem dX5_act_26 : decode cX5_act 26 = .ok (.ifCond .eq 31, 3) := by decide +kernel
theorem dX5_act_29 : decode cX5_act 29 = .ok (.iload_n 2, 1) := by decide +kernel
theorem dX5_act_30 : decode cX5_act 30 = .ok (.iconst 4, 1) := by decide +kernel
theorem dX5_act_31 : decode cX5_act 31 = .ok (.if_icmp .eq 13, 3) := by decide +kernel
theorem dX5_act_34 : decode cX5_act 34 = .ok (.aload_n 0, 1) := by decide +kernel
theorem dX5_act_35 : decode cX5_act 35 = .ok (.iload_n 1, 1) := by decide +kernel
theorem dX5_act_36 : decode cX5_act 36 = .ok (.iload 4, 2) := by decide +kernel
theorem dX5_act_38 : decode cX5_act 38 = .ok (.invokevirtual 130, 3) := by decide +kernel
theorem dX5_act_41 : decode cX5_act 41 = .ok (.ifCond .eq 16, 3) := by decide +kernel
theorem dX5_act_44 : decode cX5_act 44 = .ok (.iload 5, 2) := by decide +kernel
theorem dX5_act_46 : decode cX5_act 46 = .ok (.i2l, 1) := by decide +kernel
theorem dX5_act_47 : decode cX5_act 47 = .ok (.lconst 0, 1) := by decide +kernel
theorem dX5_act_48 : decode cX5_act 48 = .ok (.ldc2_w 105, 3) := by decide +kernel
theorem dX5_act_51 : decode cX5_act 51 = .ok (.invokestatic 70, 3) := by decide +kernel
theorem dX5_act_54 : decode cX5_act 54 = .ok (.ifCond .ne 9, 3) := by decide +kernel
theorem dX5_act_57 : decode cX5_act 57 = .ok (.aload_n 0, 1) := by decide +kernel
theorem dX5_act_58 : decode cX5_act 58 = .ok (.iconst (-1), 1) := by decide +kernel
theorem dX5_act_59 : decode cX5_act 59 = .ok (.invokevirtual 57, 3) := by decide +kernel
theorem dX5_act_62 : decode cX5_act 62 = .ok (.ireturn, 1) := by decide +kernel
theorem dX5_act_63 : decode cX5_act 63 = .ok (.aload_n 0, 1) := by decide +kernel
theorem dX5_act_64 : decode cX5_act 64 = .ok (.invokevirtual 176, 3) := by decide +kernel
theorem dX5_act_67 : decode cX5_act 67 = .ok (.aload_n 0, 1) := by decide +kernel
theorem dX5_act_68 : decode cX5_act 68 = .ok (.aload_n 0, 1) := by decide +kernel
theorem dX5_act_69 : decode cX5_act 69 = .ok (.iload_n 1, 1) := by decide +kernel
theorem dX5_act_70 : decode cX5_act 70 = .ok (.iload_n 2, 1) := by decide +kernel
theorem dX5_act_71 : decode cX5_act 71 = .ok (.iload_n 3, 1) := by decide +kernel
theorem dX5_act_72 : decode cX5_act 72 = .ok (.iload 4, 2) := by decide +kernel
theorem dX5_act_74 : decode cX5_act 74 = .ok (.iload 5, 2) := by decide +kernel
theorem dX5_act_76 : decode cX5_act 76 = .ok (.invokevirtual 226, 3) := by decide +kernel
theorem dX5_act_79 : decode cX5_act 79 = .ok (.invokevirtual 183, 3) := by decide +kernel
theorem dX5_act_82 : decode cX5_act 82 = .ok (.ireturn, 1) := by decide +kernel
theorem dX5_comesNone_0 : decode cX5_comesNone 0 = .ok (.iload_n 2, 1) := by decide +kernel
theorem dX5_comesNone_1 : decode cX5_comesNone 1 = .ok (.ifCond .eq 23, 3) := by decide +kernel
theorem dX5_comesNone_4 : decode cX5_comesNone 4 = .ok (.aload_n 0, 1) := by decide +kernel
theorem dX5_comesNone_5 : decode cX5_comesNone 5 = .ok (.aload_n 0, 1) := by decide +kernel
theorem dX5_comesNone_6 : decode cX5_comesNone 6 = .ok (.iload_n 1, 1) := by decide +kernel
theorem dX5_comesNone_7 : decode cX5_comesNone 7 = .ok (.invokevirtual 189, 3) := by decide +kernel
theorem dX5_comesNone_10 : decode cX5_comesNone 10 = .ok (.ifCond .ge 7, 3) := by decide +kernel
theorem dX5_comesNone_13 : decode cX5_comesNone 13 = .ok (.iconst 4, 1) := by decide +kernel
theorem dX5_comesNone_14 : decode cX5_comesNone 14 = .ok (.goto 4, 3) := by decide +kernel
theorem dX5_comesNone_17 : decode cX5_comesNone 17 = .ok (.iconst 3, 1) := by decide +kernel
theorem dX5_comesNone_18 : decode cX5_comesNone 18 = .ok (.putfield 230, 3) := by decide +kernel
theorem dX5_comesNone_21 : decode cX5_comesNone 21 = .ok (.goto 8, 3) := by decide +kernel
theorem dX5_comesNone_24 : decode cX5_comesNone 24 = .ok (.aload_n 0, 1) := by decide +kernel
theorem dX5_comesNone_25 : decode cX5_comesNone 25 = .ok (.iconst 3, 1) := by decide +kernel
theorem dX5_comesNone_26 : decode cX5_comesNone 26 = .ok (.putfield 230, 3) := by decide +kernel
theorem dX5_comesNone_29 : decode cX5_comesNone 29 = .ok (.return_, 1) := by decide +kernel
theorem dX5_comesEndless_0 : decode cX5_comesEndless 0 = .ok (.aload_n 0, 1) := by decide +kernel
theorem dX5_comesEndless_1 : decode cX5_comesEndless 1 = .ok (.getfield 230, 3) := by decide +kernel
theorem dX5_comesEndless_4 : decode cX5_comesEndless 4 = .ok (.iload_n 2, 1) := by decide +kernel
theorem dX5_comesEndless_5 : decode cX5_comesEndless 5 = .ok (.ifCond .eq 7, 3) := by decide +kernel
theorem dX5_comesEndless_8 : decode cX5_comesEndless 8 = .ok (.iconst 1, 1) := by decide +kernel
theorem dX5_comesEndless_9 : decode cX5_comesEndless 9 = .ok (.goto 4, 3) := by decide +kernel
theorem dX5_comesEndless_12 : decode cX5_comesEndless 12 = .ok (.iconst 2, 1) := by decide +kernel
theorem dX5_comesEndless_13 : decode cX5_comesEndless 13 = .ok (.if_icmp .ne 12, 3) := by decide +kernel
theorem dX5_comesEndless_16 : decode cX5_comesEndless 16 = .ok (.aload_n 0, 1) := by decide +kernel
theorem dX5_comesEndless_17 : decode cX5_comesEndless 17 = .ok (.iload_n 1, 1) := by decide +kernel
theorem dX5_comesEndless_18 : decode cX5_comesEndless 18 = .ok (.iconst 1, 1) := by decide +kernel
theorem dX5_comesEndless_19 : decode cX5_comesEndless 19 = .ok (.invokevirtual 233, 3) := by decide +kernel
theorem dX5_comesEndless_22 : decode cX5_comesEndless 22 = .ok (.goto 31, 3) := by decide +kernel
theorem dX5_comesEndless_25 : decode cX5_comesEndless 25 = .ok (.aload_n 0, 1) := by decide +kernel
theorem dX5_comesEndless_26 : decode cX5_comesEndless 26 = .ok (.aload_n 0, 1) := by decide +kernel
theorem dX5_comesEndless_27 : decode cX5_comesEndless 27 = .ok (.getfield 230, 3) := by decide +kernel
theorem dX5_comesEndless_30 : decode cX5_comesEndless 30 = .ok (.iconst 3, 1) := by decide +kernel
theorem dX5_comesEndless_31 : decode cX5_comesEndless 31 = .ok (.if_icmp .ge 15, 3) := by decide +kernel
theorem dX5_comesEndless_34 : decode cX5_comesEndless 34 = .ok (.iload_n 2, 1) := by decide +kernel
theorem dX5_comesEndless_35 : decode cX5_comesEndless 35 = .ok (.ifCond .eq 7, 3) := by decide +kernel
theorem dX5_comesEndless_38 : decode cX5_comesEndless 38 = .ok (.iconst 2, 1) := by decide +kernel
theorem dX5_comesEndless_39 : decode cX5_comesEndless 39 = .ok (.goto 11, 3) := by decide +kernel
theorem dX5_comesEndless_42 : decode cX5_comesEndless 42 = .ok (.iconst 1, 1) := by decide +kernel
theorem dX5_comesEndless_43 : decode cX5_comesEndless 43 = .ok (.goto 7, 3) := by decide +kernel
theorem dX5_comesEndless_46 : decode cX5_comesEndless 46 = .ok (.aload_n 0, 1) := by decide +kernel
theorem dX5_comesEndless_47 : decode cX5_comesEndless 47 = .ok (.getfield 230, 3) := by decide +kernel
theorem dX5_comesEndless_50 : decode cX5_comesEndless 50 = .ok (.putfield 230, 3) := by decide +kernel
theorem dX5_comesEndless_53 : decode cX5_comesEndless 53 = .ok (.return_, 1) := by decide +kernel
theorem dX5_comes_0 : decode cX5_comes 0 = .ok (.aload_n 0, 1) := by decide +kernel
theorem dX5_comes_1 : decode cX5_comes 1 = .ok (.getfield 230, 3) := by decide +kernel
theorem dX5_comes_4 : decode cX5_comes 4 = .ok (.iconst 2, 1) := by decide +kernel
theorem dX5_comes_5 : decode cX5_comes 5 = .ok (.if_icmp .le 4, 3) := by decide +kernel
theorem dX5_comes_8 : decode cX5_comes 8 = .ok (.return_, 1) := by decide +kernel
theorem dX5_comes_9 : decode cX5_comes 9 = .ok (.aload_n 0, 1) := by decide +kernel
theorem dX5_comes_10 : decode cX5_comes 10 = .ok (.iload_n 1, 1) := by decide +kernel
theorem dX5_comes_11 : decode cX5_comes 11 = .ok (.iload_n 2, 1) := by decide +kernel
theorem dX5_comes_12 : decode cX5_comes 12 = .ok (.invokevirtual 87, 3) := by decide +kernel
theorem dX5_comes_15 : decode cX5_comes 15 = .ok (.istore 5, 2) := by decide +kernel
theorem dX5_comes_17 : decode cX5_comes 17 = .ok (.iload 5, 2) := by decide +kernel
theorem dX5_comes_19 : decode cX5_comes 19 = .ok (.iconst 4, 1) := by decide +kernel
theorem dX5_comes_20 : decode cX5_comes 20 = .ok (.if_icmp .ne 12, 3) := by decide +kernel
theorem dX5_comes_23 : decode cX5_comes 23 = .ok (.aload_n 0, 1) := by decide +kernel
theorem dX5_comes_24 : decode cX5_comes 24 = .ok (.iload_n 1, 1) := by decide +kernel
theorem dX5_comes_25 : decode cX5_comes 25 = .ok (.iconst 0, 1) := by decide +kernel
theorem dX5_comes_26 : decode cX5_comes 26 = .ok (.invokevirtual 233, 3) := by decide +kernel
theorem dX5_comes_29 : decode cX5_comes 29 = .ok (.goto 40, 3) := by decide +kernel
theorem dX5_comes_32 : decode cX5_comes 32 = .ok (.iload 5, 2) := by decide +kernel
theorem dX5_comes_34 : decode cX5_comes 34 = .ok (.iconst 3, 1) := by decide +kernel
theorem dX5_comes_35 : decode cX5_comes 35 = .ok (.if_icmp .ne 17, 3) := by decide +kernel
theorem dX5_comes_38 : decode cX5_comes 38 = .ok (.aload_n 0, 1) := by decide +kernel
theorem dX5_comes_39 : decode cX5_comes 39 = .ok (.iload_n 1, 1) := by decide +kernel
theorem dX5_comes_40 : decode cX5_comes 40 = .ok (.aload_n 0, 1) := by decide +kernel
theorem dX5_comes_41 : decode cX5_comes 41 = .ok (.iload_n 1, 1) := by decide +kernel
theorem dX5_comes_42 : decode cX5_comes 42 = .ok (.iload_n 2, 1) := by decide +kernel
theorem dX5_comes_43 : decode cX5_comes 43 = .ok (.invokevirtual 96, 3) := by decide +kernel
theorem dX5_comes_46 : decode cX5_comes 46 = .ok (.invokevirtual 237, 3) := by decide +kernel
theorem dX5_comes_49 : decode cX5_comes 49 = .ok (.goto 20, 3) := by decide +kernel
theorem dX5_comes_52 : decode cX5_comes 52 = .ok (.aload_n 0, 1) := by decide +kernel
theorem dX5_comes_53 : decode cX5_comes 53 = .ok (.dup, 1) := by decide +kernel
theorem dX5_comes_54 : decode cX5_comes 54 = .ok (.getfield 240, 3) := by decide +kernel
theorem dX5_comes_57 : decode cX5_comes 57 = .ok (.aload_n 0, 1) := by decide +kernel
theorem dX5_comes_58 : decode cX5_comes 58 = .ok (.iload_n 1, 1) := by decide +kernel
theorem dX5_comes_59 : decode cX5_comes 59 = .ok (.iload_n 2, 1) := by decide +kernel
theorem dX5_comes_60 : decode cX5_comes 60 = .ok (.invokevirtual 135, 3) := by decide +kernel
theorem dX5_comes_63 : decode cX5_comes 63 = .ok (.lload_n 3, 1) := by decide +kernel
theorem dX5_comes_64 : decode cX5_comes 64 = .ok (.lmul, 1) := by decide +kernel
theorem dX5_comes_65 : decode cX5_comes 65 = .ok (.ladd, 1) := by decide +kernel
theorem dX5_comes_66 : decode cX5_comes 66 = .ok (.putfield 240, 3) := by decide +kernel
theorem dX5_comes_69 : decode cX5_comes 69 = .ok (.return_, 1) := by decide +kernel
theorem dX5_comesProduct_0 : decode cX5_comesProduct 0 = .ok (.aload_n 0, 1) := by decide +kernel
theorem dX5_comesProduct_1 : decode cX5_comesProduct 1 = .ok (.getfield 230, 3) := by decide +kernel
theorem dX5_comesProduct_4 : decode cX5_comesProduct 4 = .ok (.iconst 2, 1) := by decide +kernel
theorem dX5_comesProduct_5 : decode cX5_comesProduct 5 = .ok (.if_icmp .le 4, 3) := by decide +kernel
theorem dX5_comesProduct_8 : decode cX5_comesProduct 8 = .ok (.return_, 1) := by decide +kernel
theorem dX5_comesProduct_9 : decode cX5_comesProduct 9 = .ok (.aload_n 0, 1) := by decide +kernel
theorem dX5_comesProduct_10 : decode cX5_comesProduct 10 = .ok (.iload_n 1, 1) := by decide +kernel
theorem dX5_comesProduct_11 : decode cX5_comesProduct 11 = .ok (.iload_n 2, 1) := by decide +kernel
theorem dX5_comesProduct_12 : decode cX5_comesProduct 12 = .ok (.invokevirtual 87, 3) := by decide +kernel
theorem dX5_comesProduct_15 : decode cX5_comesProduct 15 = .ok (.istore 4, 2) := by decide +kernel
theorem dX5_comesProduct_17 : decode cX5_comesProduct 17 = .ok (.aload_n 0, 1) := by decide +kernel
theorem dX5_comesProduct_18 : decode cX5_comesProduct 18 = .ok (.iload_n 1, 1) := by decide +kernel
theorem dX5_comesProduct_19 : decode cX5_comesProduct 19 = .ok (.iload_n 3, 1) := by decide +kernel
theorem dX5_comesProduct_20 : decode cX5_comesProduct 20 = .ok (.invokevirtual 87, 3) := by decide +kernel
theorem dX5_comesProduct_23 : decode cX5_comesProduct 23 = .ok (.istore 5, 2) := by decide +kernel
theorem dX5_comesProduct_25 : decode cX5_comesProduct 25 = .ok (.iload 4, 2) := by decide +kernel
theorem dX5_comesProduct_27 : decode cX5_comesProduct 27 = .ok (.iconst 4, 1) := by decide +kernel
theorem dX5_comesProduct_28 : decode cX5_comesProduct 28 = .ok (.if_icmp .eq 9, 3) := by decide +kernel
theorem dX5_comesProduct_31 : decode cX5_comesProduct 31 = .ok (.iload 5, 2) := by decide +kernel
theorem dX5_comesProduct_33 : decode cX5_comesProduct 33 = .ok (.iconst 4, 1) := by decide +kernel
theorem dX5_comesProduct_34 : decode cX5_comesProduct 34 = .ok (.if_icmp .ne 12, 3) := by decide +kernel
theorem dX5_comesProduct_37 : decode cX5_comesProduct 37 = .ok (.aload_n 0, 1) := by decide +kernel
theorem dX5_comesProduct_38 : decode cX5_comesProduct 38 = .ok (.iload_n 1, 1) := by decide +kernel
theorem dX5_comesProduct_39 : decode cX5_comesProduct 39 = .ok (.iconst 0, 1) := by decide +kernel
theorem dX5_comesProduct_40 : decode cX5_comesProduct 40 = .ok (.invokevirtual 233, 3) := by decide +kernel
theorem dX5_comesProduct_43 : decode cX5_comesProduct 43 = .ok (.goto 84, 3) := by decide +kernel
theorem dX5_comesProduct_46 : decode cX5_comesProduct 46 = .ok (.iload 4, 2) := by decide +kernel
theorem dX5_comesProduct_48 : decode cX5_comesProduct 48 = .ok (.iconst 3, 1) := by decide +kernel
theorem dX5_comesProduct_49 : decode cX5_comesProduct 49 = .ok (.if_icmp .eq 9, 3) := by decide +kernel
theorem dX5_comesProduct_52 : decode cX5_comesProduct 52 = .ok (.iload 5, 2) := by decide +kernel
theorem dX5_comesProduct_54 : decode cX5_comesProduct 54 = .ok (.iconst 3, 1) := by decide +kernel
theorem dX5_comesProduct_55 : decode cX5_comesProduct 55 = .ok (.if_icmp .ne 50, 3) := by decide +kernel
theorem dX5_comesProduct_58 : decode cX5_comesProduct 58 = .ok (.iload 4, 2) := by decide +kernel
theorem dX5_comesProduct_60 : decode cX5_comesProduct 60 = .ok (.ifCond .eq 8, 3) := by decide +kernel
theorem dX5_comesProduct_63 : decode cX5_comesProduct 63 = .ok (.iload 5, 2) := by decide +kernel
theorem dX5_comesProduct_65 : decode cX5_comesProduct 65 = .ok (.ifCond .ne 12, 3) := by decide +kernel
theorem dX5_comesProduct_68 : decode cX5_comesProduct 68 = .ok (.aload_n 0, 1) := by decide +kernel
theorem dX5_comesProduct_69 : decode cX5_comesProduct 69 = .ok (.iload_n 1, 1) := by decide +kernel
theorem dX5_comesProduct_70 : decode cX5_comesProduct 70 = .ok (.iconst 1, 1) := by decide +kernel
theorem dX5_comesProduct_71 : decode cX5_comesProduct 71 = .ok (.invokevirtual 233, 3) := by decide +kernel
theorem dX5_comesProduct_74 : decode cX5_comesProduct 74 = .ok (.goto 53, 3) := by decide +kernel
theorem dX5_comesProduct_77 : decode cX5_comesProduct 77 = .ok (.aload_n 0, 1) := by decide +kernel
theorem dX5_comesProduct_78 : decode cX5_comesProduct 78 = .ok (.iload_n 1, 1) := by decide +kernel
theorem dX5_comesProduct_79 : decode cX5_comesProduct 79 = .ok (.aload_n 0, 1) := by decide +kernel
theorem dX5_comesProduct_80 : decode cX5_comesProduct 80 = .ok (.iload_n 1, 1) := by decide +kernel
theorem dX5_comesProduct_81 : decode cX5_comesProduct 81 = .ok (.iload_n 2, 1) := by decide +kernel
theorem dX5_comesProduct_82 : decode cX5_comesProduct 82 = .ok (.invokevirtual 96, 3) := by decide +kernel
theorem dX5_comesProduct_85 : decode cX5_comesProduct 85 = .ok (.aload_n 0, 1) := by decide +kernel
theorem dX5_comesProduct_86 : decode cX5_comesProduct 86 = .ok (.iload_n 1, 1) := by decide +kernel
theorem dX5_comesProduct_87 : decode cX5_comesProduct 87 = .ok (.iload_n 3, 1) := by decide +kernel
theorem dX5_comesProduct_88 : decode cX5_comesProduct 88 = .ok (.invokevirtual 96, 3) := by decide +kernel
theorem dX5_comesProduct_91 : decode cX5_comesProduct 91 = .ok (.if_icmp .eq 7, 3) := by decide +kernel
theorem dX5_comesProduct_94 : decode cX5_comesProduct 94 = .ok (.iconst 1, 1) := by decide +kernel
theorem dX5_comesProduct_95 : decode cX5_comesProduct 95 = .ok (.goto 4, 3) := by decide +kernel
theorem dX5_comesProduct_98 : decode cX5_comesProduct 98 = .ok (.iconst 0, 1) := by decide +kernel
theorem dX5_comesProduct_99 : decode cX5_comesProduct 99 = .ok (.invokevirtual 237, 3) := by decide +kernel
theorem dX5_comesProduct_102 : decode cX5_comesProduct 102 = .ok (.goto 25, 3) := by decide +kernel
theorem dX5_comesProduct_105 : decode cX5_comesProduct 105 = .ok (.aload_n 0, 1) := by decide +kernel
theorem dX5_comesProduct_106 : decode cX5_comesProduct 106 = .ok (.dup, 1) := by decide +kernel
theorem dX5_comesProduct_107 : decode cX5_comesProduct 107 = .ok (.getfield 240, 3) := by decide +kernel
theorem dX5_comesProduct_110 : decode cX5_comesProduct 110 = .ok (.aload_n 0, 1) := by decide +kernel
theorem dX5_comesProduct_111 : decode cX5_comesProduct 111 = .ok (.iload_n 1, 1) := by decide +kernel
theorem dX5_comesProduct_112 : decode cX5_comesProduct 112 = .ok (.iload_n 2, 1) := by decide +kernel
theorem dX5_comesProduct_113 : decode cX5_comesProduct 113 = .ok (.invokevirtual 135, 3) := by decide +kernel
theorem dX5_comesProduct_116 : decode cX5_comesProduct 116 = .ok (.aload_n 0, 1) := by decide +kernel
theorem dX5_comesProduct_117 : decode cX5_comesProduct 117 = .ok (.iload_n 1, 1) := by decide +kernel
theorem dX5_comesProduct_118 : decode cX5_comesProduct 118 = .ok (.iload_n 3, 1) := by decide +kernel
theorem dX5_comesProduct_119 : decode cX5_comesProduct 119 = .ok (.invokevirtual 135, 3) := by decide +kernel
theorem dX5_comesProduct_122 : decode cX5_comesProduct 122 = .ok (.lmul, 1) := by decide +kernel
theorem dX5_comesProduct_123 : decode cX5_comesProduct 123 = .ok (.ladd, 1) := by decide +kernel
theorem dX5_comesProduct_124 : decode cX5_comesProduct 124 = .ok (.putfield 240, 3) := by decide +kernel
theorem dX5_comesProduct_127 : decode cX5_comesProduct 127 = .ok (.return_, 1) := by decide +kernel
theorem dX5_whatCame_0 : decode cX5_whatCame 0 = .ok (.aload_n 0, 1) := by decide +kernel
theorem dX5_whatCame_1 : decode cX5_whatCame 1 = .ok (.getfield 230, 3) := by decide +kernel
theorem dX5_whatCame_4 : decode cX5_whatCame 4 = .ok (.tableswitch 55 1 4 #[32, 39, 46, 52], 32) := by decide +kernel
theorem dX5_whatCame_36 : decode cX5_whatCame 36 = .ok (.aload_n 0, 1) := by decide +kernel
theorem dX5_whatCame_37 : decode cX5_whatCame 37 = .ok (.iload_n 1, 1) := by decide +kernel
theorem dX5_whatCame_38 : decode cX5_whatCame 38 = .ok (.iconst 0, 1) := by decide +kernel
theorem dX5_whatCame_39 : decode cX5_whatCame 39 = .ok (.invokevirtual 203, 3) := by decide +kernel
theorem dX5_whatCame_42 : decode cX5_whatCame 42 = .ok (.ireturn, 1) := by decide +kernel
theorem dX5_whatCame_43 : decode cX5_whatCame 43 = .ok (.aload_n 0, 1) := by decide +kernel
theorem dX5_whatCame_44 : decode cX5_whatCame 44 = .ok (.iload_n 1, 1) := by decide +kernel
theorem dX5_whatCame_45 : decode cX5_whatCame 45 = .ok (.iconst 1, 1) := by decide +kernel
theorem dX5_whatCame_46 : decode cX5_whatCame 46 = .ok (.invokevirtual 203, 3) := by decide +kernel
theorem dX5_whatCame_49 : decode cX5_whatCame 49 = .ok (.ireturn, 1) := by decide +kernel
theorem dX5_whatCame_50 : decode cX5_whatCame 50 = .ok (.aload_n 0, 1) := by decide +kernel
theorem dX5_whatCame_51 : decode cX5_whatCame 51 = .ok (.iload_n 1, 1) := by decide +kernel
theorem dX5_whatCame_52 : decode cX5_whatCame 52 = .ok (.invokevirtual 118, 3) := by decide +kernel
theorem dX5_whatCame_55 : decode cX5_whatCame 55 = .ok (.ireturn, 1) := by decide +kernel
theorem dX5_whatCame_56 : decode cX5_whatCame 56 = .ok (.bipush (-4), 2) := by decide +kernel
theorem dX5_whatCame_58 : decode cX5_whatCame 58 = .ok (.ireturn, 1) := by decide +kernel
theorem dX5_whatCame_59 : decode cX5_whatCame 59 = .ok (.aload_n 0, 1) := by decide +kernel
theorem dX5_whatCame_60 : decode cX5_whatCame 60 = .ok (.iload_n 1, 1) := by decide +kernel
theorem dX5_whatCame_61 : decode cX5_whatCame 61 = .ok (.aload_n 0, 1) := by decide +kernel
theorem dX5_whatCame_62 : decode cX5_whatCame 62 = .ok (.getfield 240, 3) := by decide +kernel
theorem dX5_whatCame_65 : decode cX5_whatCame 65 = .ok (.lload_n 2, 1) := by decide +kernel
theorem dX5_whatCame_66 : decode cX5_whatCame 66 = .ok (.iload 4, 2) := by decide +kernel
theorem dX5_whatCame_68 : decode cX5_whatCame 68 = .ok (.iload 5, 2) := by decide +kernel
theorem dX5_whatCame_70 : decode cX5_whatCame 70 = .ok (.invokevirtual 179, 3) := by decide +kernel
theorem dX5_whatCame_73 : decode cX5_whatCame 73 = .ok (.ireturn, 1) := by decide +kernel
theorem dX5_fused_0 : decode cX5_fused 0 = .ok (.aload_n 0, 1) := by decide +kernel
theorem dX5_fused_1 : decode cX5_fused 1 = .ok (.iload_n 1, 1) := by decide +kernel
theorem dX5_fused_2 : decode cX5_fused 2 = .ok (.invokevirtual 109, 3) := by decide +kernel
theorem dX5_fused_5 : decode cX5_fused 5 = .ok (.ifCond .eq 44, 3) := by decide +kernel
theorem dX5_fused_8 : decode cX5_fused 8 = .ok (.aload_n 0, 1) := by decide +kernel
theorem dX5_fused_9 : decode cX5_fused 9 = .ok (.iload_n 1, 1) := by decide +kernel
theorem dX5_fused_10 : decode cX5_fused 10 = .ok (.iload_n 2, 1) := by decide +kernel
theorem dX5_fused_11 : decode cX5_fused 11 = .ok (.invokevirtual 130, 3) := by decide +kernel
theorem dX5_fused_14 : decode cX5_fused 14 = .ok (.ifCond .eq 35, 3) := by decide +kernel
theorem dX5_fused_17 : decode cX5_fused 17 = .ok (.aload_n 0, 1) := by decide +kernel
theorem dX5_fused_18 : decode cX5_fused 18 = .ok (.iload_n 1, 1) := by decide +kernel
theorem dX5_fused_19 : decode cX5_fused 19 = .ok (.iload_n 3, 1) := by decide +kernel
theorem dX5_fused_20 : decode cX5_fused 20 = .ok (.invokevirtual 130, 3) := by decide +kernel
theorem dX5_fused_23 : decode cX5_fused 23 = .ok (.ifCond .eq 26, 3) := by decide +kernel
theorem dX5_fused_26 : decode cX5_fused 26 = .ok (.aload_n 0, 1) := by decide +kernel
theorem dX5_fused_27 : decode cX5_fused 27 = .ok (.iload_n 1, 1) := by decide +kernel
theorem dX5_fused_28 : decode cX5_fused 28 = .ok (.iload 4, 2) := by decide +kernel
theorem dX5_fused_30 : decode cX5_fused 30 = .ok (.invokevirtual 130, 3) := by decide +kernel
theorem dX5_fused_33 : decode cX5_fused 33 = .ok (.ifCond .eq 16, 3) := by decide +kernel
theorem dX5_fused_36 : decode cX5_fused 36 = .ok (.iload 5, 2) := by decide +kernel
theorem dX5_fused_38 : decode cX5_fused 38 = .ok (.i2l, 1) := by decide +kernel
theorem dX5_fused_39 : decode cX5_fused 39 = .ok (.lconst 0, 1) := by decide +kernel
theorem dX5_fused_40 : decode cX5_fused 40 = .ok (.ldc2_w 105, 3) := by decide +kernel
theorem dX5_fused_43 : decode cX5_fused 43 = .ok (.invokestatic 70, 3) := by decide +kernel
theorem dX5_fused_46 : decode cX5_fused 46 = .ok (.ifCond .ne 9, 3) := by decide +kernel
theorem dX5_fused_49 : decode cX5_fused 49 = .ok (.aload_n 0, 1) := by decide +kernel
theorem dX5_fused_50 : decode cX5_fused 50 = .ok (.iconst (-1), 1) := by decide +kernel
theorem dX5_fused_51 : decode cX5_fused 51 = .ok (.invokevirtual 57, 3) := by decide +kernel
theorem dX5_fused_54 : decode cX5_fused 54 = .ok (.ireturn, 1) := by decide +kernel
theorem dX5_fused_55 : decode cX5_fused 55 = .ok (.aload_n 0, 1) := by decide +kernel
theorem dX5_fused_56 : decode cX5_fused 56 = .ok (.invokevirtual 176, 3) := by decide +kernel
theorem dX5_fused_59 : decode cX5_fused 59 = .ok (.aload_n 0, 1) := by decide +kernel
theorem dX5_fused_60 : decode cX5_fused 60 = .ok (.iconst 0, 1) := by decide +kernel
theorem dX5_fused_61 : decode cX5_fused 61 = .ok (.putfield 230, 3) := by decide +kernel
theorem dX5_fused_64 : decode cX5_fused 64 = .ok (.aload_n 0, 1) := by decide +kernel
theorem dX5_fused_65 : decode cX5_fused 65 = .ok (.lconst 0, 1) := by decide +kernel
theorem dX5_fused_66 : decode cX5_fused 66 = .ok (.putfield 240, 3) := by decide +kernel
theorem dX5_fused_69 : decode cX5_fused 69 = .ok (.aload_n 0, 1) := by decide +kernel
theorem dX5_fused_70 : decode cX5_fused 70 = .ok (.iload_n 1, 1) := by decide +kernel
theorem dX5_fused_71 : decode cX5_fused 71 = .ok (.iload_n 2, 1) := by decide +kernel
theorem dX5_fused_72 : decode cX5_fused 72 = .ok (.iload_n 3, 1) := by decide +kernel
theorem dX5_fused_73 : decode cX5_fused 73 = .ok (.invokevirtual 243, 3) := by decide +kernel
theorem dX5_fused_76 : decode cX5_fused 76 = .ok (.aload_n 0, 1) := by decide +kernel
theorem dX5_fused_77 : decode cX5_fused 77 = .ok (.getfield 230, 3) := by decide +kernel
theorem dX5_fused_80 : decode cX5_fused 80 = .ok (.ifCond .ne 16, 3) := by decide +kernel
theorem dX5_fused_83 : decode cX5_fused 83 = .ok (.aload_n 0, 1) := by decide +kernel
theorem dX5_fused_84 : decode cX5_fused 84 = .ok (.getfield 240, 3) := by decide +kernel
theorem dX5_fused_87 : decode cX5_fused 87 = .ok (.lconst 0, 1) := by decide +kernel
theorem dX5_fused_88 : decode cX5_fused 88 = .ok (.lcmp, 1) := by decide +kernel
theorem dX5_fused_89 : decode cX5_fused 89 = .ok (.ifCond .ne 7, 3) := by decide +kernel
theorem dX5_fused_92 : decode cX5_fused 92 = .ok (.iconst 1, 1) := by decide +kernel
theorem dX5_fused_93 : decode cX5_fused 93 = .ok (.goto 4, 3) := by decide +kernel
theorem dX5_fused_96 : decode cX5_fused 96 = .ok (.iconst 0, 1) := by decide +kernel
theorem dX5_fused_97 : decode cX5_fused 97 = .ok (.istore 6, 2) := by decide +kernel
theorem dX5_fused_99 : decode cX5_fused 99 = .ok (.aload_n 0, 1) := by decide +kernel
theorem dX5_fused_100 : decode cX5_fused 100 = .ok (.iload_n 1, 1) := by decide +kernel
theorem dX5_fused_101 : decode cX5_fused 101 = .ok (.iload_n 2, 1) := by decide +kernel
theorem dX5_fused_102 : decode cX5_fused 102 = .ok (.invokevirtual 96, 3) := by decide +kernel
theorem dX5_fused_105 : decode cX5_fused 105 = .ok (.aload_n 0, 1) := by decide +kernel
theorem dX5_fused_106 : decode cX5_fused 106 = .ok (.iload_n 1, 1) := by decide +kernel
theorem dX5_fused_107 : decode cX5_fused 107 = .ok (.iload_n 3, 1) := by decide +kernel
theorem dX5_fused_108 : decode cX5_fused 108 = .ok (.invokevirtual 96, 3) := by decide +kernel
theorem dX5_fused_111 : decode cX5_fused 111 = .ok (.if_icmp .eq 7, 3) := by decide +kernel
theorem dX5_fused_114 : decode cX5_fused 114 = .ok (.iconst 1, 1) := by decide +kernel
theorem dX5_fused_115 : decode cX5_fused 115 = .ok (.goto 4, 3) := by decide +kernel
theorem dX5_fused_118 : decode cX5_fused 118 = .ok (.iconst 0, 1) := by decide +kernel
theorem dX5_fused_119 : decode cX5_fused 119 = .ok (.istore 7, 2) := by decide +kernel
theorem dX5_fused_121 : decode cX5_fused 121 = .ok (.aload_n 0, 1) := by decide +kernel
theorem dX5_fused_122 : decode cX5_fused 122 = .ok (.iload_n 1, 1) := by decide +kernel
theorem dX5_fused_123 : decode cX5_fused 123 = .ok (.iload 4, 2) := by decide +kernel
theorem dX5_fused_125 : decode cX5_fused 125 = .ok (.lconst 1, 1) := by decide +kernel
theorem dX5_fused_126 : decode cX5_fused 126 = .ok (.aload_n 0, 1) := by decide +kernel
theorem dX5_fused_127 : decode cX5_fused 127 = .ok (.iload_n 1, 1) := by decide +kernel
theorem dX5_fused_128 : decode cX5_fused 128 = .ok (.invokevirtual 127, 3) := by decide +kernel
theorem dX5_fused_131 : decode cX5_fused 131 = .ok (.lshl, 1) := by decide +kernel
theorem dX5_fused_132 : decode cX5_fused 132 = .ok (.invokevirtual 247, 3) := by decide +kernel
theorem dX5_fused_135 : decode cX5_fused 135 = .ok (.iload 6, 2) := by decide +kernel
theorem dX5_fused_137 : decode cX5_fused 137 = .ok (.ifCond .eq 29, 3) := by decide +kernel
theorem dX5_fused_140 : decode cX5_fused 140 = .ok (.aload_n 0, 1) := by decide +kernel
theorem dX5_fused_141 : decode cX5_fused 141 = .ok (.iload_n 1, 1) := by decide +kernel
theorem dX5_fused_142 : decode cX5_fused 142 = .ok (.iload 4, 2) := by decide +kernel
theorem dX5_fused_144 : decode cX5_fused 144 = .ok (.invokevirtual 80, 3) := by decide +kernel
theorem dX5_fused_147 : decode cX5_fused 147 = .ok (.ifCond .ne 19, 3) := by decide +kernel
theorem dX5_fused_150 : decode cX5_fused 150 = .ok (.iload 7, 2) := by decide +kernel
theorem dX5_fused_152 : decode cX5_fused 152 = .ok (.aload_n 0, 1) := by decide +kernel
theorem dX5_fused_153 : decode cX5_fused 153 = .ok (.iload_n 1, 1) := by decide +kernel
theorem dX5_fused_154 : decode cX5_fused 154 = .ok (.iload 4, 2) := by decide +kernel
theorem dX5_fused_156 : decode cX5_fused 156 = .ok (.invokevirtual 96, 3) := by decide +kernel
theorem dX5_fused_159 : decode cX5_fused 159 = .ok (.if_icmp .ne 7, 3) := by decide +kernel
theorem dX5_fused_162 : decode cX5_fused 162 = .ok (.iconst 1, 1) := by decide +kernel
theorem dX5_fused_163 : decode cX5_fused 163 = .ok (.goto 4, 3) := by decide +kernel
theorem dX5_fused_166 : decode cX5_fused 166 = .ok (.iconst 0, 1) := by decide +kernel
theorem dX5_fused_167 : decode cX5_fused 167 = .ok (.istore 8, 2) := by decide +kernel
theorem dX5_fused_169 : decode cX5_fused 169 = .ok (.aload_n 0, 1) := by decide +kernel
theorem dX5_fused_170 : decode cX5_fused 170 = .ok (.aload_n 0, 1) := by decide +kernel
theorem dX5_fused_171 : decode cX5_fused 171 = .ok (.iload_n 1, 1) := by decide +kernel
theorem dX5_fused_172 : decode cX5_fused 172 = .ok (.lconst 1, 1) := by decide +kernel
theorem dX5_fused_173 : decode cX5_fused 173 = .ok (.aload_n 0, 1) := by decide +kernel
theorem dX5_fused_174 : decode cX5_fused 174 = .ok (.iload_n 1, 1) := by decide +kernel
theorem dX5_fused_175 : decode cX5_fused 175 = .ok (.invokevirtual 127, 3) := by decide +kernel
theorem dX5_fused_178 : decode cX5_fused 178 = .ok (.lshl, 1) := by decide +kernel
theorem dX5_fused_179 : decode cX5_fused 179 = .ok (.iload 5, 2) := by decide +kernel
theorem dX5_fused_181 : decode cX5_fused 181 = .ok (.iload 8, 2) := by decide +kernel
theorem dX5_fused_183 : decode cX5_fused 183 = .ok (.ifCond .eq 8, 3) := by decide +kernel
theorem dX5_fused_186 : decode cX5_fused 186 = .ok (.iload 7, 2) := by decide +kernel
theorem dX5_fused_188 : decode cX5_fused 188 = .ok (.goto 14, 3) := by decide +kernel
theorem dX5_fused_191 : decode cX5_fused 191 = .ok (.iload 5, 2) := by decide +kernel
theorem dX5_fused_193 : decode cX5_fused 193 = .ok (.iconst 3, 1) := by decide +kernel
theorem dX5_fused_194 : decode cX5_fused 194 = .ok (.if_icmp .ne 7, 3) := by decide +kernel
theorem dX5_fused_197 : decode cX5_fused 197 = .ok (.iconst 1, 1) := by decide +kernel
theorem dX5_fused_198 : decode cX5_fused 198 = .ok (.goto 4, 3) := by decide +kernel
theorem dX5_fused_201 : decode cX5_fused 201 = .ok (.iconst 0, 1) := by decide +kernel
theorem dX5_fused_202 : decode cX5_fused 202 = .ok (.invokevirtual 251, 3) := by decide +kernel
theorem dX5_fused_205 : decode cX5_fused 205 = .ok (.invokevirtual 183, 3) := by decide +kernel
theorem dX5_fused_208 : decode cX5_fused 208 = .ok (.ireturn, 1) := by decide +kernel
theorem dX5_next_0 : decode cX5_next 0 = .ok (.aload_n 0, 1) := by decide +kernel
theorem dX5_next_1 : decode cX5_next 1 = .ok (.iload_n 1, 1) := by decide +kernel
theorem dX5_next_2 : decode cX5_next 2 = .ok (.invokevirtual 109, 3) := by decide +kernel
theorem dX5_next_5 : decode cX5_next 5 = .ok (.ifCond .eq 21, 3) := by decide +kernel
theorem dX5_next_8 : decode cX5_next 8 = .ok (.aload_n 0, 1) := by decide +kernel
theorem dX5_next_9 : decode cX5_next 9 = .ok (.iload_n 1, 1) := by decide +kernel
theorem dX5_next_10 : decode cX5_next 10 = .ok (.iload_n 2, 1) := by decide +kernel
theorem dX5_next_11 : decode cX5_next 11 = .ok (.invokevirtual 130, 3) := by decide +kernel
theorem dX5_next_14 : decode cX5_next 14 = .ok (.ifCond .eq 12, 3) := by decide +kernel
theorem dX5_next_17 : decode cX5_next 17 = .ok (.aload_n 0, 1) := by decide +kernel
theorem dX5_next_18 : decode cX5_next 18 = .ok (.iload_n 1, 1) := by decide +kernel
theorem dX5_next_19 : decode cX5_next 19 = .ok (.iload_n 2, 1) := by decide +kernel
theorem dX5_next_20 : decode cX5_next 20 = .ok (.invokevirtual 124, 3) := by decide +kernel
theorem dX5_next_23 : decode cX5_next 23 = .ok (.ifCond .ne 9, 3) := by decide +kernel
theorem dX5_next_26 : decode cX5_next 26 = .ok (.aload_n 0, 1) := by decide +kernel
theorem dX5_next_27 : decode cX5_next 27 = .ok (.iconst (-1), 1) := by decide +kernel
theorem dX5_next_28 : decode cX5_next 28 = .ok (.invokevirtual 57, 3) := by decide +kernel
theorem dX5_next_31 : decode cX5_next 31 = .ok (.ireturn, 1) := by decide +kernel
theorem dX5_next_32 : decode cX5_next 32 = .ok (.aload_n 0, 1) := by decide +kernel
theorem dX5_next_33 : decode cX5_next 33 = .ok (.iload_n 1, 1) := by decide +kernel
theorem dX5_next_34 : decode cX5_next 34 = .ok (.iload_n 2, 1) := by decide +kernel
theorem dX5_next_35 : decode cX5_next 35 = .ok (.invokevirtual 80, 3) := by decide +kernel
theorem dX5_next_38 : decode cX5_next 38 = .ok (.istore 4, 2) := by decide +kernel
theorem dX5_next_40 : decode cX5_next 40 = .ok (.aload_n 0, 1) := by decide +kernel
theorem dX5_next_41 : decode cX5_next 41 = .ok (.iload_n 1, 1) := by decide +kernel
theorem dX5_next_42 : decode cX5_next 42 = .ok (.iload_n 2, 1) := by decide +kernel
theorem dX5_next_43 : decode cX5_next 43 = .ok (.invokevirtual 96, 3) := by decide +kernel
theorem dX5_next_46 : decode cX5_next 46 = .ok (.ifCond .eq 12, 3) := by decide +kernel
theorem dX5_next_49 : decode cX5_next 49 = .ok (.iload 4, 2) := by decide +kernel
theorem dX5_next_51 : decode cX5_next 51 = .ok (.ifCond .le 7, 3) := by decide +kernel
theorem dX5_next_54 : decode cX5_next 54 = .ok (.iconst 1, 1) := by decide +kernel
theorem dX5_next_55 : decode cX5_next 55 = .ok (.goto 4, 3) := by decide +kernel
theorem dX5_next_58 : decode cX5_next 58 = .ok (.iconst 0, 1) := by decide +kernel
theorem dX5_next_59 : decode cX5_next 59 = .ok (.istore 5, 2) := by decide +kernel
theorem dX5_next_61 : decode cX5_next 61 = .ok (.iload 4, 2) := by decide +kernel
theorem dX5_next_63 : decode cX5_next 63 = .ok (.ifCond .eq 9, 3) := by decide +kernel
theorem dX5_next_66 : decode cX5_next 66 = .ok (.iload 5, 2) := by decide +kernel
theorem dX5_next_68 : decode cX5_next 68 = .ok (.iload_n 3, 1) := by decide +kernel
theorem dX5_next_69 : decode cX5_next 69 = .ok (.if_icmp .eq 67, 3) := by decide +kernel
theorem dX5_next_72 : decode cX5_next 72 = .ok (.iload 4, 2) := by decide +kernel
theorem dX5_next_74 : decode cX5_next 74 = .ok (.aload_n 0, 1) := by decide +kernel
theorem dX5_next_75 : decode cX5_next 75 = .ok (.iload_n 1, 1) := by decide +kernel
theorem dX5_next_76 : decode cX5_next 76 = .ok (.invokevirtual 100, 3) := by decide +kernel
theorem dX5_next_79 : decode cX5_next 79 = .ok (.if_icmp .ge 21, 3) := by decide +kernel
theorem dX5_next_82 : decode cX5_next 82 = .ok (.iload_n 3, 1) := by decide +kernel
theorem dX5_next_83 : decode cX5_next 83 = .ok (.ifCond .ne 13, 3) := by decide +kernel
theorem dX5_next_86 : decode cX5_next 86 = .ok (.aload_n 0, 1) := by decide +kernel
theorem dX5_next_87 : decode cX5_next 87 = .ok (.getfield 7, 3) := by decide +kernel
theorem dX5_next_90 : decode cX5_next 90 = .ok (.iload_n 1, 1) := by decide +kernel
theorem dX5_next_91 : decode cX5_next 91 = .ok (.iaload, 1) := by decide +kernel
theorem dX5_next_92 : decode cX5_next 92 = .ok (.iconst 1, 1) := by decide +kernel
theorem dX5_next_93 : decode cX5_next 93 = .ok (.if_icmp .ne 7, 3) := by decide +kernel
theorem dX5_next_96 : decode cX5_next 96 = .ok (.iconst 1, 1) := by decide +kernel
theorem dX5_next_97 : decode cX5_next 97 = .ok (.goto 4, 3) := by decide +kernel
theorem dX5_next_100 : decode cX5_next 100 = .ok (.iconst 0, 1) := by decide +kernel
theorem dX5_next_101 : decode cX5_next 101 = .ok (.istore 6, 2) := by decide +kernel
theorem dX5_next_103 : decode cX5_next 103 = .ok (.aload_n 0, 1) := by decide +kernel
theorem dX5_next_104 : decode cX5_next 104 = .ok (.iload 6, 2) := by decide +kernel
theorem dX5_next_106 : decode cX5_next 106 = .ok (.ifCond .eq 24, 3) := by decide +kernel
theorem dX5_next_109 : decode cX5_next 109 = .ok (.aload_n 0, 1) := by decide +kernel
theorem dX5_next_110 : decode cX5_next 110 = .ok (.iload_n 1, 1) := by decide +kernel
theorem dX5_next_111 : decode cX5_next 111 = .ok (.iload 4, 2) := by decide +kernel
theorem dX5_next_113 : decode cX5_next 113 = .ok (.iconst 1, 1) := by decide +kernel
theorem dX5_next_114 : decode cX5_next 114 = .ok (.iadd, 1) := by decide +kernel
theorem dX5_next_115 : decode cX5_next 115 = .ok (.iload_n 3, 1) := by decide +kernel
theorem dX5_next_116 : decode cX5_next 116 = .ok (.ifCond .ne 7, 3) := by decide +kernel
theorem dX5_next_119 : decode cX5_next 119 = .ok (.iconst 1, 1) := by decide +kernel
theorem dX5_next_120 : decode cX5_next 120 = .ok (.goto 4, 3) := by decide +kernel
theorem dX5_next_123 : decode cX5_next 123 = .ok (.iconst 0, 1) := by decide +kernel
theorem dX5_next_124 : decode cX5_next 124 = .ok (.invokevirtual 149, 3) := by decide +kernel
theorem dX5_next_127 : decode cX5_next 127 = .ok (.goto 5, 3) := by decide +kernel
theorem dX5_next_130 : decode cX5_next 130 = .ok (.bipush (-9), 2) := by decide +kernel
theorem dX5_next_132 : decode cX5_next 132 = .ok (.invokevirtual 67, 3) := by decide +kernel
theorem dX5_next_135 : decode cX5_next 135 = .ok (.ireturn, 1) := by decide +kernel
theorem dX5_next_136 : decode cX5_next 136 = .ok (.aload_n 0, 1) := by decide +kernel
theorem dX5_next_137 : decode cX5_next 137 = .ok (.aload_n 0, 1) := by decide +kernel
theorem dX5_next_138 : decode cX5_next 138 = .ok (.iload_n 1, 1) := by decide +kernel
theorem dX5_next_139 : decode cX5_next 139 = .ok (.iload 4, 2) := by decide +kernel
theorem dX5_next_141 : decode cX5_next 141 = .ok (.iconst 1, 1) := by decide +kernel
theorem dX5_next_142 : decode cX5_next 142 = .ok (.isub, 1) := by decide +kernel
theorem dX5_next_143 : decode cX5_next 143 = .ok (.iload 5, 2) := by decide +kernel
theorem dX5_next_145 : decode cX5_next 145 = .ok (.invokevirtual 149, 3) := by decide +kernel
theorem dX5_next_148 : decode cX5_next 148 = .ok (.invokevirtual 67, 3) := by decide +kernel
theorem dX5_next_151 : decode cX5_next 151 = .ok (.ireturn, 1) := by decide +kernel
theorem dX5_order_0 : decode cX5_order 0 = .ok (.aload_n 0, 1) := by decide +kernel
theorem dX5_order_1 : decode cX5_order 1 = .ok (.iload_n 1, 1) := by decide +kernel
theorem dX5_order_2 : decode cX5_order 2 = .ok (.invokevirtual 109, 3) := by decide +kernel
theorem dX5_order_5 : decode cX5_order 5 = .ok (.ifCond .eq 21, 3) := by decide +kernel
theorem dX5_order_8 : decode cX5_order 8 = .ok (.aload_n 0, 1) := by decide +kernel
theorem dX5_order_9 : decode cX5_order 9 = .ok (.iload_n 1, 1) := by decide +kernel
theorem dX5_order_10 : decode cX5_order 10 = .ok (.iload_n 2, 1) := by decide +kernel
theorem dX5_order_11 : decode cX5_order 11 = .ok (.invokevirtual 130, 3) := by decide +kernel
theorem dX5_order_14 : decode cX5_order 14 = .ok (.ifCond .eq 12, 3) := by decide +kernel
theorem dX5_order_17 : decode cX5_order 17 = .ok (.aload_n 0, 1) := by decide +kernel
theorem dX5_order_18 : decode cX5_order 18 = .ok (.iload_n 1, 1) := by decide +kernel
theorem dX5_order_19 : decode cX5_order 19 = .ok (.iload_n 3, 1) := by decide +kernel
theorem dX5_order_20 : decode cX5_order 20 = .ok (.invokevirtual 130, 3) := by decide +kernel
theorem dX5_order_23 : decode cX5_order 23 = .ok (.ifCond .ne 9, 3) := by decide +kernel
theorem dX5_order_26 : decode cX5_order 26 = .ok (.aload_n 0, 1) := by decide +kernel
theorem dX5_order_27 : decode cX5_order 27 = .ok (.iconst (-1), 1) := by decide +kernel
theorem dX5_order_28 : decode cX5_order 28 = .ok (.invokevirtual 57, 3) := by decide +kernel
theorem dX5_order_31 : decode cX5_order 31 = .ok (.ireturn, 1) := by decide +kernel
theorem dX5_order_32 : decode cX5_order 32 = .ok (.aload_n 0, 1) := by decide +kernel
theorem dX5_order_33 : decode cX5_order 33 = .ok (.aload_n 0, 1) := by decide +kernel
theorem dX5_order_34 : decode cX5_order 34 = .ok (.iload_n 1, 1) := by decide +kernel
theorem dX5_order_35 : decode cX5_order 35 = .ok (.iload_n 2, 1) := by decide +kernel
theorem dX5_order_36 : decode cX5_order 36 = .ok (.invokevirtual 87, 3) := by decide +kernel
theorem dX5_order_39 : decode cX5_order 39 = .ok (.iconst 4, 1) := by decide +kernel
theorem dX5_order_40 : decode cX5_order 40 = .ok (.if_icmp .eq 13, 3) := by decide +kernel
theorem dX5_order_43 : decode cX5_order 43 = .ok (.aload_n 0, 1) := by decide +kernel
theorem dX5_order_44 : decode cX5_order 44 = .ok (.iload_n 1, 1) := by decide +kernel
theorem dX5_order_45 : decode cX5_order 45 = .ok (.iload_n 3, 1) := by decide +kernel
theorem dX5_order_46 : decode cX5_order 46 = .ok (.invokevirtual 87, 3) := by decide +kernel
theorem dX5_order_49 : decode cX5_order 49 = .ok (.iconst 4, 1) := by decide +kernel
theorem dX5_order_50 : decode cX5_order 50 = .ok (.if_icmp .ne 7, 3) := by decide +kernel
theorem dX5_order_53 : decode cX5_order 53 = .ok (.iconst 2, 1) := by decide +kernel
theorem dX5_order_54 : decode cX5_order 54 = .ok (.goto 10, 3) := by decide +kernel
theorem dX5_order_57 : decode cX5_order 57 = .ok (.aload_n 0, 1) := by decide +kernel
theorem dX5_order_58 : decode cX5_order 58 = .ok (.iload_n 1, 1) := by decide +kernel
theorem dX5_order_59 : decode cX5_order 59 = .ok (.iload_n 2, 1) := by decide +kernel
theorem dX5_order_60 : decode cX5_order 60 = .ok (.iload_n 3, 1) := by decide +kernel
theorem dX5_order_61 : decode cX5_order 61 = .ok (.invokevirtual 196, 3) := by decide +kernel
theorem dX5_order_64 : decode cX5_order 64 = .ok (.invokevirtual 67, 3) := by decide +kernel
theorem dX5_order_67 : decode cX5_order 67 = .ok (.ireturn, 1) := by decide +kernel
theorem dX5_numbers_0 : decode cX5_numbers 0 = .ok (.aload_n 0, 1) := by decide +kernel
theorem dX5_numbers_1 : decode cX5_numbers 1 = .ok (.iload_n 1, 1) := by decide +kernel
theorem dX5_numbers_2 : decode cX5_numbers 2 = .ok (.invokevirtual 109, 3) := by decide +kernel
theorem dX5_numbers_5 : decode cX5_numbers 5 = .ok (.ifCond .ne 9, 3) := by decide +kernel
theorem dX5_numbers_8 : decode cX5_numbers 8 = .ok (.aload_n 0, 1) := by decide +kernel
theorem dX5_numbers_9 : decode cX5_numbers 9 = .ok (.iconst (-1), 1) := by decide +kernel
theorem dX5_numbers_10 : decode cX5_numbers 10 = .ok (.invokevirtual 57, 3) := by decide +kernel
theorem dX5_numbers_13 : decode cX5_numbers 13 = .ok (.ireturn, 1) := by decide +kernel
theorem dX5_numbers_14 : decode cX5_numbers 14 = .ok (.iconst 0, 1) := by decide +kernel
theorem dX5_numbers_15 : decode cX5_numbers 15 = .ok (.istore 6, 2) := by decide +kernel
theorem dX5_numbers_17 : decode cX5_numbers 17 = .ok (.iconst 0, 1) := by decide +kernel
theorem dX5_numbers_18 : decode cX5_numbers 18 = .ok (.istore 7, 2) := by decide +kernel
theorem dX5_numbers_20 : decode cX5_numbers 20 = .ok (.iload 7, 2) := by decide +kernel
theorem dX5_numbers_22 : decode cX5_numbers 22 = .ok (.iconst 1, 1) := by decide +kernel
theorem dX5_numbers_23 : decode cX5_numbers 23 = .ok (.aload_n 0, 1) := by decide +kernel
theorem dX5_numbers_24 : decode cX5_numbers 24 = .ok (.iload_n 1, 1) := by decide +kernel
theorem dX5_numbers_25 : decode cX5_numbers 25 = .ok (.invokevirtual 74, 3) := by decide +kernel
theorem dX5_numbers_28 : decode cX5_numbers 28 = .ok (.ishl, 1) := by decide +kernel
theorem dX5_numbers_29 : decode cX5_numbers 29 = .ok (.if_icmp .ge 45, 3) := by decide +kernel
theorem dX5_numbers_32 : decode cX5_numbers 32 = .ok (.iload 6, 2) := by decide +kernel
theorem dX5_numbers_34 : decode cX5_numbers 34 = .ok (.aload_n 0, 1) := by decide +kernel
theorem dX5_numbers_35 : decode cX5_numbers 35 = .ok (.iload_n 1, 1) := by decide +kernel
theorem dX5_numbers_36 : decode cX5_numbers 36 = .ok (.iload 7, 2) := by decide +kernel
theorem dX5_numbers_38 : decode cX5_numbers 38 = .ok (.invokevirtual 124, 3) := by decide +kernel
theorem dX5_numbers_41 : decode cX5_numbers 41 = .ok (.ifCond .eq 23, 3) := by decide +kernel
theorem dX5_numbers_44 : decode cX5_numbers 44 = .ok (.aload_n 0, 1) := by decide +kernel
theorem dX5_numbers_45 : decode cX5_numbers 45 = .ok (.iload_n 1, 1) := by decide +kernel
theorem dX5_numbers_46 : decode cX5_numbers 46 = .ok (.iload 7, 2) := by decide +kernel
theorem dX5_numbers_48 : decode cX5_numbers 48 = .ok (.invokevirtual 135, 3) := by decide +kernel
theorem dX5_numbers_51 : decode cX5_numbers 51 = .ok (.lload_n 2, 1) := by decide +kernel
theorem dX5_numbers_52 : decode cX5_numbers 52 = .ok (.lload 4, 2) := by decide +kernel
theorem dX5_numbers_54 : decode cX5_numbers 54 = .ok (.invokestatic 70, 3) := by decide +kernel
theorem dX5_numbers_57 : decode cX5_numbers 57 = .ok (.ifCond .eq 7, 3) := by decide +kernel
theorem dX5_numbers_60 : decode cX5_numbers 60 = .ok (.iconst 1, 1) := by decide +kernel
theorem dX5_numbers_61 : decode cX5_numbers 61 = .ok (.goto 4, 3) := by decide +kernel
theorem dX5_numbers_64 : decode cX5_numbers 64 = .ok (.iconst 0, 1) := by decide +kernel
theorem dX5_numbers_65 : decode cX5_numbers 65 = .ok (.iadd, 1) := by decide +kernel
theorem dX5_numbers_66 : decode cX5_numbers 66 = .ok (.istore 6, 2) := by decide +kernel
theorem dX5_numbers_68 : decode cX5_numbers 68 = .ok (.iinc 7 1, 3) := by decide +kernel
theorem dX5_numbers_71 : decode cX5_numbers 71 = .ok (.goto (-51), 3) := by decide +kernel
theorem dX5_numbers_74 : decode cX5_numbers 74 = .ok (.aload_n 0, 1) := by decide +kernel
theorem dX5_numbers_75 : decode cX5_numbers 75 = .ok (.iload 6, 2) := by decide +kernel
theorem dX5_numbers_77 : decode cX5_numbers 77 = .ok (.invokevirtual 67, 3) := by decide +kernel
theorem dX5_numbers_80 : decode cX5_numbers 80 = .ok (.ireturn, 1) := by decide +kernel
theorem dX5_isRow_0 : decode cX5_isRow 0 = .ok (.iload_n 1, 1) := by decide +kernel
theorem dX5_isRow_1 : decode cX5_isRow 1 = .ok (.i2l, 1) := by decide +kernel
theorem dX5_isRow_2 : decode cX5_isRow 2 = .ok (.lconst 0, 1) := by decide +kernel
theorem dX5_isRow_3 : decode cX5_isRow 3 = .ok (.ldc2_w 153, 3) := by decide +kernel
theorem dX5_isRow_6 : decode cX5_isRow 6 = .ok (.invokestatic 70, 3) := by decide +kernel
theorem dX5_isRow_9 : decode cX5_isRow 9 = .ok (.ifCond .eq 16, 3) := by decide +kernel
theorem dX5_isRow_12 : decode cX5_isRow 12 = .ok (.aload_n 0, 1) := by decide +kernel
theorem dX5_isRow_13 : decode cX5_isRow 13 = .ok (.getfield 29, 3) := by decide +kernel
theorem dX5_isRow_16 : decode cX5_isRow 16 = .ok (.iload_n 1, 1) := by decide +kernel
theorem dX5_isRow_17 : decode cX5_isRow 17 = .ok (.iaload, 1) := by decide +kernel
theorem dX5_isRow_18 : decode cX5_isRow 18 = .ok (.ifCond .lt 7, 3) := by decide +kernel
theorem dX5_isRow_21 : decode cX5_isRow 21 = .ok (.iconst 1, 1) := by decide +kernel
theorem dX5_isRow_22 : decode cX5_isRow 22 = .ok (.goto 4, 3) := by decide +kernel
theorem dX5_isRow_25 : decode cX5_isRow 25 = .ok (.iconst 0, 1) := by decide +kernel
theorem dX5_isRow_26 : decode cX5_isRow 26 = .ok (.ireturn, 1) := by decide +kernel
theorem dX5_row_0 : decode cX5_row 0 = .ok (.iload_n 1, 1) := by decide +kernel
theorem dX5_row_1 : decode cX5_row 1 = .ok (.i2l, 1) := by decide +kernel
theorem dX5_row_2 : decode cX5_row 2 = .ok (.lconst 0, 1) := by decide +kernel
theorem dX5_row_3 : decode cX5_row 3 = .ok (.ldc2_w 153, 3) := by decide +kernel
theorem dX5_row_6 : decode cX5_row 6 = .ok (.invokestatic 70, 3) := by decide +kernel
theorem dX5_row_9 : decode cX5_row 9 = .ok (.ifCond .eq 23, 3) := by decide +kernel
theorem dX5_row_12 : decode cX5_row 12 = .ok (.aload_n 0, 1) := by decide +kernel
theorem dX5_row_13 : decode cX5_row 13 = .ok (.iload_n 2, 1) := by decide +kernel
theorem dX5_row_14 : decode cX5_row 14 = .ok (.invokevirtual 109, 3) := by decide +kernel
theorem dX5_row_17 : decode cX5_row 17 = .ok (.ifCond .eq 15, 3) := by decide +kernel
theorem dX5_row_20 : decode cX5_row 20 = .ok (.iload_n 3, 1) := by decide +kernel
theorem dX5_row_21 : decode cX5_row 21 = .ok (.i2l, 1) := by decide +kernel
theorem dX5_row_22 : decode cX5_row 22 = .ok (.lconst 0, 1) := by decide +kernel
theorem dX5_row_23 : decode cX5_row 23 = .ok (.ldc2_w 255, 3) := by decide +kernel
theorem dX5_row_26 : decode cX5_row 26 = .ok (.invokestatic 70, 3) := by decide +kernel
theorem dX5_row_29 : decode cX5_row 29 = .ok (.ifCond .ne 9, 3) := by decide +kernel
theorem dX5_row_32 : decode cX5_row 32 = .ok (.aload_n 0, 1) := by decide +kernel
theorem dX5_row_33 : decode cX5_row 33 = .ok (.iconst (-1), 1) := by decide +kernel
theorem dX5_row_34 : decode cX5_row 34 = .ok (.invokevirtual 57, 3) := by decide +kernel
theorem dX5_row_37 : decode cX5_row 37 = .ok (.ireturn, 1) := by decide +kernel
theorem dX5_row_38 : decode cX5_row 38 = .ok (.aload_n 0, 1) := by decide +kernel
theorem dX5_row_39 : decode cX5_row 39 = .ok (.getfield 29, 3) := by decide +kernel
theorem dX5_row_42 : decode cX5_row 42 = .ok (.iload_n 1, 1) := by decide +kernel
theorem dX5_row_43 : decode cX5_row 43 = .ok (.iload_n 2, 1) := by decide +kernel
theorem dX5_row_44 : decode cX5_row 44 = .ok (.iastore, 1) := by decide +kernel
theorem dX5_row_45 : decode cX5_row 45 = .ok (.aload_n 0, 1) := by decide +kernel
theorem dX5_row_46 : decode cX5_row 46 = .ok (.getfield 32, 3) := by decide +kernel
theorem dX5_row_49 : decode cX5_row 49 = .ok (.iload_n 1, 1) := by decide +kernel
theorem dX5_row_50 : decode cX5_row 50 = .ok (.iload_n 3, 1) := by decide +kernel
theorem dX5_row_51 : decode cX5_row 51 = .ok (.iastore, 1) := by decide +kernel
theorem dX5_row_52 : decode cX5_row 52 = .ok (.iconst 0, 1) := by decide +kernel
theorem dX5_row_53 : decode cX5_row 53 = .ok (.istore 4, 2) := by decide +kernel
theorem dX5_row_55 : decode cX5_row 55 = .ok (.iload 4, 2) := by decide +kernel
theorem dX5_row_57 : decode cX5_row 57 = .ok (.bipush 16, 2) := by decide +kernel
theorem dX5_row_59 : decode cX5_row 59 = .ok (.if_icmp .ge 22, 3) := by decide +kernel
theorem dX5_row_62 : decode cX5_row 62 = .ok (.aload_n 0, 1) := by decide +kernel
theorem dX5_row_63 : decode cX5_row 63 = .ok (.getfield 35, 3) := by decide +kernel
theorem dX5_row_66 : decode cX5_row 66 = .ok (.bipush 16, 2) := by decide +kernel
theorem dX5_row_68 : decode cX5_row 68 = .ok (.iload_n 1, 1) := by decide +kernel
theorem dX5_row_69 : decode cX5_row 69 = .ok (.imul, 1) := by decide +kernel
theorem dX5_row_70 : decode cX5_row 70 = .ok (.iload 4, 2) := by decide +kernel
theorem dX5_row_72 : decode cX5_row 72 = .ok (.iadd, 1) := by decide +kernel
theorem dX5_row_73 : decode cX5_row 73 = .ok (.iconst 0, 1) := by decide +kernel
theorem dX5_row_74 : decode cX5_row 74 = .ok (.iastore, 1) := by decide +kernel
theorem dX5_row_75 : decode cX5_row 75 = .ok (.iinc 4 1, 3) := by decide +kernel
theorem dX5_row_78 : decode cX5_row 78 = .ok (.goto (-23), 3) := by decide +kernel
theorem dX5_row_81 : decode cX5_row 81 = .ok (.aload_n 0, 1) := by decide +kernel
theorem dX5_row_82 : decode cX5_row 82 = .ok (.iconst 1, 1) := by decide +kernel
theorem dX5_row_83 : decode cX5_row 83 = .ok (.invokevirtual 67, 3) := by decide +kernel
theorem dX5_row_86 : decode cX5_row 86 = .ok (.ireturn, 1) := by decide +kernel
theorem dX5_put_0 : decode cX5_put 0 = .ok (.aload_n 0, 1) := by decide +kernel
theorem dX5_put_1 : decode cX5_put 1 = .ok (.iload_n 1, 1) := by decide +kernel
theorem dX5_put_2 : decode cX5_put 2 = .ok (.invokevirtual 257, 3) := by decide +kernel
theorem dX5_put_5 : decode cX5_put 5 = .ok (.ifCond .eq 35, 3) := by decide +kernel
theorem dX5_put_8 : decode cX5_put 8 = .ok (.iload_n 2, 1) := by decide +kernel
theorem dX5_put_9 : decode cX5_put 9 = .ok (.i2l, 1) := by decide +kernel
theorem dX5_put_10 : decode cX5_put 10 = .ok (.lconst 0, 1) := by decide +kernel
theorem dX5_put_11 : decode cX5_put 11 = .ok (.aload_n 0, 1) := by decide +kernel
theorem dX5_put_12 : decode cX5_put 12 = .ok (.getfield 32, 3) := by decide +kernel
theorem dX5_put_15 : decode cX5_put 15 = .ok (.iload_n 1, 1) := by decide +kernel
theorem dX5_put_16 : decode cX5_put 16 = .ok (.iaload, 1) := by decide +kernel
theorem dX5_put_17 : decode cX5_put 17 = .ok (.iconst 1, 1) := by decide +kernel
theorem dX5_put_18 : decode cX5_put 18 = .ok (.isub, 1) := by decide +kernel
theorem dX5_put_19 : decode cX5_put 19 = .ok (.i2l, 1) := by decide +kernel
theorem dX5_put_20 : decode cX5_put 20 = .ok (.invokestatic 70, 3) := by decide +kernel
theorem dX5_put_23 : decode cX5_put 23 = .ok (.ifCond .eq 17, 3) := by decide +kernel
theorem dX5_put_26 : decode cX5_put 26 = .ok (.aload_n 0, 1) := by decide +kernel
theorem dX5_put_27 : decode cX5_put 27 = .ok (.aload_n 0, 1) := by decide +kernel
theorem dX5_put_28 : decode cX5_put 28 = .ok (.getfield 29, 3) := by decide +kernel
theorem dX5_put_31 : decode cX5_put 31 = .ok (.iload_n 1, 1) := by decide +kernel
theorem dX5_put_32 : decode cX5_put 32 = .ok (.iaload, 1) := by decide +kernel
theorem dX5_put_33 : decode cX5_put 33 = .ok (.iload_n 3, 1) := by decide +kernel
theorem dX5_put_34 : decode cX5_put 34 = .ok (.invokevirtual 130, 3) := by decide +kernel
theorem dX5_put_37 : decode cX5_put 37 = .ok (.ifCond .ne 9, 3) := by decide +kernel
theorem dX5_put_40 : decode cX5_put 40 = .ok (.aload_n 0, 1) := by decide +kernel
theorem dX5_put_41 : decode cX5_put 41 = .ok (.iconst (-1), 1) := by decide +kernel
theorem dX5_put_42 : decode cX5_put 42 = .ok (.invokevirtual 57, 3) := by decide +kernel
theorem dX5_put_45 : decode cX5_put 45 = .ok (.ireturn, 1) := by decide +kernel
theorem dX5_put_46 : decode cX5_put 46 = .ok (.aload_n 0, 1) := by decide +kernel
theorem dX5_put_47 : decode cX5_put 47 = .ok (.getfield 35, 3) := by decide +kernel
theorem dX5_put_50 : decode cX5_put 50 = .ok (.bipush 16, 2) := by decide +kernel
theorem dX5_put_52 : decode cX5_put 52 = .ok (.iload_n 1, 1) := by decide +kernel
theorem dX5_put_53 : decode cX5_put 53 = .ok (.imul, 1) := by decide +kernel
theorem dX5_put_54 : decode cX5_put 54 = .ok (.iload_n 2, 1) := by decide +kernel
theorem dX5_put_55 : decode cX5_put 55 = .ok (.iadd, 1) := by decide +kernel
theorem dX5_put_56 : decode cX5_put 56 = .ok (.iaload, 1) := by decide +kernel
theorem dX5_put_57 : decode cX5_put 57 = .ok (.istore 4, 2) := by decide +kernel
theorem dX5_put_59 : decode cX5_put 59 = .ok (.aload_n 0, 1) := by decide +kernel
theorem dX5_put_60 : decode cX5_put 60 = .ok (.getfield 35, 3) := by decide +kernel
theorem dX5_put_63 : decode cX5_put 63 = .ok (.bipush 16, 2) := by decide +kernel
theorem dX5_put_65 : decode cX5_put 65 = .ok (.iload_n 1, 1) := by decide +kernel
theorem dX5_put_66 : decode cX5_put 66 = .ok (.imul, 1) := by decide +kernel
theorem dX5_put_67 : decode cX5_put 67 = .ok (.iload_n 2, 1) := by decide +kernel
theorem dX5_put_68 : decode cX5_put 68 = .ok (.iadd, 1) := by decide +kernel
theorem dX5_put_69 : decode cX5_put 69 = .ok (.iload_n 3, 1) := by decide +kernel
theorem dX5_put_70 : decode cX5_put 70 = .ok (.iastore, 1) := by decide +kernel
theorem dX5_put_71 : decode cX5_put 71 = .ok (.aload_n 0, 1) := by decide +kernel
theorem dX5_put_72 : decode cX5_put 72 = .ok (.iload 4, 2) := by decide +kernel
theorem dX5_put_74 : decode cX5_put 74 = .ok (.invokevirtual 67, 3) := by decide +kernel
theorem dX5_put_77 : decode cX5_put 77 = .ok (.ireturn, 1) := by decide +kernel
theorem dX5_at_0 : decode cX5_at 0 = .ok (.aload_n 0, 1) := by decide +kernel
theorem dX5_at_1 : decode cX5_at 1 = .ok (.iload_n 1, 1) := by decide +kernel
theorem dX5_at_2 : decode cX5_at 2 = .ok (.invokevirtual 257, 3) := by decide +kernel
theorem dX5_at_5 : decode cX5_at 5 = .ok (.ifCond .eq 39, 3) := by decide +kernel
theorem dX5_at_8 : decode cX5_at 8 = .ok (.iload_n 2, 1) := by decide +kernel
theorem dX5_at_9 : decode cX5_at 9 = .ok (.i2l, 1) := by decide +kernel
theorem dX5_at_10 : decode cX5_at 10 = .ok (.lconst 0, 1) := by decide +kernel
theorem dX5_at_11 : decode cX5_at 11 = .ok (.aload_n 0, 1) := by decide +kernel
theorem dX5_at_12 : decode cX5_at 12 = .ok (.getfield 32, 3) := by decide +kernel
theorem dX5_at_15 : decode cX5_at 15 = .ok (.iload_n 1, 1) := by decide +kernel
theorem dX5_at_16 : decode cX5_at 16 = .ok (.iaload, 1) := by decide +kernel
theorem dX5_at_17 : decode cX5_at 17 = .ok (.iconst 1, 1) := by decide +kernel
theorem dX5_at_18 : decode cX5_at 18 = .ok (.isub, 1) := by decide +kernel
theorem dX5_at_19 : decode cX5_at 19 = .ok (.i2l, 1) := by decide +kernel
theorem dX5_at_20 : decode cX5_at 20 = .ok (.invokestatic 70, 3) := by decide +kernel
theorem dX5_at_23 : decode cX5_at 23 = .ok (.ifCond .eq 21, 3) := by decide +kernel
theorem dX5_at_26 : decode cX5_at 26 = .ok (.aload_n 0, 1) := by decide +kernel
theorem dX5_at_27 : decode cX5_at 27 = .ok (.aload_n 0, 1) := by decide +kernel
theorem dX5_at_28 : decode cX5_at 28 = .ok (.getfield 35, 3) := by decide +kernel
theorem dX5_at_31 : decode cX5_at 31 = .ok (.bipush 16, 2) := by decide +kernel
theorem dX5_at_33 : decode cX5_at 33 = .ok (.iload_n 1, 1) := by decide +kernel
theorem dX5_at_34 : decode cX5_at 34 = .ok (.imul, 1) := by decide +kernel
theorem dX5_at_35 : decode cX5_at 35 = .ok (.iload_n 2, 1) := by decide +kernel
theorem dX5_at_36 : decode cX5_at 36 = .ok (.iadd, 1) := by decide +kernel
theorem dX5_at_37 : decode cX5_at 37 = .ok (.iaload, 1) := by decide +kernel
theorem dX5_at_38 : decode cX5_at 38 = .ok (.invokevirtual 67, 3) := by decide +kernel
theorem dX5_at_41 : decode cX5_at 41 = .ok (.goto 8, 3) := by decide +kernel
theorem dX5_at_44 : decode cX5_at 44 = .ok (.aload_n 0, 1) := by decide +kernel
theorem dX5_at_45 : decode cX5_at 45 = .ok (.iconst (-1), 1) := by decide +kernel
theorem dX5_at_46 : decode cX5_at 46 = .ok (.invokevirtual 57, 3) := by decide +kernel
theorem dX5_at_49 : decode cX5_at 49 = .ok (.ireturn, 1) := by decide +kernel
theorem dX5_packed_0 : decode cX5_packed 0 = .ok (.aload_n 0, 1) := by decide +kernel
theorem dX5_packed_1 : decode cX5_packed 1 = .ok (.iload_n 1, 1) := by decide +kernel
theorem dX5_packed_2 : decode cX5_packed 2 = .ok (.invokevirtual 257, 3) := by decide +kernel
theorem dX5_packed_5 : decode cX5_packed 5 = .ok (.ifCond .ne 9, 3) := by decide +kernel
theorem dX5_packed_8 : decode cX5_packed 8 = .ok (.aload_n 0, 1) := by decide +kernel
theorem dX5_packed_9 : decode cX5_packed 9 = .ok (.iconst (-1), 1) := by decide +kernel
theorem dX5_packed_10 : decode cX5_packed 10 = .ok (.invokevirtual 57, 3) := by decide +kernel
theorem dX5_packed_13 : decode cX5_packed 13 = .ok (.ireturn, 1) := by decide +kernel
theorem dX5_packed_14 : decode cX5_packed 14 = .ok (.aload_n 0, 1) := by decide +kernel
theorem dX5_packed_15 : decode cX5_packed 15 = .ok (.aload_n 0, 1) := by decide +kernel
theorem dX5_packed_16 : decode cX5_packed 16 = .ok (.getfield 29, 3) := by decide +kernel
theorem dX5_packed_19 : decode cX5_packed 19 = .ok (.iload_n 1, 1) := by decide +kernel
theorem dX5_packed_20 : decode cX5_packed 20 = .ok (.iaload, 1) := by decide +kernel
theorem dX5_packed_21 : decode cX5_packed 21 = .ok (.invokevirtual 74, 3) := by decide +kernel
theorem dX5_packed_24 : decode cX5_packed 24 = .ok (.istore_n 3, 1) := by decide +kernel
theorem dX5_packed_25 : decode cX5_packed 25 = .ok (.iload_n 3, 1) := by decide +kernel
theorem dX5_packed_26 : decode cX5_packed 26 = .ok (.aload_n 0, 1) := by decide +kernel
theorem dX5_packed_27 : decode cX5_packed 27 = .ok (.getfield 32, 3) := by decide +kernel
theorem dX5_packed_30 : decode cX5_packed 30 = .ok (.iload_n 1, 1) := by decide +kernel
theorem dX5_packed_31 : decode cX5_packed 31 = .ok (.iaload, 1) := by decide +kernel
theorem dX5_packed_32 : decode cX5_packed 32 = .ok (.imul, 1) := by decide +kernel
theorem dX5_packed_33 : decode cX5_packed 33 = .ok (.istore 4, 2) := by decide +kernel
theorem dX5_packed_35 : decode cX5_packed 35 = .ok (.iload 4, 2) := by decide +kernel
theorem dX5_packed_37 : decode cX5_packed 37 = .ok (.bipush 7, 2) := by decide +kernel
theorem dX5_packed_39 : decode cX5_packed 39 = .ok (.iadd, 1) := by decide +kernel
theorem dX5_packed_40 : decode cX5_packed 40 = .ok (.bipush 8, 2) := by decide +kernel
theorem dX5_packed_42 : decode cX5_packed 42 = .ok (.idiv, 1) := by decide +kernel
theorem dX5_packed_43 : decode cX5_packed 43 = .ok (.istore 5, 2) := by decide +kernel
theorem dX5_packed_45 : decode cX5_packed 45 = .ok (.iload_n 2, 1) := by decide +kernel
theorem dX5_packed_46 : decode cX5_packed 46 = .ok (.iconst (-1), 1) := by decide +kernel
theorem dX5_packed_47 : decode cX5_packed 47 = .ok (.if_icmp .ne 10, 3) := by decide +kernel
theorem dX5_packed_50 : decode cX5_packed 50 = .ok (.aload_n 0, 1) := by decide +kernel
theorem dX5_packed_51 : decode cX5_packed 51 = .ok (.iload 5, 2) := by decide +kernel
theorem dX5_packed_53 : decode cX5_packed 53 = .ok (.invokevirtual 67, 3) := by decide +kernel
theorem dX5_packed_56 : decode cX5_packed 56 = .ok (.ireturn, 1) := by decide +kernel
theorem dX5_packed_57 : decode cX5_packed 57 = .ok (.iload_n 2, 1) := by decide +kernel
theorem dX5_packed_58 : decode cX5_packed 58 = .ok (.i2l, 1) := by decide +kernel
theorem dX5_packed_59 : decode cX5_packed 59 = .ok (.lconst 0, 1) := by decide +kernel
theorem dX5_packed_60 : decode cX5_packed 60 = .ok (.iload 5, 2) := by decide +kernel
theorem dX5_packed_62 : decode cX5_packed 62 = .ok (.iconst 1, 1) := by decide +kernel
theorem dX5_packed_63 : decode cX5_packed 63 = .ok (.isub, 1) := by decide +kernel
theorem dX5_packed_64 : decode cX5_packed 64 = .ok (.i2l, 1) := by decide +kernel
theorem dX5_packed_65 : decode cX5_packed 65 = .ok (.invokestatic 70, 3) := by decide +kernel
theorem dX5_packed_68 : decode cX5_packed 68 = .ok (.ifCond .ne 9, 3) := by decide +kernel
theorem dX5_packed_71 : decode cX5_packed 71 = .ok (.aload_n 0, 1) := by decide +kernel
theorem dX5_packed_72 : decode cX5_packed 72 = .ok (.iconst (-1), 1) := by decide +kernel
theorem dX5_packed_73 : decode cX5_packed 73 = .ok (.invokevirtual 57, 3) := by decide +kernel
theorem dX5_packed_76 : decode cX5_packed 76 = .ok (.ireturn, 1) := by decide +kernel
theorem dX5_packed_77 : decode cX5_packed 77 = .ok (.iconst 0, 1) := by decide +kernel
theorem dX5_packed_78 : decode cX5_packed 78 = .ok (.istore 6, 2) := by decide +kernel
theorem dX5_packed_80 : decode cX5_packed 80 = .ok (.iconst 0, 1) := by decide +kernel
theorem dX5_packed_81 : decode cX5_packed 81 = .ok (.istore 7, 2) := by decide +kernel
theorem dX5_packed_83 : decode cX5_packed 83 = .ok (.iload 7, 2) := by decide +kernel
theorem dX5_packed_85 : decode cX5_packed 85 = .ok (.bipush 8, 2) := by decide +kernel
theorem dX5_packed_87 : decode cX5_packed 87 = .ok (.if_icmp .ge 58, 3) := by decide +kernel
theorem dX5_packed_90 : decode cX5_packed 90 = .ok (.bipush 8, 2) := by decide +kernel
theorem dX5_packed_92 : decode cX5_packed 92 = .ok (.iload_n 2, 1) := by decide +kernel
theorem dX5_packed_93 : decode cX5_packed 93 = .ok (.imul, 1) := by decide +kernel
theorem dX5_packed_94 : decode cX5_packed 94 = .ok (.iload 7, 2) := by decide +kernel
theorem dX5_packed_96 : decode cX5_packed 96 = .ok (.iadd, 1) := by decide +kernel
theorem dX5_packed_97 : decode cX5_packed 97 = .ok (.istore 8, 2) := by decide +kernel
theorem dX5_packed_99 : decode cX5_packed 99 = .ok (.iload 6, 2) := by decide +kernel
theorem dX5_packed_101 : decode cX5_packed 101 = .ok (.iload 8, 2) := by decide +kernel
theorem dX5_packed_103 : decode cX5_packed 103 = .ok (.iload 4, 2) := by decide +kernel
theorem dX5_packed_105 : decode cX5_packed 105 = .ok (.if_icmp .ge 30, 3) := by decide +kernel
theorem dX5_packed_108 : decode cX5_packed 108 = .ok (.aload_n 0, 1) := by decide +kernel
theorem dX5_packed_109 : decode cX5_packed 109 = .ok (.getfield 35, 3) := by decide +kernel
theorem dX5_packed_112 : decode cX5_packed 112 = .ok (.bipush 16, 2) := by decide +kernel
theorem dX5_packed_114 : decode cX5_packed 114 = .ok (.iload_n 1, 1) := by decide +kernel
theorem dX5_packed_115 : decode cX5_packed 115 = .ok (.imul, 1) := by decide +kernel
theorem dX5_packed_116 : decode cX5_packed 116 = .ok (.iload 8, 2) := by decide +kernel
theorem dX5_packed_118 : decode cX5_packed 118 = .ok (.iload_n 3, 1) := by decide +kernel
theorem dX5_packed_119 : decode cX5_packed 119 = .ok (.idiv, 1) := by decide +kernel
theorem dX5_packed_120 : decode cX5_packed 120 = .ok (.iadd, 1) := by decide +kernel
theorem dX5_packed_121 : decode cX5_packed 121 = .ok (.iaload, 1) := by decide +kernel
theorem dX5_packed_122 : decode cX5_packed 122 = .ok (.iload 8, 2) := by decide +kernel
theorem dX5_packed_124 : decode cX5_packed 124 = .ok (.iload_n 3, 1) := by decide +kernel
theorem dX5_packed_125 : decode cX5_packed 125 = .ok (.irem, 1) := by decide +kernel
theorem dX5_packed_126 : decode cX5_packed 126 = .ok (.ishr, 1) := by decide +kernel
theorem dX5_packed_127 : decode cX5_packed 127 = .ok (.iconst 1, 1) := by decide +kernel
theorem dX5_packed_128 : decode cX5_packed 128 = .ok (.iand, 1) := by decide +kernel
theorem dX5_packed_129 : decode cX5_packed 129 = .ok (.iload 7, 2) := by decide +kernel
theorem dX5_packed_131 : decode cX5_packed 131 = .ok (.ishl, 1) := by decide +kernel
theorem dX5_packed_132 : decode cX5_packed 132 = .ok (.goto 4, 3) := by decide +kernel
theorem dX5_packed_135 : decode cX5_packed 135 = .ok (.iconst 0, 1) := by decide +kernel
theorem dX5_packed_136 : decode cX5_packed 136 = .ok (.ior, 1) := by decide +kernel
theorem dX5_packed_137 : decode cX5_packed 137 = .ok (.istore 6, 2) := by decide +kernel
theorem dX5_packed_139 : decode cX5_packed 139 = .ok (.iinc 7 1, 3) := by decide +kernel
theorem dX5_packed_142 : decode cX5_packed 142 = .ok (.goto (-59), 3) := by decide +kernel
theorem dX5_packed_145 : decode cX5_packed 145 = .ok (.aload_n 0, 1) := by decide +kernel
theorem dX5_packed_146 : decode cX5_packed 146 = .ok (.iload 6, 2) := by decide +kernel
theorem dX5_packed_148 : decode cX5_packed 148 = .ok (.invokevirtual 67, 3) := by decide +kernel
theorem dX5_packed_151 : decode cX5_packed 151 = .ok (.ireturn, 1) := by decide +kernel
theorem dX5_quantise_0 : decode cX5_quantise 0 = .ok (.iload_n 1, 1) := by decide +kernel
theorem dX5_quantise_1 : decode cX5_quantise 1 = .ok (.i2l, 1) := by decide +kernel
theorem dX5_quantise_2 : decode cX5_quantise 2 = .ok (.lconst 0, 1) := by decide +kernel
theorem dX5_quantise_3 : decode cX5_quantise 3 = .ok (.ldc2_w 153, 3) := by decide +kernel
theorem dX5_quantise_6 : decode cX5_quantise 6 = .ok (.invokestatic 70, 3) := by decide +kernel
theorem dX5_quantise_9 : decode cX5_quantise 9 = .ok (.ifCond .eq 37, 3) := by decide +kernel
theorem dX5_quantise_12 : decode cX5_quantise 12 = .ok (.aload_n 0, 1) := by decide +kernel
theorem dX5_quantise_13 : decode cX5_quantise 13 = .ok (.iload_n 2, 1) := by decide +kernel
theorem dX5_quantise_14 : decode cX5_quantise 14 = .ok (.invokevirtual 257, 3) := by decide +kernel
theorem dX5_quantise_17 : decode cX5_quantise 17 = .ok (.ifCond .eq 29, 3) := by decide +kernel
theorem dX5_quantise_20 : decode cX5_quantise 20 = .ok (.iload_n 1, 1) := by decide +kernel
theorem dX5_quantise_21 : decode cX5_quantise 21 = .ok (.iload_n 2, 1) := by decide +kernel
theorem dX5_quantise_22 : decode cX5_quantise 22 = .ok (.if_icmp .eq 24, 3) := by decide +kernel
theorem dX5_quantise_25 : decode cX5_quantise 25 = .ok (.aload_n 0, 1) := by decide +kernel
theorem dX5_quantise_26 : decode cX5_quantise 26 = .ok (.iload_n 3, 1) := by decide +kernel
theorem dX5_quantise_27 : decode cX5_quantise 27 = .ok (.invokevirtual 109, 3) := by decide +kernel
theorem dX5_quantise_30 : decode cX5_quantise 30 = .ok (.ifCond .eq 16, 3) := by decide +kernel
theorem dX5_quantise_33 : decode cX5_quantise 33 = .ok (.iload 4, 2) := by decide +kernel
theorem dX5_quantise_35 : decode cX5_quantise 35 = .ok (.i2l, 1) := by decide +kernel
theorem dX5_quantise_36 : decode cX5_quantise 36 = .ok (.lconst 0, 1) := by decide +kernel
theorem dX5_quantise_37 : decode cX5_quantise 37 = .ok (.ldc2_w 105, 3) := by decide +kernel
theorem dX5_quantise_40 : decode cX5_quantise 40 = .ok (.invokestatic 70, 3) := by decide +kernel
theorem dX5_quantise_43 : decode cX5_quantise 43 = .ok (.ifCond .ne 9, 3) := by decide +kernel
theorem dX5_quantise_46 : decode cX5_quantise 46 = .ok (.aload_n 0, 1) := by decide +kernel
theorem dX5_quantise_47 : decode cX5_quantise 47 = .ok (.iconst (-1), 1) := by decide +kernel
theorem dX5_quantise_48 : decode cX5_quantise 48 = .ok (.invokevirtual 57, 3) := by decide +kernel
theorem dX5_quantise_51 : decode cX5_quantise 51 = .ok (.ireturn, 1) := by decide +kernel
theorem dX5_quantise_52 : decode cX5_quantise 52 = .ok (.aload_n 0, 1) := by decide +kernel
theorem dX5_quantise_53 : decode cX5_quantise 53 = .ok (.invokevirtual 176, 3) := by decide +kernel
theorem dX5_quantise_56 : decode cX5_quantise 56 = .ok (.iconst 0, 1) := by decide +kernel
theorem dX5_quantise_57 : decode cX5_quantise 57 = .ok (.istore 5, 2) := by decide +kernel
theorem dX5_quantise_59 : decode cX5_quantise 59 = .ok (.iload 5, 2) := by decide +kernel
theorem dX5_quantise_61 : decode cX5_quantise 61 = .ok (.aload_n 0, 1) := by decide +kernel
theorem dX5_quantise_62 : decode cX5_quantise 62 = .ok (.getfield 32, 3) := by decide +kernel
theorem dX5_quantise_65 : decode cX5_quantise 65 = .ok (.iload_n 2, 1) := by decide +kernel
theorem dX5_quantise_66 : decode cX5_quantise 66 = .ok (.iaload, 1) := by decide +kernel
theorem dX5_quantise_67 : decode cX5_quantise 67 = .ok (.if_icmp .ge 58, 3) := by decide +kernel
theorem dX5_quantise_70 : decode cX5_quantise 70 = .ok (.aload_n 0, 1) := by decide +kernel
theorem dX5_quantise_71 : decode cX5_quantise 71 = .ok (.getfield 42, 3) := by decide +kernel
theorem dX5_quantise_74 : decode cX5_quantise 74 = .ok (.iload 5, 2) := by decide +kernel
theorem dX5_quantise_76 : decode cX5_quantise 76 = .ok (.aload_n 0, 1) := by decide +kernel
theorem dX5_quantise_77 : decode cX5_quantise 77 = .ok (.aload_n 0, 1) := by decide +kernel
theorem dX5_quantise_78 : decode cX5_quantise 78 = .ok (.getfield 29, 3) := by decide +kernel
theorem dX5_quantise_81 : decode cX5_quantise 81 = .ok (.iload_n 2, 1) := by decide +kernel
theorem dX5_quantise_82 : decode cX5_quantise 82 = .ok (.iaload, 1) := by decide +kernel
theorem dX5_quantise_83 : decode cX5_quantise 83 = .ok (.aload_n 0, 1) := by decide +kernel
theorem dX5_quantise_84 : decode cX5_quantise 84 = .ok (.getfield 35, 3) := by decide +kernel
theorem dX5_quantise_87 : decode cX5_quantise 87 = .ok (.bipush 16, 2) := by decide +kernel
theorem dX5_quantise_89 : decode cX5_quantise 89 = .ok (.iload_n 2, 1) := by decide +kernel
theorem dX5_quantise_90 : decode cX5_quantise 90 = .ok (.imul, 1) := by decide +kernel
theorem dX5_quantise_91 : decode cX5_quantise 91 = .ok (.iload 5, 2) := by decide +kernel
theorem dX5_quantise_93 : decode cX5_quantise 93 = .ok (.iadd, 1) := by decide +kernel
theorem dX5_quantise_94 : decode cX5_quantise 94 = .ok (.iaload, 1) := by decide +kernel
theorem dX5_quantise_95 : decode cX5_quantise 95 = .ok (.iload_n 3, 1) := by decide +kernel
theorem dX5_quantise_96 : decode cX5_quantise 96 = .ok (.iload 4, 2) := by decide +kernel
theorem dX5_quantise_98 : decode cX5_quantise 98 = .ok (.invokevirtual 192, 3) := by decide +kernel
theorem dX5_quantise_101 : decode cX5_quantise 101 = .ok (.iastore, 1) := by decide +kernel
theorem dX5_quantise_102 : decode cX5_quantise 102 = .ok (.aload_n 0, 1) := by decide +kernel
theorem dX5_quantise_103 : decode cX5_quantise 103 = .ok (.getfield 42, 3) := by decide +kernel
theorem dX5_quantise_106 : decode cX5_quantise 106 = .ok (.iload 5, 2) := by decide +kernel
theorem dX5_quantise_108 : decode cX5_quantise 108 = .ok (.iaload, 1) := by decide +kernel
theorem dX5_quantise_109 : decode cX5_quantise 109 = .ok (.ifCond .ge 10, 3) := by decide +kernel
theorem dX5_quantise_112 : decode cX5_quantise 112 = .ok (.aload_n 0, 1) := by decide +kernel
theorem dX5_quantise_113 : decode cX5_quantise 113 = .ok (.bipush (-4), 2) := by decide +kernel
theorem dX5_quantise_115 : decode cX5_quantise 115 = .ok (.invokevirtual 183, 3) := by decide +kernel
theorem dX5_quantise_118 : decode cX5_quantise 118 = .ok (.ireturn, 1) := by decide +kernel
theorem dX5_quantise_119 : decode cX5_quantise 119 = .ok (.iinc 5 1, 3) := by decide +kernel
theorem dX5_quantise_122 : decode cX5_quantise 122 = .ok (.goto (-63), 3) := by decide +kernel
theorem dX5_quantise_125 : decode cX5_quantise 125 = .ok (.aload_n 0, 1) := by decide +kernel
theorem dX5_quantise_126 : decode cX5_quantise 126 = .ok (.getfield 29, 3) := by decide +kernel
theorem dX5_quantise_129 : decode cX5_quantise 129 = .ok (.iload_n 1, 1) := by decide +kernel
theorem dX5_quantise_130 : decode cX5_quantise 130 = .ok (.iload_n 3, 1) := by decide +kernel
theorem dX5_quantise_131 : decode cX5_quantise 131 = .ok (.iastore, 1) := by decide +kernel
theorem dX5_quantise_132 : decode cX5_quantise 132 = .ok (.aload_n 0, 1) := by decide +kernel
theorem dX5_quantise_133 : decode cX5_quantise 133 = .ok (.getfield 32, 3) := by decide +kernel
theorem dX5_quantise_136 : decode cX5_quantise 136 = .ok (.iload_n 1, 1) := by decide +kernel
theorem dX5_quantise_137 : decode cX5_quantise 137 = .ok (.aload_n 0, 1) := by decide +kernel
theorem dX5_quantise_138 : decode cX5_quantise 138 = .ok (.getfield 32, 3) := by decide +kernel
theorem dX5_quantise_141 : decode cX5_quantise 141 = .ok (.iload_n 2, 1) := by decide +kernel
theorem dX5_quantise_142 : decode cX5_quantise 142 = .ok (.iaload, 1) := by decide +kernel
theorem dX5_quantise_143 : decode cX5_quantise 143 = .ok (.iastore, 1) := by decide +kernel
theorem dX5_quantise_144 : decode cX5_quantise 144 = .ok (.iconst 0, 1) := by decide +kernel
theorem dX5_quantise_145 : decode cX5_quantise 145 = .ok (.istore 5, 2) := by decide +kernel
theorem dX5_quantise_147 : decode cX5_quantise 147 = .ok (.iload 5, 2) := by decide +kernel
theorem dX5_quantise_149 : decode cX5_quantise 149 = .ok (.bipush 16, 2) := by decide +kernel
theorem dX5_quantise_151 : decode cX5_quantise 151 = .ok (.if_icmp .ge 43, 3) := by decide +kernel
theorem dX5_quantise_154 : decode cX5_quantise 154 = .ok (.aload_n 0, 1) := by decide +kernel
theorem dX5_quantise_155 : decode cX5_quantise 155 = .ok (.getfield 35, 3) := by decide +kernel
theorem dX5_quantise_158 : decode cX5_quantise 158 = .ok (.bipush 16, 2) := by decide +kernel
theorem dX5_quantise_160 : decode cX5_quantise 160 = .ok (.iload_n 1, 1) := by decide +kernel
theorem dX5_quantise_161 : decode cX5_quantise 161 = .ok (.imul, 1) := by decide +kernel
theorem dX5_quantise_162 : decode cX5_quantise 162 = .ok (.iload 5, 2) := by decide +kernel
theorem dX5_quantise_164 : decode cX5_quantise 164 = .ok (.iadd, 1) := by decide +kernel
theorem dX5_quantise_165 : decode cX5_quantise 165 = .ok (.iload 5, 2) := by decide +kernel
theorem dX5_quantise_167 : decode cX5_quantise 167 = .ok (.aload_n 0, 1) := by decide +kernel
theorem dX5_quantise_168 : decode cX5_quantise 168 = .ok (.getfield 32, 3) := by decide +kernel
theorem dX5_quantise_171 : decode cX5_quantise 171 = .ok (.iload_n 2, 1) := by decide +kernel
theorem dX5_quantise_172 : decode cX5_quantise 172 = .ok (.iaload, 1) := by decide +kernel
theorem dX5_quantise_173 : decode cX5_quantise 173 = .ok (.if_icmp .ge 13, 3) := by decide +kernel
theorem dX5_quantise_176 : decode cX5_quantise 176 = .ok (.aload_n 0, 1) := by decide +kernel
theorem dX5_quantise_177 : decode cX5_quantise 177 = .ok (.getfield 42, 3) := by decide +kernel
theorem dX5_quantise_180 : decode cX5_quantise 180 = .ok (.iload 5, 2) := by decide +kernel
theorem dX5_quantise_182 : decode cX5_quantise 182 = .ok (.iaload, 1) := by decide +kernel
theorem dX5_quantise_183 : decode cX5_quantise 183 = .ok (.goto 4, 3) := by decide +kernel
theorem dX5_quantise_186 : decode cX5_quantise 186 = .ok (.iconst 0, 1) := by decide +kernel
theorem dX5_quantise_187 : decode cX5_quantise 187 = .ok (.iastore, 1) := by decide +kernel
theorem dX5_quantise_188 : decode cX5_quantise 188 = .ok (.iinc 5 1, 3) := by decide +kernel
theorem dX5_quantise_191 : decode cX5_quantise 191 = .ok (.goto (-44), 3) := by decide +kernel
theorem dX5_quantise_194 : decode cX5_quantise 194 = .ok (.aload_n 0, 1) := by decide +kernel
theorem dX5_quantise_195 : decode cX5_quantise 195 = .ok (.iconst 1, 1) := by decide +kernel
theorem dX5_quantise_196 : decode cX5_quantise 196 = .ok (.invokevirtual 183, 3) := by decide +kernel
theorem dX5_quantise_199 : decode cX5_quantise 199 = .ok (.ireturn, 1) := by decide +kernel
theorem dX5_worst_0 : decode cX5_worst 0 = .ok (.aload_n 0, 1) := by decide +kernel
theorem dX5_worst_1 : decode cX5_worst 1 = .ok (.iload_n 1, 1) := by decide +kernel
theorem dX5_worst_2 : decode cX5_worst 2 = .ok (.invokevirtual 257, 3) := by decide +kernel
theorem dX5_worst_5 : decode cX5_worst 5 = .ok (.ifCond .eq 23, 3) := by decide +kernel
theorem dX5_worst_8 : decode cX5_worst 8 = .ok (.aload_n 0, 1) := by decide +kernel
theorem dX5_worst_9 : decode cX5_worst 9 = .ok (.iload_n 2, 1) := by decide +kernel
theorem dX5_worst_10 : decode cX5_worst 10 = .ok (.invokevirtual 257, 3) := by decide +kernel
theorem dX5_worst_13 : decode cX5_worst 13 = .ok (.ifCond .eq 15, 3) := by decide +kernel
theorem dX5_worst_16 : decode cX5_worst 16 = .ok (.iload_n 3, 1) := by decide +kernel
theorem dX5_worst_17 : decode cX5_worst 17 = .ok (.i2l, 1) := by decide +kernel
theorem dX5_worst_18 : decode cX5_worst 18 = .ok (.lconst 0, 1) := by decide +kernel
theorem dX5_worst_19 : decode cX5_worst 19 = .ok (.ldc2_w 90, 3) := by decide +kernel
theorem dX5_worst_22 : decode cX5_worst 22 = .ok (.invokestatic 70, 3) := by decide +kernel
theorem dX5_worst_25 : decode cX5_worst 25 = .ok (.ifCond .ne 9, 3) := by decide +kernel
theorem dX5_worst_28 : decode cX5_worst 28 = .ok (.aload_n 0, 1) := by decide +kernel
theorem dX5_worst_29 : decode cX5_worst 29 = .ok (.iconst (-1), 1) := by decide +kernel
theorem dX5_worst_30 : decode cX5_worst 30 = .ok (.invokevirtual 57, 3) := by decide +kernel
theorem dX5_worst_33 : decode cX5_worst 33 = .ok (.ireturn, 1) := by decide +kernel
theorem dX5_worst_34 : decode cX5_worst 34 = .ok (.aload_n 0, 1) := by decide +kernel
theorem dX5_worst_35 : decode cX5_worst 35 = .ok (.getfield 32, 3) := by decide +kernel
theorem dX5_worst_38 : decode cX5_worst 38 = .ok (.iload_n 1, 1) := by decide +kernel
theorem dX5_worst_39 : decode cX5_worst 39 = .ok (.iaload, 1) := by decide +kernel
theorem dX5_worst_40 : decode cX5_worst 40 = .ok (.aload_n 0, 1) := by decide +kernel
theorem dX5_worst_41 : decode cX5_worst 41 = .ok (.getfield 32, 3) := by decide +kernel
theorem dX5_worst_44 : decode cX5_worst 44 = .ok (.iload_n 2, 1) := by decide +kernel
theorem dX5_worst_45 : decode cX5_worst 45 = .ok (.iaload, 1) := by decide +kernel
theorem dX5_worst_46 : decode cX5_worst 46 = .ok (.if_icmp .eq 10, 3) := by decide +kernel
theorem dX5_worst_49 : decode cX5_worst 49 = .ok (.aload_n 0, 1) := by decide +kernel
theorem dX5_worst_50 : decode cX5_worst 50 = .ok (.bipush (-2), 2) := by decide +kernel
theorem dX5_worst_52 : decode cX5_worst 52 = .ok (.invokevirtual 57, 3) := by decide +kernel
theorem dX5_worst_55 : decode cX5_worst 55 = .ok (.ireturn, 1) := by decide +kernel
theorem dX5_worst_56 : decode cX5_worst 56 = .ok (.bipush (-9), 2) := by decide +kernel
theorem dX5_worst_58 : decode cX5_worst 58 = .ok (.istore 4, 2) := by decide +kernel
theorem dX5_worst_60 : decode cX5_worst 60 = .ok (.lconst 0, 1) := by decide +kernel
theorem dX5_worst_61 : decode cX5_worst 61 = .ok (.lstore 5, 2) := by decide +kernel
theorem dX5_worst_63 : decode cX5_worst 63 = .ok (.iconst 0, 1) := by decide +kernel
theorem dX5_worst_64 : decode cX5_worst 64 = .ok (.istore 7, 2) := by decide +kernel
theorem dX5_worst_66 : decode cX5_worst 66 = .ok (.iconst 0, 1) := by decide +kernel
theorem dX5_worst_67 : decode cX5_worst 67 = .ok (.istore 8, 2) := by decide +kernel
theorem dX5_worst_69 : decode cX5_worst 69 = .ok (.iconst 0, 1) := by decide +kernel
theorem dX5_worst_70 : decode cX5_worst 70 = .ok (.istore 9, 2) := by decide +kernel
theorem dX5_worst_72 : decode cX5_worst 72 = .ok (.iload 9, 2) := by decide +kernel
theorem dX5_worst_74 : decode cX5_worst 74 = .ok (.aload_n 0, 1) := by decide +kernel
theorem dX5_worst_75 : decode cX5_worst 75 = .ok (.getfield 32, 3) := by decide +kernel
theorem dX5_worst_78 : decode cX5_worst 78 = .ok (.iload_n 1, 1) := by decide +kernel
theorem dX5_worst_79 : decode cX5_worst 79 = .ok (.iaload, 1) := by decide +kernel
theorem dX5_worst_80 : decode cX5_worst 80 = .ok (.if_icmp .ge 196, 3) := by decide +kernel
theorem dX5_worst_83 : decode cX5_worst 83 = .ok (.aload_n 0, 1) := by decide +kernel
theorem dX5_worst_84 : decode cX5_worst 84 = .ok (.getfield 35, 3) := by decide +kernel
theorem dX5_worst_87 : decode cX5_worst 87 = .ok (.bipush 16, 2) := by decide +kernel
theorem dX5_worst_89 : decode cX5_worst 89 = .ok (.iload_n 1, 1) := by decide +kernel
theorem dX5_worst_90 : decode cX5_worst 90 = .ok (.imul, 1) := by decide +kernel
theorem dX5_worst_91 : decode cX5_worst 91 = .ok (.iload 9, 2) := by decide +kernel
theorem dX5_worst_93 : decode cX5_worst 93 = .ok (.iadd, 1) := by decide +kernel
theorem dX5_worst_94 : decode cX5_worst 94 = .ok (.iaload, 1) := by decide +kernel
theorem dX5_worst_95 : decode cX5_worst 95 = .ok (.istore 10, 2) := by decide +kernel
theorem dX5_worst_97 : decode cX5_worst 97 = .ok (.aload_n 0, 1) := by decide +kernel
theorem dX5_worst_98 : decode cX5_worst 98 = .ok (.getfield 35, 3) := by decide +kernel
theorem dX5_worst_101 : decode cX5_worst 101 = .ok (.bipush 16, 2) := by decide +kernel
theorem dX5_worst_103 : decode cX5_worst 103 = .ok (.iload_n 2, 1) := by decide +kernel
theorem dX5_worst_104 : decode cX5_worst 104 = .ok (.imul, 1) := by decide +kernel
theorem dX5_worst_105 : decode cX5_worst 105 = .ok (.iload 9, 2) := by decide +kernel
theorem dX5_worst_107 : decode cX5_worst 107 = .ok (.iadd, 1) := by decide +kernel
theorem dX5_worst_108 : decode cX5_worst 108 = .ok (.iaload, 1) := by decide +kernel
theorem dX5_worst_109 : decode cX5_worst 109 = .ok (.istore 11, 2) := by decide +kernel
theorem dX5_worst_111 : decode cX5_worst 111 = .ok (.aload_n 0, 1) := by decide +kernel
theorem dX5_worst_112 : decode cX5_worst 112 = .ok (.aload_n 0, 1) := by decide +kernel
theorem dX5_worst_113 : decode cX5_worst 113 = .ok (.getfield 29, 3) := by decide +kernel
theorem dX5_worst_116 : decode cX5_worst 116 = .ok (.iload_n 1, 1) := by decide +kernel
theorem dX5_worst_117 : decode cX5_worst 117 = .ok (.iaload, 1) := by decide +kernel
theorem dX5_worst_118 : decode cX5_worst 118 = .ok (.iload 10, 2) := by decide +kernel
theorem dX5_worst_120 : decode cX5_worst 120 = .ok (.invokevirtual 124, 3) := by decide +kernel
theorem dX5_worst_123 : decode cX5_worst 123 = .ok (.ifCond .eq 18, 3) := by decide +kernel
theorem dX5_worst_126 : decode cX5_worst 126 = .ok (.aload_n 0, 1) := by decide +kernel
theorem dX5_worst_127 : decode cX5_worst 127 = .ok (.aload_n 0, 1) := by decide +kernel
theorem dX5_worst_128 : decode cX5_worst 128 = .ok (.getfield 29, 3) := by decide +kernel
theorem dX5_worst_131 : decode cX5_worst 131 = .ok (.iload_n 2, 1) := by decide +kernel
theorem dX5_worst_132 : decode cX5_worst 132 = .ok (.iaload, 1) := by decide +kernel
theorem dX5_worst_133 : decode cX5_worst 133 = .ok (.iload 11, 2) := by decide +kernel
theorem dX5_worst_135 : decode cX5_worst 135 = .ok (.invokevirtual 124, 3) := by decide +kernel
theorem dX5_worst_138 : decode cX5_worst 138 = .ok (.ifCond .ne 9, 3) := by decide +kernel
theorem dX5_worst_141 : decode cX5_worst 141 = .ok (.iinc 8 1, 3) := by decide +kernel
theorem dX5_worst_144 : decode cX5_worst 144 = .ok (.goto 126, 3) := by decide +kernel
theorem dX5_worst_147 : decode cX5_worst 147 = .ok (.aload_n 0, 1) := by decide +kernel
theorem dX5_worst_148 : decode cX5_worst 148 = .ok (.aload_n 0, 1) := by decide +kernel
theorem dX5_worst_149 : decode cX5_worst 149 = .ok (.getfield 29, 3) := by decide +kernel
theorem dX5_worst_152 : decode cX5_worst 152 = .ok (.iload_n 1, 1) := by decide +kernel
theorem dX5_worst_153 : decode cX5_worst 153 = .ok (.iaload, 1) := by decide +kernel
theorem dX5_worst_154 : decode cX5_worst 154 = .ok (.iload 10, 2) := by decide +kernel
theorem dX5_worst_156 : decode cX5_worst 156 = .ok (.invokevirtual 135, 3) := by decide +kernel
theorem dX5_worst_159 : decode cX5_worst 159 = .ok (.bipush 20, 2) := by decide +kernel
theorem dX5_worst_161 : decode cX5_worst 161 = .ok (.aload_n 0, 1) := by decide +kernel
theorem dX5_worst_162 : decode cX5_worst 162 = .ok (.aload_n 0, 1) := by decide +kernel
theorem dX5_worst_163 : decode cX5_worst 163 = .ok (.getfield 29, 3) := by decide +kernel
theorem dX5_worst_166 : decode cX5_worst 166 = .ok (.iload_n 1, 1) := by decide +kernel
theorem dX5_worst_167 : decode cX5_worst 167 = .ok (.iaload, 1) := by decide +kernel
theorem dX5_worst_168 : decode cX5_worst 168 = .ok (.invokevirtual 127, 3) := by decide +kernel
theorem dX5_worst_171 : decode cX5_worst 171 = .ok (.isub, 1) := by decide +kernel
theorem dX5_worst_172 : decode cX5_worst 172 = .ok (.lshl, 1) := by decide +kernel
theorem dX5_worst_173 : decode cX5_worst 173 = .ok (.aload_n 0, 1) := by decide +kernel
theorem dX5_worst_174 : decode cX5_worst 174 = .ok (.aload_n 0, 1) := by decide +kernel
theorem dX5_worst_175 : decode cX5_worst 175 = .ok (.getfield 29, 3) := by decide +kernel
theorem dX5_worst_178 : decode cX5_worst 178 = .ok (.iload_n 2, 1) := by decide +kernel
theorem dX5_worst_179 : decode cX5_worst 179 = .ok (.iaload, 1) := by decide +kernel
theorem dX5_worst_180 : decode cX5_worst 180 = .ok (.iload 11, 2) := by decide +kernel
theorem dX5_worst_182 : decode cX5_worst 182 = .ok (.invokevirtual 135, 3) := by decide +kernel
theorem dX5_worst_185 : decode cX5_worst 185 = .ok (.bipush 20, 2) := by decide +kernel
theorem dX5_worst_187 : decode cX5_worst 187 = .ok (.aload_n 0, 1) := by decide +kernel
theorem dX5_worst_188 : decode cX5_worst 188 = .ok (.aload_n 0, 1) := by decide +kernel
theorem dX5_worst_189 : decode cX5_worst 189 = .ok (.getfield 29, 3) := by decide +kernel
theorem dX5_worst_192 : decode cX5_worst 192 = .ok (.iload_n 2, 1) := by decide +kernel
theorem dX5_worst_193 : decode cX5_worst 193 = .ok (.iaload, 1) := by decide +kernel
theorem dX5_worst_194 : decode cX5_worst 194 = .ok (.invokevirtual 127, 3) := by decide +kernel
theorem dX5_worst_197 : decode cX5_worst 197 = .ok (.isub, 1) := by decide +kernel
theorem dX5_worst_198 : decode cX5_worst 198 = .ok (.lshl, 1) := by decide +kernel
theorem dX5_worst_199 : decode cX5_worst 199 = .ok (.lsub, 1) := by decide +kernel
theorem dX5_worst_200 : decode cX5_worst 200 = .ok (.lstore 12, 2) := by decide +kernel
theorem dX5_worst_202 : decode cX5_worst 202 = .ok (.lload 12, 2) := by decide +kernel
theorem dX5_worst_204 : decode cX5_worst 204 = .ok (.lconst 0, 1) := by decide +kernel
theorem dX5_worst_205 : decode cX5_worst 205 = .ok (.lcmp, 1) := by decide +kernel
theorem dX5_worst_206 : decode cX5_worst 206 = .ok (.ifCond .ge 9, 3) := by decide +kernel
theorem dX5_worst_209 : decode cX5_worst 209 = .ok (.lload 12, 2) := by decide +kernel
theorem dX5_worst_211 : decode cX5_worst 211 = .ok (.lneg, 1) := by decide +kernel
theorem dX5_worst_212 : decode cX5_worst 212 = .ok (.goto 5, 3) := by decide +kernel
theorem dX5_worst_215 : decode cX5_worst 215 = .ok (.lload 12, 2) := by decide +kernel
theorem dX5_worst_217 : decode cX5_worst 217 = .ok (.lstore 12, 2) := by decide +kernel
theorem dX5_worst_219 : decode cX5_worst 219 = .ok (.iload 7, 2) := by decide +kernel
theorem dX5_worst_221 : decode cX5_worst 221 = .ok (.lload 12, 2) := by decide +kernel
theorem dX5_worst_223 : decode cX5_worst 223 = .ok (.lconst 0, 1) := by decide +kernel
theorem dX5_worst_224 : decode cX5_worst 224 = .ok (.lcmp, 1) := by decide +kernel
theorem dX5_worst_225 : decode cX5_worst 225 = .ok (.ifCond .le 7, 3) := by decide +kernel
theorem dX5_worst_228 : decode cX5_worst 228 = .ok (.iconst 1, 1) := by decide +kernel
theorem dX5_worst_229 : decode cX5_worst 229 = .ok (.goto 4, 3) := by decide +kernel
theorem dX5_worst_232 : decode cX5_worst 232 = .ok (.iconst 0, 1) := by decide +kernel
theorem dX5_worst_233 : decode cX5_worst 233 = .ok (.iadd, 1) := by decide +kernel
theorem dX5_worst_234 : decode cX5_worst 234 = .ok (.istore 7, 2) := by decide +kernel
theorem dX5_worst_236 : decode cX5_worst 236 = .ok (.lload 12, 2) := by decide +kernel
theorem dX5_worst_238 : decode cX5_worst 238 = .ok (.lload 5, 2) := by decide +kernel
theorem dX5_worst_240 : decode cX5_worst 240 = .ok (.lcmp, 1) := by decide +kernel
theorem dX5_worst_241 : decode cX5_worst 241 = .ok (.ifCond .le 8, 3) := by decide +kernel
theorem dX5_worst_244 : decode cX5_worst 244 = .ok (.iload 9, 2) := by decide +kernel
theorem dX5_worst_246 : decode cX5_worst 246 = .ok (.goto 5, 3) := by decide +kernel
theorem dX5_worst_249 : decode cX5_worst 249 = .ok (.iload 4, 2) := by decide +kernel
theorem dX5_worst_251 : decode cX5_worst 251 = .ok (.istore 4, 2) := by decide +kernel
theorem dX5_worst_253 : decode cX5_worst 253 = .ok (.lload 12, 2) := by decide +kernel
theorem dX5_worst_255 : decode cX5_worst 255 = .ok (.lload 5, 2) := by decide +kernel
theorem dX5_worst_257 : decode cX5_worst 257 = .ok (.lcmp, 1) := by decide +kernel
theorem dX5_worst_258 : decode cX5_worst 258 = .ok (.ifCond .le 8, 3) := by decide +kernel
theorem dX5_worst_261 : decode cX5_worst 261 = .ok (.lload 12, 2) := by decide +kernel
theorem dX5_worst_263 : decode cX5_worst 263 = .ok (.goto 5, 3) := by decide +kernel
theorem dX5_worst_266 : decode cX5_worst 266 = .ok (.lload 5, 2) := by decide +kernel
theorem dX5_worst_268 : decode cX5_worst 268 = .ok (.lstore 5, 2) := by decide +kernel
theorem dX5_worst_270 : decode cX5_worst 270 = .ok (.iinc 9 1, 3) := by decide +kernel
theorem dX5_worst_273 : decode cX5_worst 273 = .ok (.goto (-201), 3) := by decide +kernel
theorem dX5_worst_276 : decode cX5_worst 276 = .ok (.aload_n 0, 1) := by decide +kernel
theorem dX5_worst_277 : decode cX5_worst 277 = .ok (.iload_n 3, 1) := by decide +kernel
theorem dX5_worst_278 : decode cX5_worst 278 = .ok (.ifCond .ne 8, 3) := by decide +kernel
theorem dX5_worst_281 : decode cX5_worst 281 = .ok (.iload 4, 2) := by decide +kernel
theorem dX5_worst_283 : decode cX5_worst 283 = .ok (.goto 15, 3) := by decide +kernel
theorem dX5_worst_286 : decode cX5_worst 286 = .ok (.iload_n 3, 1) := by decide +kernel
theorem dX5_worst_287 : decode cX5_worst 287 = .ok (.iconst 1, 1) := by decide +kernel
theorem dX5_worst_288 : decode cX5_worst 288 = .ok (.if_icmp .ne 8, 3) := by decide +kernel
theorem dX5_worst_291 : decode cX5_worst 291 = .ok (.iload 7, 2) := by decide +kernel
theorem dX5_worst_293 : decode cX5_worst 293 = .ok (.goto 5, 3) := by decide +kernel
theorem dX5_worst_296 : decode cX5_worst 296 = .ok (.iload 8, 2) := by decide +kernel
theorem dX5_worst_298 : decode cX5_worst 298 = .ok (.invokevirtual 67, 3) := by decide +kernel
theorem dX5_worst_301 : decode cX5_worst 301 = .ok (.ireturn, 1) := by decide +kernel
theorem dX5_sum_0 : decode cX5_sum 0 = .ok (.aload_n 0, 1) := by decide +kernel
theorem dX5_sum_1 : decode cX5_sum 1 = .ok (.iload_n 1, 1) := by decide +kernel
theorem dX5_sum_2 : decode cX5_sum 2 = .ok (.invokevirtual 257, 3) := by decide +kernel
theorem dX5_sum_5 : decode cX5_sum 5 = .ok (.ifCond .eq 15, 3) := by decide +kernel
theorem dX5_sum_8 : decode cX5_sum 8 = .ok (.iload_n 2, 1) := by decide +kernel
theorem dX5_sum_9 : decode cX5_sum 9 = .ok (.i2l, 1) := by decide +kernel
theorem dX5_sum_10 : decode cX5_sum 10 = .ok (.lconst 0, 1) := by decide +kernel
theorem dX5_sum_11 : decode cX5_sum 11 = .ok (.ldc2_w 105, 3) := by decide +kernel
theorem dX5_sum_14 : decode cX5_sum 14 = .ok (.invokestatic 70, 3) := by decide +kernel
theorem dX5_sum_17 : decode cX5_sum 17 = .ok (.ifCond .ne 9, 3) := by decide +kernel
theorem dX5_sum_20 : decode cX5_sum 20 = .ok (.aload_n 0, 1) := by decide +kernel
theorem dX5_sum_21 : decode cX5_sum 21 = .ok (.iconst (-1), 1) := by decide +kernel
theorem dX5_sum_22 : decode cX5_sum 22 = .ok (.invokevirtual 57, 3) := by decide +kernel
theorem dX5_sum_25 : decode cX5_sum 25 = .ok (.ireturn, 1) := by decide +kernel
theorem dX5_sum_26 : decode cX5_sum 26 = .ok (.aload_n 0, 1) := by decide +kernel
theorem dX5_sum_27 : decode cX5_sum 27 = .ok (.getfield 29, 3) := by decide +kernel
theorem dX5_sum_30 : decode cX5_sum 30 = .ok (.iload_n 1, 1) := by decide +kernel
theorem dX5_sum_31 : decode cX5_sum 31 = .ok (.iaload, 1) := by decide +kernel
theorem dX5_sum_32 : decode cX5_sum 32 = .ok (.istore 4, 2) := by decide +kernel
theorem dX5_sum_34 : decode cX5_sum 34 = .ok (.aload_n 0, 1) := by decide +kernel
theorem dX5_sum_35 : decode cX5_sum 35 = .ok (.invokevirtual 176, 3) := by decide +kernel
theorem dX5_sum_38 : decode cX5_sum 38 = .ok (.iload_n 3, 1) := by decide +kernel
theorem dX5_sum_39 : decode cX5_sum 39 = .ok (.ifCond .eq 62, 3) := by decide +kernel
theorem dX5_sum_42 : decode cX5_sum 42 = .ok (.iconst 0, 1) := by decide +kernel
theorem dX5_sum_43 : decode cX5_sum 43 = .ok (.istore 5, 2) := by decide +kernel
theorem dX5_sum_45 : decode cX5_sum 45 = .ok (.iconst 0, 1) := by decide +kernel
theorem dX5_sum_46 : decode cX5_sum 46 = .ok (.istore 6, 2) := by decide +kernel
theorem dX5_sum_48 : decode cX5_sum 48 = .ok (.iload 6, 2) := by decide +kernel
theorem dX5_sum_50 : decode cX5_sum 50 = .ok (.aload_n 0, 1) := by decide +kernel
theorem dX5_sum_51 : decode cX5_sum 51 = .ok (.getfield 32, 3) := by decide +kernel
theorem dX5_sum_54 : decode cX5_sum 54 = .ok (.iload_n 1, 1) := by decide +kernel
theorem dX5_sum_55 : decode cX5_sum 55 = .ok (.iaload, 1) := by decide +kernel
theorem dX5_sum_56 : decode cX5_sum 56 = .ok (.if_icmp .ge 38, 3) := by decide +kernel
theorem dX5_sum_59 : decode cX5_sum 59 = .ok (.iload 5, 2) := by decide +kernel
theorem dX5_sum_61 : decode cX5_sum 61 = .ok (.ifCond .lt 33, 3) := by decide +kernel
theorem dX5_sum_64 : decode cX5_sum 64 = .ok (.aload_n 0, 1) := by decide +kernel
theorem dX5_sum_65 : decode cX5_sum 65 = .ok (.iload 4, 2) := by decide +kernel
theorem dX5_sum_67 : decode cX5_sum 67 = .ok (.iconst 0, 1) := by decide +kernel
theorem dX5_sum_68 : decode cX5_sum 68 = .ok (.iload 5, 2) := by decide +kernel
theorem dX5_sum_70 : decode cX5_sum 70 = .ok (.aload_n 0, 1) := by decide +kernel
theorem dX5_sum_71 : decode cX5_sum 71 = .ok (.getfield 35, 3) := by decide +kernel
theorem dX5_sum_74 : decode cX5_sum 74 = .ok (.bipush 16, 2) := by decide +kernel
theorem dX5_sum_76 : decode cX5_sum 76 = .ok (.iload_n 1, 1) := by decide +kernel
theorem dX5_sum_77 : decode cX5_sum 77 = .ok (.imul, 1) := by decide +kernel
theorem dX5_sum_78 : decode cX5_sum 78 = .ok (.iload 6, 2) := by decide +kernel
theorem dX5_sum_80 : decode cX5_sum 80 = .ok (.iadd, 1) := by decide +kernel
theorem dX5_sum_81 : decode cX5_sum 81 = .ok (.iaload, 1) := by decide +kernel
theorem dX5_sum_82 : decode cX5_sum 82 = .ok (.iload_n 2, 1) := by decide +kernel
theorem dX5_sum_83 : decode cX5_sum 83 = .ok (.invokevirtual 226, 3) := by decide +kernel
theorem dX5_sum_86 : decode cX5_sum 86 = .ok (.istore 5, 2) := by decide +kernel
theorem dX5_sum_88 : decode cX5_sum 88 = .ok (.iinc 6 1, 3) := by decide +kernel
theorem dX5_sum_91 : decode cX5_sum 91 = .ok (.goto (-43), 3) := by decide +kernel
theorem dX5_sum_94 : decode cX5_sum 94 = .ok (.aload_n 0, 1) := by decide +kernel
theorem dX5_sum_95 : decode cX5_sum 95 = .ok (.iload 5, 2) := by decide +kernel
theorem dX5_sum_97 : decode cX5_sum 97 = .ok (.invokevirtual 183, 3) := by decide +kernel
theorem dX5_sum_100 : decode cX5_sum 100 = .ok (.ireturn, 1) := by decide +kernel
theorem dX5_sum_101 : decode cX5_sum 101 = .ok (.aload_n 0, 1) := by decide +kernel
theorem dX5_sum_102 : decode cX5_sum 102 = .ok (.iconst 0, 1) := by decide +kernel
theorem dX5_sum_103 : decode cX5_sum 103 = .ok (.putfield 230, 3) := by decide +kernel
theorem dX5_sum_106 : decode cX5_sum 106 = .ok (.aload_n 0, 1) := by decide +kernel
theorem dX5_sum_107 : decode cX5_sum 107 = .ok (.lconst 0, 1) := by decide +kernel
theorem dX5_sum_108 : decode cX5_sum 108 = .ok (.putfield 240, 3) := by decide +kernel
theorem dX5_sum_111 : decode cX5_sum 111 = .ok (.iconst 0, 1) := by decide +kernel
theorem dX5_sum_112 : decode cX5_sum 112 = .ok (.istore 5, 2) := by decide +kernel
theorem dX5_sum_114 : decode cX5_sum 114 = .ok (.iload 5, 2) := by decide +kernel
theorem dX5_sum_116 : decode cX5_sum 116 = .ok (.aload_n 0, 1) := by decide +kernel
theorem dX5_sum_117 : decode cX5_sum 117 = .ok (.getfield 32, 3) := by decide +kernel
theorem dX5_sum_120 : decode cX5_sum 120 = .ok (.iload_n 1, 1) := by decide +kernel
theorem dX5_sum_121 : decode cX5_sum 121 = .ok (.iaload, 1) := by decide +kernel
theorem dX5_sum_122 : decode cX5_sum 122 = .ok (.if_icmp .ge 28, 3) := by decide +kernel
theorem dX5_sum_125 : decode cX5_sum 125 = .ok (.aload_n 0, 1) := by decide +kernel
theorem dX5_sum_126 : decode cX5_sum 126 = .ok (.iload 4, 2) := by decide +kernel
theorem dX5_sum_128 : decode cX5_sum 128 = .ok (.aload_n 0, 1) := by decide +kernel
theorem dX5_sum_129 : decode cX5_sum 129 = .ok (.getfield 35, 3) := by decide +kernel
theorem dX5_sum_132 : decode cX5_sum 132 = .ok (.bipush 16, 2) := by decide +kernel
theorem dX5_sum_134 : decode cX5_sum 134 = .ok (.iload_n 1, 1) := by decide +kernel
theorem dX5_sum_135 : decode cX5_sum 135 = .ok (.imul, 1) := by decide +kernel
theorem dX5_sum_136 : decode cX5_sum 136 = .ok (.iload 5, 2) := by decide +kernel
theorem dX5_sum_138 : decode cX5_sum 138 = .ok (.iadd, 1) := by decide +kernel
theorem dX5_sum_139 : decode cX5_sum 139 = .ok (.iaload, 1) := by decide +kernel
theorem dX5_sum_140 : decode cX5_sum 140 = .ok (.lconst 1, 1) := by decide +kernel
theorem dX5_sum_141 : decode cX5_sum 141 = .ok (.invokevirtual 247, 3) := by decide +kernel
theorem dX5_sum_144 : decode cX5_sum 144 = .ok (.iinc 5 1, 3) := by decide +kernel
theorem dX5_sum_147 : decode cX5_sum 147 = .ok (.goto (-33), 3) := by decide +kernel
theorem dX5_sum_150 : decode cX5_sum 150 = .ok (.aload_n 0, 1) := by decide +kernel
theorem dX5_sum_151 : decode cX5_sum 151 = .ok (.aload_n 0, 1) := by decide +kernel
theorem dX5_sum_152 : decode cX5_sum 152 = .ok (.iload 4, 2) := by decide +kernel
theorem dX5_sum_154 : decode cX5_sum 154 = .ok (.lconst 1, 1) := by decide +kernel
theorem dX5_sum_155 : decode cX5_sum 155 = .ok (.iload_n 2, 1) := by decide +kernel
theorem dX5_sum_156 : decode cX5_sum 156 = .ok (.iload_n 2, 1) := by decide +kernel
theorem dX5_sum_157 : decode cX5_sum 157 = .ok (.iconst 3, 1) := by decide +kernel
theorem dX5_sum_158 : decode cX5_sum 158 = .ok (.if_icmp .ne 16, 3) := by decide +kernel
theorem dX5_sum_161 : decode cX5_sum 161 = .ok (.aload_n 0, 1) := by decide +kernel
theorem dX5_sum_162 : decode cX5_sum 162 = .ok (.getfield 32, 3) := by decide +kernel
theorem dX5_sum_165 : decode cX5_sum 165 = .ok (.iload_n 1, 1) := by decide +kernel
theorem dX5_sum_166 : decode cX5_sum 166 = .ok (.iaload, 1) := by decide +kernel
theorem dX5_sum_167 : decode cX5_sum 167 = .ok (.ifCond .le 7, 3) := by decide +kernel
theorem dX5_sum_170 : decode cX5_sum 170 = .ok (.iconst 1, 1) := by decide +kernel
theorem dX5_sum_171 : decode cX5_sum 171 = .ok (.goto 4, 3) := by decide +kernel
theorem dX5_sum_174 : decode cX5_sum 174 = .ok (.iconst 0, 1) := by decide +kernel
theorem dX5_sum_175 : decode cX5_sum 175 = .ok (.invokevirtual 251, 3) := by decide +kernel
theorem dX5_sum_178 : decode cX5_sum 178 = .ok (.invokevirtual 183, 3) := by decide +kernel
theorem dX5_sum_181 : decode cX5_sum 181 = .ok (.ireturn, 1) := by decide +kernel
theorem dX5_dot_0 : decode cX5_dot 0 = .ok (.aload_n 0, 1) := by decide +kernel
theorem dX5_dot_1 : decode cX5_dot 1 = .ok (.iload_n 1, 1) := by decide +kernel
theorem dX5_dot_2 : decode cX5_dot 2 = .ok (.invokevirtual 257, 3) := by decide +kernel
theorem dX5_dot_5 : decode cX5_dot 5 = .ok (.ifCond .eq 23, 3) := by decide +kernel
theorem dX5_dot_8 : decode cX5_dot 8 = .ok (.aload_n 0, 1) := by decide +kernel
theorem dX5_dot_9 : decode cX5_dot 9 = .ok (.iload_n 2, 1) := by decide +kernel
theorem dX5_dot_10 : decode cX5_dot 10 = .ok (.invokevirtual 257, 3) := by decide +kernel
theorem dX5_dot_13 : decode cX5_dot 13 = .ok (.ifCond .eq 15, 3) := by decide +kernel
theorem dX5_dot_16 : decode cX5_dot 16 = .ok (.iload_n 3, 1) := by decide +kernel
theorem dX5_dot_17 : decode cX5_dot 17 = .ok (.i2l, 1) := by decide +kernel
theorem dX5_dot_18 : decode cX5_dot 18 = .ok (.lconst 0, 1) := by decide +kernel
theorem dX5_dot_19 : decode cX5_dot 19 = .ok (.ldc2_w 105, 3) := by decide +kernel
theorem dX5_dot_22 : decode cX5_dot 22 = .ok (.invokestatic 70, 3) := by decide +kernel
theorem dX5_dot_25 : decode cX5_dot 25 = .ok (.ifCond .ne 9, 3) := by decide +kernel
theorem dX5_dot_28 : decode cX5_dot 28 = .ok (.aload_n 0, 1) := by decide +kernel
theorem dX5_dot_29 : decode cX5_dot 29 = .ok (.iconst (-1), 1) := by decide +kernel
theorem dX5_dot_30 : decode cX5_dot 30 = .ok (.invokevirtual 57, 3) := by decide +kernel
theorem dX5_dot_33 : decode cX5_dot 33 = .ok (.ireturn, 1) := by decide +kernel
theorem dX5_dot_34 : decode cX5_dot 34 = .ok (.aload_n 0, 1) := by decide +kernel
theorem dX5_dot_35 : decode cX5_dot 35 = .ok (.getfield 29, 3) := by decide +kernel
theorem dX5_dot_38 : decode cX5_dot 38 = .ok (.iload_n 1, 1) := by decide +kernel
theorem dX5_dot_39 : decode cX5_dot 39 = .ok (.iaload, 1) := by decide +kernel
theorem dX5_dot_40 : decode cX5_dot 40 = .ok (.istore 5, 2) := by decide +kernel
theorem dX5_dot_42 : decode cX5_dot 42 = .ok (.iload 5, 2) := by decide +kernel
theorem dX5_dot_44 : decode cX5_dot 44 = .ok (.aload_n 0, 1) := by decide +kernel
theorem dX5_dot_45 : decode cX5_dot 45 = .ok (.getfield 29, 3) := by decide +kernel
theorem dX5_dot_48 : decode cX5_dot 48 = .ok (.iload_n 2, 1) := by decide +kernel
theorem dX5_dot_49 : decode cX5_dot 49 = .ok (.iaload, 1) := by decide +kernel
theorem dX5_dot_50 : decode cX5_dot 50 = .ok (.if_icmp .eq 10, 3) := by decide +kernel
theorem dX5_dot_53 : decode cX5_dot 53 = .ok (.aload_n 0, 1) := by decide +kernel
theorem dX5_dot_54 : decode cX5_dot 54 = .ok (.bipush (-2), 2) := by decide +kernel
theorem dX5_dot_56 : decode cX5_dot 56 = .ok (.invokevirtual 57, 3) := by decide +kernel
theorem dX5_dot_59 : decode cX5_dot 59 = .ok (.ireturn, 1) := by decide +kernel
theorem dX5_dot_60 : decode cX5_dot 60 = .ok (.aload_n 0, 1) := by decide +kernel
theorem dX5_dot_61 : decode cX5_dot 61 = .ok (.getfield 32, 3) := by decide +kernel
theorem dX5_dot_64 : decode cX5_dot 64 = .ok (.iload_n 1, 1) := by decide +kernel
theorem dX5_dot_65 : decode cX5_dot 65 = .ok (.iaload, 1) := by decide +kernel
theorem dX5_dot_66 : decode cX5_dot 66 = .ok (.aload_n 0, 1) := by decide +kernel
theorem dX5_dot_67 : decode cX5_dot 67 = .ok (.getfield 32, 3) := by decide +kernel
theorem dX5_dot_70 : decode cX5_dot 70 = .ok (.iload_n 2, 1) := by decide +kernel
theorem dX5_dot_71 : decode cX5_dot 71 = .ok (.iaload, 1) := by decide +kernel
theorem dX5_dot_72 : decode cX5_dot 72 = .ok (.if_icmp .ge 12, 3) := by decide +kernel
theorem dX5_dot_75 : decode cX5_dot 75 = .ok (.aload_n 0, 1) := by decide +kernel
theorem dX5_dot_76 : decode cX5_dot 76 = .ok (.getfield 32, 3) := by decide +kernel
theorem dX5_dot_79 : decode cX5_dot 79 = .ok (.iload_n 1, 1) := by decide +kernel
theorem dX5_dot_80 : decode cX5_dot 80 = .ok (.iaload, 1) := by decide +kernel
theorem dX5_dot_81 : decode cX5_dot 81 = .ok (.goto 9, 3) := by decide +kernel
theorem dX5_dot_84 : decode cX5_dot 84 = .ok (.aload_n 0, 1) := by decide +kernel
theorem dX5_dot_85 : decode cX5_dot 85 = .ok (.getfield 32, 3) := by decide +kernel
theorem dX5_dot_88 : decode cX5_dot 88 = .ok (.iload_n 2, 1) := by decide +kernel
theorem dX5_dot_89 : decode cX5_dot 89 = .ok (.iaload, 1) := by decide +kernel
theorem dX5_dot_90 : decode cX5_dot 90 = .ok (.istore 6, 2) := by decide +kernel
theorem dX5_dot_92 : decode cX5_dot 92 = .ok (.aload_n 0, 1) := by decide +kernel
theorem dX5_dot_93 : decode cX5_dot 93 = .ok (.invokevirtual 176, 3) := by decide +kernel
theorem dX5_dot_96 : decode cX5_dot 96 = .ok (.iload 4, 2) := by decide +kernel
theorem dX5_dot_98 : decode cX5_dot 98 = .ok (.ifCond .eq 92, 3) := by decide +kernel
theorem dX5_dot_101 : decode cX5_dot 101 = .ok (.iconst 0, 1) := by decide +kernel
theorem dX5_dot_102 : decode cX5_dot 102 = .ok (.istore 7, 2) := by decide +kernel
theorem dX5_dot_104 : decode cX5_dot 104 = .ok (.iconst 0, 1) := by decide +kernel
theorem dX5_dot_105 : decode cX5_dot 105 = .ok (.istore 8, 2) := by decide +kernel
theorem dX5_dot_107 : decode cX5_dot 107 = .ok (.iload 8, 2) := by decide +kernel
theorem dX5_dot_109 : decode cX5_dot 109 = .ok (.iload 6, 2) := by decide +kernel
theorem dX5_dot_111 : decode cX5_dot 111 = .ok (.if_icmp .ge 72, 3) := by decide +kernel
theorem dX5_dot_114 : decode cX5_dot 114 = .ok (.iload 7, 2) := by decide +kernel
theorem dX5_dot_116 : decode cX5_dot 116 = .ok (.ifCond .lt 67, 3) := by decide +kernel
theorem dX5_dot_119 : decode cX5_dot 119 = .ok (.aload_n 0, 1) := by decide +kernel
theorem dX5_dot_120 : decode cX5_dot 120 = .ok (.iload 5, 2) := by decide +kernel
theorem dX5_dot_122 : decode cX5_dot 122 = .ok (.iconst 2, 1) := by decide +kernel
theorem dX5_dot_123 : decode cX5_dot 123 = .ok (.aload_n 0, 1) := by decide +kernel
theorem dX5_dot_124 : decode cX5_dot 124 = .ok (.getfield 35, 3) := by decide +kernel
theorem dX5_dot_127 : decode cX5_dot 127 = .ok (.bipush 16, 2) := by decide +kernel
theorem dX5_dot_129 : decode cX5_dot 129 = .ok (.iload_n 1, 1) := by decide +kernel
theorem dX5_dot_130 : decode cX5_dot 130 = .ok (.imul, 1) := by decide +kernel
theorem dX5_dot_131 : decode cX5_dot 131 = .ok (.iload 8, 2) := by decide +kernel
theorem dX5_dot_133 : decode cX5_dot 133 = .ok (.iadd, 1) := by decide +kernel
theorem dX5_dot_134 : decode cX5_dot 134 = .ok (.iaload, 1) := by decide +kernel
theorem dX5_dot_135 : decode cX5_dot 135 = .ok (.aload_n 0, 1) := by decide +kernel
theorem dX5_dot_136 : decode cX5_dot 136 = .ok (.getfield 35, 3) := by decide +kernel
theorem dX5_dot_139 : decode cX5_dot 139 = .ok (.bipush 16, 2) := by decide +kernel
theorem dX5_dot_141 : decode cX5_dot 141 = .ok (.iload_n 2, 1) := by decide +kernel
theorem dX5_dot_142 : decode cX5_dot 142 = .ok (.imul, 1) := by decide +kernel
theorem dX5_dot_143 : decode cX5_dot 143 = .ok (.iload 8, 2) := by decide +kernel
theorem dX5_dot_145 : decode cX5_dot 145 = .ok (.iadd, 1) := by decide +kernel
theorem dX5_dot_146 : decode cX5_dot 146 = .ok (.iaload, 1) := by decide +kernel
theorem dX5_dot_147 : decode cX5_dot 147 = .ok (.iload_n 3, 1) := by decide +kernel
theorem dX5_dot_148 : decode cX5_dot 148 = .ok (.invokevirtual 226, 3) := by decide +kernel
theorem dX5_dot_151 : decode cX5_dot 151 = .ok (.istore 9, 2) := by decide +kernel
theorem dX5_dot_153 : decode cX5_dot 153 = .ok (.iload 9, 2) := by decide +kernel
theorem dX5_dot_155 : decode cX5_dot 155 = .ok (.ifCond .ge 8, 3) := by decide +kernel
theorem dX5_dot_158 : decode cX5_dot 158 = .ok (.iload 9, 2) := by decide +kernel
theorem dX5_dot_160 : decode cX5_dot 160 = .ok (.goto 15, 3) := by decide +kernel
theorem dX5_dot_163 : decode cX5_dot 163 = .ok (.aload_n 0, 1) := by decide +kernel
theorem dX5_dot_164 : decode cX5_dot 164 = .ok (.iload 5, 2) := by decide +kernel
theorem dX5_dot_166 : decode cX5_dot 166 = .ok (.iconst 0, 1) := by decide +kernel
theorem dX5_dot_167 : decode cX5_dot 167 = .ok (.iload 7, 2) := by decide +kernel
theorem dX5_dot_169 : decode cX5_dot 169 = .ok (.iload 9, 2) := by decide +kernel
theorem dX5_dot_171 : decode cX5_dot 171 = .ok (.iload_n 3, 1) := by decide +kernel
theorem dX5_dot_172 : decode cX5_dot 172 = .ok (.invokevirtual 226, 3) := by decide +kernel
theorem dX5_dot_175 : decode cX5_dot 175 = .ok (.istore 7, 2) := by decide +kernel
theorem dX5_dot_177 : decode cX5_dot 177 = .ok (.iinc 8 1, 3) := by decide +kernel
theorem dX5_dot_180 : decode cX5_dot 180 = .ok (.goto (-73), 3) := by decide +kernel
theorem dX5_dot_183 : decode cX5_dot 183 = .ok (.aload_n 0, 1) := by decide +kernel
theorem dX5_dot_184 : decode cX5_dot 184 = .ok (.iload 7, 2) := by decide +kernel
theorem dX5_dot_186 : decode cX5_dot 186 = .ok (.invokevirtual 183, 3) := by decide +kernel
theorem dX5_dot_189 : decode cX5_dot 189 = .ok (.ireturn, 1) := by decide +kernel
theorem dX5_dot_190 : decode cX5_dot 190 = .ok (.aload_n 0, 1) := by decide +kernel
theorem dX5_dot_191 : decode cX5_dot 191 = .ok (.iconst 0, 1) := by decide +kernel
theorem dX5_dot_192 : decode cX5_dot 192 = .ok (.putfield 230, 3) := by decide +kernel
theorem dX5_dot_195 : decode cX5_dot 195 = .ok (.aload_n 0, 1) := by decide +kernel
theorem dX5_dot_196 : decode cX5_dot 196 = .ok (.lconst 0, 1) := by decide +kernel
theorem dX5_dot_197 : decode cX5_dot 197 = .ok (.putfield 240, 3) := by decide +kernel
theorem dX5_dot_200 : decode cX5_dot 200 = .ok (.iconst 0, 1) := by decide +kernel
theorem dX5_dot_201 : decode cX5_dot 201 = .ok (.istore 7, 2) := by decide +kernel
theorem dX5_dot_203 : decode cX5_dot 203 = .ok (.iload 7, 2) := by decide +kernel
theorem dX5_dot_205 : decode cX5_dot 205 = .ok (.iload 6, 2) := by decide +kernel
theorem dX5_dot_207 : decode cX5_dot 207 = .ok (.if_icmp .ge 39, 3) := by decide +kernel
theorem dX5_dot_210 : decode cX5_dot 210 = .ok (.aload_n 0, 1) := by decide +kernel
theorem dX5_dot_211 : decode cX5_dot 211 = .ok (.iload 5, 2) := by decide +kernel
theorem dX5_dot_213 : decode cX5_dot 213 = .ok (.aload_n 0, 1) := by decide +kernel
theorem dX5_dot_214 : decode cX5_dot 214 = .ok (.getfield 35, 3) := by decide +kernel
theorem dX5_dot_217 : decode cX5_dot 217 = .ok (.bipush 16, 2) := by decide +kernel
theorem dX5_dot_219 : decode cX5_dot 219 = .ok (.iload_n 1, 1) := by decide +kernel
theorem dX5_dot_220 : decode cX5_dot 220 = .ok (.imul, 1) := by decide +kernel
theorem dX5_dot_221 : decode cX5_dot 221 = .ok (.iload 7, 2) := by decide +kernel
theorem dX5_dot_223 : decode cX5_dot 223 = .ok (.iadd, 1) := by decide +kernel
theorem dX5_dot_224 : decode cX5_dot 224 = .ok (.iaload, 1) := by decide +kernel
theorem dX5_dot_225 : decode cX5_dot 225 = .ok (.aload_n 0, 1) := by decide +kernel
theorem dX5_dot_226 : decode cX5_dot 226 = .ok (.getfield 35, 3) := by decide +kernel
theorem dX5_dot_229 : decode cX5_dot 229 = .ok (.bipush 16, 2) := by decide +kernel
theorem dX5_dot_231 : decode cX5_dot 231 = .ok (.iload_n 2, 1) := by decide +kernel
theorem dX5_dot_232 : decode cX5_dot 232 = .ok (.imul, 1) := by decide +kernel
theorem dX5_dot_233 : decode cX5_dot 233 = .ok (.iload 7, 2) := by decide +kernel
theorem dX5_dot_235 : decode cX5_dot 235 = .ok (.iadd, 1) := by decide +kernel
theorem dX5_dot_236 : decode cX5_dot 236 = .ok (.iaload, 1) := by decide +kernel
theorem dX5_dot_237 : decode cX5_dot 237 = .ok (.invokevirtual 243, 3) := by decide +kernel
theorem dX5_dot_240 : decode cX5_dot 240 = .ok (.iinc 7 1, 3) := by decide +kernel
theorem dX5_dot_243 : decode cX5_dot 243 = .ok (.goto (-40), 3) := by decide +kernel
theorem dX5_dot_246 : decode cX5_dot 246 = .ok (.aload_n 0, 1) := by decide +kernel
theorem dX5_dot_247 : decode cX5_dot 247 = .ok (.aload_n 0, 1) := by decide +kernel
theorem dX5_dot_248 : decode cX5_dot 248 = .ok (.iload 5, 2) := by decide +kernel
theorem dX5_dot_250 : decode cX5_dot 250 = .ok (.lconst 1, 1) := by decide +kernel
theorem dX5_dot_251 : decode cX5_dot 251 = .ok (.aload_n 0, 1) := by decide +kernel
theorem dX5_dot_252 : decode cX5_dot 252 = .ok (.iload 5, 2) := by decide +kernel
theorem dX5_dot_254 : decode cX5_dot 254 = .ok (.invokevirtual 127, 3) := by decide +kernel
theorem dX5_dot_257 : decode cX5_dot 257 = .ok (.lshl, 1) := by decide +kernel
theorem dX5_dot_258 : decode cX5_dot 258 = .ok (.iload_n 3, 1) := by decide +kernel
theorem dX5_dot_259 : decode cX5_dot 259 = .ok (.iload_n 3, 1) := by decide +kernel
theorem dX5_dot_260 : decode cX5_dot 260 = .ok (.iconst 3, 1) := by decide +kernel
theorem dX5_dot_261 : decode cX5_dot 261 = .ok (.if_icmp .ne 12, 3) := by decide +kernel
theorem dX5_dot_264 : decode cX5_dot 264 = .ok (.iload 6, 2) := by decide +kernel
theorem dX5_dot_266 : decode cX5_dot 266 = .ok (.ifCond .le 7, 3) := by decide +kernel
theorem dX5_dot_269 : decode cX5_dot 269 = .ok (.iconst 1, 1) := by decide +kernel
theorem dX5_dot_270 : decode cX5_dot 270 = .ok (.goto 4, 3) := by decide +kernel
theorem dX5_dot_273 : decode cX5_dot 273 = .ok (.iconst 0, 1) := by decide +kernel
theorem dX5_dot_274 : decode cX5_dot 274 = .ok (.invokevirtual 251, 3) := by decide +kernel
theorem dX5_dot_277 : decode cX5_dot 277 = .ok (.invokevirtual 183, 3) := by decide +kernel
theorem dX5_dot_280 : decode cX5_dot 280 = .ok (.ireturn, 1) := by decide +kernel
theorem dX5_table_0 : decode cX5_table 0 = .ok (.aload_n 0, 1) := by decide +kernel
theorem dX5_table_1 : decode cX5_table 1 = .ok (.iload_n 1, 1) := by decide +kernel
theorem dX5_table_2 : decode cX5_table 2 = .ok (.invokevirtual 109, 3) := by decide +kernel
theorem dX5_table_5 : decode cX5_table 5 = .ok (.ifCond .eq 27, 3) := by decide +kernel
theorem dX5_table_8 : decode cX5_table 8 = .ok (.iload_n 2, 1) := by decide +kernel
theorem dX5_table_9 : decode cX5_table 9 = .ok (.i2l, 1) := by decide +kernel
theorem dX5_table_10 : decode cX5_table 10 = .ok (.lconst 0, 1) := by decide +kernel
theorem dX5_table_11 : decode cX5_table 11 = .ok (.ldc2_w 113, 3) := by decide +kernel
theorem dX5_table_14 : decode cX5_table 14 = .ok (.invokestatic 70, 3) := by decide +kernel
theorem dX5_table_17 : decode cX5_table 17 = .ok (.ifCond .eq 15, 3) := by decide +kernel
theorem dX5_table_20 : decode cX5_table 20 = .ok (.iload_n 3, 1) := by decide +kernel
theorem dX5_table_21 : decode cX5_table 21 = .ok (.i2l, 1) := by decide +kernel
theorem dX5_table_22 : decode cX5_table 22 = .ok (.lconst 0, 1) := by decide +kernel
theorem dX5_table_23 : decode cX5_table 23 = .ok (.ldc2_w 105, 3) := by decide +kernel
theorem dX5_table_26 : decode cX5_table 26 = .ok (.invokestatic 70, 3) := by decide +kernel
theorem dX5_table_29 : decode cX5_table 29 = .ok (.ifCond .ne 9, 3) := by decide +kernel
theorem dX5_table_32 : decode cX5_table 32 = .ok (.aload_n 0, 1) := by decide +kernel
theorem dX5_table_33 : decode cX5_table 33 = .ok (.iconst (-1), 1) := by decide +kernel
theorem dX5_table_34 : decode cX5_table 34 = .ok (.invokevirtual 57, 3) := by decide +kernel
theorem dX5_table_37 : decode cX5_table 37 = .ok (.ireturn, 1) := by decide +kernel
theorem dX5_table_38 : decode cX5_table 38 = .ok (.aload_n 0, 1) := by decide +kernel
theorem dX5_table_39 : decode cX5_table 39 = .ok (.iload_n 1, 1) := by decide +kernel
theorem dX5_table_40 : decode cX5_table 40 = .ok (.invokevirtual 74, 3) := by decide +kernel
theorem dX5_table_43 : decode cX5_table 43 = .ok (.bipush 6, 2) := by decide +kernel
theorem dX5_table_45 : decode cX5_table 45 = .ok (.if_icmp .le 10, 3) := by decide +kernel
theorem dX5_table_48 : decode cX5_table 48 = .ok (.aload_n 0, 1) := by decide +kernel
theorem dX5_table_49 : decode cX5_table 49 = .ok (.bipush (-2), 2) := by decide +kernel
theorem dX5_table_51 : decode cX5_table 51 = .ok (.invokevirtual 57, 3) := by decide +kernel
theorem dX5_table_54 : decode cX5_table 54 = .ok (.ireturn, 1) := by decide +kernel
theorem dX5_table_55 : decode cX5_table 55 = .ok (.aload_n 0, 1) := by decide +kernel
theorem dX5_table_56 : decode cX5_table 56 = .ok (.getfield 260, 3) := by decide +kernel
theorem dX5_table_59 : decode cX5_table 59 = .ok (.bipush 100, 2) := by decide +kernel
theorem dX5_table_61 : decode cX5_table 61 = .ok (.if_icmp .ne 10, 3) := by decide +kernel
theorem dX5_table_64 : decode cX5_table 64 = .ok (.aload_n 0, 1) := by decide +kernel
theorem dX5_table_65 : decode cX5_table 65 = .ok (.bipush (-3), 2) := by decide +kernel
theorem dX5_table_67 : decode cX5_table 67 = .ok (.invokevirtual 57, 3) := by decide +kernel
theorem dX5_table_70 : decode cX5_table 70 = .ok (.ireturn, 1) := by decide +kernel
theorem dX5_table_71 : decode cX5_table 71 = .ok (.aload_n 0, 1) := by decide +kernel
theorem dX5_table_72 : decode cX5_table 72 = .ok (.dup, 1) := by decide +kernel
theorem dX5_table_73 : decode cX5_table 73 = .ok (.getfield 260, 3) := by decide +kernel
theorem dX5_table_76 : decode cX5_table 76 = .ok (.iconst 1, 1) := by decide +kernel
theorem dX5_table_77 : decode cX5_table 77 = .ok (.iadd, 1) := by decide +kernel
theorem dX5_table_78 : decode cX5_table 78 = .ok (.putfield 260, 3) := by decide +kernel
theorem dX5_table_81 : decode cX5_table 81 = .ok (.aload_n 0, 1) := by decide +kernel
theorem dX5_table_82 : decode cX5_table 82 = .ok (.iload_n 1, 1) := by decide +kernel
theorem dX5_table_83 : decode cX5_table 83 = .ok (.putfield 38, 3) := by decide +kernel
theorem dX5_table_86 : decode cX5_table 86 = .ok (.aload_n 0, 1) := by decide +kernel
theorem dX5_table_87 : decode cX5_table 87 = .ok (.iload_n 2, 1) := by decide +kernel
theorem dX5_table_88 : decode cX5_table 88 = .ok (.putfield 263, 3) := by decide +kernel
theorem dX5_table_91 : decode cX5_table 91 = .ok (.aload_n 0, 1) := by decide +kernel
theorem dX5_table_92 : decode cX5_table 92 = .ok (.iload_n 3, 1) := by decide +kernel
theorem dX5_table_93 : decode cX5_table 93 = .ok (.putfield 266, 3) := by decide +kernel
theorem dX5_table_96 : decode cX5_table 96 = .ok (.aload_n 0, 1) := by decide +kernel
theorem dX5_table_97 : decode cX5_table 97 = .ok (.iconst 1, 1) := by decide +kernel
theorem dX5_table_98 : decode cX5_table 98 = .ok (.iconst 2, 1) := by decide +kernel
theorem dX5_table_99 : decode cX5_table 99 = .ok (.aload_n 0, 1) := by decide +kernel
theorem dX5_table_100 : decode cX5_table 100 = .ok (.iload_n 1, 1) := by decide +kernel
theorem dX5_table_101 : decode cX5_table 101 = .ok (.invokevirtual 74, 3) := by decide +kernel
theorem dX5_table_104 : decode cX5_table 104 = .ok (.imul, 1) := by decide +kernel
theorem dX5_table_105 : decode cX5_table 105 = .ok (.ishl, 1) := by decide +kernel
theorem dX5_table_106 : decode cX5_table 106 = .ok (.invokevirtual 67, 3) := by decide +kernel
theorem dX5_table_109 : decode cX5_table 109 = .ok (.ireturn, 1) := by decide +kernel
theorem dX5_lookup_0 : decode cX5_lookup 0 = .ok (.aload_n 0, 1) := by decide +kernel
theorem dX5_lookup_1 : decode cX5_lookup 1 = .ok (.getfield 38, 3) := by decide +kernel
theorem dX5_lookup_4 : decode cX5_lookup 4 = .ok (.ifCond .ge 10, 3) := by decide +kernel
theorem dX5_lookup_7 : decode cX5_lookup 7 = .ok (.aload_n 0, 1) := by decide +kernel
theorem dX5_lookup_8 : decode cX5_lookup 8 = .ok (.bipush (-2), 2) := by decide +kernel
theorem dX5_lookup_10 : decode cX5_lookup 10 = .ok (.invokevirtual 57, 3) := by decide +kernel
theorem dX5_lookup_13 : decode cX5_lookup 13 = .ok (.ireturn, 1) := by decide +kernel
theorem dX5_lookup_14 : decode cX5_lookup 14 = .ok (.aload_n 0, 1) := by decide +kernel
theorem dX5_lookup_15 : decode cX5_lookup 15 = .ok (.aload_n 0, 1) := by decide +kernel
theorem dX5_lookup_16 : decode cX5_lookup 16 = .ok (.getfield 38, 3) := by decide +kernel
theorem dX5_lookup_19 : decode cX5_lookup 19 = .ok (.iload_n 1, 1) := by decide +kernel
theorem dX5_lookup_20 : decode cX5_lookup 20 = .ok (.invokevirtual 130, 3) := by decide +kernel
theorem dX5_lookup_23 : decode cX5_lookup 23 = .ok (.ifCond .eq 15, 3) := by decide +kernel
theorem dX5_lookup_26 : decode cX5_lookup 26 = .ok (.aload_n 0, 1) := by decide +kernel
theorem dX5_lookup_27 : decode cX5_lookup 27 = .ok (.aload_n 0, 1) := by decide +kernel
theorem dX5_lookup_28 : decode cX5_lookup 28 = .ok (.getfield 38, 3) := by decide +kernel
theorem dX5_lookup_31 : decode cX5_lookup 31 = .ok (.iload_n 2, 1) := by decide +kernel
theorem dX5_lookup_32 : decode cX5_lookup 32 = .ok (.invokevirtual 130, 3) := by decide +kernel
theorem dX5_lookup_35 : decode cX5_lookup 35 = .ok (.ifCond .ne 9, 3) := by decide +kernel
theorem dX5_lookup_38 : decode cX5_lookup 38 = .ok (.aload_n 0, 1) := by decide +kernel
theorem dX5_lookup_39 : decode cX5_lookup 39 = .ok (.iconst (-1), 1) := by decide +kernel
theorem dX5_lookup_40 : decode cX5_lookup 40 = .ok (.invokevirtual 57, 3) := by decide +kernel
theorem dX5_lookup_43 : decode cX5_lookup 43 = .ok (.ireturn, 1) := by decide +kernel
theorem dX5_lookup_44 : decode cX5_lookup 44 = .ok (.aload_n 0, 1) := by decide +kernel
theorem dX5_lookup_45 : decode cX5_lookup 45 = .ok (.getfield 186, 3) := by decide +kernel
theorem dX5_lookup_48 : decode cX5_lookup 48 = .ok (.istore_n 3, 1) := by decide +kernel
theorem dX5_lookup_49 : decode cX5_lookup 49 = .ok (.aload_n 0, 1) := by decide +kernel
theorem dX5_lookup_50 : decode cX5_lookup 50 = .ok (.invokevirtual 176, 3) := by decide +kernel
theorem dX5_lookup_53 : decode cX5_lookup 53 = .ok (.aload_n 0, 1) := by decide +kernel
theorem dX5_lookup_54 : decode cX5_lookup 54 = .ok (.aload_n 0, 1) := by decide +kernel
theorem dX5_lookup_55 : decode cX5_lookup 55 = .ok (.getfield 38, 3) := by decide +kernel
theorem dX5_lookup_58 : decode cX5_lookup 58 = .ok (.aload_n 0, 1) := by decide +kernel
theorem dX5_lookup_59 : decode cX5_lookup 59 = .ok (.getfield 263, 3) := by decide +kernel
theorem dX5_lookup_62 : decode cX5_lookup 62 = .ok (.iload_n 1, 1) := by decide +kernel
theorem dX5_lookup_63 : decode cX5_lookup 63 = .ok (.iload_n 2, 1) := by decide +kernel
theorem dX5_lookup_64 : decode cX5_lookup 64 = .ok (.aload_n 0, 1) := by decide +kernel
theorem dX5_lookup_65 : decode cX5_lookup 65 = .ok (.getfield 266, 3) := by decide +kernel
theorem dX5_lookup_68 : decode cX5_lookup 68 = .ok (.invokevirtual 226, 3) := by decide +kernel
theorem dX5_lookup_71 : decode cX5_lookup 71 = .ok (.istore 4, 2) := by decide +kernel
theorem dX5_lookup_73 : decode cX5_lookup 73 = .ok (.aload_n 0, 1) := by decide +kernel
theorem dX5_lookup_74 : decode cX5_lookup 74 = .ok (.iload_n 3, 1) := by decide +kernel
theorem dX5_lookup_75 : decode cX5_lookup 75 = .ok (.putfield 186, 3) := by decide +kernel
theorem dX5_lookup_78 : decode cX5_lookup 78 = .ok (.aload_n 0, 1) := by decide +kernel
theorem dX5_lookup_79 : decode cX5_lookup 79 = .ok (.iload 4, 2) := by decide +kernel
theorem dX5_lookup_81 : decode cX5_lookup 81 = .ok (.ifCond .ge 7, 3) := by decide +kernel
theorem dX5_lookup_84 : decode cX5_lookup 84 = .ok (.iconst (-1), 1) := by decide +kernel
theorem dX5_lookup_85 : decode cX5_lookup 85 = .ok (.goto 5, 3) := by decide +kernel
theorem dX5_lookup_88 : decode cX5_lookup 88 = .ok (.iload 4, 2) := by decide +kernel
theorem dX5_lookup_90 : decode cX5_lookup 90 = .ok (.invokevirtual 67, 3) := by decide +kernel
theorem dX5_lookup_93 : decode cX5_lookup 93 = .ok (.ireturn, 1) := by decide +kernel
theorem dX5_count_0 : decode cX5_count 0 = .ok (.iload_n 1, 1) := by decide +kernel
theorem dX5_count_1 : decode cX5_count 1 = .ok (.tableswitch 51 0 3 #[31, 36, 41, 46], 31) := by decide +kernel
theorem dX5_count_32 : decode cX5_count 32 = .ok (.aload_n 0, 1) := by decide +kernel
theorem dX5_count_33 : decode cX5_count 33 = .ok (.getfield 61, 3) := by decide +kernel
theorem dX5_count_36 : decode cX5_count 36 = .ok (.ireturn, 1) := by decide +kernel
theorem dX5_count_37 : decode cX5_count 37 = .ok (.aload_n 0, 1) := by decide +kernel
theorem dX5_count_38 : decode cX5_count 38 = .ok (.getfield 64, 3) := by decide +kernel
theorem dX5_count_41 : decode cX5_count 41 = .ok (.ireturn, 1) := by decide +kernel
theorem dX5_count_42 : decode cX5_count 42 = .ok (.aload_n 0, 1) := by decide +kernel
theorem dX5_count_43 : decode cX5_count 43 = .ok (.getfield 186, 3) := by decide +kernel
theorem dX5_count_46 : decode cX5_count 46 = .ok (.ireturn, 1) := by decide +kernel
theorem dX5_count_47 : decode cX5_count 47 = .ok (.aload_n 0, 1) := by decide +kernel
theorem dX5_count_48 : decode cX5_count 48 = .ok (.getfield 45, 3) := by decide +kernel
theorem dX5_count_51 : decode cX5_count 51 = .ok (.ireturn, 1) := by decide +kernel
theorem dX5_count_52 : decode cX5_count 52 = .ok (.iconst (-1), 1) := by decide +kernel
theorem dX5_count_53 : decode cX5_count 53 = .ok (.ireturn, 1) := by decide +kernel
theorem dX5_told_0 : decode cX5_told 0 = .ok (.aload_n 0, 1) := by decide +kernel
theorem dX5_told_1 : decode cX5_told 1 = .ok (.getfield 48, 3) := by decide +kernel
theorem dX5_told_4 : decode cX5_told 4 = .ok (.ireturn, 1) := by decide +kernel
theorem dJ6_compare_7cf53_0 : decode cJ6_compare_7cf53 0 = .ok (.iload_n 0, 1) := by decide +kernel
theorem dJ6_compare_7cf53_1 : decode cJ6_compare_7cf53 1 = .ok (.iload_n 1, 1) := by decide +kernel
theorem dJ6_compare_7cf53_2 : decode cJ6_compare_7cf53 2 = .ok (.if_icmp .ge 7, 3) := by decide +kernel
theorem dJ6_compare_7cf53_5 : decode cJ6_compare_7cf53 5 = .ok (.iconst (-1), 1) := by decide +kernel
theorem dJ6_compare_7cf53_6 : decode cJ6_compare_7cf53 6 = .ok (.goto 13, 3) := by decide +kernel
theorem dJ6_compare_7cf53_9 : decode cJ6_compare_7cf53 9 = .ok (.iload_n 0, 1) := by decide +kernel
theorem dJ6_compare_7cf53_10 : decode cJ6_compare_7cf53 10 = .ok (.iload_n 1, 1) := by decide +kernel
theorem dJ6_compare_7cf53_11 : decode cJ6_compare_7cf53 11 = .ok (.if_icmp .ne 7, 3) := by decide +kernel
theorem dJ6_compare_7cf53_14 : decode cJ6_compare_7cf53 14 = .ok (.iconst 0, 1) := by decide +kernel
theorem dJ6_compare_7cf53_15 : decode cJ6_compare_7cf53 15 = .ok (.goto 4, 3) := by decide +kernel
theorem dJ6_compare_7cf53_18 : decode cJ6_compare_7cf53 18 = .ok (.iconst 1, 1) := by decide +kernel
theorem dJ6_compare_7cf53_19 : decode cJ6_compare_7cf53 19 = .ok (.ireturn, 1) := by decide +kernel
theorem dJ13_compare_74951_0 : decode cJ13_compare_74951 0 = .ok (.lload_n 0, 1) := by decide +kernel
theorem dJ13_compare_74951_1 : decode cJ13_compare_74951 1 = .ok (.lload_n 2, 1) := by decide +kernel
theorem dJ13_compare_74951_2 : decode cJ13_compare_74951 2 = .ok (.lcmp, 1) := by decide +kernel
theorem dJ13_compare_74951_3 : decode cJ13_compare_74951 3 = .ok (.ifCond .ge 7, 3) := by decide +kernel
theorem dJ13_compare_74951_6 : decode cJ13_compare_74951 6 = .ok (.iconst (-1), 1) := by decide +kernel
theorem dJ13_compare_74951_7 : decode cJ13_compare_74951 7 = .ok (.goto 14, 3) := by decide +kernel
theorem dJ13_compare_74951_10 : decode cJ13_compare_74951 10 = .ok (.lload_n 0, 1) := by decide +kernel
theorem dJ13_compare_74951_11 : decode cJ13_compare_74951 11 = .ok (.lload_n 2, 1) := by decide +kernel
theorem dJ13_compare_74951_12 : decode cJ13_compare_74951 12 = .ok (.lcmp, 1) := by decide +kernel
theorem dJ13_compare_74951_13 : decode cJ13_compare_74951 13 = .ok (.ifCond .ne 7, 3) := by decide +kernel
theorem dJ13_compare_74951_16 : decode cJ13_compare_74951 16 = .ok (.iconst 0, 1) := by decide +kernel
theorem dJ13_compare_74951_17 : decode cJ13_compare_74951 17 = .ok (.goto 4, 3) := by decide +kernel
theorem dJ13_compare_74951_20 : decode cJ13_compare_74951 20 = .ok (.iconst 1, 1) := by decide +kernel
theorem dJ13_compare_74951_21 : decode cJ13_compare_74951 21 = .ok (.ireturn, 1) := by decide +kernel
theorem dJ9_abs_0f7a4_0 : decode cJ9_abs_0f7a4 0 = .ok (.iload_n 0, 1) := by decide +kernel
theorem dJ9_abs_0f7a4_1 : decode cJ9_abs_0f7a4 1 = .ok (.ifCond .ge 8, 3) := by decide +kernel
theorem dJ9_abs_0f7a4_4 : decode cJ9_abs_0f7a4 4 = .ok (.iload_n 0, 1) := by decide +kernel
theorem dJ9_abs_0f7a4_5 : decode cJ9_abs_0f7a4 5 = .ok (.ineg, 1) := by decide +kernel
theorem dJ9_abs_0f7a4_6 : decode cJ9_abs_0f7a4 6 = .ok (.goto 4, 3) := by decide +kernel
theorem dJ9_abs_0f7a4_9 : decode cJ9_abs_0f7a4 9 = .ok (.iload_n 0, 1) := by decide +kernel
theorem dJ9_abs_0f7a4_10 : decode cJ9_abs_0f7a4 10 = .ok (.ireturn, 1) := by decide +kernel
theorem dJ9_abs_067f4_0 : decode cJ9_abs_067f4 0 = .ok (.lload_n 0, 1) := by decide +kernel
theorem dJ9_abs_067f4_1 : decode cJ9_abs_067f4 1 = .ok (.lconst 0, 1) := by decide +kernel
theorem dJ9_abs_067f4_2 : decode cJ9_abs_067f4 2 = .ok (.lcmp, 1) := by decide +kernel
theorem dJ9_abs_067f4_3 : decode cJ9_abs_067f4 3 = .ok (.ifCond .ge 8, 3) := by decide +kernel
theorem dJ9_abs_067f4_6 : decode cJ9_abs_067f4 6 = .ok (.lload_n 0, 1) := by decide +kernel
theorem dJ9_abs_067f4_7 : decode cJ9_abs_067f4 7 = .ok (.lneg, 1) := by decide +kernel
theorem dJ9_abs_067f4_8 : decode cJ9_abs_067f4 8 = .ok (.goto 4, 3) := by decide +kernel
theorem dJ9_abs_067f4_11 : decode cJ9_abs_067f4 11 = .ok (.lload_n 0, 1) := by decide +kernel
theorem dJ9_abs_067f4_12 : decode cJ9_abs_067f4 12 = .ok (.lreturn, 1) := by decide +kernel
theorem dJ9_max_7cf53_0 : decode cJ9_max_7cf53 0 = .ok (.iload_n 0, 1) := by decide +kernel
theorem dJ9_max_7cf53_1 : decode cJ9_max_7cf53 1 = .ok (.iload_n 1, 1) := by decide +kernel
theorem dJ9_max_7cf53_2 : decode cJ9_max_7cf53 2 = .ok (.if_icmp .lt 7, 3) := by decide +kernel
theorem dJ9_max_7cf53_5 : decode cJ9_max_7cf53 5 = .ok (.iload_n 0, 1) := by decide +kernel
theorem dJ9_max_7cf53_6 : decode cJ9_max_7cf53 6 = .ok (.goto 4, 3) := by decide +kernel
theorem dJ9_max_7cf53_9 : decode cJ9_max_7cf53 9 = .ok (.iload_n 1, 1) := by decide +kernel
theorem dJ9_max_7cf53_10 : decode cJ9_max_7cf53 10 = .ok (.ireturn, 1) := by decide +kernel
theorem dJ9_max_f86c9_0 : decode cJ9_max_f86c9 0 = .ok (.lload_n 0, 1) := by decide +kernel
theorem dJ9_max_f86c9_1 : decode cJ9_max_f86c9 1 = .ok (.lload_n 2, 1) := by decide +kernel
theorem dJ9_max_f86c9_2 : decode cJ9_max_f86c9 2 = .ok (.lcmp, 1) := by decide +kernel
theorem dJ9_max_f86c9_3 : decode cJ9_max_f86c9 3 = .ok (.ifCond .lt 7, 3) := by decide +kernel
theorem dJ9_max_f86c9_6 : decode cJ9_max_f86c9 6 = .ok (.lload_n 0, 1) := by decide +kernel
theorem dJ9_max_f86c9_7 : decode cJ9_max_f86c9 7 = .ok (.goto 4, 3) := by decide +kernel
theorem dJ9_max_f86c9_10 : decode cJ9_max_f86c9 10 = .ok (.lload_n 2, 1) := by decide +kernel
theorem dJ9_max_f86c9_11 : decode cJ9_max_f86c9 11 = .ok (.lreturn, 1) := by decide +kernel
theorem dJ9_min_7cf53_0 : decode cJ9_min_7cf53 0 = .ok (.iload_n 0, 1) := by decide +kernel
theorem dJ9_min_7cf53_1 : decode cJ9_min_7cf53 1 = .ok (.iload_n 1, 1) := by decide +kernel
theorem dJ9_min_7cf53_2 : decode cJ9_min_7cf53 2 = .ok (.if_icmp .gt 7, 3) := by decide +kernel
theorem dJ9_min_7cf53_5 : decode cJ9_min_7cf53 5 = .ok (.iload_n 0, 1) := by decide +kernel
theorem dJ9_min_7cf53_6 : decode cJ9_min_7cf53 6 = .ok (.goto 4, 3) := by decide +kernel
theorem dJ9_min_7cf53_9 : decode cJ9_min_7cf53 9 = .ok (.iload_n 1, 1) := by decide +kernel
theorem dJ9_min_7cf53_10 : decode cJ9_min_7cf53 10 = .ok (.ireturn, 1) := by decide +kernel
theorem dJ9_min_f86c9_0 : decode cJ9_min_f86c9 0 = .ok (.lload_n 0, 1) := by decide +kernel
theorem dJ9_min_f86c9_1 : decode cJ9_min_f86c9 1 = .ok (.lload_n 2, 1) := by decide +kernel
theorem dJ9_min_f86c9_2 : decode cJ9_min_f86c9 2 = .ok (.lcmp, 1) := by decide +kernel
theorem dJ9_min_f86c9_3 : decode cJ9_min_f86c9 3 = .ok (.ifCond .gt 7, 3) := by decide +kernel
theorem dJ9_min_f86c9_6 : decode cJ9_min_f86c9 6 = .ok (.lload_n 0, 1) := by decide +kernel
theorem dJ9_min_f86c9_7 : decode cJ9_min_f86c9 7 = .ok (.goto 4, 3) := by decide +kernel
theorem dJ9_min_f86c9_10 : decode cJ9_min_f86c9 10 = .ok (.lload_n 2, 1) := by decide +kernel
theorem dJ9_min_f86c9_11 : decode cJ9_min_f86c9 11 = .ok (.lreturn, 1) := by decide +kernel
theorem dL_law_0 : decode cL_law 0 = .ok (.new 7, 3) := by decide +kernel
theorem dL_law_3 : decode cL_law 3 = .ok (.dup, 1) := by decide +kernel
theorem dL_law_4 : decode cL_law 4 = .ok (.invokespecial 9, 3) := by decide +kernel
theorem dL_law_7 : decode cL_law 7 = .ok (.astore_n 1, 1) := by decide +kernel
theorem dL_law_8 : decode cL_law 8 = .ok (.new 10, 3) := by decide +kernel
theorem dL_law_11 : decode cL_law 11 = .ok (.dup, 1) := by decide +kernel
theorem dL_law_12 : decode cL_law 12 = .ok (.invokespecial 12, 3) := by decide +kernel
theorem dL_law_15 : decode cL_law 15 = .ok (.astore_n 2, 1) := by decide +kernel
theorem dL_law_16 : decode cL_law 16 = .ok (.iconst 0, 1) := by decide +kernel
theorem dL_law_17 : decode cL_law 17 = .ok (.istore_n 3, 1) := by decide +kernel
theorem dL_law_18 : decode cL_law 18 = .ok (.iload_n 3, 1) := by decide +kernel
theorem dL_law_19 : decode cL_law 19 = .ok (.aload_n 0, 1) := by decide +kernel
theorem dL_law_20 : decode cL_law 20 = .ok (.arraylength, 1) := by decide +kernel
theorem dL_law_21 : decode cL_law 21 = .ok (.bipush 7, 2) := by decide +kernel
theorem dL_law_23 : decode cL_law 23 = .ok (.isub, 1) := by decide +kernel
theorem dL_law_24 : decode cL_law 24 = .ok (.if_icmp .gt 1310, 3) := by decide +kernel
theorem dL_law_27 : decode cL_law 27 = .ok (.aload_n 0, 1) := by decide +kernel
theorem dL_law_28 : decode cL_law 28 = .ok (.iload_n 3, 1) := by decide +kernel
theorem dL_law_29 : decode cL_law 29 = .ok (.iaload, 1) := by decide +kernel
theorem dL_law_30 : decode cL_law 30 = .ok (.bipush 31, 2) := by decide +kernel
theorem dL_law_32 : decode cL_law 32 = .ok (.iand, 1) := by decide +kernel
theorem dL_law_33 : decode cL_law 33 = .ok (.tableswitch 1295 0 22 #[107, 198, 231, 274, 308, 423, 476, 539, 602, 661, 704, 807, 850, 893, 926, 959, 1012, 1055, 1114, 1183, 1226, 1259, 1282], 107) := by decide +kernel
theorem dL_law_140 : decode cL_law 140 = .ok (.aload_n 1, 1) := by decide +kernel
theorem dL_law_141 : decode cL_law 141 = .ok (.aload_n 0, 1) := by decide +kernel
theorem dL_law_142 : decode cL_law 142 = .ok (.iload_n 3, 1) := by decide +kernel
theorem dL_law_143 : decode cL_law 143 = .ok (.iconst 1, 1) := by decide +kernel
theorem dL_law_144 : decode cL_law 144 = .ok (.iadd, 1) := by decide +kernel
theorem dL_law_145 : decode cL_law 145 = .ok (.iaload, 1) := by decide +kernel
theorem dL_law_146 : decode cL_law 146 = .ok (.aload_n 0, 1) := by decide +kernel
theorem dL_law_147 : decode cL_law 147 = .ok (.iload_n 3, 1) := by decide +kernel
theorem dL_law_148 : decode cL_law 148 = .ok (.iconst 2, 1) := by decide +kernel
theorem dL_law_149 : decode cL_law 149 = .ok (.iadd, 1) := by decide +kernel
theorem dL_law_150 : decode cL_law 150 = .ok (.iaload, 1) := by decide +kernel
theorem dL_law_151 : decode cL_law 151 = .ok (.aload_n 0, 1) := by decide +kernel
theorem dL_law_152 : decode cL_law 152 = .ok (.iload_n 3, 1) := by decide +kernel
theorem dL_law_153 : decode cL_law 153 = .ok (.iconst 3, 1) := by decide +kernel
theorem dL_law_154 : decode cL_law 154 = .ok (.iadd, 1) := by decide +kernel
theorem dL_law_155 : decode cL_law 155 = .ok (.iaload, 1) := by decide +kernel
theorem dL_law_156 : decode cL_law 156 = .ok (.aload_n 0, 1) := by decide +kernel
theorem dL_law_157 : decode cL_law 157 = .ok (.iload_n 3, 1) := by decide +kernel
theorem dL_law_158 : decode cL_law 158 = .ok (.iconst 4, 1) := by decide +kernel
theorem dL_law_159 : decode cL_law 159 = .ok (.iadd, 1) := by decide +kernel
theorem dL_law_160 : decode cL_law 160 = .ok (.iaload, 1) := by decide +kernel
theorem dL_law_161 : decode cL_law 161 = .ok (.aload_n 0, 1) := by decide +kernel
theorem dL_law_162 : decode cL_law 162 = .ok (.iload_n 3, 1) := by decide +kernel
theorem dL_law_163 : decode cL_law 163 = .ok (.iconst 5, 1) := by decide +kernel
theorem dL_law_164 : decode cL_law 164 = .ok (.iadd, 1) := by decide +kernel
theorem dL_law_165 : decode cL_law 165 = .ok (.iaload, 1) := by decide +kernel
theorem dL_law_166 : decode cL_law 166 = .ok (.ifCond .eq 7, 3) := by decide +kernel
theorem dL_law_169 : decode cL_law 169 = .ok (.iconst 1, 1) := by decide +kernel
theorem dL_law_170 : decode cL_law 170 = .ok (.goto 4, 3) := by decide +kernel
theorem dL_law_173 : decode cL_law 173 = .ok (.iconst 0, 1) := by decide +kernel
theorem dL_law_174 : decode cL_law 174 = .ok (.aload_n 0, 1) := by decide +kernel
theorem dL_law_175 : decode cL_law 175 = .ok (.iload_n 3, 1) := by decide +kernel
theorem dL_law_176 : decode cL_law 176 = .ok (.bipush 6, 2) := by decide +kernel
theorem dL_law_178 : decode cL_law 178 = .ok (.iadd, 1) := by decide +kernel
theorem dL_law_179 : decode cL_law 179 = .ok (.iaload, 1) := by decide +kernel
theorem dL_law_180 : decode cL_law 180 = .ok (.invokevirtual 13, 3) := by decide +kernel
theorem dL_law_183 : decode cL_law 183 = .ok (.aload_n 2, 1) := by decide +kernel
theorem dL_law_184 : decode cL_law 184 = .ok (.aload_n 0, 1) := by decide +kernel
theorem dL_law_185 : decode cL_law 185 = .ok (.iload_n 3, 1) := by decide +kernel
theorem dL_law_186 : decode cL_law 186 = .ok (.iconst 1, 1) := by decide +kernel
theorem dL_law_187 : decode cL_law 187 = .ok (.iadd, 1) := by decide +kernel
theorem dL_law_188 : decode cL_law 188 = .ok (.iaload, 1) := by decide +kernel
theorem dL_law_189 : decode cL_law 189 = .ok (.aload_n 0, 1) := by decide +kernel
theorem dL_law_190 : decode cL_law 190 = .ok (.iload_n 3, 1) := by decide +kernel
theorem dL_law_191 : decode cL_law 191 = .ok (.iconst 2, 1) := by decide +kernel
theorem dL_law_192 : decode cL_law 192 = .ok (.iadd, 1) := by decide +kernel
theorem dL_law_193 : decode cL_law 193 = .ok (.iaload, 1) := by decide +kernel
theorem dL_law_194 : decode cL_law 194 = .ok (.aload_n 0, 1) := by decide +kernel
theorem dL_law_195 : decode cL_law 195 = .ok (.iload_n 3, 1) := by decide +kernel
theorem dL_law_196 : decode cL_law 196 = .ok (.iconst 3, 1) := by decide +kernel
theorem dL_law_197 : decode cL_law 197 = .ok (.iadd, 1) := by decide +kernel
theorem dL_law_198 : decode cL_law 198 = .ok (.iaload, 1) := by decide +kernel
theorem dL_law_199 : decode cL_law 199 = .ok (.aload_n 0, 1) := by decide +kernel
theorem dL_law_200 : decode cL_law 200 = .ok (.iload_n 3, 1) := by decide +kernel
theorem dL_law_201 : decode cL_law 201 = .ok (.iconst 4, 1) := by decide +kernel
theorem dL_law_202 : decode cL_law 202 = .ok (.iadd, 1) := by decide +kernel
theorem dL_law_203 : decode cL_law 203 = .ok (.iaload, 1) := by decide +kernel
theorem dL_law_204 : decode cL_law 204 = .ok (.aload_n 0, 1) := by decide +kernel
theorem dL_law_205 : decode cL_law 205 = .ok (.iload_n 3, 1) := by decide +kernel
theorem dL_law_206 : decode cL_law 206 = .ok (.iconst 5, 1) := by decide +kernel
theorem dL_law_207 : decode cL_law 207 = .ok (.iadd, 1) := by decide +kernel
theorem dL_law_208 : decode cL_law 208 = .ok (.iaload, 1) := by decide +kernel
theorem dL_law_209 : decode cL_law 209 = .ok (.ifCond .eq 7, 3) := by decide +kernel
theorem dL_law_212 : decode cL_law 212 = .ok (.iconst 1, 1) := by decide +kernel
theorem dL_law_213 : decode cL_law 213 = .ok (.goto 4, 3) := by decide +kernel
theorem dL_law_216 : decode cL_law 216 = .ok (.iconst 0, 1) := by decide +kernel
theorem dL_law_217 : decode cL_law 217 = .ok (.aload_n 0, 1) := by decide +kernel
theorem dL_law_218 : decode cL_law 218 = .ok (.iload_n 3, 1) := by decide +kernel
theorem dL_law_219 : decode cL_law 219 = .ok (.bipush 6, 2) := by decide +kernel
theorem dL_law_221 : decode cL_law 221 = .ok (.iadd, 1) := by decide +kernel
theorem dL_law_222 : decode cL_law 222 = .ok (.iaload, 1) := by decide +kernel
theorem dL_law_223 : decode cL_law 223 = .ok (.invokevirtual 17, 3) := by decide +kernel
theorem dL_law_226 : decode cL_law 226 = .ok (.if_icmp .eq 1102, 3) := by decide +kernel
theorem dL_law_229 : decode cL_law 229 = .ok (.iconst 0, 1) := by decide +kernel
theorem dL_law_230 : decode cL_law 230 = .ok (.ireturn, 1) := by decide +kernel
theorem dL_law_231 : decode cL_law 231 = .ok (.aload_n 1, 1) := by decide +kernel
theorem dL_law_232 : decode cL_law 232 = .ok (.aload_n 0, 1) := by decide +kernel
theorem dL_law_233 : decode cL_law 233 = .ok (.iload_n 3, 1) := by decide +kernel
theorem dL_law_234 : decode cL_law 234 = .ok (.iconst 1, 1) := by decide +kernel
theorem dL_law_235 : decode cL_law 235 = .ok (.iadd, 1) := by decide +kernel
theorem dL_law_236 : decode cL_law 236 = .ok (.iaload, 1) := by decide +kernel
theorem dL_law_237 : decode cL_law 237 = .ok (.aload_n 0, 1) := by decide +kernel
theorem dL_law_238 : decode cL_law 238 = .ok (.iload_n 3, 1) := by decide +kernel
theorem dL_law_239 : decode cL_law 239 = .ok (.iconst 2, 1) := by decide +kernel
theorem dL_law_240 : decode cL_law 240 = .ok (.iadd, 1) := by decide +kernel
theorem dL_law_241 : decode cL_law 241 = .ok (.iaload, 1) := by decide +kernel
theorem dL_law_242 : decode cL_law 242 = .ok (.invokevirtual 18, 3) := by decide +kernel
theorem dL_law_245 : decode cL_law 245 = .ok (.aload_n 2, 1) := by decide +kernel
theorem dL_law_246 : decode cL_law 246 = .ok (.aload_n 0, 1) := by decide +kernel
theorem dL_law_247 : decode cL_law 247 = .ok (.iload_n 3, 1) := by decide +kernel
theorem dL_law_248 : decode cL_law 248 = .ok (.iconst 1, 1) := by decide +kernel
theorem dL_law_249 : decode cL_law 249 = .ok (.iadd, 1) := by decide +kernel
theorem dL_law_250 : decode cL_law 250 = .ok (.iaload, 1) := by decide +kernel
theorem dL_law_251 : decode cL_law 251 = .ok (.aload_n 0, 1) := by decide +kernel
theorem dL_law_252 : decode cL_law 252 = .ok (.iload_n 3, 1) := by decide +kernel
theorem dL_law_253 : decode cL_law 253 = .ok (.iconst 2, 1) := by decide +kernel
theorem dL_law_254 : decode cL_law 254 = .ok (.iadd, 1) := by decide +kernel
theorem dL_law_255 : decode cL_law 255 = .ok (.iaload, 1) := by decide +kernel
theorem dL_law_256 : decode cL_law 256 = .ok (.invokevirtual 22, 3) := by decide +kernel
theorem dL_law_259 : decode cL_law 259 = .ok (.if_icmp .eq 1069, 3) := by decide +kernel
theorem dL_law_262 : decode cL_law 262 = .ok (.iconst 0, 1) := by decide +kernel
theorem dL_law_263 : decode cL_law 263 = .ok (.ireturn, 1) := by decide +kernel
theorem dL_law_264 : decode cL_law 264 = .ok (.aload_n 1, 1) := by decide +kernel
theorem dL_law_265 : decode cL_law 265 = .ok (.aload_n 0, 1) := by decide +kernel
theorem dL_law_266 : decode cL_law 266 = .ok (.iload_n 3, 1) := by decide +kernel
theorem dL_law_267 : decode cL_law 267 = .ok (.iconst 1, 1) := by decide +kernel
theorem dL_law_268 : decode cL_law 268 = .ok (.iadd, 1) := by decide +kernel
theorem dL_law_269 : decode cL_law 269 = .ok (.iaload, 1) := by decide +kernel
theorem dL_law_270 : decode cL_law 270 = .ok (.aload_n 0, 1) := by decide +kernel
theorem dL_law_271 : decode cL_law 271 = .ok (.iload_n 3, 1) := by decide +kernel
theorem dL_law_272 : decode cL_law 272 = .ok (.iconst 2, 1) := by decide +kernel
theorem dL_law_273 : decode cL_law 273 = .ok (.iadd, 1) := by decide +kernel
theorem dL_law_274 : decode cL_law 274 = .ok (.iaload, 1) := by decide +kernel
theorem dL_law_275 : decode cL_law 275 = .ok (.aload_n 0, 1) := by decide +kernel
theorem dL_law_276 : decode cL_law 276 = .ok (.iload_n 3, 1) := by decide +kernel
theorem dL_law_277 : decode cL_law 277 = .ok (.iconst 3, 1) := by decide +kernel
theorem dL_law_278 : decode cL_law 278 = .ok (.iadd, 1) := by decide +kernel
theorem dL_law_279 : decode cL_law 279 = .ok (.iaload, 1) := by decide +kernel
theorem dL_law_280 : decode cL_law 280 = .ok (.invokevirtual 23, 3) := by decide +kernel
theorem dL_law_283 : decode cL_law 283 = .ok (.aload_n 2, 1) := by decide +kernel
theorem dL_law_284 : decode cL_law 284 = .ok (.aload_n 0, 1) := by decide +kernel
theorem dL_law_285 : decode cL_law 285 = .ok (.iload_n 3, 1) := by decide +kernel
theorem dL_law_286 : decode cL_law 286 = .ok (.iconst 1, 1) := by decide +kernel
theorem dL_law_287 : decode cL_law 287 = .ok (.iadd, 1) := by decide +kernel
theorem dL_law_288 : decode cL_law 288 = .ok (.iaload, 1) := by decide +kernel
theorem dL_law_289 : decode cL_law 289 = .ok (.aload_n 0, 1) := by decide +kernel
theorem dL_law_290 : decode cL_law 290 = .ok (.iload_n 3, 1) := by decide +kernel
theorem dL_law_291 : decode cL_law 291 = .ok (.iconst 2, 1) := by decide +kernel
theorem dL_law_292 : decode cL_law 292 = .ok (.iadd, 1) := by decide +kernel
theorem dL_law_293 : decode cL_law 293 = .ok (.iaload, 1) := by decide +kernel
theorem dL_law_294 : decode cL_law 294 = .ok (.aload_n 0, 1) := by decide +kernel
theorem dL_law_295 : decode cL_law 295 = .ok (.iload_n 3, 1) := by decide +kernel
theorem dL_law_296 : decode cL_law 296 = .ok (.iconst 3, 1) := by decide +kernel
theorem dL_law_297 : decode cL_law 297 = .ok (.iadd, 1) := by decide +kernel
theorem dL_law_298 : decode cL_law 298 = .ok (.iaload, 1) := by decide +kernel
theorem dL_law_299 : decode cL_law 299 = .ok (.invokevirtual 27, 3) := by decide +kernel
theorem dL_law_302 : decode cL_law 302 = .ok (.if_icmp .eq 1026, 3) := by decide +kernel
theorem dL_law_305 : decode cL_law 305 = .ok (.iconst 0, 1) := by decide +kernel
theorem dL_law_306 : decode cL_law 306 = .ok (.ireturn, 1) := by decide +kernel
theorem dL_law_307 : decode cL_law 307 = .ok (.aload_n 1, 1) := by decide +kernel
theorem dL_law_308 : decode cL_law 308 = .ok (.aload_n 0, 1) := by decide +kernel
theorem dL_law_309 : decode cL_law 309 = .ok (.iload_n 3, 1) := by decide +kernel
theorem dL_law_310 : decode cL_law 310 = .ok (.iconst 1, 1) := by decide +kernel
theorem dL_law_311 : decode cL_law 311 = .ok (.iadd, 1) := by decide +kernel
theorem dL_law_312 : decode cL_law 312 = .ok (.iaload, 1) := by decide +kernel
theorem dL_law_313 : decode cL_law 313 = .ok (.aload_n 0, 1) := by decide +kernel
theorem dL_law_314 : decode cL_law 314 = .ok (.iload_n 3, 1) := by decide +kernel
theorem dL_law_315 : decode cL_law 315 = .ok (.iconst 2, 1) := by decide +kernel
theorem dL_law_316 : decode cL_law 316 = .ok (.iadd, 1) := by decide +kernel
theorem dL_law_317 : decode cL_law 317 = .ok (.iaload, 1) := by decide +kernel
theorem dL_law_318 : decode cL_law 318 = .ok (.invokevirtual 28, 3) := by decide +kernel
theorem dL_law_321 : decode cL_law 321 = .ok (.aload_n 2, 1) := by decide +kernel
theorem dL_law_322 : decode cL_law 322 = .ok (.aload_n 0, 1) := by decide +kernel
theorem dL_law_323 : decode cL_law 323 = .ok (.iload_n 3, 1) := by decide +kernel
theorem dL_law_324 : decode cL_law 324 = .ok (.iconst 1, 1) := by decide +kernel
theorem dL_law_325 : decode cL_law 325 = .ok (.iadd, 1) := by decide +kernel
theorem dL_law_326 : decode cL_law 326 = .ok (.iaload, 1) := by decide +kernel
theorem dL_law_327 : decode cL_law 327 = .ok (.aload_n 0, 1) := by decide +kernel
theorem dL_law_328 : decode cL_law 328 = .ok (.iload_n 3, 1) := by decide +kernel
theorem dL_law_329 : decode cL_law 329 = .ok (.iconst 2, 1) := by decide +kernel
theorem dL_law_330 : decode cL_law 330 = .ok (.iadd, 1) := by decide +kernel
theorem dL_law_331 : decode cL_law 331 = .ok (.iaload, 1) := by decide +kernel
theorem dL_law_332 : decode cL_law 332 = .ok (.invokevirtual 32, 3) := by decide +kernel
theorem dL_law_335 : decode cL_law 335 = .ok (.lcmp, 1) := by decide +kernel
theorem dL_law_336 : decode cL_law 336 = .ok (.ifCond .eq 992, 3) := by decide +kernel
theorem dL_law_339 : decode cL_law 339 = .ok (.iconst 0, 1) := by decide +kernel
theorem dL_law_340 : decode cL_law 340 = .ok (.ireturn, 1) := by decide +kernel
theorem dL_law_341 : decode cL_law 341 = .ok (.aload_n 1, 1) := by decide +kernel
theorem dL_law_342 : decode cL_law 342 = .ok (.aload_n 0, 1) := by decide +kernel
theorem dL_law_343 : decode cL_law 343 = .ok (.iload_n 3, 1) := by decide +kernel
theorem dL_law_344 : decode cL_law 344 = .ok (.iconst 1, 1) := by decide +kernel
theorem dL_law_345 : decode cL_law 345 = .ok (.iadd, 1) := by decide +kernel
theorem dL_law_346 : decode cL_law 346 = .ok (.iaload, 1) := by decide +kernel
theorem dL_law_347 : decode cL_law 347 = .ok (.aload_n 0, 1) := by decide +kernel
theorem dL_law_348 : decode cL_law 348 = .ok (.iload_n 3, 1) := by decide +kernel
theorem dL_law_349 : decode cL_law 349 = .ok (.iconst 2, 1) := by decide +kernel
theorem dL_law_350 : decode cL_law 350 = .ok (.iadd, 1) := by decide +kernel
theorem dL_law_351 : decode cL_law 351 = .ok (.iaload, 1) := by decide +kernel
theorem dL_law_352 : decode cL_law 352 = .ok (.i2l, 1) := by decide +kernel
theorem dL_law_353 : decode cL_law 353 = .ok (.bipush 32, 2) := by decide +kernel
theorem dL_law_355 : decode cL_law 355 = .ok (.lshl, 1) := by decide +kernel
theorem dL_law_356 : decode cL_law 356 = .ok (.aload_n 0, 1) := by decide +kernel
theorem dL_law_357 : decode cL_law 357 = .ok (.iload_n 3, 1) := by decide +kernel
theorem dL_law_358 : decode cL_law 358 = .ok (.iconst 3, 1) := by decide +kernel
theorem dL_law_359 : decode cL_law 359 = .ok (.iadd, 1) := by decide +kernel
theorem dL_law_360 : decode cL_law 360 = .ok (.iaload, 1) := by decide +kernel
theorem dL_law_361 : decode cL_law 361 = .ok (.i2l, 1) := by decide +kernel
theorem dL_law_362 : decode cL_law 362 = .ok (.ldc2_w 33, 3) := by decide +kernel
theorem dL_law_365 : decode cL_law 365 = .ok (.land, 1) := by decide +kernel
theorem dL_law_366 : decode cL_law 366 = .ok (.lor, 1) := by decide +kernel
theorem dL_law_367 : decode cL_law 367 = .ok (.aload_n 0, 1) := by decide +kernel
theorem dL_law_368 : decode cL_law 368 = .ok (.iload_n 3, 1) := by decide +kernel
theorem dL_law_369 : decode cL_law 369 = .ok (.iconst 4, 1) := by decide +kernel
theorem dL_law_370 : decode cL_law 370 = .ok (.iadd, 1) := by decide +kernel
theorem dL_law_371 : decode cL_law 371 = .ok (.iaload, 1) := by decide +kernel
theorem dL_law_372 : decode cL_law 372 = .ok (.i2l, 1) := by decide +kernel
theorem dL_law_373 : decode cL_law 373 = .ok (.bipush 32, 2) := by decide +kernel
theorem dL_law_375 : decode cL_law 375 = .ok (.lshl, 1) := by decide +kernel
theorem dL_law_376 : decode cL_law 376 = .ok (.aload_n 0, 1) := by decide +kernel
theorem dL_law_377 : decode cL_law 377 = .ok (.iload_n 3, 1) := by decide +kernel
theorem dL_law_378 : decode cL_law 378 = .ok (.iconst 5, 1) := by decide +kernel
theorem dL_law_379 : decode cL_law 379 = .ok (.iadd, 1) := by decide +kernel
theorem dL_law_380 : decode cL_law 380 = .ok (.iaload, 1) := by decide +kernel
theorem dL_law_381 : decode cL_law 381 = .ok (.i2l, 1) := by decide +kernel
theorem dL_law_382 : decode cL_law 382 = .ok (.ldc2_w 33, 3) := by decide +kernel
theorem dL_law_385 : decode cL_law 385 = .ok (.land, 1) := by decide +kernel
theorem dL_law_386 : decode cL_law 386 = .ok (.lor, 1) := by decide +kernel
theorem dL_law_387 : decode cL_law 387 = .ok (.aload_n 0, 1) := by decide +kernel
theorem dL_law_388 : decode cL_law 388 = .ok (.iload_n 3, 1) := by decide +kernel
theorem dL_law_389 : decode cL_law 389 = .ok (.bipush 6, 2) := by decide +kernel
theorem dL_law_391 : decode cL_law 391 = .ok (.iadd, 1) := by decide +kernel
theorem dL_law_392 : decode cL_law 392 = .ok (.iaload, 1) := by decide +kernel
theorem dL_law_393 : decode cL_law 393 = .ok (.invokevirtual 35, 3) := by decide +kernel
theorem dL_law_396 : decode cL_law 396 = .ok (.aload_n 2, 1) := by decide +kernel
theorem dL_law_397 : decode cL_law 397 = .ok (.aload_n 0, 1) := by decide +kernel
theorem dL_law_398 : decode cL_law 398 = .ok (.iload_n 3, 1) := by decide +kernel
theorem dL_law_399 : decode cL_law 399 = .ok (.iconst 1, 1) := by decide +kernel
theorem dL_law_400 : decode cL_law 400 = .ok (.iadd, 1) := by decide +kernel
theorem dL_law_401 : decode cL_law 401 = .ok (.iaload, 1) := by decide +kernel
theorem dL_law_402 : decode cL_law 402 = .ok (.aload_n 0, 1) := by decide +kernel
theorem dL_law_403 : decode cL_law 403 = .ok (.iload_n 3, 1) := by decide +kernel
theorem dL_law_404 : decode cL_law 404 = .ok (.iconst 2, 1) := by decide +kernel
theorem dL_law_405 : decode cL_law 405 = .ok (.iadd, 1) := by decide +kernel
theorem dL_law_406 : decode cL_law 406 = .ok (.iaload, 1) := by decide +kernel
theorem dL_law_407 : decode cL_law 407 = .ok (.i2l, 1) := by decide +kernel
theorem dL_law_408 : decode cL_law 408 = .ok (.bipush 32, 2) := by decide +kernel
theorem dL_law_410 : decode cL_law 410 = .ok (.lshl, 1) := by decide +kernel
theorem dL_law_411 : decode cL_law 411 = .ok (.aload_n 0, 1) := by decide +kernel
theorem dL_law_412 : decode cL_law 412 = .ok (.iload_n 3, 1) := by decide +kernel
theorem dL_law_413 : decode cL_law 413 = .ok (.iconst 3, 1) := by decide +kernel
theorem dL_law_414 : decode cL_law 414 = .ok (.iadd, 1) := by decide +kernel
theorem dL_law_415 : decode cL_law 415 = .ok (.iaload, 1) := by decide +kernel
theorem dL_law_416 : decode cL_law 416 = .ok (.i2l, 1) := by decide +kernel
theorem dL_law_417 : decode cL_law 417 = .ok (.ldc2_w 33, 3) := by decide +kernel
theorem dL_law_420 : decode cL_law 420 = .ok (.land, 1) := by decide +kernel
theorem dL_law_421 : decode cL_law 421 = .ok (.lor, 1) := by decide +kernel
theorem dL_law_422 : decode cL_law 422 = .ok (.aload_n 0, 1) := by decide +kernel
theorem dL_law_423 : decode cL_law 423 = .ok (.iload_n 3, 1) := by decide +kernel
theorem dL_law_424 : decode cL_law 424 = .ok (.iconst 4, 1) := by decide +kernel
theorem dL_law_425 : decode cL_law 425 = .ok (.iadd, 1) := by decide +kernel
theorem dL_law_426 : decode cL_law 426 = .ok (.iaload, 1) := by decide +kernel
theorem dL_law_427 : decode cL_law 427 = .ok (.i2l, 1) := by decide +kernel
theorem dL_law_428 : decode cL_law 428 = .ok (.bipush 32, 2) := by decide +kernel
theorem dL_law_430 : decode cL_law 430 = .ok (.lshl, 1) := by decide +kernel
theorem dL_law_431 : decode cL_law 431 = .ok (.aload_n 0, 1) := by decide +kernel
theorem dL_law_432 : decode cL_law 432 = .ok (.iload_n 3, 1) := by decide +kernel
theorem dL_law_433 : decode cL_law 433 = .ok (.iconst 5, 1) := by decide +kernel
theorem dL_law_434 : decode cL_law 434 = .ok (.iadd, 1) := by decide +kernel
theorem dL_law_435 : decode cL_law 435 = .ok (.iaload, 1) := by decide +kernel
theorem dL_law_436 : decode cL_law 436 = .ok (.i2l, 1) := by decide +kernel
theorem dL_law_437 : decode cL_law 437 = .ok (.ldc2_w 33, 3) := by decide +kernel
theorem dL_law_440 : decode cL_law 440 = .ok (.land, 1) := by decide +kernel
theorem dL_law_441 : decode cL_law 441 = .ok (.lor, 1) := by decide +kernel
theorem dL_law_442 : decode cL_law 442 = .ok (.aload_n 0, 1) := by decide +kernel
theorem dL_law_443 : decode cL_law 443 = .ok (.iload_n 3, 1) := by decide +kernel
theorem dL_law_444 : decode cL_law 444 = .ok (.bipush 6, 2) := by decide +kernel
theorem dL_law_446 : decode cL_law 446 = .ok (.iadd, 1) := by decide +kernel
theorem dL_law_447 : decode cL_law 447 = .ok (.iaload, 1) := by decide +kernel
theorem dL_law_448 : decode cL_law 448 = .ok (.invokevirtual 39, 3) := by decide +kernel
theorem dL_law_451 : decode cL_law 451 = .ok (.if_icmp .eq 877, 3) := by decide +kernel
theorem dL_law_454 : decode cL_law 454 = .ok (.iconst 0, 1) := by decide +kernel
theorem dL_law_455 : decode cL_law 455 = .ok (.ireturn, 1) := by decide +kernel
theorem dL_law_456 : decode cL_law 456 = .ok (.aload_n 1, 1) := by decide +kernel
theorem dL_law_457 : decode cL_law 457 = .ok (.aload_n 0, 1) := by decide +kernel
theorem dL_law_458 : decode cL_law 458 = .ok (.iload_n 3, 1) := by decide +kernel
theorem dL_law_459 : decode cL_law 459 = .ok (.iconst 1, 1) := by decide +kernel
theorem dL_law_460 : decode cL_law 460 = .ok (.iadd, 1) := by decide +kernel
theorem dL_law_461 : decode cL_law 461 = .ok (.iaload, 1) := by decide +kernel
theorem dL_law_462 : decode cL_law 462 = .ok (.aload_n 0, 1) := by decide +kernel
theorem dL_law_463 : decode cL_law 463 = .ok (.iload_n 3, 1) := by decide +kernel
theorem dL_law_464 : decode cL_law 464 = .ok (.iconst 2, 1) := by decide +kernel
theorem dL_law_465 : decode cL_law 465 = .ok (.iadd, 1) := by decide +kernel
theorem dL_law_466 : decode cL_law 466 = .ok (.iaload, 1) := by decide +kernel
theorem dL_law_467 : decode cL_law 467 = .ok (.aload_n 0, 1) := by decide +kernel
theorem dL_law_468 : decode cL_law 468 = .ok (.iload_n 3, 1) := by decide +kernel
theorem dL_law_469 : decode cL_law 469 = .ok (.iconst 3, 1) := by decide +kernel
theorem dL_law_470 : decode cL_law 470 = .ok (.iadd, 1) := by decide +kernel
theorem dL_law_471 : decode cL_law 471 = .ok (.iaload, 1) := by decide +kernel
theorem dL_law_472 : decode cL_law 472 = .ok (.aload_n 0, 1) := by decide +kernel
theorem dL_law_473 : decode cL_law 473 = .ok (.iload_n 3, 1) := by decide +kernel
theorem dL_law_474 : decode cL_law 474 = .ok (.iconst 4, 1) := by decide +kernel
theorem dL_law_475 : decode cL_law 475 = .ok (.iadd, 1) := by decide +kernel
theorem dL_law_476 : decode cL_law 476 = .ok (.iaload, 1) := by decide +kernel
theorem dL_law_477 : decode cL_law 477 = .ok (.invokevirtual 40, 3) := by decide +kernel
theorem dL_law_480 : decode cL_law 480 = .ok (.aload_n 2, 1) := by decide +kernel
theorem dL_law_481 : decode cL_law 481 = .ok (.aload_n 0, 1) := by decide +kernel
theorem dL_law_482 : decode cL_law 482 = .ok (.iload_n 3, 1) := by decide +kernel
theorem dL_law_483 : decode cL_law 483 = .ok (.iconst 1, 1) := by decide +kernel
theorem dL_law_484 : decode cL_law 484 = .ok (.iadd, 1) := by decide +kernel
theorem dL_law_485 : decode cL_law 485 = .ok (.iaload, 1) := by decide +kernel
theorem dL_law_486 : decode cL_law 486 = .ok (.aload_n 0, 1) := by decide +kernel
theorem dL_law_487 : decode cL_law 487 = .ok (.iload_n 3, 1) := by decide +kernel
theorem dL_law_488 : decode cL_law 488 = .ok (.iconst 2, 1) := by decide +kernel
theorem dL_law_489 : decode cL_law 489 = .ok (.iadd, 1) := by decide +kernel
theorem dL_law_490 : decode cL_law 490 = .ok (.iaload, 1) := by decide +kernel
theorem dL_law_491 : decode cL_law 491 = .ok (.aload_n 0, 1) := by decide +kernel
theorem dL_law_492 : decode cL_law 492 = .ok (.iload_n 3, 1) := by decide +kernel
theorem dL_law_493 : decode cL_law 493 = .ok (.iconst 3, 1) := by decide +kernel
theorem dL_law_494 : decode cL_law 494 = .ok (.iadd, 1) := by decide +kernel
theorem dL_law_495 : decode cL_law 495 = .ok (.iaload, 1) := by decide +kernel
theorem dL_law_496 : decode cL_law 496 = .ok (.aload_n 0, 1) := by decide +kernel
theorem dL_law_497 : decode cL_law 497 = .ok (.iload_n 3, 1) := by decide +kernel
theorem dL_law_498 : decode cL_law 498 = .ok (.iconst 4, 1) := by decide +kernel
theorem dL_law_499 : decode cL_law 499 = .ok (.iadd, 1) := by decide +kernel
theorem dL_law_500 : decode cL_law 500 = .ok (.iaload, 1) := by decide +kernel
theorem dL_law_501 : decode cL_law 501 = .ok (.invokevirtual 44, 3) := by decide +kernel
theorem dL_law_504 : decode cL_law 504 = .ok (.if_icmp .eq 824, 3) := by decide +kernel
theorem dL_law_507 : decode cL_law 507 = .ok (.iconst 0, 1) := by decide +kernel
theorem dL_law_508 : decode cL_law 508 = .ok (.ireturn, 1) := by decide +kernel
theorem dL_law_509 : decode cL_law 509 = .ok (.aload_n 1, 1) := by decide +kernel
theorem dL_law_510 : decode cL_law 510 = .ok (.aload_n 0, 1) := by decide +kernel
theorem dL_law_511 : decode cL_law 511 = .ok (.iload_n 3, 1) := by decide +kernel
theorem dL_law_512 : decode cL_law 512 = .ok (.iconst 1, 1) := by decide +kernel
theorem dL_law_513 : decode cL_law 513 = .ok (.iadd, 1) := by decide +kernel
theorem dL_law_514 : decode cL_law 514 = .ok (.iaload, 1) := by decide +kernel
theorem dL_law_515 : decode cL_law 515 = .ok (.aload_n 0, 1) := by decide +kernel
theorem dL_law_516 : decode cL_law 516 = .ok (.iload_n 3, 1) := by decide +kernel
theorem dL_law_517 : decode cL_law 517 = .ok (.iconst 2, 1) := by decide +kernel
theorem dL_law_518 : decode cL_law 518 = .ok (.iadd, 1) := by decide +kernel
theorem dL_law_519 : decode cL_law 519 = .ok (.iaload, 1) := by decide +kernel
theorem dL_law_520 : decode cL_law 520 = .ok (.aload_n 0, 1) := by decide +kernel
theorem dL_law_521 : decode cL_law 521 = .ok (.iload_n 3, 1) := by decide +kernel
theorem dL_law_522 : decode cL_law 522 = .ok (.iconst 3, 1) := by decide +kernel
theorem dL_law_523 : decode cL_law 523 = .ok (.iadd, 1) := by decide +kernel
theorem dL_law_524 : decode cL_law 524 = .ok (.iaload, 1) := by decide +kernel
theorem dL_law_525 : decode cL_law 525 = .ok (.aload_n 0, 1) := by decide +kernel
theorem dL_law_526 : decode cL_law 526 = .ok (.iload_n 3, 1) := by decide +kernel
theorem dL_law_527 : decode cL_law 527 = .ok (.iconst 4, 1) := by decide +kernel
theorem dL_law_528 : decode cL_law 528 = .ok (.iadd, 1) := by decide +kernel
theorem dL_law_529 : decode cL_law 529 = .ok (.iaload, 1) := by decide +kernel
theorem dL_law_530 : decode cL_law 530 = .ok (.aload_n 0, 1) := by decide +kernel
theorem dL_law_531 : decode cL_law 531 = .ok (.iload_n 3, 1) := by decide +kernel
theorem dL_law_532 : decode cL_law 532 = .ok (.iconst 5, 1) := by decide +kernel
theorem dL_law_533 : decode cL_law 533 = .ok (.iadd, 1) := by decide +kernel
theorem dL_law_534 : decode cL_law 534 = .ok (.iaload, 1) := by decide +kernel
theorem dL_law_535 : decode cL_law 535 = .ok (.invokevirtual 45, 3) := by decide +kernel
theorem dL_law_538 : decode cL_law 538 = .ok (.aload_n 2, 1) := by decide +kernel
theorem dL_law_539 : decode cL_law 539 = .ok (.aload_n 0, 1) := by decide +kernel
theorem dL_law_540 : decode cL_law 540 = .ok (.iload_n 3, 1) := by decide +kernel
theorem dL_law_541 : decode cL_law 541 = .ok (.iconst 1, 1) := by decide +kernel
theorem dL_law_542 : decode cL_law 542 = .ok (.iadd, 1) := by decide +kernel
theorem dL_law_543 : decode cL_law 543 = .ok (.iaload, 1) := by decide +kernel
theorem dL_law_544 : decode cL_law 544 = .ok (.aload_n 0, 1) := by decide +kernel
theorem dL_law_545 : decode cL_law 545 = .ok (.iload_n 3, 1) := by decide +kernel
theorem dL_law_546 : decode cL_law 546 = .ok (.iconst 2, 1) := by decide +kernel
theorem dL_law_547 : decode cL_law 547 = .ok (.iadd, 1) := by decide +kernel
theorem dL_law_548 : decode cL_law 548 = .ok (.iaload, 1) := by decide +kernel
theorem dL_law_549 : decode cL_law 549 = .ok (.aload_n 0, 1) := by decide +kernel
theorem dL_law_550 : decode cL_law 550 = .ok (.iload_n 3, 1) := by decide +kernel
theorem dL_law_551 : decode cL_law 551 = .ok (.iconst 3, 1) := by decide +kernel
theorem dL_law_552 : decode cL_law 552 = .ok (.iadd, 1) := by decide +kernel
theorem dL_law_553 : decode cL_law 553 = .ok (.iaload, 1) := by decide +kernel
theorem dL_law_554 : decode cL_law 554 = .ok (.aload_n 0, 1) := by decide +kernel
theorem dL_law_555 : decode cL_law 555 = .ok (.iload_n 3, 1) := by decide +kernel
theorem dL_law_556 : decode cL_law 556 = .ok (.iconst 4, 1) := by decide +kernel
theorem dL_law_557 : decode cL_law 557 = .ok (.iadd, 1) := by decide +kernel
theorem dL_law_558 : decode cL_law 558 = .ok (.iaload, 1) := by decide +kernel
theorem dL_law_559 : decode cL_law 559 = .ok (.aload_n 0, 1) := by decide +kernel
theorem dL_law_560 : decode cL_law 560 = .ok (.iload_n 3, 1) := by decide +kernel
theorem dL_law_561 : decode cL_law 561 = .ok (.iconst 5, 1) := by decide +kernel
theorem dL_law_562 : decode cL_law 562 = .ok (.iadd, 1) := by decide +kernel
theorem dL_law_563 : decode cL_law 563 = .ok (.iaload, 1) := by decide +kernel
theorem dL_law_564 : decode cL_law 564 = .ok (.invokevirtual 49, 3) := by decide +kernel
theorem dL_law_567 : decode cL_law 567 = .ok (.if_icmp .eq 761, 3) := by decide +kernel
theorem dL_law_570 : decode cL_law 570 = .ok (.iconst 0, 1) := by decide +kernel
theorem dL_law_571 : decode cL_law 571 = .ok (.ireturn, 1) := by decide +kernel
theorem dL_law_572 : decode cL_law 572 = .ok (.aload_n 1, 1) := by decide +kernel
theorem dL_law_573 : decode cL_law 573 = .ok (.aload_n 0, 1) := by decide +kernel
theorem dL_law_574 : decode cL_law 574 = .ok (.iload_n 3, 1) := by decide +kernel
theorem dL_law_575 : decode cL_law 575 = .ok (.iconst 1, 1) := by decide +kernel
theorem dL_law_576 : decode cL_law 576 = .ok (.iadd, 1) := by decide +kernel
theorem dL_law_577 : decode cL_law 577 = .ok (.iaload, 1) := by decide +kernel
theorem dL_law_578 : decode cL_law 578 = .ok (.aload_n 0, 1) := by decide +kernel
theorem dL_law_579 : decode cL_law 579 = .ok (.iload_n 3, 1) := by decide +kernel
theorem dL_law_580 : decode cL_law 580 = .ok (.iconst 2, 1) := by decide +kernel
theorem dL_law_581 : decode cL_law 581 = .ok (.iadd, 1) := by decide +kernel
theorem dL_law_582 : decode cL_law 582 = .ok (.iaload, 1) := by decide +kernel
theorem dL_law_583 : decode cL_law 583 = .ok (.aload_n 0, 1) := by decide +kernel
theorem dL_law_584 : decode cL_law 584 = .ok (.iload_n 3, 1) := by decide +kernel
theorem dL_law_585 : decode cL_law 585 = .ok (.iconst 3, 1) := by decide +kernel
theorem dL_law_586 : decode cL_law 586 = .ok (.iadd, 1) := by decide +kernel
theorem dL_law_587 : decode cL_law 587 = .ok (.iaload, 1) := by decide +kernel
theorem dL_law_588 : decode cL_law 588 = .ok (.aload_n 0, 1) := by decide +kernel
theorem dL_law_589 : decode cL_law 589 = .ok (.iload_n 3, 1) := by decide +kernel
theorem dL_law_590 : decode cL_law 590 = .ok (.iconst 4, 1) := by decide +kernel
theorem dL_law_591 : decode cL_law 591 = .ok (.iadd, 1) := by decide +kernel
theorem dL_law_592 : decode cL_law 592 = .ok (.iaload, 1) := by decide +kernel
theorem dL_law_593 : decode cL_law 593 = .ok (.aload_n 0, 1) := by decide +kernel
theorem dL_law_594 : decode cL_law 594 = .ok (.iload_n 3, 1) := by decide +kernel
theorem dL_law_595 : decode cL_law 595 = .ok (.iconst 5, 1) := by decide +kernel
theorem dL_law_596 : decode cL_law 596 = .ok (.iadd, 1) := by decide +kernel
theorem dL_law_597 : decode cL_law 597 = .ok (.iaload, 1) := by decide +kernel
theorem dL_law_598 : decode cL_law 598 = .ok (.invokevirtual 50, 3) := by decide +kernel
theorem dL_law_601 : decode cL_law 601 = .ok (.aload_n 2, 1) := by decide +kernel
theorem dL_law_602 : decode cL_law 602 = .ok (.aload_n 0, 1) := by decide +kernel
theorem dL_law_603 : decode cL_law 603 = .ok (.iload_n 3, 1) := by decide +kernel
theorem dL_law_604 : decode cL_law 604 = .ok (.iconst 1, 1) := by decide +kernel
theorem dL_law_605 : decode cL_law 605 = .ok (.iadd, 1) := by decide +kernel
theorem dL_law_606 : decode cL_law 606 = .ok (.iaload, 1) := by decide +kernel
theorem dL_law_607 : decode cL_law 607 = .ok (.aload_n 0, 1) := by decide +kernel
theorem dL_law_608 : decode cL_law 608 = .ok (.iload_n 3, 1) := by decide +kernel
theorem dL_law_609 : decode cL_law 609 = .ok (.iconst 2, 1) := by decide +kernel
theorem dL_law_610 : decode cL_law 610 = .ok (.iadd, 1) := by decide +kernel
theorem dL_law_611 : decode cL_law 611 = .ok (.iaload, 1) := by decide +kernel
theorem dL_law_612 : decode cL_law 612 = .ok (.aload_n 0, 1) := by decide +kernel
theorem dL_law_613 : decode cL_law 613 = .ok (.iload_n 3, 1) := by decide +kernel
theorem dL_law_614 : decode cL_law 614 = .ok (.iconst 3, 1) := by decide +kernel
theorem dL_law_615 : decode cL_law 615 = .ok (.iadd, 1) := by decide +kernel
theorem dL_law_616 : decode cL_law 616 = .ok (.iaload, 1) := by decide +kernel
theorem dL_law_617 : decode cL_law 617 = .ok (.aload_n 0, 1) := by decide +kernel
theorem dL_law_618 : decode cL_law 618 = .ok (.iload_n 3, 1) := by decide +kernel
theorem dL_law_619 : decode cL_law 619 = .ok (.iconst 4, 1) := by decide +kernel
theorem dL_law_620 : decode cL_law 620 = .ok (.iadd, 1) := by decide +kernel
theorem dL_law_621 : decode cL_law 621 = .ok (.iaload, 1) := by decide +kernel
theorem dL_law_622 : decode cL_law 622 = .ok (.aload_n 0, 1) := by decide +kernel
theorem dL_law_623 : decode cL_law 623 = .ok (.iload_n 3, 1) := by decide +kernel
theorem dL_law_624 : decode cL_law 624 = .ok (.iconst 5, 1) := by decide +kernel
theorem dL_law_625 : decode cL_law 625 = .ok (.iadd, 1) := by decide +kernel
theorem dL_law_626 : decode cL_law 626 = .ok (.iaload, 1) := by decide +kernel
theorem dL_law_627 : decode cL_law 627 = .ok (.invokevirtual 53, 3) := by decide +kernel
theorem dL_law_630 : decode cL_law 630 = .ok (.if_icmp .eq 698, 3) := by decide +kernel
theorem dL_law_633 : decode cL_law 633 = .ok (.iconst 0, 1) := by decide +kernel
theorem dL_law_634 : decode cL_law 634 = .ok (.ireturn, 1) := by decide +kernel
theorem dL_law_635 : decode cL_law 635 = .ok (.aload_n 1, 1) := by decide +kernel
theorem dL_law_636 : decode cL_law 636 = .ok (.aload_n 0, 1) := by decide +kernel
theorem dL_law_637 : decode cL_law 637 = .ok (.iload_n 3, 1) := by decide +kernel
theorem dL_law_638 : decode cL_law 638 = .ok (.iconst 1, 1) := by decide +kernel
theorem dL_law_639 : decode cL_law 639 = .ok (.iadd, 1) := by decide +kernel
theorem dL_law_640 : decode cL_law 640 = .ok (.iaload, 1) := by decide +kernel
theorem dL_law_641 : decode cL_law 641 = .ok (.aload_n 0, 1) := by decide +kernel
theorem dL_law_642 : decode cL_law 642 = .ok (.iload_n 3, 1) := by decide +kernel
theorem dL_law_643 : decode cL_law 643 = .ok (.iconst 2, 1) := by decide +kernel
theorem dL_law_644 : decode cL_law 644 = .ok (.iadd, 1) := by decide +kernel
theorem dL_law_645 : decode cL_law 645 = .ok (.iaload, 1) := by decide +kernel
theorem dL_law_646 : decode cL_law 646 = .ok (.aload_n 0, 1) := by decide +kernel
theorem dL_law_647 : decode cL_law 647 = .ok (.iload_n 3, 1) := by decide +kernel
theorem dL_law_648 : decode cL_law 648 = .ok (.iconst 3, 1) := by decide +kernel
theorem dL_law_649 : decode cL_law 649 = .ok (.iadd, 1) := by decide +kernel
theorem dL_law_650 : decode cL_law 650 = .ok (.iaload, 1) := by decide +kernel
theorem dL_law_651 : decode cL_law 651 = .ok (.ifCond .eq 7, 3) := by decide +kernel
theorem dL_law_654 : decode cL_law 654 = .ok (.iconst 1, 1) := by decide +kernel
theorem dL_law_655 : decode cL_law 655 = .ok (.goto 4, 3) := by decide +kernel
theorem dL_law_658 : decode cL_law 658 = .ok (.iconst 0, 1) := by decide +kernel
theorem dL_law_659 : decode cL_law 659 = .ok (.invokevirtual 54, 3) := by decide +kernel
theorem dL_law_662 : decode cL_law 662 = .ok (.aload_n 2, 1) := by decide +kernel
theorem dL_law_663 : decode cL_law 663 = .ok (.aload_n 0, 1) := by decide +kernel
theorem dL_law_664 : decode cL_law 664 = .ok (.iload_n 3, 1) := by decide +kernel
theorem dL_law_665 : decode cL_law 665 = .ok (.iconst 1, 1) := by decide +kernel
theorem dL_law_666 : decode cL_law 666 = .ok (.iadd, 1) := by decide +kernel
theorem dL_law_667 : decode cL_law 667 = .ok (.iaload, 1) := by decide +kernel
theorem dL_law_668 : decode cL_law 668 = .ok (.aload_n 0, 1) := by decide +kernel
theorem dL_law_669 : decode cL_law 669 = .ok (.iload_n 3, 1) := by decide +kernel
theorem dL_law_670 : decode cL_law 670 = .ok (.iconst 2, 1) := by decide +kernel
theorem dL_law_671 : decode cL_law 671 = .ok (.iadd, 1) := by decide +kernel
theorem dL_law_672 : decode cL_law 672 = .ok (.iaload, 1) := by decide +kernel
theorem dL_law_673 : decode cL_law 673 = .ok (.aload_n 0, 1) := by decide +kernel
theorem dL_law_674 : decode cL_law 674 = .ok (.iload_n 3, 1) := by decide +kernel
theorem dL_law_675 : decode cL_law 675 = .ok (.iconst 3, 1) := by decide +kernel
theorem dL_law_676 : decode cL_law 676 = .ok (.iadd, 1) := by decide +kernel
theorem dL_law_677 : decode cL_law 677 = .ok (.iaload, 1) := by decide +kernel
theorem dL_law_678 : decode cL_law 678 = .ok (.ifCond .eq 7, 3) := by decide +kernel
theorem dL_law_681 : decode cL_law 681 = .ok (.iconst 1, 1) := by decide +kernel
theorem dL_law_682 : decode cL_law 682 = .ok (.goto 4, 3) := by decide +kernel
theorem dL_law_685 : decode cL_law 685 = .ok (.iconst 0, 1) := by decide +kernel
theorem dL_law_686 : decode cL_law 686 = .ok (.invokevirtual 58, 3) := by decide +kernel
theorem dL_law_689 : decode cL_law 689 = .ok (.if_icmp .eq 639, 3) := by decide +kernel
theorem dL_law_692 : decode cL_law 692 = .ok (.iconst 0, 1) := by decide +kernel
theorem dL_law_693 : decode cL_law 693 = .ok (.ireturn, 1) := by decide +kernel
theorem dL_law_694 : decode cL_law 694 = .ok (.aload_n 1, 1) := by decide +kernel
theorem dL_law_695 : decode cL_law 695 = .ok (.aload_n 0, 1) := by decide +kernel
theorem dL_law_696 : decode cL_law 696 = .ok (.iload_n 3, 1) := by decide +kernel
theorem dL_law_697 : decode cL_law 697 = .ok (.iconst 1, 1) := by decide +kernel
theorem dL_law_698 : decode cL_law 698 = .ok (.iadd, 1) := by decide +kernel
theorem dL_law_699 : decode cL_law 699 = .ok (.iaload, 1) := by decide +kernel
theorem dL_law_700 : decode cL_law 700 = .ok (.aload_n 0, 1) := by decide +kernel
theorem dL_law_701 : decode cL_law 701 = .ok (.iload_n 3, 1) := by decide +kernel
theorem dL_law_702 : decode cL_law 702 = .ok (.iconst 2, 1) := by decide +kernel
theorem dL_law_703 : decode cL_law 703 = .ok (.iadd, 1) := by decide +kernel
theorem dL_law_704 : decode cL_law 704 = .ok (.iaload, 1) := by decide +kernel
theorem dL_law_705 : decode cL_law 705 = .ok (.aload_n 0, 1) := by decide +kernel
theorem dL_law_706 : decode cL_law 706 = .ok (.iload_n 3, 1) := by decide +kernel
theorem dL_law_707 : decode cL_law 707 = .ok (.iconst 3, 1) := by decide +kernel
theorem dL_law_708 : decode cL_law 708 = .ok (.iadd, 1) := by decide +kernel
theorem dL_law_709 : decode cL_law 709 = .ok (.iaload, 1) := by decide +kernel
theorem dL_law_710 : decode cL_law 710 = .ok (.invokevirtual 59, 3) := by decide +kernel
theorem dL_law_713 : decode cL_law 713 = .ok (.aload_n 2, 1) := by decide +kernel
theorem dL_law_714 : decode cL_law 714 = .ok (.aload_n 0, 1) := by decide +kernel
theorem dL_law_715 : decode cL_law 715 = .ok (.iload_n 3, 1) := by decide +kernel
theorem dL_law_716 : decode cL_law 716 = .ok (.iconst 1, 1) := by decide +kernel
theorem dL_law_717 : decode cL_law 717 = .ok (.iadd, 1) := by decide +kernel
theorem dL_law_718 : decode cL_law 718 = .ok (.iaload, 1) := by decide +kernel
theorem dL_law_719 : decode cL_law 719 = .ok (.aload_n 0, 1) := by decide +kernel
theorem dL_law_720 : decode cL_law 720 = .ok (.iload_n 3, 1) := by decide +kernel
theorem dL_law_721 : decode cL_law 721 = .ok (.iconst 2, 1) := by decide +kernel
theorem dL_law_722 : decode cL_law 722 = .ok (.iadd, 1) := by decide +kernel
theorem dL_law_723 : decode cL_law 723 = .ok (.iaload, 1) := by decide +kernel
theorem dL_law_724 : decode cL_law 724 = .ok (.aload_n 0, 1) := by decide +kernel
theorem dL_law_725 : decode cL_law 725 = .ok (.iload_n 3, 1) := by decide +kernel
theorem dL_law_726 : decode cL_law 726 = .ok (.iconst 3, 1) := by decide +kernel
theorem dL_law_727 : decode cL_law 727 = .ok (.iadd, 1) := by decide +kernel
theorem dL_law_728 : decode cL_law 728 = .ok (.iaload, 1) := by decide +kernel
theorem dL_law_729 : decode cL_law 729 = .ok (.invokevirtual 62, 3) := by decide +kernel
theorem dL_law_732 : decode cL_law 732 = .ok (.if_icmp .eq 596, 3) := by decide +kernel
theorem dL_law_735 : decode cL_law 735 = .ok (.iconst 0, 1) := by decide +kernel
theorem dL_law_736 : decode cL_law 736 = .ok (.ireturn, 1) := by decide +kernel
theorem dL_law_737 : decode cL_law 737 = .ok (.aload_n 1, 1) := by decide +kernel
theorem dL_law_738 : decode cL_law 738 = .ok (.aload_n 0, 1) := by decide +kernel
theorem dL_law_739 : decode cL_law 739 = .ok (.iload_n 3, 1) := by decide +kernel
theorem dL_law_740 : decode cL_law 740 = .ok (.iconst 1, 1) := by decide +kernel
theorem dL_law_741 : decode cL_law 741 = .ok (.iadd, 1) := by decide +kernel
theorem dL_law_742 : decode cL_law 742 = .ok (.iaload, 1) := by decide +kernel
theorem dL_law_743 : decode cL_law 743 = .ok (.aload_n 0, 1) := by decide +kernel
theorem dL_law_744 : decode cL_law 744 = .ok (.iload_n 3, 1) := by decide +kernel
theorem dL_law_745 : decode cL_law 745 = .ok (.iconst 2, 1) := by decide +kernel
theorem dL_law_746 : decode cL_law 746 = .ok (.iadd, 1) := by decide +kernel
theorem dL_law_747 : decode cL_law 747 = .ok (.iaload, 1) := by decide +kernel
theorem dL_law_748 : decode cL_law 748 = .ok (.i2l, 1) := by decide +kernel
theorem dL_law_749 : decode cL_law 749 = .ok (.bipush 32, 2) := by decide +kernel
theorem dL_law_751 : decode cL_law 751 = .ok (.lshl, 1) := by decide +kernel
theorem dL_law_752 : decode cL_law 752 = .ok (.aload_n 0, 1) := by decide +kernel
theorem dL_law_753 : decode cL_law 753 = .ok (.iload_n 3, 1) := by decide +kernel
theorem dL_law_754 : decode cL_law 754 = .ok (.iconst 3, 1) := by decide +kernel
theorem dL_law_755 : decode cL_law 755 = .ok (.iadd, 1) := by decide +kernel
theorem dL_law_756 : decode cL_law 756 = .ok (.iaload, 1) := by decide +kernel
theorem dL_law_757 : decode cL_law 757 = .ok (.i2l, 1) := by decide +kernel
theorem dL_law_758 : decode cL_law 758 = .ok (.ldc2_w 33, 3) := by decide +kernel
theorem dL_law_761 : decode cL_law 761 = .ok (.land, 1) := by decide +kernel
theorem dL_law_762 : decode cL_law 762 = .ok (.lor, 1) := by decide +kernel
theorem dL_law_763 : decode cL_law 763 = .ok (.aload_n 0, 1) := by decide +kernel
theorem dL_law_764 : decode cL_law 764 = .ok (.iload_n 3, 1) := by decide +kernel
theorem dL_law_765 : decode cL_law 765 = .ok (.iconst 4, 1) := by decide +kernel
theorem dL_law_766 : decode cL_law 766 = .ok (.iadd, 1) := by decide +kernel
theorem dL_law_767 : decode cL_law 767 = .ok (.iaload, 1) := by decide +kernel
theorem dL_law_768 : decode cL_law 768 = .ok (.i2l, 1) := by decide +kernel
theorem dL_law_769 : decode cL_law 769 = .ok (.bipush 32, 2) := by decide +kernel
theorem dL_law_771 : decode cL_law 771 = .ok (.lshl, 1) := by decide +kernel
theorem dL_law_772 : decode cL_law 772 = .ok (.aload_n 0, 1) := by decide +kernel
theorem dL_law_773 : decode cL_law 773 = .ok (.iload_n 3, 1) := by decide +kernel
theorem dL_law_774 : decode cL_law 774 = .ok (.iconst 5, 1) := by decide +kernel
theorem dL_law_775 : decode cL_law 775 = .ok (.iadd, 1) := by decide +kernel
theorem dL_law_776 : decode cL_law 776 = .ok (.iaload, 1) := by decide +kernel
theorem dL_law_777 : decode cL_law 777 = .ok (.i2l, 1) := by decide +kernel
theorem dL_law_778 : decode cL_law 778 = .ok (.ldc2_w 33, 3) := by decide +kernel
theorem dL_law_781 : decode cL_law 781 = .ok (.land, 1) := by decide +kernel
theorem dL_law_782 : decode cL_law 782 = .ok (.lor, 1) := by decide +kernel
theorem dL_law_783 : decode cL_law 783 = .ok (.invokevirtual 63, 3) := by decide +kernel
theorem dL_law_786 : decode cL_law 786 = .ok (.aload_n 2, 1) := by decide +kernel
theorem dL_law_787 : decode cL_law 787 = .ok (.aload_n 0, 1) := by decide +kernel
theorem dL_law_788 : decode cL_law 788 = .ok (.iload_n 3, 1) := by decide +kernel
theorem dL_law_789 : decode cL_law 789 = .ok (.iconst 1, 1) := by decide +kernel
theorem dL_law_790 : decode cL_law 790 = .ok (.iadd, 1) := by decide +kernel
theorem dL_law_791 : decode cL_law 791 = .ok (.iaload, 1) := by decide +kernel
theorem dL_law_792 : decode cL_law 792 = .ok (.aload_n 0, 1) := by decide +kernel
theorem dL_law_793 : decode cL_law 793 = .ok (.iload_n 3, 1) := by decide +kernel
theorem dL_law_794 : decode cL_law 794 = .ok (.iconst 2, 1) := by decide +kernel
theorem dL_law_795 : decode cL_law 795 = .ok (.iadd, 1) := by decide +kernel
theorem dL_law_796 : decode cL_law 796 = .ok (.iaload, 1) := by decide +kernel
theorem dL_law_797 : decode cL_law 797 = .ok (.i2l, 1) := by decide +kernel
theorem dL_law_798 : decode cL_law 798 = .ok (.bipush 32, 2) := by decide +kernel
theorem dL_law_800 : decode cL_law 800 = .ok (.lshl, 1) := by decide +kernel
theorem dL_law_801 : decode cL_law 801 = .ok (.aload_n 0, 1) := by decide +kernel
theorem dL_law_802 : decode cL_law 802 = .ok (.iload_n 3, 1) := by decide +kernel
theorem dL_law_803 : decode cL_law 803 = .ok (.iconst 3, 1) := by decide +kernel
theorem dL_law_804 : decode cL_law 804 = .ok (.iadd, 1) := by decide +kernel
theorem dL_law_805 : decode cL_law 805 = .ok (.iaload, 1) := by decide +kernel
theorem dL_law_806 : decode cL_law 806 = .ok (.i2l, 1) := by decide +kernel
theorem dL_law_807 : decode cL_law 807 = .ok (.ldc2_w 33, 3) := by decide +kernel
theorem dL_law_810 : decode cL_law 810 = .ok (.land, 1) := by decide +kernel
theorem dL_law_811 : decode cL_law 811 = .ok (.lor, 1) := by decide +kernel
theorem dL_law_812 : decode cL_law 812 = .ok (.aload_n 0, 1) := by decide +kernel
theorem dL_law_813 : decode cL_law 813 = .ok (.iload_n 3, 1) := by decide +kernel
theorem dL_law_814 : decode cL_law 814 = .ok (.iconst 4, 1) := by decide +kernel
theorem dL_law_815 : decode cL_law 815 = .ok (.iadd, 1) := by decide +kernel
theorem dL_law_816 : decode cL_law 816 = .ok (.iaload, 1) := by decide +kernel
theorem dL_law_817 : decode cL_law 817 = .ok (.i2l, 1) := by decide +kernel
theorem dL_law_818 : decode cL_law 818 = .ok (.bipush 32, 2) := by decide +kernel
theorem dL_law_820 : decode cL_law 820 = .ok (.lshl, 1) := by decide +kernel
theorem dL_law_821 : decode cL_law 821 = .ok (.aload_n 0, 1) := by decide +kernel
theorem dL_law_822 : decode cL_law 822 = .ok (.iload_n 3, 1) := by decide +kernel
theorem dL_law_823 : decode cL_law 823 = .ok (.iconst 5, 1) := by decide +kernel
theorem dL_law_824 : decode cL_law 824 = .ok (.iadd, 1) := by decide +kernel
theorem dL_law_825 : decode cL_law 825 = .ok (.iaload, 1) := by decide +kernel
theorem dL_law_826 : decode cL_law 826 = .ok (.i2l, 1) := by decide +kernel
theorem dL_law_827 : decode cL_law 827 = .ok (.ldc2_w 33, 3) := by decide +kernel
theorem dL_law_830 : decode cL_law 830 = .ok (.land, 1) := by decide +kernel
theorem dL_law_831 : decode cL_law 831 = .ok (.lor, 1) := by decide +kernel
theorem dL_law_832 : decode cL_law 832 = .ok (.invokevirtual 67, 3) := by decide +kernel
theorem dL_law_835 : decode cL_law 835 = .ok (.if_icmp .eq 493, 3) := by decide +kernel
theorem dL_law_838 : decode cL_law 838 = .ok (.iconst 0, 1) := by decide +kernel
theorem dL_law_839 : decode cL_law 839 = .ok (.ireturn, 1) := by decide +kernel
theorem dL_law_840 : decode cL_law 840 = .ok (.aload_n 1, 1) := by decide +kernel
theorem dL_law_841 : decode cL_law 841 = .ok (.aload_n 0, 1) := by decide +kernel
theorem dL_law_842 : decode cL_law 842 = .ok (.iload_n 3, 1) := by decide +kernel
theorem dL_law_843 : decode cL_law 843 = .ok (.iconst 1, 1) := by decide +kernel
theorem dL_law_844 : decode cL_law 844 = .ok (.iadd, 1) := by decide +kernel
theorem dL_law_845 : decode cL_law 845 = .ok (.iaload, 1) := by decide +kernel
theorem dL_law_846 : decode cL_law 846 = .ok (.aload_n 0, 1) := by decide +kernel
theorem dL_law_847 : decode cL_law 847 = .ok (.iload_n 3, 1) := by decide +kernel
theorem dL_law_848 : decode cL_law 848 = .ok (.iconst 2, 1) := by decide +kernel
theorem dL_law_849 : decode cL_law 849 = .ok (.iadd, 1) := by decide +kernel
theorem dL_law_850 : decode cL_law 850 = .ok (.iaload, 1) := by decide +kernel
theorem dL_law_851 : decode cL_law 851 = .ok (.aload_n 0, 1) := by decide +kernel
theorem dL_law_852 : decode cL_law 852 = .ok (.iload_n 3, 1) := by decide +kernel
theorem dL_law_853 : decode cL_law 853 = .ok (.iconst 3, 1) := by decide +kernel
theorem dL_law_854 : decode cL_law 854 = .ok (.iadd, 1) := by decide +kernel
theorem dL_law_855 : decode cL_law 855 = .ok (.iaload, 1) := by decide +kernel
theorem dL_law_856 : decode cL_law 856 = .ok (.invokevirtual 68, 3) := by decide +kernel
theorem dL_law_859 : decode cL_law 859 = .ok (.aload_n 2, 1) := by decide +kernel
theorem dL_law_860 : decode cL_law 860 = .ok (.aload_n 0, 1) := by decide +kernel
theorem dL_law_861 : decode cL_law 861 = .ok (.iload_n 3, 1) := by decide +kernel
theorem dL_law_862 : decode cL_law 862 = .ok (.iconst 1, 1) := by decide +kernel
theorem dL_law_863 : decode cL_law 863 = .ok (.iadd, 1) := by decide +kernel
theorem dL_law_864 : decode cL_law 864 = .ok (.iaload, 1) := by decide +kernel
theorem dL_law_865 : decode cL_law 865 = .ok (.aload_n 0, 1) := by decide +kernel
theorem dL_law_866 : decode cL_law 866 = .ok (.iload_n 3, 1) := by decide +kernel
theorem dL_law_867 : decode cL_law 867 = .ok (.iconst 2, 1) := by decide +kernel
theorem dL_law_868 : decode cL_law 868 = .ok (.iadd, 1) := by decide +kernel
theorem dL_law_869 : decode cL_law 869 = .ok (.iaload, 1) := by decide +kernel
theorem dL_law_870 : decode cL_law 870 = .ok (.aload_n 0, 1) := by decide +kernel
theorem dL_law_871 : decode cL_law 871 = .ok (.iload_n 3, 1) := by decide +kernel
theorem dL_law_872 : decode cL_law 872 = .ok (.iconst 3, 1) := by decide +kernel
theorem dL_law_873 : decode cL_law 873 = .ok (.iadd, 1) := by decide +kernel
theorem dL_law_874 : decode cL_law 874 = .ok (.iaload, 1) := by decide +kernel
theorem dL_law_875 : decode cL_law 875 = .ok (.invokevirtual 71, 3) := by decide +kernel
theorem dL_law_878 : decode cL_law 878 = .ok (.if_icmp .eq 450, 3) := by decide +kernel
theorem dL_law_881 : decode cL_law 881 = .ok (.iconst 0, 1) := by decide +kernel
theorem dL_law_882 : decode cL_law 882 = .ok (.ireturn, 1) := by decide +kernel
theorem dL_law_883 : decode cL_law 883 = .ok (.aload_n 1, 1) := by decide +kernel
theorem dL_law_884 : decode cL_law 884 = .ok (.aload_n 0, 1) := by decide +kernel
theorem dL_law_885 : decode cL_law 885 = .ok (.iload_n 3, 1) := by decide +kernel
theorem dL_law_886 : decode cL_law 886 = .ok (.iconst 1, 1) := by decide +kernel
theorem dL_law_887 : decode cL_law 887 = .ok (.iadd, 1) := by decide +kernel
theorem dL_law_888 : decode cL_law 888 = .ok (.iaload, 1) := by decide +kernel
theorem dL_law_889 : decode cL_law 889 = .ok (.aload_n 0, 1) := by decide +kernel
theorem dL_law_890 : decode cL_law 890 = .ok (.iload_n 3, 1) := by decide +kernel
theorem dL_law_891 : decode cL_law 891 = .ok (.iconst 2, 1) := by decide +kernel
theorem dL_law_892 : decode cL_law 892 = .ok (.iadd, 1) := by decide +kernel
theorem dL_law_893 : decode cL_law 893 = .ok (.iaload, 1) := by decide +kernel
theorem dL_law_894 : decode cL_law 894 = .ok (.aload_n 0, 1) := by decide +kernel
theorem dL_law_895 : decode cL_law 895 = .ok (.iload_n 3, 1) := by decide +kernel
theorem dL_law_896 : decode cL_law 896 = .ok (.iconst 3, 1) := by decide +kernel
theorem dL_law_897 : decode cL_law 897 = .ok (.iadd, 1) := by decide +kernel
theorem dL_law_898 : decode cL_law 898 = .ok (.iaload, 1) := by decide +kernel
theorem dL_law_899 : decode cL_law 899 = .ok (.invokevirtual 72, 3) := by decide +kernel
theorem dL_law_902 : decode cL_law 902 = .ok (.aload_n 2, 1) := by decide +kernel
theorem dL_law_903 : decode cL_law 903 = .ok (.aload_n 0, 1) := by decide +kernel
theorem dL_law_904 : decode cL_law 904 = .ok (.iload_n 3, 1) := by decide +kernel
theorem dL_law_905 : decode cL_law 905 = .ok (.iconst 1, 1) := by decide +kernel
theorem dL_law_906 : decode cL_law 906 = .ok (.iadd, 1) := by decide +kernel
theorem dL_law_907 : decode cL_law 907 = .ok (.iaload, 1) := by decide +kernel
theorem dL_law_908 : decode cL_law 908 = .ok (.aload_n 0, 1) := by decide +kernel
theorem dL_law_909 : decode cL_law 909 = .ok (.iload_n 3, 1) := by decide +kernel
theorem dL_law_910 : decode cL_law 910 = .ok (.iconst 2, 1) := by decide +kernel
theorem dL_law_911 : decode cL_law 911 = .ok (.iadd, 1) := by decide +kernel
theorem dL_law_912 : decode cL_law 912 = .ok (.iaload, 1) := by decide +kernel
theorem dL_law_913 : decode cL_law 913 = .ok (.aload_n 0, 1) := by decide +kernel
theorem dL_law_914 : decode cL_law 914 = .ok (.iload_n 3, 1) := by decide +kernel
theorem dL_law_915 : decode cL_law 915 = .ok (.iconst 3, 1) := by decide +kernel
theorem dL_law_916 : decode cL_law 916 = .ok (.iadd, 1) := by decide +kernel
theorem dL_law_917 : decode cL_law 917 = .ok (.iaload, 1) := by decide +kernel
theorem dL_law_918 : decode cL_law 918 = .ok (.invokevirtual 75, 3) := by decide +kernel
theorem dL_law_921 : decode cL_law 921 = .ok (.if_icmp .eq 407, 3) := by decide +kernel
theorem dL_law_924 : decode cL_law 924 = .ok (.iconst 0, 1) := by decide +kernel
theorem dL_law_925 : decode cL_law 925 = .ok (.ireturn, 1) := by decide +kernel
theorem dL_law_926 : decode cL_law 926 = .ok (.aload_n 1, 1) := by decide +kernel
theorem dL_law_927 : decode cL_law 927 = .ok (.aload_n 0, 1) := by decide +kernel
theorem dL_law_928 : decode cL_law 928 = .ok (.iload_n 3, 1) := by decide +kernel
theorem dL_law_929 : decode cL_law 929 = .ok (.iconst 1, 1) := by decide +kernel
theorem dL_law_930 : decode cL_law 930 = .ok (.iadd, 1) := by decide +kernel
theorem dL_law_931 : decode cL_law 931 = .ok (.iaload, 1) := by decide +kernel
theorem dL_law_932 : decode cL_law 932 = .ok (.aload_n 0, 1) := by decide +kernel
theorem dL_law_933 : decode cL_law 933 = .ok (.iload_n 3, 1) := by decide +kernel
theorem dL_law_934 : decode cL_law 934 = .ok (.iconst 2, 1) := by decide +kernel
theorem dL_law_935 : decode cL_law 935 = .ok (.iadd, 1) := by decide +kernel
theorem dL_law_936 : decode cL_law 936 = .ok (.iaload, 1) := by decide +kernel
theorem dL_law_937 : decode cL_law 937 = .ok (.invokevirtual 76, 3) := by decide +kernel
theorem dL_law_940 : decode cL_law 940 = .ok (.aload_n 2, 1) := by decide +kernel
theorem dL_law_941 : decode cL_law 941 = .ok (.aload_n 0, 1) := by decide +kernel
theorem dL_law_942 : decode cL_law 942 = .ok (.iload_n 3, 1) := by decide +kernel
theorem dL_law_943 : decode cL_law 943 = .ok (.iconst 1, 1) := by decide +kernel
theorem dL_law_944 : decode cL_law 944 = .ok (.iadd, 1) := by decide +kernel
theorem dL_law_945 : decode cL_law 945 = .ok (.iaload, 1) := by decide +kernel
theorem dL_law_946 : decode cL_law 946 = .ok (.aload_n 0, 1) := by decide +kernel
theorem dL_law_947 : decode cL_law 947 = .ok (.iload_n 3, 1) := by decide +kernel
theorem dL_law_948 : decode cL_law 948 = .ok (.iconst 2, 1) := by decide +kernel
theorem dL_law_949 : decode cL_law 949 = .ok (.iadd, 1) := by decide +kernel
theorem dL_law_950 : decode cL_law 950 = .ok (.iaload, 1) := by decide +kernel
theorem dL_law_951 : decode cL_law 951 = .ok (.invokevirtual 79, 3) := by decide +kernel
theorem dL_law_954 : decode cL_law 954 = .ok (.if_icmp .eq 374, 3) := by decide +kernel
theorem dL_law_957 : decode cL_law 957 = .ok (.iconst 0, 1) := by decide +kernel
theorem dL_law_958 : decode cL_law 958 = .ok (.ireturn, 1) := by decide +kernel
theorem dL_law_959 : decode cL_law 959 = .ok (.aload_n 1, 1) := by decide +kernel
theorem dL_law_960 : decode cL_law 960 = .ok (.aload_n 0, 1) := by decide +kernel
theorem dL_law_961 : decode cL_law 961 = .ok (.iload_n 3, 1) := by decide +kernel
theorem dL_law_962 : decode cL_law 962 = .ok (.iconst 1, 1) := by decide +kernel
theorem dL_law_963 : decode cL_law 963 = .ok (.iadd, 1) := by decide +kernel
theorem dL_law_964 : decode cL_law 964 = .ok (.iaload, 1) := by decide +kernel
theorem dL_law_965 : decode cL_law 965 = .ok (.aload_n 0, 1) := by decide +kernel
theorem dL_law_966 : decode cL_law 966 = .ok (.iload_n 3, 1) := by decide +kernel
theorem dL_law_967 : decode cL_law 967 = .ok (.iconst 2, 1) := by decide +kernel
theorem dL_law_968 : decode cL_law 968 = .ok (.iadd, 1) := by decide +kernel
theorem dL_law_969 : decode cL_law 969 = .ok (.iaload, 1) := by decide +kernel
theorem dL_law_970 : decode cL_law 970 = .ok (.invokevirtual 80, 3) := by decide +kernel
theorem dL_law_973 : decode cL_law 973 = .ok (.aload_n 2, 1) := by decide +kernel
theorem dL_law_974 : decode cL_law 974 = .ok (.aload_n 0, 1) := by decide +kernel
theorem dL_law_975 : decode cL_law 975 = .ok (.iload_n 3, 1) := by decide +kernel
theorem dL_law_976 : decode cL_law 976 = .ok (.iconst 1, 1) := by decide +kernel
theorem dL_law_977 : decode cL_law 977 = .ok (.iadd, 1) := by decide +kernel
theorem dL_law_978 : decode cL_law 978 = .ok (.iaload, 1) := by decide +kernel
theorem dL_law_979 : decode cL_law 979 = .ok (.aload_n 0, 1) := by decide +kernel
theorem dL_law_980 : decode cL_law 980 = .ok (.iload_n 3, 1) := by decide +kernel
theorem dL_law_981 : decode cL_law 981 = .ok (.iconst 2, 1) := by decide +kernel
theorem dL_law_982 : decode cL_law 982 = .ok (.iadd, 1) := by decide +kernel
theorem dL_law_983 : decode cL_law 983 = .ok (.iaload, 1) := by decide +kernel
theorem dL_law_984 : decode cL_law 984 = .ok (.invokevirtual 83, 3) := by decide +kernel
theorem dL_law_987 : decode cL_law 987 = .ok (.if_icmp .eq 341, 3) := by decide +kernel
theorem dL_law_990 : decode cL_law 990 = .ok (.iconst 0, 1) := by decide +kernel
theorem dL_law_991 : decode cL_law 991 = .ok (.ireturn, 1) := by decide +kernel
theorem dL_law_992 : decode cL_law 992 = .ok (.aload_n 1, 1) := by decide +kernel
theorem dL_law_993 : decode cL_law 993 = .ok (.aload_n 0, 1) := by decide +kernel
theorem dL_law_994 : decode cL_law 994 = .ok (.iload_n 3, 1) := by decide +kernel
theorem dL_law_995 : decode cL_law 995 = .ok (.iconst 1, 1) := by decide +kernel
theorem dL_law_996 : decode cL_law 996 = .ok (.iadd, 1) := by decide +kernel
theorem dL_law_997 : decode cL_law 997 = .ok (.iaload, 1) := by decide +kernel
theorem dL_law_998 : decode cL_law 998 = .ok (.aload_n 0, 1) := by decide +kernel
theorem dL_law_999 : decode cL_law 999 = .ok (.iload_n 3, 1) := by decide +kernel
theorem dL_law_1000 : decode cL_law 1000 = .ok (.iconst 2, 1) := by decide +kernel
theorem dL_law_1001 : decode cL_law 1001 = .ok (.iadd, 1) := by decide +kernel
theorem dL_law_1002 : decode cL_law 1002 = .ok (.iaload, 1) := by decide +kernel
theorem dL_law_1003 : decode cL_law 1003 = .ok (.aload_n 0, 1) := by decide +kernel
theorem dL_law_1004 : decode cL_law 1004 = .ok (.iload_n 3, 1) := by decide +kernel
theorem dL_law_1005 : decode cL_law 1005 = .ok (.iconst 3, 1) := by decide +kernel
theorem dL_law_1006 : decode cL_law 1006 = .ok (.iadd, 1) := by decide +kernel
theorem dL_law_1007 : decode cL_law 1007 = .ok (.iaload, 1) := by decide +kernel
theorem dL_law_1008 : decode cL_law 1008 = .ok (.aload_n 0, 1) := by decide +kernel
theorem dL_law_1009 : decode cL_law 1009 = .ok (.iload_n 3, 1) := by decide +kernel
theorem dL_law_1010 : decode cL_law 1010 = .ok (.iconst 4, 1) := by decide +kernel
theorem dL_law_1011 : decode cL_law 1011 = .ok (.iadd, 1) := by decide +kernel
theorem dL_law_1012 : decode cL_law 1012 = .ok (.iaload, 1) := by decide +kernel
theorem dL_law_1013 : decode cL_law 1013 = .ok (.invokevirtual 84, 3) := by decide +kernel
theorem dL_law_1016 : decode cL_law 1016 = .ok (.aload_n 2, 1) := by decide +kernel
theorem dL_law_1017 : decode cL_law 1017 = .ok (.aload_n 0, 1) := by decide +kernel
theorem dL_law_1018 : decode cL_law 1018 = .ok (.iload_n 3, 1) := by decide +kernel
theorem dL_law_1019 : decode cL_law 1019 = .ok (.iconst 1, 1) := by decide +kernel
theorem dL_law_1020 : decode cL_law 1020 = .ok (.iadd, 1) := by decide +kernel
theorem dL_law_1021 : decode cL_law 1021 = .ok (.iaload, 1) := by decide +kernel
theorem dL_law_1022 : decode cL_law 1022 = .ok (.aload_n 0, 1) := by decide +kernel
theorem dL_law_1023 : decode cL_law 1023 = .ok (.iload_n 3, 1) := by decide +kernel
theorem dL_law_1024 : decode cL_law 1024 = .ok (.iconst 2, 1) := by decide +kernel
theorem dL_law_1025 : decode cL_law 1025 = .ok (.iadd, 1) := by decide +kernel
theorem dL_law_1026 : decode cL_law 1026 = .ok (.iaload, 1) := by decide +kernel
theorem dL_law_1027 : decode cL_law 1027 = .ok (.aload_n 0, 1) := by decide +kernel
theorem dL_law_1028 : decode cL_law 1028 = .ok (.iload_n 3, 1) := by decide +kernel
theorem dL_law_1029 : decode cL_law 1029 = .ok (.iconst 3, 1) := by decide +kernel
theorem dL_law_1030 : decode cL_law 1030 = .ok (.iadd, 1) := by decide +kernel
theorem dL_law_1031 : decode cL_law 1031 = .ok (.iaload, 1) := by decide +kernel
theorem dL_law_1032 : decode cL_law 1032 = .ok (.aload_n 0, 1) := by decide +kernel
theorem dL_law_1033 : decode cL_law 1033 = .ok (.iload_n 3, 1) := by decide +kernel
theorem dL_law_1034 : decode cL_law 1034 = .ok (.iconst 4, 1) := by decide +kernel
theorem dL_law_1035 : decode cL_law 1035 = .ok (.iadd, 1) := by decide +kernel
theorem dL_law_1036 : decode cL_law 1036 = .ok (.iaload, 1) := by decide +kernel
theorem dL_law_1037 : decode cL_law 1037 = .ok (.invokevirtual 87, 3) := by decide +kernel
theorem dL_law_1040 : decode cL_law 1040 = .ok (.if_icmp .eq 288, 3) := by decide +kernel
theorem dL_law_1043 : decode cL_law 1043 = .ok (.iconst 0, 1) := by decide +kernel
theorem dL_law_1044 : decode cL_law 1044 = .ok (.ireturn, 1) := by decide +kernel
theorem dL_law_1045 : decode cL_law 1045 = .ok (.aload_n 1, 1) := by decide +kernel
theorem dL_law_1046 : decode cL_law 1046 = .ok (.aload_n 0, 1) := by decide +kernel
theorem dL_law_1047 : decode cL_law 1047 = .ok (.iload_n 3, 1) := by decide +kernel
theorem dL_law_1048 : decode cL_law 1048 = .ok (.iconst 1, 1) := by decide +kernel
theorem dL_law_1049 : decode cL_law 1049 = .ok (.iadd, 1) := by decide +kernel
theorem dL_law_1050 : decode cL_law 1050 = .ok (.iaload, 1) := by decide +kernel
theorem dL_law_1051 : decode cL_law 1051 = .ok (.aload_n 0, 1) := by decide +kernel
theorem dL_law_1052 : decode cL_law 1052 = .ok (.iload_n 3, 1) := by decide +kernel
theorem dL_law_1053 : decode cL_law 1053 = .ok (.iconst 2, 1) := by decide +kernel
theorem dL_law_1054 : decode cL_law 1054 = .ok (.iadd, 1) := by decide +kernel
theorem dL_law_1055 : decode cL_law 1055 = .ok (.iaload, 1) := by decide +kernel
theorem dL_law_1056 : decode cL_law 1056 = .ok (.aload_n 0, 1) := by decide +kernel
theorem dL_law_1057 : decode cL_law 1057 = .ok (.iload_n 3, 1) := by decide +kernel
theorem dL_law_1058 : decode cL_law 1058 = .ok (.iconst 3, 1) := by decide +kernel
theorem dL_law_1059 : decode cL_law 1059 = .ok (.iadd, 1) := by decide +kernel
theorem dL_law_1060 : decode cL_law 1060 = .ok (.iaload, 1) := by decide +kernel
theorem dL_law_1061 : decode cL_law 1061 = .ok (.invokevirtual 88, 3) := by decide +kernel
theorem dL_law_1064 : decode cL_law 1064 = .ok (.aload_n 2, 1) := by decide +kernel
theorem dL_law_1065 : decode cL_law 1065 = .ok (.aload_n 0, 1) := by decide +kernel
theorem dL_law_1066 : decode cL_law 1066 = .ok (.iload_n 3, 1) := by decide +kernel
theorem dL_law_1067 : decode cL_law 1067 = .ok (.iconst 1, 1) := by decide +kernel
theorem dL_law_1068 : decode cL_law 1068 = .ok (.iadd, 1) := by decide +kernel
theorem dL_law_1069 : decode cL_law 1069 = .ok (.iaload, 1) := by decide +kernel
theorem dL_law_1070 : decode cL_law 1070 = .ok (.aload_n 0, 1) := by decide +kernel
theorem dL_law_1071 : decode cL_law 1071 = .ok (.iload_n 3, 1) := by decide +kernel
theorem dL_law_1072 : decode cL_law 1072 = .ok (.iconst 2, 1) := by decide +kernel
theorem dL_law_1073 : decode cL_law 1073 = .ok (.iadd, 1) := by decide +kernel
theorem dL_law_1074 : decode cL_law 1074 = .ok (.iaload, 1) := by decide +kernel
theorem dL_law_1075 : decode cL_law 1075 = .ok (.aload_n 0, 1) := by decide +kernel
theorem dL_law_1076 : decode cL_law 1076 = .ok (.iload_n 3, 1) := by decide +kernel
theorem dL_law_1077 : decode cL_law 1077 = .ok (.iconst 3, 1) := by decide +kernel
theorem dL_law_1078 : decode cL_law 1078 = .ok (.iadd, 1) := by decide +kernel
theorem dL_law_1079 : decode cL_law 1079 = .ok (.iaload, 1) := by decide +kernel
theorem dL_law_1080 : decode cL_law 1080 = .ok (.invokevirtual 91, 3) := by decide +kernel
theorem dL_law_1083 : decode cL_law 1083 = .ok (.if_icmp .eq 245, 3) := by decide +kernel
theorem dL_law_1086 : decode cL_law 1086 = .ok (.iconst 0, 1) := by decide +kernel
theorem dL_law_1087 : decode cL_law 1087 = .ok (.ireturn, 1) := by decide +kernel
theorem dL_law_1088 : decode cL_law 1088 = .ok (.aload_n 1, 1) := by decide +kernel
theorem dL_law_1089 : decode cL_law 1089 = .ok (.aload_n 0, 1) := by decide +kernel
theorem dL_law_1090 : decode cL_law 1090 = .ok (.iload_n 3, 1) := by decide +kernel
theorem dL_law_1091 : decode cL_law 1091 = .ok (.iconst 1, 1) := by decide +kernel
theorem dL_law_1092 : decode cL_law 1092 = .ok (.iadd, 1) := by decide +kernel
theorem dL_law_1093 : decode cL_law 1093 = .ok (.iaload, 1) := by decide +kernel
theorem dL_law_1094 : decode cL_law 1094 = .ok (.aload_n 0, 1) := by decide +kernel
theorem dL_law_1095 : decode cL_law 1095 = .ok (.iload_n 3, 1) := by decide +kernel
theorem dL_law_1096 : decode cL_law 1096 = .ok (.iconst 2, 1) := by decide +kernel
theorem dL_law_1097 : decode cL_law 1097 = .ok (.iadd, 1) := by decide +kernel
theorem dL_law_1098 : decode cL_law 1098 = .ok (.iaload, 1) := by decide +kernel
theorem dL_law_1099 : decode cL_law 1099 = .ok (.aload_n 0, 1) := by decide +kernel
theorem dL_law_1100 : decode cL_law 1100 = .ok (.iload_n 3, 1) := by decide +kernel
theorem dL_law_1101 : decode cL_law 1101 = .ok (.iconst 3, 1) := by decide +kernel
theorem dL_law_1102 : decode cL_law 1102 = .ok (.iadd, 1) := by decide +kernel
theorem dL_law_1103 : decode cL_law 1103 = .ok (.iaload, 1) := by decide +kernel
theorem dL_law_1104 : decode cL_law 1104 = .ok (.ifCond .eq 7, 3) := by decide +kernel
theorem dL_law_1107 : decode cL_law 1107 = .ok (.iconst 1, 1) := by decide +kernel
theorem dL_law_1108 : decode cL_law 1108 = .ok (.goto 4, 3) := by decide +kernel
theorem dL_law_1111 : decode cL_law 1111 = .ok (.iconst 0, 1) := by decide +kernel
theorem dL_law_1112 : decode cL_law 1112 = .ok (.invokevirtual 92, 3) := by decide +kernel
theorem dL_law_1115 : decode cL_law 1115 = .ok (.aload_n 2, 1) := by decide +kernel
theorem dL_law_1116 : decode cL_law 1116 = .ok (.aload_n 0, 1) := by decide +kernel
theorem dL_law_1117 : decode cL_law 1117 = .ok (.iload_n 3, 1) := by decide +kernel
theorem dL_law_1118 : decode cL_law 1118 = .ok (.iconst 1, 1) := by decide +kernel
theorem dL_law_1119 : decode cL_law 1119 = .ok (.iadd, 1) := by decide +kernel
theorem dL_law_1120 : decode cL_law 1120 = .ok (.iaload, 1) := by decide +kernel
theorem dL_law_1121 : decode cL_law 1121 = .ok (.aload_n 0, 1) := by decide +kernel
theorem dL_law_1122 : decode cL_law 1122 = .ok (.iload_n 3, 1) := by decide +kernel
theorem dL_law_1123 : decode cL_law 1123 = .ok (.iconst 2, 1) := by decide +kernel
theorem dL_law_1124 : decode cL_law 1124 = .ok (.iadd, 1) := by decide +kernel
theorem dL_law_1125 : decode cL_law 1125 = .ok (.iaload, 1) := by decide +kernel
theorem dL_law_1126 : decode cL_law 1126 = .ok (.aload_n 0, 1) := by decide +kernel
theorem dL_law_1127 : decode cL_law 1127 = .ok (.iload_n 3, 1) := by decide +kernel
theorem dL_law_1128 : decode cL_law 1128 = .ok (.iconst 3, 1) := by decide +kernel
theorem dL_law_1129 : decode cL_law 1129 = .ok (.iadd, 1) := by decide +kernel
theorem dL_law_1130 : decode cL_law 1130 = .ok (.iaload, 1) := by decide +kernel
theorem dL_law_1131 : decode cL_law 1131 = .ok (.ifCond .eq 7, 3) := by decide +kernel
theorem dL_law_1134 : decode cL_law 1134 = .ok (.iconst 1, 1) := by decide +kernel
theorem dL_law_1135 : decode cL_law 1135 = .ok (.goto 4, 3) := by decide +kernel
theorem dL_law_1138 : decode cL_law 1138 = .ok (.iconst 0, 1) := by decide +kernel
theorem dL_law_1139 : decode cL_law 1139 = .ok (.invokevirtual 95, 3) := by decide +kernel
theorem dL_law_1142 : decode cL_law 1142 = .ok (.if_icmp .eq 186, 3) := by decide +kernel
theorem dL_law_1145 : decode cL_law 1145 = .ok (.iconst 0, 1) := by decide +kernel
theorem dL_law_1146 : decode cL_law 1146 = .ok (.ireturn, 1) := by decide +kernel
theorem dL_law_1147 : decode cL_law 1147 = .ok (.aload_n 1, 1) := by decide +kernel
theorem dL_law_1148 : decode cL_law 1148 = .ok (.aload_n 0, 1) := by decide +kernel
theorem dL_law_1149 : decode cL_law 1149 = .ok (.iload_n 3, 1) := by decide +kernel
theorem dL_law_1150 : decode cL_law 1150 = .ok (.iconst 1, 1) := by decide +kernel
theorem dL_law_1151 : decode cL_law 1151 = .ok (.iadd, 1) := by decide +kernel
theorem dL_law_1152 : decode cL_law 1152 = .ok (.iaload, 1) := by decide +kernel
theorem dL_law_1153 : decode cL_law 1153 = .ok (.aload_n 0, 1) := by decide +kernel
theorem dL_law_1154 : decode cL_law 1154 = .ok (.iload_n 3, 1) := by decide +kernel
theorem dL_law_1155 : decode cL_law 1155 = .ok (.iconst 2, 1) := by decide +kernel
theorem dL_law_1156 : decode cL_law 1156 = .ok (.iadd, 1) := by decide +kernel
theorem dL_law_1157 : decode cL_law 1157 = .ok (.iaload, 1) := by decide +kernel
theorem dL_law_1158 : decode cL_law 1158 = .ok (.aload_n 0, 1) := by decide +kernel
theorem dL_law_1159 : decode cL_law 1159 = .ok (.iload_n 3, 1) := by decide +kernel
theorem dL_law_1160 : decode cL_law 1160 = .ok (.iconst 3, 1) := by decide +kernel
theorem dL_law_1161 : decode cL_law 1161 = .ok (.iadd, 1) := by decide +kernel
theorem dL_law_1162 : decode cL_law 1162 = .ok (.iaload, 1) := by decide +kernel
theorem dL_law_1163 : decode cL_law 1163 = .ok (.aload_n 0, 1) := by decide +kernel
theorem dL_law_1164 : decode cL_law 1164 = .ok (.iload_n 3, 1) := by decide +kernel
theorem dL_law_1165 : decode cL_law 1165 = .ok (.iconst 4, 1) := by decide +kernel
theorem dL_law_1166 : decode cL_law 1166 = .ok (.iadd, 1) := by decide +kernel
theorem dL_law_1167 : decode cL_law 1167 = .ok (.iaload, 1) := by decide +kernel
theorem dL_law_1168 : decode cL_law 1168 = .ok (.ifCond .eq 7, 3) := by decide +kernel
theorem dL_law_1171 : decode cL_law 1171 = .ok (.iconst 1, 1) := by decide +kernel
theorem dL_law_1172 : decode cL_law 1172 = .ok (.goto 4, 3) := by decide +kernel
theorem dL_law_1175 : decode cL_law 1175 = .ok (.iconst 0, 1) := by decide +kernel
theorem dL_law_1176 : decode cL_law 1176 = .ok (.invokevirtual 96, 3) := by decide +kernel
theorem dL_law_1179 : decode cL_law 1179 = .ok (.aload_n 2, 1) := by decide +kernel
theorem dL_law_1180 : decode cL_law 1180 = .ok (.aload_n 0, 1) := by decide +kernel
theorem dL_law_1181 : decode cL_law 1181 = .ok (.iload_n 3, 1) := by decide +kernel
theorem dL_law_1182 : decode cL_law 1182 = .ok (.iconst 1, 1) := by decide +kernel
theorem dL_law_1183 : decode cL_law 1183 = .ok (.iadd, 1) := by decide +kernel
theorem dL_law_1184 : decode cL_law 1184 = .ok (.iaload, 1) := by decide +kernel
theorem dL_law_1185 : decode cL_law 1185 = .ok (.aload_n 0, 1) := by decide +kernel
theorem dL_law_1186 : decode cL_law 1186 = .ok (.iload_n 3, 1) := by decide +kernel
theorem dL_law_1187 : decode cL_law 1187 = .ok (.iconst 2, 1) := by decide +kernel
theorem dL_law_1188 : decode cL_law 1188 = .ok (.iadd, 1) := by decide +kernel
theorem dL_law_1189 : decode cL_law 1189 = .ok (.iaload, 1) := by decide +kernel
theorem dL_law_1190 : decode cL_law 1190 = .ok (.aload_n 0, 1) := by decide +kernel
theorem dL_law_1191 : decode cL_law 1191 = .ok (.iload_n 3, 1) := by decide +kernel
theorem dL_law_1192 : decode cL_law 1192 = .ok (.iconst 3, 1) := by decide +kernel
theorem dL_law_1193 : decode cL_law 1193 = .ok (.iadd, 1) := by decide +kernel
theorem dL_law_1194 : decode cL_law 1194 = .ok (.iaload, 1) := by decide +kernel
theorem dL_law_1195 : decode cL_law 1195 = .ok (.aload_n 0, 1) := by decide +kernel
theorem dL_law_1196 : decode cL_law 1196 = .ok (.iload_n 3, 1) := by decide +kernel
theorem dL_law_1197 : decode cL_law 1197 = .ok (.iconst 4, 1) := by decide +kernel
theorem dL_law_1198 : decode cL_law 1198 = .ok (.iadd, 1) := by decide +kernel
theorem dL_law_1199 : decode cL_law 1199 = .ok (.iaload, 1) := by decide +kernel
theorem dL_law_1200 : decode cL_law 1200 = .ok (.ifCond .eq 7, 3) := by decide +kernel
theorem dL_law_1203 : decode cL_law 1203 = .ok (.iconst 1, 1) := by decide +kernel
theorem dL_law_1204 : decode cL_law 1204 = .ok (.goto 4, 3) := by decide +kernel
theorem dL_law_1207 : decode cL_law 1207 = .ok (.iconst 0, 1) := by decide +kernel
theorem dL_law_1208 : decode cL_law 1208 = .ok (.invokevirtual 100, 3) := by decide +kernel
theorem dL_law_1211 : decode cL_law 1211 = .ok (.if_icmp .eq 117, 3) := by decide +kernel
theorem dL_law_1214 : decode cL_law 1214 = .ok (.iconst 0, 1) := by decide +kernel
theorem dL_law_1215 : decode cL_law 1215 = .ok (.ireturn, 1) := by decide +kernel
theorem dL_law_1216 : decode cL_law 1216 = .ok (.aload_n 1, 1) := by decide +kernel
theorem dL_law_1217 : decode cL_law 1217 = .ok (.aload_n 0, 1) := by decide +kernel
theorem dL_law_1218 : decode cL_law 1218 = .ok (.iload_n 3, 1) := by decide +kernel
theorem dL_law_1219 : decode cL_law 1219 = .ok (.iconst 1, 1) := by decide +kernel
theorem dL_law_1220 : decode cL_law 1220 = .ok (.iadd, 1) := by decide +kernel
theorem dL_law_1221 : decode cL_law 1221 = .ok (.iaload, 1) := by decide +kernel
theorem dL_law_1222 : decode cL_law 1222 = .ok (.aload_n 0, 1) := by decide +kernel
theorem dL_law_1223 : decode cL_law 1223 = .ok (.iload_n 3, 1) := by decide +kernel
theorem dL_law_1224 : decode cL_law 1224 = .ok (.iconst 2, 1) := by decide +kernel
theorem dL_law_1225 : decode cL_law 1225 = .ok (.iadd, 1) := by decide +kernel
theorem dL_law_1226 : decode cL_law 1226 = .ok (.iaload, 1) := by decide +kernel
theorem dL_law_1227 : decode cL_law 1227 = .ok (.aload_n 0, 1) := by decide +kernel
theorem dL_law_1228 : decode cL_law 1228 = .ok (.iload_n 3, 1) := by decide +kernel
theorem dL_law_1229 : decode cL_law 1229 = .ok (.iconst 3, 1) := by decide +kernel
theorem dL_law_1230 : decode cL_law 1230 = .ok (.iadd, 1) := by decide +kernel
theorem dL_law_1231 : decode cL_law 1231 = .ok (.iaload, 1) := by decide +kernel
theorem dL_law_1232 : decode cL_law 1232 = .ok (.invokevirtual 101, 3) := by decide +kernel
theorem dL_law_1235 : decode cL_law 1235 = .ok (.aload_n 2, 1) := by decide +kernel
theorem dL_law_1236 : decode cL_law 1236 = .ok (.aload_n 0, 1) := by decide +kernel
theorem dL_law_1237 : decode cL_law 1237 = .ok (.iload_n 3, 1) := by decide +kernel
theorem dL_law_1238 : decode cL_law 1238 = .ok (.iconst 1, 1) := by decide +kernel
theorem dL_law_1239 : decode cL_law 1239 = .ok (.iadd, 1) := by decide +kernel
theorem dL_law_1240 : decode cL_law 1240 = .ok (.iaload, 1) := by decide +kernel
theorem dL_law_1241 : decode cL_law 1241 = .ok (.aload_n 0, 1) := by decide +kernel
theorem dL_law_1242 : decode cL_law 1242 = .ok (.iload_n 3, 1) := by decide +kernel
theorem dL_law_1243 : decode cL_law 1243 = .ok (.iconst 2, 1) := by decide +kernel
theorem dL_law_1244 : decode cL_law 1244 = .ok (.iadd, 1) := by decide +kernel
theorem dL_law_1245 : decode cL_law 1245 = .ok (.iaload, 1) := by decide +kernel
theorem dL_law_1246 : decode cL_law 1246 = .ok (.aload_n 0, 1) := by decide +kernel
theorem dL_law_1247 : decode cL_law 1247 = .ok (.iload_n 3, 1) := by decide +kernel
theorem dL_law_1248 : decode cL_law 1248 = .ok (.iconst 3, 1) := by decide +kernel
theorem dL_law_1249 : decode cL_law 1249 = .ok (.iadd, 1) := by decide +kernel
theorem dL_law_1250 : decode cL_law 1250 = .ok (.iaload, 1) := by decide +kernel
theorem dL_law_1251 : decode cL_law 1251 = .ok (.invokevirtual 104, 3) := by decide +kernel
theorem dL_law_1254 : decode cL_law 1254 = .ok (.if_icmp .eq 74, 3) := by decide +kernel
theorem dL_law_1257 : decode cL_law 1257 = .ok (.iconst 0, 1) := by decide +kernel
theorem dL_law_1258 : decode cL_law 1258 = .ok (.ireturn, 1) := by decide +kernel
theorem dL_law_1259 : decode cL_law 1259 = .ok (.aload_n 1, 1) := by decide +kernel
theorem dL_law_1260 : decode cL_law 1260 = .ok (.aload_n 0, 1) := by decide +kernel
theorem dL_law_1261 : decode cL_law 1261 = .ok (.iload_n 3, 1) := by decide +kernel
theorem dL_law_1262 : decode cL_law 1262 = .ok (.iconst 1, 1) := by decide +kernel
theorem dL_law_1263 : decode cL_law 1263 = .ok (.iadd, 1) := by decide +kernel
theorem dL_law_1264 : decode cL_law 1264 = .ok (.iaload, 1) := by decide +kernel
theorem dL_law_1265 : decode cL_law 1265 = .ok (.aload_n 0, 1) := by decide +kernel
theorem dL_law_1266 : decode cL_law 1266 = .ok (.iload_n 3, 1) := by decide +kernel
theorem dL_law_1267 : decode cL_law 1267 = .ok (.iconst 2, 1) := by decide +kernel
theorem dL_law_1268 : decode cL_law 1268 = .ok (.iadd, 1) := by decide +kernel
theorem dL_law_1269 : decode cL_law 1269 = .ok (.iaload, 1) := by decide +kernel
theorem dL_law_1270 : decode cL_law 1270 = .ok (.invokevirtual 105, 3) := by decide +kernel
theorem dL_law_1273 : decode cL_law 1273 = .ok (.aload_n 2, 1) := by decide +kernel
theorem dL_law_1274 : decode cL_law 1274 = .ok (.aload_n 0, 1) := by decide +kernel
theorem dL_law_1275 : decode cL_law 1275 = .ok (.iload_n 3, 1) := by decide +kernel
theorem dL_law_1276 : decode cL_law 1276 = .ok (.iconst 1, 1) := by decide +kernel
theorem dL_law_1277 : decode cL_law 1277 = .ok (.iadd, 1) := by decide +kernel
theorem dL_law_1278 : decode cL_law 1278 = .ok (.iaload, 1) := by decide +kernel
theorem dL_law_1279 : decode cL_law 1279 = .ok (.aload_n 0, 1) := by decide +kernel
theorem dL_law_1280 : decode cL_law 1280 = .ok (.iload_n 3, 1) := by decide +kernel
theorem dL_law_1281 : decode cL_law 1281 = .ok (.iconst 2, 1) := by decide +kernel
theorem dL_law_1282 : decode cL_law 1282 = .ok (.iadd, 1) := by decide +kernel
theorem dL_law_1283 : decode cL_law 1283 = .ok (.iaload, 1) := by decide +kernel
theorem dL_law_1284 : decode cL_law 1284 = .ok (.invokevirtual 108, 3) := by decide +kernel
theorem dL_law_1287 : decode cL_law 1287 = .ok (.if_icmp .eq 41, 3) := by decide +kernel
theorem dL_law_1290 : decode cL_law 1290 = .ok (.iconst 0, 1) := by decide +kernel
theorem dL_law_1291 : decode cL_law 1291 = .ok (.ireturn, 1) := by decide +kernel
theorem dL_law_1292 : decode cL_law 1292 = .ok (.aload_n 1, 1) := by decide +kernel
theorem dL_law_1293 : decode cL_law 1293 = .ok (.aload_n 0, 1) := by decide +kernel
theorem dL_law_1294 : decode cL_law 1294 = .ok (.iload_n 3, 1) := by decide +kernel
theorem dL_law_1295 : decode cL_law 1295 = .ok (.iconst 1, 1) := by decide +kernel
theorem dL_law_1296 : decode cL_law 1296 = .ok (.iadd, 1) := by decide +kernel
theorem dL_law_1297 : decode cL_law 1297 = .ok (.iaload, 1) := by decide +kernel
theorem dL_law_1298 : decode cL_law 1298 = .ok (.invokevirtual 109, 3) := by decide +kernel
theorem dL_law_1301 : decode cL_law 1301 = .ok (.aload_n 2, 1) := by decide +kernel
theorem dL_law_1302 : decode cL_law 1302 = .ok (.aload_n 0, 1) := by decide +kernel
theorem dL_law_1303 : decode cL_law 1303 = .ok (.iload_n 3, 1) := by decide +kernel
theorem dL_law_1304 : decode cL_law 1304 = .ok (.iconst 1, 1) := by decide +kernel
theorem dL_law_1305 : decode cL_law 1305 = .ok (.iadd, 1) := by decide +kernel
theorem dL_law_1306 : decode cL_law 1306 = .ok (.iaload, 1) := by decide +kernel
theorem dL_law_1307 : decode cL_law 1307 = .ok (.invokevirtual 113, 3) := by decide +kernel
theorem dL_law_1310 : decode cL_law 1310 = .ok (.if_icmp .eq 18, 3) := by decide +kernel
theorem dL_law_1313 : decode cL_law 1313 = .ok (.iconst 0, 1) := by decide +kernel
theorem dL_law_1314 : decode cL_law 1314 = .ok (.ireturn, 1) := by decide +kernel
theorem dL_law_1315 : decode cL_law 1315 = .ok (.aload_n 1, 1) := by decide +kernel
theorem dL_law_1316 : decode cL_law 1316 = .ok (.invokevirtual 114, 3) := by decide +kernel
theorem dL_law_1319 : decode cL_law 1319 = .ok (.aload_n 2, 1) := by decide +kernel
theorem dL_law_1320 : decode cL_law 1320 = .ok (.invokevirtual 118, 3) := by decide +kernel
theorem dL_law_1323 : decode cL_law 1323 = .ok (.if_icmp .eq 5, 3) := by decide +kernel
theorem dL_law_1326 : decode cL_law 1326 = .ok (.iconst 0, 1) := by decide +kernel
theorem dL_law_1327 : decode cL_law 1327 = .ok (.ireturn, 1) := by decide +kernel
theorem dL_law_1328 : decode cL_law 1328 = .ok (.iinc 3 7, 3) := by decide +kernel
theorem dL_law_1331 : decode cL_law 1331 = .ok (.goto (-1313), 3) := by decide +kernel
theorem dL_law_1334 : decode cL_law 1334 = .ok (.iconst 1, 1) := by decide +kernel
theorem dL_law_1335 : decode cL_law 1335 = .ok (.ireturn, 1) := by decide +kernel
end
section
/-! THE ABSTRACT WORLD: a list of cells, by number (0 is the first cell that the law makes); references are numbers. Mine. -/
abbrev xmV : Type := Int32 ⊕ (Int64 ⊕ (Option Nat ⊕ Nat))
abbrev xI (x : Int32) : xmV := Sum.inl x
abbrev xL (x : Int64) : xmV := Sum.inr (Sum.inl x)
abbrev xR (r : Option Nat) : xmV := Sum.inr (Sum.inr (Sum.inl r))
abbrev xS (a : Nat) : xmV := Sum.inr (Sum.inr (Sum.inr a))
abbrev xmE : Type := (Nat × List xmV) ⊕ (Nat × Nat × ((Nat → Int32) ⊕ (Nat → Option Nat)))
abbrev xmW : Type := List xmE
def xmcv (b : Nat) : xmV → Value
  | Sum.inl x => .int x
  | Sum.inr (Sum.inl x) => .long x
  | Sum.inr (Sum.inr (Sum.inl r)) => va_rf (r.map (b + ·))
  | Sum.inr (Sum.inr (Sum.inr a)) => .ref a
def xm2 : xmV → Bool
  | Sum.inr (Sum.inl _) => true
  | _ => false
theorem xm_cat (b : Nat) (v : xmV) : (xmcv b v).category = if xm2 v then 2 else 1 := by
  rcases v with x | x | r | a
  · rfl
  · rfl
  · cases r <;> rfl
  · rfl
theorem xm_cat2 (b : Nat) (v : xmV) : ((xmcv b v).category == 2) = xm2 v := by
  rw [xm_cat]; cases xm2 v <;> rfl
abbrev xmT (ks : Nat → ClassId) : List (ClassId × FieldType) := [(ks 0, .int), (ks 1, .boolean), (ks 2, .object "SmallFloats$Format"), (ks 3, .object "SmallFloats$Row")]
def xmce (ks : Nat → ClassId) (b : Nat) : xmE → va_E
  | Sum.inl (ci, fs) => Sum.inr (ci, fs.map (xmcv b))
  | Sum.inr (t, n, Sum.inl f) => Sum.inl (ks t, n, Sum.inl f)
  | Sum.inr (t, n, Sum.inr f) => Sum.inl (ks t, n, Sum.inr (Sum.inr (Sum.inr (Sum.inr (fun i => (f i).map (b + ·))))))
def xmws (ks : Nat → ClassId) (b : Nat) (w : xmW) : va_W := w.mapIdx (fun k e => (b + k, xmce ks b e))
def xmRP (D : va_G) (ks : Nat → ClassId) (b : Nat) (w : xmW) (H : Heap) : Prop := va_P D vwCl (xmws ks b w) H ∧ H.size = b + w.length
abbrev xmA (b : Nat) : Nat → Prop := fun q => b ≤ q
theorem xmws_get {ks : Nat → ClassId} {b : Nat} {w : xmW} {k : Nat} {e : xmE} (h : w[k]? = some e) : (xmws ks b w)[k]? = some (b + k, xmce ks b e) := by
  unfold xmws; rw [List.getElem?_mapIdx, h]; rfl
theorem xmws_inv {ks : Nat → ClassId} {b : Nat} {w : xmW} {k : Nat} {q : Nat × va_E} (h : (xmws ks b w)[k]? = some q) : ∃ e, w[k]? = some e ∧ q = (b + k, xmce ks b e) := by
  unfold xmws at h; rw [List.getElem?_mapIdx] at h
  cases hk : w[k]? with
  | none => rw [hk] at h; cases h
  | some e => rw [hk] at h; exact ⟨e, rfl, (Option.some.inj h).symm⟩
theorem xmws_set {ks : Nat → ClassId} {b : Nat} {w : xmW} {k : Nat} {e : xmE} : (xmws ks b w).set k (b + k, xmce ks b e) = xmws ks b (w.set k e) := by
  apply List.ext_getElem?
  intro i
  unfold xmws
  rw [List.getElem?_set, List.getElem?_mapIdx, List.getElem?_mapIdx, List.getElem?_set, List.length_mapIdx]
  by_cases hi : k = i
  · subst hi
    rw [if_pos rfl, if_pos rfl]
    by_cases hl : k < w.length
    · rw [if_pos hl, if_pos hl]; rfl
    · rw [if_neg hl, if_neg hl]; rfl
  · rw [if_neg hi, if_neg hi]
theorem xmws_app {ks : Nat → ClassId} {b : Nat} {w : xmW} {e : xmE} : xmws ks b w ++ [(b + w.length, xmce ks b e)] = xmws ks b (w ++ [e]) := by
  apply List.ext_getElem?
  intro i
  unfold xmws
  rw [List.getElem?_mapIdx, List.getElem?_append, List.getElem?_append, List.length_mapIdx, List.getElem?_mapIdx]
  by_cases hi : i < w.length
  · rw [if_pos hi, if_pos hi]
  · rw [if_neg hi, if_neg hi]
    by_cases hz : i = w.length
    · subst hz; simp
    · have : ∃ j, i - w.length = j + 1 := ⟨i - w.length - 1, by omega⟩
      obtain ⟨j, hj⟩ := this
      rw [hj]; rfl
theorem xm_D {ks : Nat → ClassId} {b : Nat} {w : xmW} : va_D (xmA b) (xmws ks b w) := by
  refine ⟨fun i j p q hp hq hpq => ?_, fun k q hq => ?_⟩
  · obtain ⟨e1, -, rfl⟩ := xmws_inv hp
    obtain ⟨e2, -, rfl⟩ := xmws_inv hq
    have h : b + i = b + j := hpq
    omega
  · obtain ⟨e1, -, rfl⟩ := xmws_inv hq
    exact Nat.le_add_right _ _
/-! reads and writes of the abstract world -/
def xmob (w : xmW) (r : Option Nat) (ci : Nat) : Option (List xmV) := match r with
  | none => none
  | some k => match w[k]? with
    | some (Sum.inl (c, fs)) => if c = ci then some fs else none
    | _ => none
def xmgI (w : xmW) (r : Option Nat) (ci j : Nat) : Option Int32 := match xmob w r ci with
  | some fs => match fs[j]? with
    | some (Sum.inl x) => some x
    | _ => none
  | none => none
def xmgL (w : xmW) (r : Option Nat) (ci j : Nat) : Option Int64 := match xmob w r ci with
  | some fs => match fs[j]? with
    | some (Sum.inr (Sum.inl x)) => some x
    | _ => none
  | none => none
def xmgR (w : xmW) (r : Option Nat) (ci j : Nat) : Option (Option Nat) := match xmob w r ci with
  | some fs => match fs[j]? with
    | some (Sum.inr (Sum.inr (Sum.inl x))) => some x
    | _ => none
  | none => none
def xmput (w : xmW) (r : Option Nat) (ci j : Nat) (v : xmV) : Option xmW := match r with
  | none => none
  | some k => match w[k]? with
    | some (Sum.inl (c, fs)) => if c = ci ∧ j < fs.length then some (w.set k (Sum.inl (c, fs.set j v))) else none
    | _ => none
/-- a boolean kept in a field, or answered -/
def xmbz (x : Int32) : Option Int32 := if x = 0 ∨ x = 1 then some x else none
def xmai (w : xmW) (r : Option Nat) (t : Nat) : Option (Nat × (Nat → Int32)) := match r with
  | none => none
  | some k => match w[k]? with
    | some (Sum.inr (u, n, Sum.inl f)) => if u = t then some (n, f) else none
    | _ => none
def xmaq (w : xmW) (r : Option Nat) (t : Nat) : Option (Nat × (Nat → Option Nat)) := match r with
  | none => none
  | some k => match w[k]? with
    | some (Sum.inr (u, n, Sum.inr f)) => if u = t then some (n, f) else none
    | _ => none
def xmild (w : xmW) (r : Option Nat) (t : Nat) (i : Int32) : Option Int32 := match xmai w r t with
  | some (n, f) => if 0 ≤ i ∧ i.toNatClampNeg < n then some (f i.toNatClampNeg) else none
  | none => none
def xmqld (w : xmW) (r : Option Nat) (t : Nat) (i : Int32) : Option (Option Nat) := match xmaq w r t with
  | some (n, f) => if 0 ≤ i ∧ i.toNatClampNeg < n then some (f i.toNatClampNeg) else none
  | none => none
def xmlen (w : xmW) (r : Option Nat) (t : Nat) : Option Int32 := match xmai w r t with
  | some (n, _) => some (Int32.ofNat n)
  | none => none
def xmist (w : xmW) (r : Option Nat) (t : Nat) (i x : Int32) : Option xmW := match r with
  | none => none
  | some k => match w[k]? with
    | some (Sum.inr (u, n, Sum.inl f)) => if u = t ∧ 0 ≤ i ∧ i.toNatClampNeg < n then some (w.set k (Sum.inr (u, n, Sum.inl (upd f i.toNatClampNeg x)))) else none
    | _ => none
def xmqst (w : xmW) (r : Option Nat) (t : Nat) (ci : Nat) (i : Int32) (x : Option Nat) : Option xmW := match r, xmob w x ci with
  | some k, some _ => match w[k]? with
    | some (Sum.inr (u, n, Sum.inr f)) => if u = t ∧ 0 ≤ i ∧ i.toNatClampNeg < n then some (w.set k (Sum.inr (u, n, Sum.inr (va_up f i.toNatClampNeg x)))) else none
    | _ => none
  | _, _ => none
def xmnew (w : xmW) (ci : Nat) (fs : List xmV) : Option xmW := some (w ++ [Sum.inl (ci, fs)])
def xmnai (w : xmW) (t n : Nat) : Option xmW := some (w ++ [Sum.inr (t, n, Sum.inl (fun _ => 0))])
def xmnaq (w : xmW) (t n : Nat) : Option xmW := some (w ++ [Sum.inr (t, n, Sum.inr (fun _ => none))])
theorem xm_bind {α β : Type} {x : Option α} {f : α → Option β} {z : β} (h : x.bind f = some z) : ∃ a, x = some a ∧ f a = some z := by
  cases x with
  | none => cases h
  | some a => exact ⟨a, rfl, h⟩
theorem xmob_at {w : xmW} {r : Option Nat} {ci : Nat} {fs : List xmV} (h : xmob w r ci = some fs) : ∃ k, r = some k ∧ w[k]? = some (Sum.inl (ci, fs)) := by
  cases r with
  | none => cases h
  | some k =>
    refine ⟨k, rfl, ?_⟩
    simp only [xmob] at h
    split at h
    · rename_i c fs' hk
      split at h
      · rename_i hc
        rw [hk, hc, Option.some.inj h]
      · cases h
    · cases h
theorem xmgI_at {w : xmW} {r : Option Nat} {ci j : Nat} {x : Int32} (h : xmgI w r ci j = some x) : ∃ k fs, r = some k ∧ w[k]? = some (Sum.inl (ci, fs)) ∧ fs[j]? = some (xI x) := by
  unfold xmgI at h
  split at h
  · rename_i fs hf
    obtain ⟨k, h1, h2⟩ := xmob_at hf
    split at h
    · rename_i x' hx
      exact ⟨k, fs, h1, h2, by rw [hx, Option.some.inj h]⟩
    · cases h
  · cases h
theorem xmgL_at {w : xmW} {r : Option Nat} {ci j : Nat} {x : Int64} (h : xmgL w r ci j = some x) : ∃ k fs, r = some k ∧ w[k]? = some (Sum.inl (ci, fs)) ∧ fs[j]? = some (xL x) := by
  unfold xmgL at h
  split at h
  · rename_i fs hf
    obtain ⟨k, h1, h2⟩ := xmob_at hf
    split at h
    · rename_i x' hx
      exact ⟨k, fs, h1, h2, by rw [hx, Option.some.inj h]⟩
    · cases h
  · cases h
theorem xmgR_at {w : xmW} {r : Option Nat} {ci j : Nat} {x : Option Nat} (h : xmgR w r ci j = some x) : ∃ k fs, r = some k ∧ w[k]? = some (Sum.inl (ci, fs)) ∧ fs[j]? = some (xR x) := by
  unfold xmgR at h
  split at h
  · rename_i fs hf
    obtain ⟨k, h1, h2⟩ := xmob_at hf
    split at h
    · rename_i x' hx
      exact ⟨k, fs, h1, h2, by rw [hx, Option.some.inj h]⟩
    · cases h
  · cases h
theorem xmput_at {w w' : xmW} {r : Option Nat} {ci j : Nat} {v : xmV} (h : xmput w r ci j v = some w') : ∃ k fs, r = some k ∧ w[k]? = some (Sum.inl (ci, fs)) ∧ j < fs.length ∧ w' = w.set k (Sum.inl (ci, fs.set j v)) := by
  cases r with
  | none => cases h
  | some k =>
    simp only [xmput] at h
    split at h
    · rename_i c fs hk
      split at h
      · rename_i hc
        obtain ⟨hc1, hc2⟩ := hc
        subst hc1
        exact ⟨k, fs, rfl, hk, hc2, (Option.some.inj h).symm⟩
      · cases h
    · cases h
theorem xmai_at {w : xmW} {r : Option Nat} {t n : Nat} {f : Nat → Int32} (h : xmai w r t = some (n, f)) : ∃ k, r = some k ∧ w[k]? = some (Sum.inr (t, n, Sum.inl f)) := by
  cases r with
  | none => cases h
  | some k =>
    simp only [xmai] at h
    split at h
    · rename_i u n' f' hk
      split at h
      · rename_i hc
        obtain ⟨h1, h2⟩ := Prod.mk.inj (Option.some.inj h)
        exact ⟨k, rfl, by rw [hk, hc, h1, h2]⟩
      · cases h
    · cases h
theorem xmaq_at {w : xmW} {r : Option Nat} {t n : Nat} {f : Nat → Option Nat} (h : xmaq w r t = some (n, f)) : ∃ k, r = some k ∧ w[k]? = some (Sum.inr (t, n, Sum.inr f)) := by
  cases r with
  | none => cases h
  | some k =>
    simp only [xmaq] at h
    split at h
    · rename_i u n' f' hk
      split at h
      · rename_i hc
        obtain ⟨h1, h2⟩ := Prod.mk.inj (Option.some.inj h)
        exact ⟨k, rfl, by rw [hk, hc, h1, h2]⟩
      · cases h
    · cases h
theorem xm_in {i : Int32} {n : Nat} (h : 0 ≤ i ∧ i.toNatClampNeg < n) : vp_in i n := by
  intro q
  rcases q with q | q
  · exact absurd h.1 (by rw [Int32.not_le]; exact q)
  · omega
theorem xmild_at {w : xmW} {r : Option Nat} {t : Nat} {i x : Int32} (h : xmild w r t i = some x) : ∃ k n f, r = some k ∧ w[k]? = some (Sum.inr (t, n, Sum.inl f)) ∧ vp_in i n ∧ f i.toNatClampNeg = x := by
  unfold xmild at h
  split at h
  · rename_i n f hf
    obtain ⟨k, h1, h2⟩ := xmai_at hf
    split at h
    · rename_i hc
      exact ⟨k, n, f, h1, h2, xm_in hc, Option.some.inj h⟩
    · cases h
  · cases h
theorem xmqld_at {w : xmW} {r : Option Nat} {t : Nat} {i : Int32} {x : Option Nat} (h : xmqld w r t i = some x) : ∃ k n f, r = some k ∧ w[k]? = some (Sum.inr (t, n, Sum.inr f)) ∧ vp_in i n ∧ f i.toNatClampNeg = x := by
  unfold xmqld at h
  split at h
  · rename_i n f hf
    obtain ⟨k, h1, h2⟩ := xmaq_at hf
    split at h
    · rename_i hc
      exact ⟨k, n, f, h1, h2, xm_in hc, Option.some.inj h⟩
    · cases h
  · cases h
theorem xmlen_at {w : xmW} {r : Option Nat} {t : Nat} {x : Int32} (h : xmlen w r t = some x) : ∃ k n f, r = some k ∧ w[k]? = some (Sum.inr (t, n, Sum.inl f)) ∧ Int32.ofNat n = x := by
  unfold xmlen at h
  split at h
  · rename_i n f hf
    obtain ⟨k, h1, h2⟩ := xmai_at hf
    exact ⟨k, n, f, h1, h2, Option.some.inj h⟩
  · cases h
theorem xmist_at {w w' : xmW} {r : Option Nat} {t : Nat} {i x : Int32} (h : xmist w r t i x = some w') : ∃ k n f, r = some k ∧ w[k]? = some (Sum.inr (t, n, Sum.inl f)) ∧ vp_in i n ∧ w' = w.set k (Sum.inr (t, n, Sum.inl (upd f i.toNatClampNeg x))) := by
  cases r with
  | none => cases h
  | some k =>
    simp only [xmist] at h
    split at h
    · rename_i u n f hk
      split at h
      · rename_i hc
        obtain ⟨hc1, hc2⟩ := hc
        subst hc1
        exact ⟨k, n, f, rfl, hk, xm_in hc2, (Option.some.inj h).symm⟩
      · cases h
    · cases h
theorem xmqst_at {w w' : xmW} {r x : Option Nat} {t ci : Nat} {i : Int32} (h : xmqst w r t ci i x = some w') : ∃ k n f kx fs, r = some k ∧ x = some kx ∧ w[kx]? = some (Sum.inl (ci, fs)) ∧ w[k]? = some (Sum.inr (t, n, Sum.inr f)) ∧ vp_in i n ∧ w' = w.set k (Sum.inr (t, n, Sum.inr (va_up f i.toNatClampNeg x))) := by
  unfold xmqst at h
  split at h
  · rename_i k fs hx
    obtain ⟨kx, h1, h2⟩ := xmob_at hx
    split at h
    · rename_i u n f hk
      split at h
      · rename_i hc
        obtain ⟨hc1, hc2⟩ := hc
        subst hc1
        exact ⟨k, n, f, kx, fs, rfl, h1, h2, hk, xm_in hc2, (Option.some.inj h).symm⟩
      · cases h
    · cases h
  · cases h
/-! locals -/
def xmlv (b : Nat) (lv : List (Nat × xmV)) : List (Nat × Value) := lv.map fun q => (q.1, xmcv b q.2)
def xmst (i : Nat) (v : xmV) (lv : List (Nat × xmV)) : List (Nat × xmV) := (i, v) :: lv.filter (fun q => !(q.1 == i) && !(q.1 + 1 == i && xm2 q.2))
def xmst2 (i : Nat) (v : xmV) (lv : List (Nat × xmV)) : List (Nat × xmV) := (i, v) :: lv.filter (fun q => !(q.1 == i) && (!(q.1 == i + 1) && !(q.1 + 1 == i && xm2 q.2)))
theorem xmlv_at {b : Nat} {lv : List (Nat × xmV)} {j i : Nat} {v : xmV} (h : lv[j]? = some (i, v)) : (xmlv b lv)[j]? = some (i, xmcv b v) := by
  unfold xmlv; rw [List.getElem?_map, h]; rfl
theorem xmlv_flt (b i : Nat) (lv : List (Nat × xmV)) : (xmlv b lv).filter (fun q => !(q.1 == i) && !(q.1 + 1 == i && q.2.category == 2)) = xmlv b (lv.filter (fun q => !(q.1 == i) && !(q.1 + 1 == i && xm2 q.2))) := by
  unfold xmlv
  rw [List.filter_map]
  congr 1
  apply List.filter_congr
  intro q _
  simp only [Function.comp, xm_cat2]
theorem xmlv_flt2 (b i : Nat) (lv : List (Nat × xmV)) : (xmlv b lv).filter (fun q => !(q.1 == i) && (!(q.1 == i + 1) && !(q.1 + 1 == i && q.2.category == 2))) = xmlv b (lv.filter (fun q => !(q.1 == i) && (!(q.1 == i + 1) && !(q.1 + 1 == i && xm2 q.2)))) := by
  unfold xmlv
  rw [List.filter_map]
  congr 1
  apply List.filter_congr
  intro q _
  simp only [Function.comp, xm_cat2]
def xmarg : Nat → List xmV → List (Nat × xmV)
  | _, [] => []
  | i, v :: vs => (i, v) :: xmarg (if xm2 v then i + 2 else i + 1) vs
theorem xmarg_lv (b : Nat) (as : List xmV) : ∀ i, lv_args i (as.map (xmcv b)) = xmlv b (xmarg i as) := by
  induction as with
  | nil => intro i; rfl
  | cons v vs ih =>
    intro i
    show (i, xmcv b v) :: lv_args (if (xmcv b v).category = 2 then i + 2 else i + 1) (vs.map (xmcv b)) = (i, xmcv b v) :: xmlv b (xmarg (if xm2 v then i + 2 else i + 1) vs)
    rw [ih, xm_cat]
    cases xm2 v <;> rfl
def xmsz (as : List xmV) : Nat := (as.map fun v => if xm2 v then 2 else 1).sum
theorem xm_slen (b : Nat) (as : List xmV) : (lg_sl (as.map (xmcv b))).length = xmsz as := by
  induction as with
  | nil => rfl
  | cons v vs ih =>
    have h : lg_sl ((v :: vs).map (xmcv b)) = (if (xmcv b v).category = 2 then [Slot.val (xmcv b v), Slot.second] else [Slot.val (xmcv b v)]) ++ lg_sl (vs.map (xmcv b)) := rfl
    rw [h, List.length_append, ih, xm_cat]
    show _ = (if xm2 v then 2 else 1) + xmsz vs
    cases xm2 v <;> rfl
theorem xm_stk (b : Nat) (st : List xmV) : ((st.map (xmcv b)).map fun v => v.category).sum = xmsz st := by
  induction st with
  | nil => rfl
  | cons v vs ih =>
    show (xmcv b v).category + ((vs.map (xmcv b)).map fun v => v.category).sum = (if xm2 v then 2 else 1) + xmsz vs
    rw [ih, xm_cat]
/-! what the tables give, beside the words that keep -/
def xmK (D : va_G) (ks : Nat → ClassId) (U : State) : Prop := va_K D vwCl (xmT ks) U ∧ va_AO "SmallFloats$Format" U ∧ va_AO "SmallFloats$Row" U ∧
  va_Nw (.methodLinkNest "SmallFloats" 33 ⟨"SmallFloats$Arithmetic", "<init>", "()V"⟩ "SmallFloats") U ∧ va_Nw (.methodLinkNest "SmallFloats$Arithmetic" 11 ⟨"SmallFloats$Tally", "<init>", "()V"⟩ "SmallFloats") U ∧
  va_Nw (.methodLinkNest "SmallFloats" 40 ⟨"SmallFloats$Tally", "<init>", "()V"⟩ "SmallFloats") U ∧ va_Nw (.methodLinkNest "SmallFloats" 61 ⟨"SmallFloats$Row", "<init>", "()V"⟩ "SmallFloats") U
theorem xmK.moved {D : va_G} {ks : Nat → ClassId} {s U : State} (hW : s.WarmedH U.vm) (h : xmK D ks s) : xmK D ks U := by
  obtain ⟨h1, h2, h3, h4, h5, h6, h7⟩ := h
  exact ⟨va_K.moved hW.alike h1, va_AO.moved hW.alike h2, va_AO.moved hW.alike h3, va_Nw.warmM hW h4, va_Nw.warmM hW h5, va_Nw.warmM hW h6, va_Nw.warmM hW h7⟩
theorem xmK.call {D : va_G} {ks : Nat → ClassId} {U : State} {g : JFrame} {mk : MethodId} {a : Array Value} (h : xmK D ks U) : xmK D ks (U.calling g mk a) := by
  obtain ⟨h1, h2, h3, h4, h5, h6, h7⟩ := h
  have hvm : U.vm = (U.calling g mk a).vm := rfl
  have hal : U.vm.Alike (U.calling g mk a).vm := Vm.Alike.refl U.vm
  exact ⟨va_K.moved (u := U) hal h1, va_AO.moved (u := U) hal h2, va_AO.moved (u := U) hal h3, va_Nw.same (u := U) rfl hvm h4, va_Nw.same (u := U) rfl hvm h5, va_Nw.same (u := U) rfl hvm h6, va_Nw.same (u := U) rfl hvm h7⟩
/-! the contract and the judgement -/
def xmQ (D : va_G) (ks : Nat → ClassId) (b : Nat) (rv : Option xmV) (w' : xmW) : Array Value → State → Outcome → State → Prop := fun _ st oc t => oc = .returned (rv.map (xmcv b)) ∧ xmRP D ks b w' t.heap ∧ va_F (xmA b) st t
def xmM (l : Launch) (y : MethodName) (ws : List Cond) (fr lo mc ms : Nat) (D : va_G) (ks : Nat → ClassId) (b : Nat) (w : xmW) (as : List xmV) (rv : Option xmV) (w' : xmW) : Prop :=
  Met l y ws ({ frames := fr, cells := mc, slots := ms, locals := lo }) (va_Pc (as.map (xmcv b)) (fun U => xmRP D ks b w U.heap ∧ xmK D ks U)) (xmQ D ks b rv w') mc ms (xmA b)
def xmJ (p : Program) (l : Launch) (e : Env) (R : Room) (s : State) (m : MethodId) (args : Array Value) (below : List Frame) (meth : Method) (c : Code) (D : va_G) (ks : Nat → ClassId) (b nL : Nat) (Q : State → Prop) (w : xmW) (cells slots pc : Nat) (lv : List (Nat × xmV)) (st : List xmV) : Prop :=
  ∀ (H : Heap) (locs : List Loc) (ls : Array Slot), xmRP D ks b w H → va_S (xmA b) s.heap H locs → lv_has ls nL (xmlv b lv) → W p l e R s m args below meth c H locs cells slots Q (F0 m pc ls (st.map (xmcv b)))
def xmC (p : Program) (s : State) (m : MethodId) (args : Array Value) (meth : Method) (c : Code) (D : va_G) (ks : Nat → ClassId) (b nL : Nat) (cc : ByteArray) (own : String) : Prop :=
  p.tables.exec = Jvm.exec ∧ c.code = cc ∧ c.maxLocals = nL ∧ s.vm.findClass own = some m.cls ∧ (∀ w ∈ xmTs, w.before args s = true) ∧ xmK D ks s ∧ b ≤ s.heap.size ∧ meth.locks = false
end
section
theorem xmC.hx {p : Program} {s : State} {m : MethodId} {args : Array Value} {meth : Method} {c : Code} {D : va_G} {ks : Nat → ClassId} {b nL : Nat} {cc : ByteArray} {own : String} (h : xmC p s m args meth c D ks b nL cc own) : p.tables.exec = Jvm.exec := h.1
theorem xmC.hb {p : Program} {s : State} {m : MethodId} {args : Array Value} {meth : Method} {c : Code} {D : va_G} {ks : Nat → ClassId} {b nL : Nat} {cc : ByteArray} {own : String} (h : xmC p s m args meth c D ks b nL cc own) : c.code = cc := h.2.1
theorem xmC.hm {p : Program} {s : State} {m : MethodId} {args : Array Value} {meth : Method} {c : Code} {D : va_G} {ks : Nat → ClassId} {b nL : Nat} {cc : ByteArray} {own : String} (h : xmC p s m args meth c D ks b nL cc own) : c.maxLocals = nL := h.2.2.1
theorem xmC.ho {p : Program} {s : State} {m : MethodId} {args : Array Value} {meth : Method} {c : Code} {D : va_G} {ks : Nat → ClassId} {b nL : Nat} {cc : ByteArray} {own : String} (h : xmC p s m args meth c D ks b nL cc own) : s.vm.findClass own = some m.cls := h.2.2.2.1
theorem xmC.ht {p : Program} {s : State} {m : MethodId} {args : Array Value} {meth : Method} {c : Code} {D : va_G} {ks : Nat → ClassId} {b nL : Nat} {cc : ByteArray} {own : String} (h : xmC p s m args meth c D ks b nL cc own) : ∀ w ∈ xmTs, w.before args s = true := h.2.2.2.2.1
theorem xmC.hk {p : Program} {s : State} {m : MethodId} {args : Array Value} {meth : Method} {c : Code} {D : va_G} {ks : Nat → ClassId} {b nL : Nat} {cc : ByteArray} {own : String} (h : xmC p s m args meth c D ks b nL cc own) : xmK D ks s := h.2.2.2.2.2.1
theorem xmC.hz {p : Program} {s : State} {m : MethodId} {args : Array Value} {meth : Method} {c : Code} {D : va_G} {ks : Nat → ClassId} {b nL : Nat} {cc : ByteArray} {own : String} (h : xmC p s m args meth c D ks b nL cc own) : b ≤ s.heap.size := h.2.2.2.2.2.2.1
theorem xmC.hq {p : Program} {s : State} {m : MethodId} {args : Array Value} {meth : Method} {c : Code} {D : va_G} {ks : Nat → ClassId} {b nL : Nat} {cc : ByteArray} {own : String} (h : xmC p s m args meth c D ks b nL cc own) : meth.locks = false := h.2.2.2.2.2.2.2
def xmCL (ci : Nat) (C : String) (T : u_T) (N : Nat) (ty : Nat → FieldType) : Prop := vwCl[ci]? = some (C, T, N) ∧ (∀ w ∈ u_ws C T N, w ∈ xmTs) ∧ (∀ k, k < N → parseFieldDescriptor (T k).2.2.1 = some (ty k)) ∧ (∀ a, a < N → ∀ b, b < N → a ≠ b → (T a).2.1 ≠ (T b).2.1)
section XROWS
variable {p : Program} {l : Launch} {e : Env} {R : Room} {s : State} {m : MethodId} {args : Array Value} {below : List Frame} {meth : Method} {c : Code} {D : va_G} {ks : Nat → ClassId} {b nL : Nat} {Q : State → Prop} {w : xmW} {cells slots pc : Nat} {lv : List (Nat × xmV)} {st : List xmV} {cc : ByteArray} {own : String}
theorem xj_iconst (hC : xmC p s m args meth c D ks b nL cc own) {n : Int} {v : Int32} (hdg : decode cc pc = .ok (.iconst n, 1)) (hv : Int32.ofInt n = v) (kk : xmJ p l e R s m args below meth c D ks b nL Q w cells slots (pc + 1) lv (xI v :: st)) : xmJ p l e R s m args below meth c D ks b nL Q w cells slots pc lv st := by
  intro H locs ls hP hS hl
  exact lv_iconst hC.hx hC.hb hdg hv (kk H locs ls hP hS hl)
theorem xj_bipush (hC : xmC p s m args meth c D ks b nL cc own) {n : Int} {v : Int32} (hdg : decode cc pc = .ok (.bipush n, 2)) (hv : (Int8.ofInt n).toInt32 = v) (kk : xmJ p l e R s m args below meth c D ks b nL Q w cells slots (pc + 2) lv (xI v :: st)) : xmJ p l e R s m args below meth c D ks b nL Q w cells slots pc lv st := by
  intro H locs ls hP hS hl
  exact lv_bipush hC.hx hC.hb hdg hv (kk H locs ls hP hS hl)
theorem xj_sipush (hC : xmC p s m args meth c D ks b nL cc own) {n : Int} {v : Int32} (hdg : decode cc pc = .ok (.sipush n, 3)) (hv : (Int16.ofInt n).toInt32 = v) (kk : xmJ p l e R s m args below meth c D ks b nL Q w cells slots (pc + 3) lv (xI v :: st)) : xmJ p l e R s m args below meth c D ks b nL Q w cells slots pc lv st := by
  intro H locs ls hP hS hl
  exact lv_sipush hC.hx hC.hb hdg hv (kk H locs ls hP hS hl)
theorem xj_lconst (hC : xmC p s m args meth c D ks b nL cc own) {n : Fin 2} {v : Int64} (hdg : decode cc pc = .ok (.lconst n, 1)) (hv : Int64.ofNat (n : Nat) = v) (kk : xmJ p l e R s m args below meth c D ks b nL Q w cells slots (pc + 1) lv (xL v :: st)) : xmJ p l e R s m args below meth c D ks b nL Q w cells slots pc lv st := by
  intro H locs ls hP hS hl
  exact lv_lconst hC.hx hC.hb hdg hv (kk H locs ls hP hS hl)
theorem xj_ldc2 (hC : xmC p s m args meth c D ks b nL cc own) {index : Nat} {v : Int64} (hw : Cond.constantLong own index v ∈ xmTs) (hdg : decode cc pc = .ok (.ldc2_w index, 3)) (kk : xmJ p l e R s m args below meth c D ks b nL Q w cells slots (pc + 3) lv (xL v :: st)) : xmJ p l e R s m args below meth c D ks b nL Q w cells slots pc lv st := by
  intro H locs ls hP hS hl
  exact lv_ldc2 hC.hx hC.hb hC.ho (hC.ht _ hw) hdg (kk H locs ls hP hS hl)
theorem xj_null (hC : xmC p s m args meth c D ks b nL cc own)  (hdg : decode cc pc = .ok (.aconst_null, 1)) (kk : xmJ p l e R s m args below meth c D ks b nL Q w cells slots (pc + 1) lv (xR none :: st)) : xmJ p l e R s m args below meth c D ks b nL Q w cells slots pc lv st := by
  intro H locs ls hP hS hl
  exact lv_null hC.hx hC.hb hdg (kk H locs ls hP hS hl)
theorem xj_iload_n (hC : xmC p s m args meth c D ks b nL cc own) {k : Fin 4} {i : Nat} {x : Int32} (hdg : decode cc pc = .ok (.iload_n k, 1)) (hi : (k : Nat) = i) (j : Nat) (hj : lv[j]? = some (i, xI x)) (kk : xmJ p l e R s m args below meth c D ks b nL Q w cells slots (pc + 1) lv (xI x :: st)) : xmJ p l e R s m args below meth c D ks b nL Q w cells slots pc lv st := by
  intro H locs ls hP hS hl
  exact lv_iload_n hC.hx hC.hb hdg hi (lv_at hl j (xmlv_at hj)) (kk H locs ls hP hS hl)
theorem xj_iload (hC : xmC p s m args meth c D ks b nL cc own) {i : Nat} {x : Int32} (hdg : decode cc pc = .ok (.iload i, 2)) (j : Nat) (hj : lv[j]? = some (i, xI x)) (kk : xmJ p l e R s m args below meth c D ks b nL Q w cells slots (pc + 2) lv (xI x :: st)) : xmJ p l e R s m args below meth c D ks b nL Q w cells slots pc lv st := by
  intro H locs ls hP hS hl
  exact lv_iload hC.hx hC.hb hdg (lv_at hl j (xmlv_at hj)) (kk H locs ls hP hS hl)
theorem xj_istore_n (hC : xmC p s m args meth c D ks b nL cc own) {k : Fin 4} {i : Nat} {x : Int32} {lv' : List (Nat × xmV)} (hdg : decode cc pc = .ok (.istore_n k, 1)) (hi : (k : Nat) = i) (hn : i < nL) (h : xmst i (xI x) lv = lv') (kk : xmJ p l e R s m args below meth c D ks b nL Q w cells slots (pc + 1) lv' st) : xmJ p l e R s m args below meth c D ks b nL Q w cells slots pc lv (xI x :: st) := by
  intro H locs ls hP hS hl
  subst h
  exact lv_istore_n hC.hx hC.hb hdg hi hl hn (congrArg (fun z => _ :: z) (xmlv_flt b i lv)) (fun ls1 hl1 => kk H locs ls1 hP hS hl1)
theorem xj_istore (hC : xmC p s m args meth c D ks b nL cc own) {i : Nat} {x : Int32} {lv' : List (Nat × xmV)} (hdg : decode cc pc = .ok (.istore i, 2)) (hn : i < nL) (h : xmst i (xI x) lv = lv') (kk : xmJ p l e R s m args below meth c D ks b nL Q w cells slots (pc + 2) lv' st) : xmJ p l e R s m args below meth c D ks b nL Q w cells slots pc lv (xI x :: st) := by
  intro H locs ls hP hS hl
  subst h
  exact lv_istore hC.hx hC.hb hdg hl hn (congrArg (fun z => _ :: z) (xmlv_flt b i lv)) (fun ls1 hl1 => kk H locs ls1 hP hS hl1)
theorem xj_lload_n (hC : xmC p s m args meth c D ks b nL cc own) {k : Fin 4} {i : Nat} {x : Int64} (hdg : decode cc pc = .ok (.lload_n k, 1)) (hi : (k : Nat) = i) (j : Nat) (hj : lv[j]? = some (i, xL x)) (kk : xmJ p l e R s m args below meth c D ks b nL Q w cells slots (pc + 1) lv (xL x :: st)) : xmJ p l e R s m args below meth c D ks b nL Q w cells slots pc lv st := by
  intro H locs ls hP hS hl
  exact lv_lload_n hC.hx hC.hb hdg hi (lv_at hl j (xmlv_at hj)) (kk H locs ls hP hS hl)
theorem xj_lload (hC : xmC p s m args meth c D ks b nL cc own) {i : Nat} {x : Int64} (hdg : decode cc pc = .ok (.lload i, 2)) (j : Nat) (hj : lv[j]? = some (i, xL x)) (kk : xmJ p l e R s m args below meth c D ks b nL Q w cells slots (pc + 2) lv (xL x :: st)) : xmJ p l e R s m args below meth c D ks b nL Q w cells slots pc lv st := by
  intro H locs ls hP hS hl
  exact lv_lload hC.hx hC.hb hdg (lv_at hl j (xmlv_at hj)) (kk H locs ls hP hS hl)
theorem xj_lstore_n (hC : xmC p s m args meth c D ks b nL cc own) {k : Fin 4} {i : Nat} {x : Int64} {lv' : List (Nat × xmV)} (hdg : decode cc pc = .ok (.lstore_n k, 1)) (hi : (k : Nat) = i) (hn : i + 1 < nL) (h : xmst2 i (xL x) lv = lv') (kk : xmJ p l e R s m args below meth c D ks b nL Q w cells slots (pc + 1) lv' st) : xmJ p l e R s m args below meth c D ks b nL Q w cells slots pc lv (xL x :: st) := by
  intro H locs ls hP hS hl
  subst h
  exact lv_lstore_n hC.hx hC.hb hdg hi hl hn (congrArg (fun z => _ :: z) (xmlv_flt2 b i lv)) (fun ls1 hl1 => kk H locs ls1 hP hS hl1)
theorem xj_lstore (hC : xmC p s m args meth c D ks b nL cc own) {i : Nat} {x : Int64} {lv' : List (Nat × xmV)} (hdg : decode cc pc = .ok (.lstore i, 2)) (hn : i + 1 < nL) (h : xmst2 i (xL x) lv = lv') (kk : xmJ p l e R s m args below meth c D ks b nL Q w cells slots (pc + 2) lv' st) : xmJ p l e R s m args below meth c D ks b nL Q w cells slots pc lv (xL x :: st) := by
  intro H locs ls hP hS hl
  subst h
  exact lv_lstore hC.hx hC.hb hdg hl hn (congrArg (fun z => _ :: z) (xmlv_flt2 b i lv)) (fun ls1 hl1 => kk H locs ls1 hP hS hl1)
theorem xj_aload_n (hC : xmC p s m args meth c D ks b nL cc own) {k : Fin 4} {i : Nat} {r : Option Nat} (hdg : decode cc pc = .ok (.aload_n k, 1)) (hi : (k : Nat) = i) (j : Nat) (hj : lv[j]? = some (i, xR r)) (kk : xmJ p l e R s m args below meth c D ks b nL Q w cells slots (pc + 1) lv (xR r :: st)) : xmJ p l e R s m args below meth c D ks b nL Q w cells slots pc lv st := by
  intro H locs ls hP hS hl
  have h1 := lv_at hl j (xmlv_at hj)
  have h2 := kk H locs ls hP hS hl
  cases r with
  | none => exact lv_aload_nN hC.hx hC.hb hdg hi h1 h2
  | some k => exact lv_aload_n hC.hx hC.hb hdg hi h1 h2
theorem xj_aloadS_n (hC : xmC p s m args meth c D ks b nL cc own) {k : Fin 4} {i a : Nat} (hdg : decode cc pc = .ok (.aload_n k, 1)) (hi : (k : Nat) = i) (j : Nat) (hj : lv[j]? = some (i, xS a)) (kk : xmJ p l e R s m args below meth c D ks b nL Q w cells slots (pc + 1) lv (xS a :: st)) : xmJ p l e R s m args below meth c D ks b nL Q w cells slots pc lv st := by
  intro H locs ls hP hS hl
  exact lv_aload_n hC.hx hC.hb hdg hi (lv_at hl j (xmlv_at hj)) (kk H locs ls hP hS hl)
theorem xj_aload (hC : xmC p s m args meth c D ks b nL cc own) {i : Nat} {r : Option Nat} (hdg : decode cc pc = .ok (.aload i, 2)) (j : Nat) (hj : lv[j]? = some (i, xR r)) (kk : xmJ p l e R s m args below meth c D ks b nL Q w cells slots (pc + 2) lv (xR r :: st)) : xmJ p l e R s m args below meth c D ks b nL Q w cells slots pc lv st := by
  intro H locs ls hP hS hl
  have h1 := lv_at hl j (xmlv_at hj)
  have h2 := kk H locs ls hP hS hl
  cases r with
  | none => exact lv_aloadN hC.hx hC.hb hdg h1 h2
  | some k => exact lv_aload hC.hx hC.hb hdg h1 h2
theorem xj_aloadS (hC : xmC p s m args meth c D ks b nL cc own) {i a : Nat} (hdg : decode cc pc = .ok (.aload i, 2)) (j : Nat) (hj : lv[j]? = some (i, xS a)) (kk : xmJ p l e R s m args below meth c D ks b nL Q w cells slots (pc + 2) lv (xS a :: st)) : xmJ p l e R s m args below meth c D ks b nL Q w cells slots pc lv st := by
  intro H locs ls hP hS hl
  exact lv_aload hC.hx hC.hb hdg (lv_at hl j (xmlv_at hj)) (kk H locs ls hP hS hl)
theorem xj_astore_n (hC : xmC p s m args meth c D ks b nL cc own) {k : Fin 4} {i : Nat} {r : Option Nat} {lv' : List (Nat × xmV)} (hdg : decode cc pc = .ok (.astore_n k, 1)) (hi : (k : Nat) = i) (hn : i < nL) (h : xmst i (xR r) lv = lv') (kk : xmJ p l e R s m args below meth c D ks b nL Q w cells slots (pc + 1) lv' st) : xmJ p l e R s m args below meth c D ks b nL Q w cells slots pc lv (xR r :: st) := by
  intro H locs ls hP hS hl
  subst h
  cases r with
  | none => exact lv_astore_nN hC.hx hC.hb hdg hi hl hn (congrArg (fun z => _ :: z) (xmlv_flt b i lv)) (fun ls1 hl1 => kk H locs ls1 hP hS hl1)
  | some k => exact lv_astore_n hC.hx hC.hb hdg hi hl hn (congrArg (fun z => _ :: z) (xmlv_flt b i lv)) (fun ls1 hl1 => kk H locs ls1 hP hS hl1)
theorem xj_astore (hC : xmC p s m args meth c D ks b nL cc own) {i : Nat} {r : Option Nat} {lv' : List (Nat × xmV)} (hdg : decode cc pc = .ok (.astore i, 2)) (hn : i < nL) (h : xmst i (xR r) lv = lv') (kk : xmJ p l e R s m args below meth c D ks b nL Q w cells slots (pc + 2) lv' st) : xmJ p l e R s m args below meth c D ks b nL Q w cells slots pc lv (xR r :: st) := by
  intro H locs ls hP hS hl
  subst h
  cases r with
  | none => exact lv_astoreN hC.hx hC.hb hdg hl hn (congrArg (fun z => _ :: z) (xmlv_flt b i lv)) (fun ls1 hl1 => kk H locs ls1 hP hS hl1)
  | some k => exact lv_astore hC.hx hC.hb hdg hl hn (congrArg (fun z => _ :: z) (xmlv_flt b i lv)) (fun ls1 hl1 => kk H locs ls1 hP hS hl1)
theorem xj_iinc (hC : xmC p s m args meth c D ks b nL cc own) {i : Nat} {n : Int} {x v : Int32} {lv' : List (Nat × xmV)} (hdg : decode cc pc = .ok (.iinc i n, 3)) (j : Nat) (hj : lv[j]? = some (i, xI x)) (hv : x + Int32.ofInt n = v) (hn : i < nL) (h : xmst i (xI v) lv = lv') (kk : xmJ p l e R s m args below meth c D ks b nL Q w cells slots (pc + 3) lv' st) : xmJ p l e R s m args below meth c D ks b nL Q w cells slots pc lv st := by
  intro H locs ls hP hS hl
  subst h
  exact lv_iinc hC.hx hC.hb hdg hl (k := j) (xmlv_at hj) hv hn (congrArg (fun z => _ :: z) (xmlv_flt b i lv)) (fun ls1 hl1 => kk H locs ls1 hP hS hl1)
theorem xj_iadd (hC : xmC p s m args meth c D ks b nL cc own) {x y : Int32} (hdg : decode cc pc = .ok (.iadd, 1)) (kk : xmJ p l e R s m args below meth c D ks b nL Q w cells slots (pc + 1) lv (xI (x + y) :: st)) : xmJ p l e R s m args below meth c D ks b nL Q w cells slots pc lv (xI y :: xI x :: st) := by
  intro H locs ls hP hS hl
  exact lv_iadd hC.hx hC.hb hdg (kk H locs ls hP hS hl)
theorem xj_isub (hC : xmC p s m args meth c D ks b nL cc own) {x y : Int32} (hdg : decode cc pc = .ok (.isub, 1)) (kk : xmJ p l e R s m args below meth c D ks b nL Q w cells slots (pc + 1) lv (xI (x - y) :: st)) : xmJ p l e R s m args below meth c D ks b nL Q w cells slots pc lv (xI y :: xI x :: st) := by
  intro H locs ls hP hS hl
  exact lv_isub hC.hx hC.hb hdg (kk H locs ls hP hS hl)
theorem xj_imul (hC : xmC p s m args meth c D ks b nL cc own) {x y : Int32} (hdg : decode cc pc = .ok (.imul, 1)) (kk : xmJ p l e R s m args below meth c D ks b nL Q w cells slots (pc + 1) lv (xI (x * y) :: st)) : xmJ p l e R s m args below meth c D ks b nL Q w cells slots pc lv (xI y :: xI x :: st) := by
  intro H locs ls hP hS hl
  exact lv_imul hC.hx hC.hb hdg (kk H locs ls hP hS hl)
theorem xj_iand (hC : xmC p s m args meth c D ks b nL cc own) {x y : Int32} (hdg : decode cc pc = .ok (.iand, 1)) (kk : xmJ p l e R s m args below meth c D ks b nL Q w cells slots (pc + 1) lv (xI (x &&& y) :: st)) : xmJ p l e R s m args below meth c D ks b nL Q w cells slots pc lv (xI y :: xI x :: st) := by
  intro H locs ls hP hS hl
  exact lv_iand hC.hx hC.hb hdg (kk H locs ls hP hS hl)
theorem xj_ior (hC : xmC p s m args meth c D ks b nL cc own) {x y : Int32} (hdg : decode cc pc = .ok (.ior, 1)) (kk : xmJ p l e R s m args below meth c D ks b nL Q w cells slots (pc + 1) lv (xI (x ||| y) :: st)) : xmJ p l e R s m args below meth c D ks b nL Q w cells slots pc lv (xI y :: xI x :: st) := by
  intro H locs ls hP hS hl
  exact lv_ior hC.hx hC.hb hdg (kk H locs ls hP hS hl)
theorem xj_ishl (hC : xmC p s m args meth c D ks b nL cc own) {x y : Int32} (hdg : decode cc pc = .ok (.ishl, 1)) (kk : xmJ p l e R s m args below meth c D ks b nL Q w cells slots (pc + 1) lv (xI (x <<< (y &&& 31)) :: st)) : xmJ p l e R s m args below meth c D ks b nL Q w cells slots pc lv (xI y :: xI x :: st) := by
  intro H locs ls hP hS hl
  exact lv_ishl hC.hx hC.hb hdg (kk H locs ls hP hS hl)
theorem xj_ishr (hC : xmC p s m args meth c D ks b nL cc own) {x y : Int32} (hdg : decode cc pc = .ok (.ishr, 1)) (kk : xmJ p l e R s m args below meth c D ks b nL Q w cells slots (pc + 1) lv (xI (x >>> (y &&& 31)) :: st)) : xmJ p l e R s m args below meth c D ks b nL Q w cells slots pc lv (xI y :: xI x :: st) := by
  intro H locs ls hP hS hl
  exact lv_ishr hC.hx hC.hb hdg (kk H locs ls hP hS hl)
theorem xj_idiv (hC : xmC p s m args meth c D ks b nL cc own) {x y : Int32} (hdg : decode cc pc = .ok (.idiv, 1)) (hne : ¬ y = 0) (kk : xmJ p l e R s m args below meth c D ks b nL Q w cells slots (pc + 1) lv (xI (x / y) :: st)) : xmJ p l e R s m args below meth c D ks b nL Q w cells slots pc lv (xI y :: xI x :: st) := by
  intro H locs ls hP hS hl
  exact lv_idiv hC.hx hC.hb hdg hne (kk H locs ls hP hS hl)
theorem xj_irem (hC : xmC p s m args meth c D ks b nL cc own) {x y : Int32} (hdg : decode cc pc = .ok (.irem, 1)) (hne : ¬ y = 0) (kk : xmJ p l e R s m args below meth c D ks b nL Q w cells slots (pc + 1) lv (xI (x - x / y * y) :: st)) : xmJ p l e R s m args below meth c D ks b nL Q w cells slots pc lv (xI y :: xI x :: st) := by
  intro H locs ls hP hS hl
  exact lv_irem hC.hx hC.hb hdg hne (kk H locs ls hP hS hl)
theorem xj_ineg (hC : xmC p s m args meth c D ks b nL cc own) {x : Int32} (hdg : decode cc pc = .ok (.ineg, 1)) (kk : xmJ p l e R s m args below meth c D ks b nL Q w cells slots (pc + 1) lv (xI (-x) :: st)) : xmJ p l e R s m args below meth c D ks b nL Q w cells slots pc lv (xI x :: st) := by
  intro H locs ls hP hS hl
  exact lv_ineg hC.hx hC.hb hdg (kk H locs ls hP hS hl)
theorem xj_ladd (hC : xmC p s m args meth c D ks b nL cc own) {x y : Int64} (hdg : decode cc pc = .ok (.ladd, 1)) (kk : xmJ p l e R s m args below meth c D ks b nL Q w cells slots (pc + 1) lv (xL (x + y) :: st)) : xmJ p l e R s m args below meth c D ks b nL Q w cells slots pc lv (xL y :: xL x :: st) := by
  intro H locs ls hP hS hl
  exact lv_ladd hC.hx hC.hb hdg (kk H locs ls hP hS hl)
theorem xj_lsub (hC : xmC p s m args meth c D ks b nL cc own) {x y : Int64} (hdg : decode cc pc = .ok (.lsub, 1)) (kk : xmJ p l e R s m args below meth c D ks b nL Q w cells slots (pc + 1) lv (xL (x - y) :: st)) : xmJ p l e R s m args below meth c D ks b nL Q w cells slots pc lv (xL y :: xL x :: st) := by
  intro H locs ls hP hS hl
  exact lv_lsub hC.hx hC.hb hdg (kk H locs ls hP hS hl)
theorem xj_lmul (hC : xmC p s m args meth c D ks b nL cc own) {x y : Int64} (hdg : decode cc pc = .ok (.lmul, 1)) (kk : xmJ p l e R s m args below meth c D ks b nL Q w cells slots (pc + 1) lv (xL (x * y) :: st)) : xmJ p l e R s m args below meth c D ks b nL Q w cells slots pc lv (xL y :: xL x :: st) := by
  intro H locs ls hP hS hl
  exact lv_lmul hC.hx hC.hb hdg (kk H locs ls hP hS hl)
theorem xj_land (hC : xmC p s m args meth c D ks b nL cc own) {x y : Int64} (hdg : decode cc pc = .ok (.land, 1)) (kk : xmJ p l e R s m args below meth c D ks b nL Q w cells slots (pc + 1) lv (xL (x &&& y) :: st)) : xmJ p l e R s m args below meth c D ks b nL Q w cells slots pc lv (xL y :: xL x :: st) := by
  intro H locs ls hP hS hl
  exact lv_land hC.hx hC.hb hdg (kk H locs ls hP hS hl)
theorem xj_lor (hC : xmC p s m args meth c D ks b nL cc own) {x y : Int64} (hdg : decode cc pc = .ok (.lor, 1)) (kk : xmJ p l e R s m args below meth c D ks b nL Q w cells slots (pc + 1) lv (xL (x ||| y) :: st)) : xmJ p l e R s m args below meth c D ks b nL Q w cells slots pc lv (xL y :: xL x :: st) := by
  intro H locs ls hP hS hl
  exact lv_lor hC.hx hC.hb hdg (kk H locs ls hP hS hl)
theorem xj_lneg (hC : xmC p s m args meth c D ks b nL cc own) {x : Int64} (hdg : decode cc pc = .ok (.lneg, 1)) (kk : xmJ p l e R s m args below meth c D ks b nL Q w cells slots (pc + 1) lv (xL (-x) :: st)) : xmJ p l e R s m args below meth c D ks b nL Q w cells slots pc lv (xL x :: st) := by
  intro H locs ls hP hS hl
  exact lv_lneg hC.hx hC.hb hdg (kk H locs ls hP hS hl)
theorem xj_lshl (hC : xmC p s m args meth c D ks b nL cc own) {x : Int64} {y : Int32} (hdg : decode cc pc = .ok (.lshl, 1)) (kk : xmJ p l e R s m args below meth c D ks b nL Q w cells slots (pc + 1) lv (xL (x <<< (y.toInt64 &&& 63)) :: st)) : xmJ p l e R s m args below meth c D ks b nL Q w cells slots pc lv (xI y :: xL x :: st) := by
  intro H locs ls hP hS hl
  exact lv_lshl hC.hx hC.hb hdg rfl (kk H locs ls hP hS hl)
theorem xj_lshr (hC : xmC p s m args meth c D ks b nL cc own) {x : Int64} {y : Int32} (hdg : decode cc pc = .ok (.lshr, 1)) (kk : xmJ p l e R s m args below meth c D ks b nL Q w cells slots (pc + 1) lv (xL (x >>> (y.toInt64 &&& 63)) :: st)) : xmJ p l e R s m args below meth c D ks b nL Q w cells slots pc lv (xI y :: xL x :: st) := by
  intro H locs ls hP hS hl
  exact lv_lshr hC.hx hC.hb hdg rfl (kk H locs ls hP hS hl)
theorem xj_i2l (hC : xmC p s m args meth c D ks b nL cc own) {x : Int32} (hdg : decode cc pc = .ok (.i2l, 1)) (kk : xmJ p l e R s m args below meth c D ks b nL Q w cells slots (pc + 1) lv (xL x.toInt64 :: st)) : xmJ p l e R s m args below meth c D ks b nL Q w cells slots pc lv (xI x :: st) := by
  intro H locs ls hP hS hl
  exact lv_i2l hC.hx hC.hb hdg rfl (kk H locs ls hP hS hl)
theorem xj_l2i (hC : xmC p s m args meth c D ks b nL cc own) {x : Int64} (hdg : decode cc pc = .ok (.l2i, 1)) (kk : xmJ p l e R s m args below meth c D ks b nL Q w cells slots (pc + 1) lv (xI x.toInt32 :: st)) : xmJ p l e R s m args below meth c D ks b nL Q w cells slots pc lv (xL x :: st) := by
  intro H locs ls hP hS hl
  exact lv_l2i hC.hx hC.hb hdg rfl (kk H locs ls hP hS hl)
theorem xj_lcmp (hC : xmC p s m args meth c D ks b nL cc own) {x y : Int64} (hdg : decode cc pc = .ok (.lcmp, 1)) (kk : xmJ p l e R s m args below meth c D ks b nL Q w cells slots (pc + 1) lv (xI (lg_cmp x y) :: st)) : xmJ p l e R s m args below meth c D ks b nL Q w cells slots pc lv (xL y :: xL x :: st) := by
  intro H locs ls hP hS hl
  exact W.lcmp hC.hx hC.hb hdg (kk H locs ls hP hS hl)
theorem xj_dup (hC : xmC p s m args meth c D ks b nL cc own) {v : xmV} (hdg : decode cc pc = .ok (.dup, 1)) (hv : xm2 v = false) (kk : xmJ p l e R s m args below meth c D ks b nL Q w cells slots (pc + 1) lv (v :: v :: st)) : xmJ p l e R s m args below meth c D ks b nL Q w cells slots pc lv (v :: st) := by
  intro H locs ls hP hS hl
  exact lv_dup hC.hx hC.hb hdg (by rw [xm_cat, hv]; rfl) (kk H locs ls hP hS hl)
theorem xj_pop (hC : xmC p s m args meth c D ks b nL cc own) {v : xmV} (hdg : decode cc pc = .ok (.pop, 1)) (hv : xm2 v = false) (kk : xmJ p l e R s m args below meth c D ks b nL Q w cells slots (pc + 1) lv st) : xmJ p l e R s m args below meth c D ks b nL Q w cells slots pc lv (v :: st) := by
  intro H locs ls hP hS hl
  exact lv_pop hC.hx hC.hb hdg (by rw [xm_cat, hv]; rfl) (kk H locs ls hP hS hl)
theorem xj_goto (hC : xmC p s m args meth c D ks b nL cc own) {off : Int} {tgt : Nat} (hdg : decode cc pc = .ok (.goto off, 3)) (ht : (pc : Int) + off = (tgt : Int)) (kk : xmJ p l e R s m args below meth c D ks b nL Q w cells slots tgt lv st) : xmJ p l e R s m args below meth c D ks b nL Q w cells slots pc lv st := by
  intro H locs ls hP hS hl
  exact lv_goto hC.hx hC.hb hdg ht (kk H locs ls hP hS hl)
theorem xj_if_eq (hC : xmC p s m args meth c D ks b nL cc own) {x : Int32} {off : Int} {tgt : Nat} (hdg : decode cc pc = .ok (.ifCond .eq off, 3)) (ht : (pc : Int) + off = (tgt : Int)) (kt : x = 0 → xmJ p l e R s m args below meth c D ks b nL Q w cells slots tgt lv st) (kf : ¬ x = 0 → xmJ p l e R s m args below meth c D ks b nL Q w cells slots (pc + 3) lv st) : xmJ p l e R s m args below meth c D ks b nL Q w cells slots pc lv (xI x :: st) := by
  intro H locs ls hP hS hl
  exact lv_if_eq hC.hx hC.hb hdg ht (fun h => kt h H locs ls hP hS hl) (fun h => kf h H locs ls hP hS hl)
theorem xb_if_eq (hC : xmC p s m args meth c D ks b nL cc own) {x : Int32} {off : Int} {tgt : Nat} {α : Type} {A B : Option α} {z : α} (hdg : decode cc pc = .ok (.ifCond .eq off, 3)) (ht : (pc : Int) + off = (tgt : Int)) (hf : (if x = 0 then A else B) = some z) (kt : A = some z → xmJ p l e R s m args below meth c D ks b nL Q w cells slots tgt lv st) (kf : B = some z → xmJ p l e R s m args below meth c D ks b nL Q w cells slots (pc + 3) lv st) : xmJ p l e R s m args below meth c D ks b nL Q w cells slots pc lv (xI x :: st) := by
  refine xj_if_eq hC hdg ht (fun h => kt ?_) (fun h => kf ?_)
  · rw [if_pos h] at hf; exact hf
  · rw [if_neg h] at hf; exact hf
theorem xj_if_ne (hC : xmC p s m args meth c D ks b nL cc own) {x : Int32} {off : Int} {tgt : Nat} (hdg : decode cc pc = .ok (.ifCond .ne off, 3)) (ht : (pc : Int) + off = (tgt : Int)) (kt : ¬ x = 0 → xmJ p l e R s m args below meth c D ks b nL Q w cells slots tgt lv st) (kf : x = 0 → xmJ p l e R s m args below meth c D ks b nL Q w cells slots (pc + 3) lv st) : xmJ p l e R s m args below meth c D ks b nL Q w cells slots pc lv (xI x :: st) := by
  intro H locs ls hP hS hl
  exact lv_if_ne hC.hx hC.hb hdg ht (fun h => kt h H locs ls hP hS hl) (fun h => kf h H locs ls hP hS hl)
theorem xb_if_ne (hC : xmC p s m args meth c D ks b nL cc own) {x : Int32} {off : Int} {tgt : Nat} {α : Type} {A B : Option α} {z : α} (hdg : decode cc pc = .ok (.ifCond .ne off, 3)) (ht : (pc : Int) + off = (tgt : Int)) (hf : (if x = 0 then A else B) = some z) (kt : B = some z → xmJ p l e R s m args below meth c D ks b nL Q w cells slots tgt lv st) (kf : A = some z → xmJ p l e R s m args below meth c D ks b nL Q w cells slots (pc + 3) lv st) : xmJ p l e R s m args below meth c D ks b nL Q w cells slots pc lv (xI x :: st) := by
  refine xj_if_ne hC hdg ht (fun h => kt ?_) (fun h => kf ?_)
  · rw [if_neg h] at hf; exact hf
  · rw [if_pos h] at hf; exact hf
theorem xj_if_lt (hC : xmC p s m args meth c D ks b nL cc own) {x : Int32} {off : Int} {tgt : Nat} (hdg : decode cc pc = .ok (.ifCond .lt off, 3)) (ht : (pc : Int) + off = (tgt : Int)) (kt : x < 0 → xmJ p l e R s m args below meth c D ks b nL Q w cells slots tgt lv st) (kf : ¬ x < 0 → xmJ p l e R s m args below meth c D ks b nL Q w cells slots (pc + 3) lv st) : xmJ p l e R s m args below meth c D ks b nL Q w cells slots pc lv (xI x :: st) := by
  intro H locs ls hP hS hl
  exact lv_if_lt hC.hx hC.hb hdg ht (fun h => kt h H locs ls hP hS hl) (fun h => kf h H locs ls hP hS hl)
theorem xb_if_lt (hC : xmC p s m args meth c D ks b nL cc own) {x : Int32} {off : Int} {tgt : Nat} {α : Type} {A B : Option α} {z : α} (hdg : decode cc pc = .ok (.ifCond .lt off, 3)) (ht : (pc : Int) + off = (tgt : Int)) (hf : (if x < 0 then A else B) = some z) (kt : A = some z → xmJ p l e R s m args below meth c D ks b nL Q w cells slots tgt lv st) (kf : B = some z → xmJ p l e R s m args below meth c D ks b nL Q w cells slots (pc + 3) lv st) : xmJ p l e R s m args below meth c D ks b nL Q w cells slots pc lv (xI x :: st) := by
  refine xj_if_lt hC hdg ht (fun h => kt ?_) (fun h => kf ?_)
  · rw [if_pos h] at hf; exact hf
  · rw [if_neg h] at hf; exact hf
theorem xj_if_ge (hC : xmC p s m args meth c D ks b nL cc own) {x : Int32} {off : Int} {tgt : Nat} (hdg : decode cc pc = .ok (.ifCond .ge off, 3)) (ht : (pc : Int) + off = (tgt : Int)) (kt : 0 ≤ x → xmJ p l e R s m args below meth c D ks b nL Q w cells slots tgt lv st) (kf : ¬ 0 ≤ x → xmJ p l e R s m args below meth c D ks b nL Q w cells slots (pc + 3) lv st) : xmJ p l e R s m args below meth c D ks b nL Q w cells slots pc lv (xI x :: st) := by
  intro H locs ls hP hS hl
  exact lv_if_ge hC.hx hC.hb hdg ht (fun h => kt h H locs ls hP hS hl) (fun h => kf h H locs ls hP hS hl)
theorem xb_if_ge (hC : xmC p s m args meth c D ks b nL cc own) {x : Int32} {off : Int} {tgt : Nat} {α : Type} {A B : Option α} {z : α} (hdg : decode cc pc = .ok (.ifCond .ge off, 3)) (ht : (pc : Int) + off = (tgt : Int)) (hf : (if 0 ≤ x then A else B) = some z) (kt : A = some z → xmJ p l e R s m args below meth c D ks b nL Q w cells slots tgt lv st) (kf : B = some z → xmJ p l e R s m args below meth c D ks b nL Q w cells slots (pc + 3) lv st) : xmJ p l e R s m args below meth c D ks b nL Q w cells slots pc lv (xI x :: st) := by
  refine xj_if_ge hC hdg ht (fun h => kt ?_) (fun h => kf ?_)
  · rw [if_pos h] at hf; exact hf
  · rw [if_neg h] at hf; exact hf
theorem xj_if_gt (hC : xmC p s m args meth c D ks b nL cc own) {x : Int32} {off : Int} {tgt : Nat} (hdg : decode cc pc = .ok (.ifCond .gt off, 3)) (ht : (pc : Int) + off = (tgt : Int)) (kt : 0 < x → xmJ p l e R s m args below meth c D ks b nL Q w cells slots tgt lv st) (kf : ¬ 0 < x → xmJ p l e R s m args below meth c D ks b nL Q w cells slots (pc + 3) lv st) : xmJ p l e R s m args below meth c D ks b nL Q w cells slots pc lv (xI x :: st) := by
  intro H locs ls hP hS hl
  exact lv_if_gt hC.hx hC.hb hdg ht (fun h => kt h H locs ls hP hS hl) (fun h => kf h H locs ls hP hS hl)
theorem xb_if_gt (hC : xmC p s m args meth c D ks b nL cc own) {x : Int32} {off : Int} {tgt : Nat} {α : Type} {A B : Option α} {z : α} (hdg : decode cc pc = .ok (.ifCond .gt off, 3)) (ht : (pc : Int) + off = (tgt : Int)) (hf : (if 0 < x then A else B) = some z) (kt : A = some z → xmJ p l e R s m args below meth c D ks b nL Q w cells slots tgt lv st) (kf : B = some z → xmJ p l e R s m args below meth c D ks b nL Q w cells slots (pc + 3) lv st) : xmJ p l e R s m args below meth c D ks b nL Q w cells slots pc lv (xI x :: st) := by
  refine xj_if_gt hC hdg ht (fun h => kt ?_) (fun h => kf ?_)
  · rw [if_pos h] at hf; exact hf
  · rw [if_neg h] at hf; exact hf
theorem xj_if_le (hC : xmC p s m args meth c D ks b nL cc own) {x : Int32} {off : Int} {tgt : Nat} (hdg : decode cc pc = .ok (.ifCond .le off, 3)) (ht : (pc : Int) + off = (tgt : Int)) (kt : x ≤ 0 → xmJ p l e R s m args below meth c D ks b nL Q w cells slots tgt lv st) (kf : ¬ x ≤ 0 → xmJ p l e R s m args below meth c D ks b nL Q w cells slots (pc + 3) lv st) : xmJ p l e R s m args below meth c D ks b nL Q w cells slots pc lv (xI x :: st) := by
  intro H locs ls hP hS hl
  exact lv_if_le hC.hx hC.hb hdg ht (fun h => kt h H locs ls hP hS hl) (fun h => kf h H locs ls hP hS hl)
theorem xb_if_le (hC : xmC p s m args meth c D ks b nL cc own) {x : Int32} {off : Int} {tgt : Nat} {α : Type} {A B : Option α} {z : α} (hdg : decode cc pc = .ok (.ifCond .le off, 3)) (ht : (pc : Int) + off = (tgt : Int)) (hf : (if x ≤ 0 then A else B) = some z) (kt : A = some z → xmJ p l e R s m args below meth c D ks b nL Q w cells slots tgt lv st) (kf : B = some z → xmJ p l e R s m args below meth c D ks b nL Q w cells slots (pc + 3) lv st) : xmJ p l e R s m args below meth c D ks b nL Q w cells slots pc lv (xI x :: st) := by
  refine xj_if_le hC hdg ht (fun h => kt ?_) (fun h => kf ?_)
  · rw [if_pos h] at hf; exact hf
  · rw [if_neg h] at hf; exact hf
theorem xj_ic_eq (hC : xmC p s m args meth c D ks b nL cc own) {x y : Int32} {off : Int} {tgt : Nat} (hdg : decode cc pc = .ok (.if_icmp .eq off, 3)) (ht : (pc : Int) + off = (tgt : Int)) (kt : x = y → xmJ p l e R s m args below meth c D ks b nL Q w cells slots tgt lv st) (kf : ¬ x = y → xmJ p l e R s m args below meth c D ks b nL Q w cells slots (pc + 3) lv st) : xmJ p l e R s m args below meth c D ks b nL Q w cells slots pc lv (xI y :: xI x :: st) := by
  intro H locs ls hP hS hl
  exact lv_icmp_eq hC.hx hC.hb hdg ht (fun h => kt h H locs ls hP hS hl) (fun h => kf h H locs ls hP hS hl)
theorem xb_ic_eq (hC : xmC p s m args meth c D ks b nL cc own) {x y : Int32} {off : Int} {tgt : Nat} {α : Type} {A B : Option α} {z : α} (hdg : decode cc pc = .ok (.if_icmp .eq off, 3)) (ht : (pc : Int) + off = (tgt : Int)) (hf : (if x = y then A else B) = some z) (kt : A = some z → xmJ p l e R s m args below meth c D ks b nL Q w cells slots tgt lv st) (kf : B = some z → xmJ p l e R s m args below meth c D ks b nL Q w cells slots (pc + 3) lv st) : xmJ p l e R s m args below meth c D ks b nL Q w cells slots pc lv (xI y :: xI x :: st) := by
  refine xj_ic_eq hC hdg ht (fun h => kt ?_) (fun h => kf ?_)
  · rw [if_pos h] at hf; exact hf
  · rw [if_neg h] at hf; exact hf
theorem xj_ic_ne (hC : xmC p s m args meth c D ks b nL cc own) {x y : Int32} {off : Int} {tgt : Nat} (hdg : decode cc pc = .ok (.if_icmp .ne off, 3)) (ht : (pc : Int) + off = (tgt : Int)) (kt : ¬ x = y → xmJ p l e R s m args below meth c D ks b nL Q w cells slots tgt lv st) (kf : x = y → xmJ p l e R s m args below meth c D ks b nL Q w cells slots (pc + 3) lv st) : xmJ p l e R s m args below meth c D ks b nL Q w cells slots pc lv (xI y :: xI x :: st) := by
  intro H locs ls hP hS hl
  exact lv_icmp_ne hC.hx hC.hb hdg ht (fun h => kt h H locs ls hP hS hl) (fun h => kf h H locs ls hP hS hl)
theorem xb_ic_ne (hC : xmC p s m args meth c D ks b nL cc own) {x y : Int32} {off : Int} {tgt : Nat} {α : Type} {A B : Option α} {z : α} (hdg : decode cc pc = .ok (.if_icmp .ne off, 3)) (ht : (pc : Int) + off = (tgt : Int)) (hf : (if x = y then A else B) = some z) (kt : B = some z → xmJ p l e R s m args below meth c D ks b nL Q w cells slots tgt lv st) (kf : A = some z → xmJ p l e R s m args below meth c D ks b nL Q w cells slots (pc + 3) lv st) : xmJ p l e R s m args below meth c D ks b nL Q w cells slots pc lv (xI y :: xI x :: st) := by
  refine xj_ic_ne hC hdg ht (fun h => kt ?_) (fun h => kf ?_)
  · rw [if_neg h] at hf; exact hf
  · rw [if_pos h] at hf; exact hf
theorem xj_ic_lt (hC : xmC p s m args meth c D ks b nL cc own) {x y : Int32} {off : Int} {tgt : Nat} (hdg : decode cc pc = .ok (.if_icmp .lt off, 3)) (ht : (pc : Int) + off = (tgt : Int)) (kt : x < y → xmJ p l e R s m args below meth c D ks b nL Q w cells slots tgt lv st) (kf : ¬ x < y → xmJ p l e R s m args below meth c D ks b nL Q w cells slots (pc + 3) lv st) : xmJ p l e R s m args below meth c D ks b nL Q w cells slots pc lv (xI y :: xI x :: st) := by
  intro H locs ls hP hS hl
  exact lv_icmp_lt hC.hx hC.hb hdg ht (fun h => kt h H locs ls hP hS hl) (fun h => kf h H locs ls hP hS hl)
theorem xb_ic_lt (hC : xmC p s m args meth c D ks b nL cc own) {x y : Int32} {off : Int} {tgt : Nat} {α : Type} {A B : Option α} {z : α} (hdg : decode cc pc = .ok (.if_icmp .lt off, 3)) (ht : (pc : Int) + off = (tgt : Int)) (hf : (if x < y then A else B) = some z) (kt : A = some z → xmJ p l e R s m args below meth c D ks b nL Q w cells slots tgt lv st) (kf : B = some z → xmJ p l e R s m args below meth c D ks b nL Q w cells slots (pc + 3) lv st) : xmJ p l e R s m args below meth c D ks b nL Q w cells slots pc lv (xI y :: xI x :: st) := by
  refine xj_ic_lt hC hdg ht (fun h => kt ?_) (fun h => kf ?_)
  · rw [if_pos h] at hf; exact hf
  · rw [if_neg h] at hf; exact hf
theorem xj_ic_ge (hC : xmC p s m args meth c D ks b nL cc own) {x y : Int32} {off : Int} {tgt : Nat} (hdg : decode cc pc = .ok (.if_icmp .ge off, 3)) (ht : (pc : Int) + off = (tgt : Int)) (kt : y ≤ x → xmJ p l e R s m args below meth c D ks b nL Q w cells slots tgt lv st) (kf : ¬ y ≤ x → xmJ p l e R s m args below meth c D ks b nL Q w cells slots (pc + 3) lv st) : xmJ p l e R s m args below meth c D ks b nL Q w cells slots pc lv (xI y :: xI x :: st) := by
  intro H locs ls hP hS hl
  exact lv_icmp_ge hC.hx hC.hb hdg ht (fun h => kt h H locs ls hP hS hl) (fun h => kf h H locs ls hP hS hl)
theorem xb_ic_ge (hC : xmC p s m args meth c D ks b nL cc own) {x y : Int32} {off : Int} {tgt : Nat} {α : Type} {A B : Option α} {z : α} (hdg : decode cc pc = .ok (.if_icmp .ge off, 3)) (ht : (pc : Int) + off = (tgt : Int)) (hf : (if y ≤ x then A else B) = some z) (kt : A = some z → xmJ p l e R s m args below meth c D ks b nL Q w cells slots tgt lv st) (kf : B = some z → xmJ p l e R s m args below meth c D ks b nL Q w cells slots (pc + 3) lv st) : xmJ p l e R s m args below meth c D ks b nL Q w cells slots pc lv (xI y :: xI x :: st) := by
  refine xj_ic_ge hC hdg ht (fun h => kt ?_) (fun h => kf ?_)
  · rw [if_pos h] at hf; exact hf
  · rw [if_neg h] at hf; exact hf
theorem xj_ic_gt (hC : xmC p s m args meth c D ks b nL cc own) {x y : Int32} {off : Int} {tgt : Nat} (hdg : decode cc pc = .ok (.if_icmp .gt off, 3)) (ht : (pc : Int) + off = (tgt : Int)) (kt : y < x → xmJ p l e R s m args below meth c D ks b nL Q w cells slots tgt lv st) (kf : ¬ y < x → xmJ p l e R s m args below meth c D ks b nL Q w cells slots (pc + 3) lv st) : xmJ p l e R s m args below meth c D ks b nL Q w cells slots pc lv (xI y :: xI x :: st) := by
  intro H locs ls hP hS hl
  exact lv_icmp_gt hC.hx hC.hb hdg ht (fun h => kt h H locs ls hP hS hl) (fun h => kf h H locs ls hP hS hl)
theorem xb_ic_gt (hC : xmC p s m args meth c D ks b nL cc own) {x y : Int32} {off : Int} {tgt : Nat} {α : Type} {A B : Option α} {z : α} (hdg : decode cc pc = .ok (.if_icmp .gt off, 3)) (ht : (pc : Int) + off = (tgt : Int)) (hf : (if y < x then A else B) = some z) (kt : A = some z → xmJ p l e R s m args below meth c D ks b nL Q w cells slots tgt lv st) (kf : B = some z → xmJ p l e R s m args below meth c D ks b nL Q w cells slots (pc + 3) lv st) : xmJ p l e R s m args below meth c D ks b nL Q w cells slots pc lv (xI y :: xI x :: st) := by
  refine xj_ic_gt hC hdg ht (fun h => kt ?_) (fun h => kf ?_)
  · rw [if_pos h] at hf; exact hf
  · rw [if_neg h] at hf; exact hf
theorem xj_ic_le (hC : xmC p s m args meth c D ks b nL cc own) {x y : Int32} {off : Int} {tgt : Nat} (hdg : decode cc pc = .ok (.if_icmp .le off, 3)) (ht : (pc : Int) + off = (tgt : Int)) (kt : x ≤ y → xmJ p l e R s m args below meth c D ks b nL Q w cells slots tgt lv st) (kf : ¬ x ≤ y → xmJ p l e R s m args below meth c D ks b nL Q w cells slots (pc + 3) lv st) : xmJ p l e R s m args below meth c D ks b nL Q w cells slots pc lv (xI y :: xI x :: st) := by
  intro H locs ls hP hS hl
  exact lv_icmp_le hC.hx hC.hb hdg ht (fun h => kt h H locs ls hP hS hl) (fun h => kf h H locs ls hP hS hl)
theorem xb_ic_le (hC : xmC p s m args meth c D ks b nL cc own) {x y : Int32} {off : Int} {tgt : Nat} {α : Type} {A B : Option α} {z : α} (hdg : decode cc pc = .ok (.if_icmp .le off, 3)) (ht : (pc : Int) + off = (tgt : Int)) (hf : (if x ≤ y then A else B) = some z) (kt : A = some z → xmJ p l e R s m args below meth c D ks b nL Q w cells slots tgt lv st) (kf : B = some z → xmJ p l e R s m args below meth c D ks b nL Q w cells slots (pc + 3) lv st) : xmJ p l e R s m args below meth c D ks b nL Q w cells slots pc lv (xI y :: xI x :: st) := by
  refine xj_ic_le hC hdg ht (fun h => kt ?_) (fun h => kf ?_)
  · rw [if_pos h] at hf; exact hf
  · rw [if_neg h] at hf; exact hf
theorem xb_ifnull (hC : xmC p s m args meth c D ks b nL cc own) {r : Option Nat} {off : Int} {tgt : Nat} {α : Type} {A B : Option α} {z : α} (hdg : decode cc pc = .ok (.ifnull off, 3)) (ht : (pc : Int) + off = (tgt : Int)) (hf : (if r = none then A else B) = some z) (kt : A = some z → xmJ p l e R s m args below meth c D ks b nL Q w cells slots tgt lv st) (kf : B = some z → xmJ p l e R s m args below meth c D ks b nL Q w cells slots (pc + 3) lv st) : xmJ p l e R s m args below meth c D ks b nL Q w cells slots pc lv (xR r :: st) := by
  intro H locs ls hP hS hl
  cases r with
  | none => rw [if_pos rfl] at hf; exact lv_ifnullN hC.hx hC.hb hdg ht (kt hf H locs ls hP hS hl)
  | some k => rw [if_neg (by simp)] at hf; exact lv_ifnull hC.hx hC.hb hdg (kf hf H locs ls hP hS hl)
theorem xb_ifnonnull (hC : xmC p s m args meth c D ks b nL cc own) {r : Option Nat} {off : Int} {tgt : Nat} {α : Type} {A B : Option α} {z : α} (hdg : decode cc pc = .ok (.ifnonnull off, 3)) (ht : (pc : Int) + off = (tgt : Int)) (hf : (if r = none then A else B) = some z) (kt : B = some z → xmJ p l e R s m args below meth c D ks b nL Q w cells slots tgt lv st) (kf : A = some z → xmJ p l e R s m args below meth c D ks b nL Q w cells slots (pc + 3) lv st) : xmJ p l e R s m args below meth c D ks b nL Q w cells slots pc lv (xR r :: st) := by
  intro H locs ls hP hS hl
  cases r with
  | none => rw [if_pos rfl] at hf; exact lv_ifnonnullN hC.hx hC.hb hdg (kf hf H locs ls hP hS hl)
  | some k => rw [if_neg (by simp)] at hf; exact lv_ifnonnull hC.hx hC.hb hdg ht (kt hf H locs ls hP hS hl)
theorem xj_dia {cnd : Prop} [Decidable cnd] {x y : Int32} {pc2 : Nat} {st2 : List xmV} (h1 : cnd → xmJ p l e R s m args below meth c D ks b nL Q w cells slots pc2 lv (xI x :: st2) → xmJ p l e R s m args below meth c D ks b nL Q w cells slots pc lv st) (h2 : ¬ cnd → xmJ p l e R s m args below meth c D ks b nL Q w cells slots pc2 lv (xI y :: st2) → xmJ p l e R s m args below meth c D ks b nL Q w cells slots pc lv st) (kk : xmJ p l e R s m args below meth c D ks b nL Q w cells slots pc2 lv (xI (if cnd then x else y) :: st2)) : xmJ p l e R s m args below meth c D ks b nL Q w cells slots pc lv st := by
  by_cases h : cnd
  · rw [if_pos h] at kk; exact h1 h kk
  · rw [if_neg h] at kk; exact h2 h kk
theorem xj_diaN {r : Option Nat} {x y : Int32} {pc2 : Nat} {st2 : List xmV} (h1 : r = none → xmJ p l e R s m args below meth c D ks b nL Q w cells slots pc2 lv (xI x :: st2) → xmJ p l e R s m args below meth c D ks b nL Q w cells slots pc lv st) (h2 : ¬ r = none → xmJ p l e R s m args below meth c D ks b nL Q w cells slots pc2 lv (xI y :: st2) → xmJ p l e R s m args below meth c D ks b nL Q w cells slots pc lv st) (kk : xmJ p l e R s m args below meth c D ks b nL Q w cells slots pc2 lv (xI (if r = none then x else y) :: st2)) : xmJ p l e R s m args below meth c D ks b nL Q w cells slots pc lv st := by
  by_cases h : r = none
  · rw [if_pos h] at kk; exact h1 h kk
  · rw [if_neg h] at kk; exact h2 h kk
theorem xb_case {x v : Int32} {α : Type} {A B : Option α} {z : α} {Z : Prop} (hf : (if x = v then A else B) = some z) (h1 : x = v → A = some z → Z) (h2 : ¬ x = v → B = some z → Z) : Z := by
  by_cases h : x = v
  · rw [if_pos h] at hf; exact h1 h hf
  · rw [if_neg h] at hf; exact h2 h hf
theorem xj_tableIn (hC : xmC p s m args meth c D ks b nL cc own) {dflt lo hi : Int} {offs : Array Int} {len : Nat} {x v : Int32} (off : Int) {tgt : Nat} (hdg : decode cc pc = .ok (.tableswitch dflt lo hi offs, len)) (hx : x = v) (h1 : ¬ v.toInt < lo) (h2 : ¬ hi < v.toInt) (ho : offs[(v.toInt - lo).toNat]? = some off) (ht : (pc : Int) + off = (tgt : Int)) (kk : xmJ p l e R s m args below meth c D ks b nL Q w cells slots tgt lv st) : xmJ p l e R s m args below meth c D ks b nL Q w cells slots pc lv (xI x :: st) := by
  intro H locs ls hP hS hl
  subst hx
  exact lv_tableIn hC.hx hC.hb hdg h1 h2 ho ht (kk H locs ls hP hS hl)
theorem xj_tableOut (hC : xmC p s m args meth c D ks b nL cc own) {dflt lo hi : Int} {offs : Array Int} {len : Nat} {x : Int32} {tgt : Nat} (hdg : decode cc pc = .ok (.tableswitch dflt lo hi offs, len)) (h : x.toInt < lo ∨ hi < x.toInt) (ht : (pc : Int) + dflt = (tgt : Int)) (kk : xmJ p l e R s m args below meth c D ks b nL Q w cells slots tgt lv st) : xmJ p l e R s m args below meth c D ks b nL Q w cells slots pc lv (xI x :: st) := by
  intro H locs ls hP hS hl
  exact lv_tableOut hC.hx hC.hb hdg h ht (kk H locs ls hP hS hl)
theorem xj_lookup (hC : xmC p s m args meth c D ks b nL cc own) {dflt : Int} {ps : Array (Int × Int)} {len : Nat} {x : Int32} {off : Int} {tgt : Nat} (hdg : decode cc pc = .ok (.lookupswitch dflt ps, len)) (hp : (ps.toList.zip (ps.toList.drop 1)).all (fun (a, next) => a.1 < next.1) = true) (ho : Op.lookupswitch.offset ps.toList dflt x.toInt = off) (ht : (pc : Int) + off = (tgt : Int)) (kk : xmJ p l e R s m args below meth c D ks b nL Q w cells slots tgt lv st) : xmJ p l e R s m args below meth c D ks b nL Q w cells slots pc lv (xI x :: st) := by
  intro H locs ls hP hS hl
  exact lv_lookup hC.hx hC.hb hdg hp ho ht (kk H locs ls hP hS hl)
theorem xb_getI (hC : xmC p s m args meth c D ks b nL cc own) {α : Type} {z : α} {r : Option Nat} {F : Int32 → Option α} {C : String} {T : u_T} {N index : Nat} {ty : Nat → FieldType} (ci k : Nat) (hcl : xmCL ci C T N ty) (hk : k < N) (hlk : Cond.fieldLink own index (T k).1 (T k).2.1 (T k).2.2.1 ∈ xmTs) (hdg : decode cc pc = .ok (.getfield index, 3)) (hf : (xmgI w r ci k).bind F = some z) (kk : ∀ x : Int32, F x = some z → xmJ p l e R s m args below meth c D ks b nL Q w cells slots (pc + 3) lv (xI x :: st)) : xmJ p l e R s m args below meth c D ks b nL Q w cells slots pc lv (xR r :: st) := by
  obtain ⟨x, hx, hf2⟩ := xm_bind hf
  obtain ⟨a, fs, rfl, h1, h2⟩ := xmgI_at hx
  intro H locs ls hP hS hl
  refine va_get hC.hx hC.hb hC.ht hcl.2.1 hC.ho hC.hk.1 hP.1 a (xmws_get h1) hcl.1 k hk (hC.ht _ hlk) (fun _ h => h) (v := xmcv b (xI x)) (by rw [List.getElem?_map, h2]; rfl) hdg (kk x hf2 H locs ls hP hS hl)
theorem xb_getL (hC : xmC p s m args meth c D ks b nL cc own) {α : Type} {z : α} {r : Option Nat} {F : Int64 → Option α} {C : String} {T : u_T} {N index : Nat} {ty : Nat → FieldType} (ci k : Nat) (hcl : xmCL ci C T N ty) (hk : k < N) (hlk : Cond.fieldLink own index (T k).1 (T k).2.1 (T k).2.2.1 ∈ xmTs) (hdg : decode cc pc = .ok (.getfield index, 3)) (hf : (xmgL w r ci k).bind F = some z) (kk : ∀ x : Int64, F x = some z → xmJ p l e R s m args below meth c D ks b nL Q w cells slots (pc + 3) lv (xL x :: st)) : xmJ p l e R s m args below meth c D ks b nL Q w cells slots pc lv (xR r :: st) := by
  obtain ⟨x, hx, hf2⟩ := xm_bind hf
  obtain ⟨a, fs, rfl, h1, h2⟩ := xmgL_at hx
  intro H locs ls hP hS hl
  refine va_get hC.hx hC.hb hC.ht hcl.2.1 hC.ho hC.hk.1 hP.1 a (xmws_get h1) hcl.1 k hk (hC.ht _ hlk) (fun _ h => h) (v := xmcv b (xL x)) (by rw [List.getElem?_map, h2]; rfl) hdg (kk x hf2 H locs ls hP hS hl)
theorem xb_getR (hC : xmC p s m args meth c D ks b nL cc own) {α : Type} {z : α} {r : Option Nat} {F : (Option Nat) → Option α} {C : String} {T : u_T} {N index : Nat} {ty : Nat → FieldType} (ci k : Nat) (hcl : xmCL ci C T N ty) (hk : k < N) (hlk : Cond.fieldLink own index (T k).1 (T k).2.1 (T k).2.2.1 ∈ xmTs) (hdg : decode cc pc = .ok (.getfield index, 3)) (hf : (xmgR w r ci k).bind F = some z) (kk : ∀ x : (Option Nat), F x = some z → xmJ p l e R s m args below meth c D ks b nL Q w cells slots (pc + 3) lv (xR x :: st)) : xmJ p l e R s m args below meth c D ks b nL Q w cells slots pc lv (xR r :: st) := by
  obtain ⟨x, hx, hf2⟩ := xm_bind hf
  obtain ⟨a, fs, rfl, h1, h2⟩ := xmgR_at hx
  intro H locs ls hP hS hl
  refine va_get hC.hx hC.hb hC.ht hcl.2.1 hC.ho hC.hk.1 hP.1 a (xmws_get h1) hcl.1 k hk (hC.ht _ hlk) (fun _ h => h) (v := xmcv b (xR x)) (by rw [List.getElem?_map, h2]; rfl) hdg (kk x hf2 H locs ls hP hS hl)
/-- what a field of a type may hold -/
def xmfit (ty : FieldType) (v : xmV) : Prop := ∀ b : Nat, narrow ty (xmcv b v) = xmcv b v ∧ fits ty (xmcv b v) = true
theorem xmfit_i (x : Int32) : xmfit .int (xI x) := fun _ => ⟨rfl, rfl⟩
theorem xmfit_l (x : Int64) : xmfit .long (xL x) := fun _ => ⟨rfl, rfl⟩
theorem xmfit_z {x : Int32} (h : x = 0 ∨ x = 1) : xmfit .boolean (xI x) := by
  intro b
  rcases h with rfl | rfl
  · exact ⟨by show narrow .boolean (.int 0) = .int 0; decide +kernel, by show fits .boolean (.int 0) = true; decide +kernel⟩
  · exact ⟨by show narrow .boolean (.int 1) = .int 1; decide +kernel, by show fits .boolean (.int 1) = true; decide +kernel⟩
theorem xmfit_q (C : String) (r : Option Nat) : xmfit (.object C) (xR r) := by
  intro b
  cases r with
  | none => exact ⟨rfl, rfl⟩
  | some k => exact ⟨rfl, rfl⟩
theorem xmfit_a (t : FieldType) (r : Option Nat) : xmfit (.array t) (xR r) := by
  intro b
  cases r with
  | none => exact ⟨rfl, rfl⟩
  | some k => exact ⟨rfl, rfl⟩
theorem xb_put (hC : xmC p s m args meth c D ks b nL cc own) {α : Type} {z : α} {r : Option Nat} {v : xmV} {F : xmW → Option α} {C : String} {T : u_T} {N index : Nat} {ty : Nat → FieldType} (ci k : Nat) (hcl : xmCL ci C T N ty) (hk : k < N) (hlk : Cond.fieldLink own index (T k).1 (T k).2.1 (T k).2.2.1 ∈ xmTs) (hfin : (T k).2.2.2 = false) (hv : xmfit (ty k) v) (hdg : decode cc pc = .ok (.putfield index, 3)) (hf : (xmput w r ci k v).bind F = some z) (kk : ∀ w2 : xmW, F w2 = some z → xmJ p l e R s m args below meth c D ks b nL Q w2 cells slots (pc + 3) lv st) : xmJ p l e R s m args below meth c D ks b nL Q w cells slots pc lv (v :: xR r :: st) := by
  obtain ⟨w2, hw, hf2⟩ := xm_bind hf
  obtain ⟨a, fs, rfl, h1, hlen, hw2⟩ := xmput_at hw
  intro H locs ls hP hS hl
  have hts := hC.ht
  have hin := hcl.2.1
  have hK := hC.hk.1
  have hc := hcl.1
  have he := xmws_get (ks := ks) (b := b) h1
  have hap := va_apart (own := own) hts hin ty hcl.2.2.1 hcl.2.2.2 hK hc
  obtain ⟨r, h1', cell, q1, q2, q3, q4⟩ := hP.1 a _ he
  have hr : r = (C, T, N) := Option.some.inj (h1'.symm.trans hc)
  subst hr
  obtain ⟨hS1, hfc, kC, hkC, hkind⟩ := hK.1 ci _ hc
  obtain ⟨cf, kf, fi, f, hi, hsl⟩ := hS1 k hk
  have hlay := hts _ (hin _ (u_in_lay hk))
  unfold u_lay at hlay
  rw [if_neg (by rw [hfin]; decide)] at hlay
  have hst := (u_facts hfc hkC (u_lays hts hin hk) hi).1
  have h6 := u_store hfc hkC hkind hlay hi (hcl.2.2.1 k hk) (hv b).1 (hv b).2
  refine W.putK hC.hx hC.hb (f := f) ⟨hC.ho, hts _ hlk, ⟨_, _, _, hi⟩, hst⟩ (by rw [q2]; exact h6) q1 q3 (by rw [hsl]; exact k2_hasslot (q4 k hk)) rfl rfl hdg fun H' e1 e2 e3 => ?_
  rw [hsl] at e1 ⊢
  have hlm : k < (fs.map (xmcv b)).length := by rw [List.length_map]; exact hlen
  have hat : va_at D vwCl (b + a, (Sum.inr (ci, (fs.map (xmcv b)).set k (xmcv b v)) : va_E)) H' := ⟨_, hc, t_OB.to (V := updV (vp_V (fs.map (xmcv b))) k (xmcv b v)) ⟨_, e1, q2, q3, t_set q4 hap hk (xmcv b v)⟩ (fun j _ => vp_updV_set hlm (xmcv b v) j)⟩
  have hP2 := hP.1.set xm_D he hat e3
  refine kk w2 hf2 H' _ ls ⟨?_, ?_⟩ (hS.put e2 e3 (xm_D.2 a _ he)) hl
  · rw [hw2, ← xmws_set]
    have hq : (fs.map (xmcv b)).set k (xmcv b v) = (fs.set k v).map (xmcv b) := by rw [List.map_set]
    rw [hq] at hP2
    exact hP2
  · rw [hw2, List.length_set, e2]; exact hP.2
theorem xb_putF (hC : xmC p s m args meth c D ks b nL cc own) {α : Type} {z : α} {r : Option Nat} {v : xmV} {F : xmW → Option α} {C : String} {T : u_T} {N index : Nat} {ty : Nat → FieldType} (ci k : Nat) (hcl : xmCL ci C T N ty) (hk : k < N) (hlk : Cond.fieldLink own index (T k).1 (T k).2.1 (T k).2.2.1 ∈ xmTs) (hfin : (T k).2.2.2 = true) (hin2 : meth.name = "<init>") (hdecl : (T k).1 = own) (hv : xmfit (ty k) v) (hdg : decode cc pc = .ok (.putfield index, 3)) (hf : (xmput w r ci k v).bind F = some z) (kk : ∀ w2 : xmW, F w2 = some z → xmJ p l e R s m args below meth c D ks b nL Q w2 cells slots (pc + 3) lv st) : xmJ p l e R s m args below meth c D ks b nL Q w cells slots pc lv (v :: xR r :: st) := by
  obtain ⟨w2, hw, hf2⟩ := xm_bind hf
  obtain ⟨a, fs, rfl, h1, hlen, hw2⟩ := xmput_at hw
  intro H locs ls hP hS hl
  have hts := hC.ht
  have hin := hcl.2.1
  have hK := hC.hk.1
  have hc := hcl.1
  have he := xmws_get (ks := ks) (b := b) h1
  have hap := va_apart (own := own) hts hin ty hcl.2.2.1 hcl.2.2.2 hK hc
  obtain ⟨r, h1', cell, q1, q2, q3, q4⟩ := hP.1 a _ he
  have hr : r = (C, T, N) := Option.some.inj (h1'.symm.trans hc)
  subst hr
  obtain ⟨hS1, hfc, kC, hkC, hkind⟩ := hK.1 ci _ hc
  obtain ⟨cf, kf, fi, f, hi, hsl⟩ := hS1 k hk
  have hlay := hts _ (hin _ (u_in_lay hk))
  unfold u_lay at hlay
  rw [if_pos hfin] at hlay
  have hst := (u_facts hfc hkC (u_lays hts hin hk) hi).1
  have hcf : m.cls = cf := by
    obtain ⟨_, _, c', _, _, _, -, -, hf', -, -, -, hown2, -⟩ := Cond.laysFinal_spec hlay
    have e1 : c' = cf := by have := hi.symm.trans hf'; simp at this; exact this.1.symm
    rw [hdecl] at hown2
    rw [← e1]; exact Option.some.inj (hC.ho.symm.trans hown2)
  have h6 := u_fits hfc hkC hkind (Or.inr hlay) hi (hcl.2.2.1 k hk) (hv b).1 (hv b).2
  refine W.putFinK hC.hx hC.hb hC.ho (hts _ hlk) hi hst hcf hin2 (by rw [q2]; exact h6) q1 q3 (by rw [hsl]; exact k2_hasslot (q4 k hk)) rfl rfl hdg fun H' e1 e2 e3 => ?_
  rw [hsl] at e1 ⊢
  have hlm : k < (fs.map (xmcv b)).length := by rw [List.length_map]; exact hlen
  have hat : va_at D vwCl (b + a, (Sum.inr (ci, (fs.map (xmcv b)).set k (xmcv b v)) : va_E)) H' := ⟨_, hc, t_OB.to (V := updV (vp_V (fs.map (xmcv b))) k (xmcv b v)) ⟨_, e1, q2, q3, t_set q4 hap hk (xmcv b v)⟩ (fun j _ => vp_updV_set hlm (xmcv b v) j)⟩
  have hP2 := hP.1.set xm_D he hat e3
  refine kk w2 hf2 H' _ ls ⟨?_, ?_⟩ (hS.put e2 e3 (xm_D.2 a _ he)) hl
  · rw [hw2, ← xmws_set]
    have hq : (fs.map (xmcv b)).set k (xmcv b v) = (fs.set k v).map (xmcv b) := by rw [List.map_set]
    rw [hq] at hP2
    exact hP2
  · rw [hw2, List.length_set, e2]; exact hP.2
theorem xb_iald (hC : xmC p s m args meth c D ks b nL cc own) {α : Type} {z : α} {r : Option Nat} {i : Int32} {F : Int32 → Option α} (hdg : decode cc pc = .ok (.iaload, 1)) (hf : (xmild w r 0 i).bind F = some z) (kk : ∀ x : Int32, F x = some z → xmJ p l e R s m args below meth c D ks b nL Q w cells slots (pc + 1) lv (xI x :: st)) : xmJ p l e R s m args below meth c D ks b nL Q w cells slots pc lv (xI i :: xR r :: st) := by
  obtain ⟨x, hx, hf2⟩ := xm_bind hf
  obtain ⟨a, n, f, rfl, h1, h2, h3⟩ := xmild_at hx
  subst h3
  intro H locs ls hP hS hl
  exact va_iald hC.hx hC.hb hC.hk.1 hP.1 a 0 (xmws_get h1) rfl h2 hdg (kk _ hf2 H locs ls hP hS hl)
theorem xb_zald (hC : xmC p s m args meth c D ks b nL cc own) {α : Type} {z : α} {r : Option Nat} {i : Int32} {F : Int32 → Option α} (hdg : decode cc pc = .ok (.baload, 1)) (hf : (xmild w r 1 i).bind F = some z) (kk : ∀ x : Int32, F x = some z → xmJ p l e R s m args below meth c D ks b nL Q w cells slots (pc + 1) lv (xI x :: st)) : xmJ p l e R s m args below meth c D ks b nL Q w cells slots pc lv (xI i :: xR r :: st) := by
  obtain ⟨x, hx, hf2⟩ := xm_bind hf
  obtain ⟨a, n, f, rfl, h1, h2, h3⟩ := xmild_at hx
  subst h3
  intro H locs ls hP hS hl
  exact va_zald hC.hx hC.hb hC.hk.1 hP.1 a 1 (xmws_get h1) rfl h2 hdg (kk _ hf2 H locs ls hP hS hl)
theorem xb_qald2 (hC : xmC p s m args meth c D ks b nL cc own) {α : Type} {z : α} {r : Option Nat} {i : Int32} {F : Option Nat → Option α} (hdg : decode cc pc = .ok (.aaload, 1)) (hf : (xmqld w r 2 i).bind F = some z) (kk : ∀ x : Option Nat, F x = some z → xmJ p l e R s m args below meth c D ks b nL Q w cells slots (pc + 1) lv (xR x :: st)) : xmJ p l e R s m args below meth c D ks b nL Q w cells slots pc lv (xI i :: xR r :: st) := by
  obtain ⟨x, hx, hf2⟩ := xm_bind hf
  obtain ⟨a, n, f, rfl, h1, h2, h3⟩ := xmqld_at hx
  subst h3
  intro H locs ls hP hS hl
  exact va_aldq hC.hx hC.hb hC.hk.1 hP.1 a 2 (xmws_get h1) rfl h2 hdg (kk _ hf2 H locs ls hP hS hl)
theorem xb_qald3 (hC : xmC p s m args meth c D ks b nL cc own) {α : Type} {z : α} {r : Option Nat} {i : Int32} {F : Option Nat → Option α} (hdg : decode cc pc = .ok (.aaload, 1)) (hf : (xmqld w r 3 i).bind F = some z) (kk : ∀ x : Option Nat, F x = some z → xmJ p l e R s m args below meth c D ks b nL Q w cells slots (pc + 1) lv (xR x :: st)) : xmJ p l e R s m args below meth c D ks b nL Q w cells slots pc lv (xI i :: xR r :: st) := by
  obtain ⟨x, hx, hf2⟩ := xm_bind hf
  obtain ⟨a, n, f, rfl, h1, h2, h3⟩ := xmqld_at hx
  subst h3
  intro H locs ls hP hS hl
  exact va_aldq hC.hx hC.hb hC.hk.1 hP.1 a 3 (xmws_get h1) rfl h2 hdg (kk _ hf2 H locs ls hP hS hl)
theorem xb_alen (hC : xmC p s m args meth c D ks b nL cc own) {α : Type} {z : α} {r : Option Nat} {F : Int32 → Option α} (hdg : decode cc pc = .ok (.arraylength, 1)) (hf : (xmlen w r 0).bind F = some z) (kk : ∀ x : Int32, F x = some z → xmJ p l e R s m args below meth c D ks b nL Q w cells slots (pc + 1) lv (xI x :: st)) : xmJ p l e R s m args below meth c D ks b nL Q w cells slots pc lv (xR r :: st) := by
  obtain ⟨x, hx, hf2⟩ := xm_bind hf
  obtain ⟨a, n, f, rfl, h1, h2⟩ := xmlen_at hx
  intro H locs ls hP hS hl
  exact va_alen hC.hx hC.hb hC.hk.1 hP.1 a 0 (xmws_get h1) rfl h2 hdg (kk _ hf2 H locs ls hP hS hl)
theorem xb_iast (hC : xmC p s m args meth c D ks b nL cc own) {α : Type} {z : α} {r : Option Nat} {i x : Int32} {F : xmW → Option α} (hdg : decode cc pc = .ok (.iastore, 1)) (hf : (xmist w r 0 i x).bind F = some z) (kk : ∀ w2 : xmW, F w2 = some z → xmJ p l e R s m args below meth c D ks b nL Q w2 cells slots (pc + 1) lv st) : xmJ p l e R s m args below meth c D ks b nL Q w cells slots pc lv (xI x :: xI i :: xR r :: st) := by
  obtain ⟨w2, hw, hf2⟩ := xm_bind hf
  obtain ⟨a, n, f, rfl, h1, hin, hw2⟩ := xmist_at hw
  intro H locs ls hP hS hl
  have ha := xmws_get (ks := ks) (b := b) h1
  refine W.iast hC.hx hC.hb (hP.1 a _ ha) ((hC.hk.1.2 0 _ rfl).1 n (fun j => .int (f j))) (fun q => by cases q) (by show ¬ (i < 0 ∨ (arrV _ _ _).slots.size ≤ _); rw [arrV_size]; exact hin) rfl rfl hdg fun H1 ee zz oq => ?_
  refine kk w2 hf2 H1 _ ls ⟨?_, ?_⟩ (hS.put zz oq (xm_D.2 a _ ha)) hl
  · rw [hw2, ← xmws_set]
    refine hP.1.set xm_D ha ?_ oq
    show H1[b + a]? = some (vp_cell _ _)
    rw [ee]
    rw [vp_cell_i, vp_cell_i, arrV_store]
    congr 2
    funext q
    by_cases hq : q = i.toNatClampNeg
    · subst hq
      simp [updV, upd]
    · simp [updV, upd, hq]
  · rw [hw2, List.length_set, zz]; exact hP.2
theorem xb_zast (hC : xmC p s m args meth c D ks b nL cc own) {α : Type} {z : α} {r : Option Nat} {i x : Int32} {F : xmW → Option α} (hdg : decode cc pc = .ok (.bastore, 1)) (hf : (xmist w r 1 i (vp_nar .boolean x)).bind F = some z) (kk : ∀ w2 : xmW, F w2 = some z → xmJ p l e R s m args below meth c D ks b nL Q w2 cells slots (pc + 1) lv st) : xmJ p l e R s m args below meth c D ks b nL Q w cells slots pc lv (xI x :: xI i :: xR r :: st) := by
  obtain ⟨w2, hw, hf2⟩ := xm_bind hf
  obtain ⟨a, n, f, rfl, h1, hin, hw2⟩ := xmist_at hw
  intro H locs ls hP hS hl
  have ha := xmws_get (ks := ks) (b := b) h1
  refine W.zast hC.hx hC.hb (hP.1 a _ ha) ((hC.hk.1.2 1 _ rfl).1 n (fun j => .int (f j))) (fun q => by cases q) (by show ¬ (i < 0 ∨ (arrV _ _ _).slots.size ≤ _); rw [arrV_size]; exact hin) rfl rfl hdg fun H1 ee zz oq => ?_
  refine kk w2 hf2 H1 _ ls ⟨?_, ?_⟩ (hS.put zz oq (xm_D.2 a _ ha)) hl
  · rw [hw2, ← xmws_set]
    refine hP.1.set xm_D ha ?_ oq
    show H1[b + a]? = some (vp_cell _ _)
    rw [ee]
    rw [vp_cell_i, vp_cell_i, arrV_store]
    congr 2
    funext q
    by_cases hq : q = i.toNatClampNeg
    · subst hq
      simp [updV, upd, vp_nar]
      try rfl
      try simp [vp_nar]
    · simp [updV, upd, hq]
  · rw [hw2, List.length_set, zz]; exact hP.2
theorem xb_qast2 (hC : xmC p s m args meth c D ks b nL cc own) {α : Type} {z : α} {r x : Option Nat} {i : Int32} {F : xmW → Option α} (hdg : decode cc pc = .ok (.aastore, 1)) (hf : (xmqst w r 2 1 i x).bind F = some z) (kk : ∀ w2 : xmW, F w2 = some z → xmJ p l e R s m args below meth c D ks b nL Q w2 cells slots (pc + 1) lv st) : xmJ p l e R s m args below meth c D ks b nL Q w cells slots pc lv (xR x :: xI i :: xR r :: st) := by
  obtain ⟨w2, hw, hf2⟩ := xm_bind hf
  obtain ⟨a, n, f, v, fs, rfl, rfl, hv1, h1, hin, hw2⟩ := xmqst_at hw
  intro H locs ls hP hS hl
  have hK := hC.hk.1
  have ha := xmws_get (ks := ks) (b := b) h1
  have hlt : i.toNatClampNeg < n := Nat.not_le.mp fun q => hin (Or.inr q)
  have h0 : ¬ i < 0 := fun q => hin (Or.inl q)
  obtain ⟨r', hr', cellV, g1, g2, g3, -⟩ := hP.1 v _ (xmws_get (ks := ks) (b := b) hv1)
  have hcls := (hK.1 1 _ rfl).2
  obtain ⟨kA, comp, k1, k2, k3, -⟩ := (hK.2 2 _ rfl).2
  have hcomp : comp = D.1 1 := Option.some.inj (k3.symm.trans hcls.1)
  subst hcomp
  obtain ⟨kC, hkC, -⟩ := hcls.2
  refine W.aast hC.hx hC.hb (hP.1 a _ ha) (fun q h => by cases h) (fun h => by cases h) k1 k2 rfl hkC ⟨h0, by show _ < (arrV _ _ _).slots.size; rw [arrV_size]; exact hlt⟩ g1 (fun q h => by rw [g3] at h; cases h) (by rw [g2]; exact hkC) (by rw [g2]; exact va_assign hcls) rfl rfl hdg fun H1 ee zz oq => ?_
  refine kk w2 hf2 H1 _ ls ⟨?_, ?_⟩ (hS.put zz oq (xm_D.2 a _ ha)) hl
  · rw [hw2, ← xmws_set]
    refine hP.1.set xm_D ha ?_ oq
    show H1[b + a]? = some (vp_cell _ _)
    rw [ee]
    rw [vp_cell_q, vp_cell_q, arrV_store]
    congr 2
    funext q
    by_cases hq : q = i.toNatClampNeg
    · subst hq
      simp [updV, va_up, va_rf]
    · simp [updV, va_up, hq]
  · rw [hw2, List.length_set, zz]; exact hP.2
theorem xb_qast3 (hC : xmC p s m args meth c D ks b nL cc own) {α : Type} {z : α} {r x : Option Nat} {i : Int32} {F : xmW → Option α} (hdg : decode cc pc = .ok (.aastore, 1)) (hf : (xmqst w r 3 2 i x).bind F = some z) (kk : ∀ w2 : xmW, F w2 = some z → xmJ p l e R s m args below meth c D ks b nL Q w2 cells slots (pc + 1) lv st) : xmJ p l e R s m args below meth c D ks b nL Q w cells slots pc lv (xR x :: xI i :: xR r :: st) := by
  obtain ⟨w2, hw, hf2⟩ := xm_bind hf
  obtain ⟨a, n, f, v, fs, rfl, rfl, hv1, h1, hin, hw2⟩ := xmqst_at hw
  intro H locs ls hP hS hl
  have hK := hC.hk.1
  have ha := xmws_get (ks := ks) (b := b) h1
  have hlt : i.toNatClampNeg < n := Nat.not_le.mp fun q => hin (Or.inr q)
  have h0 : ¬ i < 0 := fun q => hin (Or.inl q)
  obtain ⟨r', hr', cellV, g1, g2, g3, -⟩ := hP.1 v _ (xmws_get (ks := ks) (b := b) hv1)
  have hcls := (hK.1 2 _ rfl).2
  obtain ⟨kA, comp, k1, k2, k3, -⟩ := (hK.2 3 _ rfl).2
  have hcomp : comp = D.1 2 := Option.some.inj (k3.symm.trans hcls.1)
  subst hcomp
  obtain ⟨kC, hkC, -⟩ := hcls.2
  refine W.aast hC.hx hC.hb (hP.1 a _ ha) (fun q h => by cases h) (fun h => by cases h) k1 k2 rfl hkC ⟨h0, by show _ < (arrV _ _ _).slots.size; rw [arrV_size]; exact hlt⟩ g1 (fun q h => by rw [g3] at h; cases h) (by rw [g2]; exact hkC) (by rw [g2]; exact va_assign hcls) rfl rfl hdg fun H1 ee zz oq => ?_
  refine kk w2 hf2 H1 _ ls ⟨?_, ?_⟩ (hS.put zz oq (xm_D.2 a _ ha)) hl
  · rw [hw2, ← xmws_set]
    refine hP.1.set xm_D ha ?_ oq
    show H1[b + a]? = some (vp_cell _ _)
    rw [ee]
    rw [vp_cell_q, vp_cell_q, arrV_store]
    congr 2
    funext q
    by_cases hq : q = i.toNatClampNeg
    · subst hq
      simp [updV, va_up, va_rf]
    · simp [updV, va_up, hq]
  · rw [hw2, List.length_set, zz]; exact hP.2
theorem xb_new (hC : xmC p s m args meth c D ks b nL cc own) {α : Type} {z : α} {fs : List xmV} {F : xmW → Option α} {C : String} {T : u_T} {N index : Nat} {ty : Nat → FieldType} (ci : Nat) (hcl : xmCL ci C T N ty) (hlk : Cond.classLink own index C ∈ xmTs) (hins : Cond.instantiable C N ∈ xmTs) (hini : Cond.initialized C ∈ xmTs) (hfs : ∀ b j, j < N → defaultValue (ty j) = vp_V (fs.map (xmcv b)) j) (hcells : cells + 1 ≤ R.cells) (hslots : slots + N ≤ R.slots) (hdg : decode cc pc = .ok (.new index, 3)) (hf : (xmnew w ci fs).bind F = some z) (kk : ∀ w2 : xmW, F w2 = some z → xmJ p l e R s m args below meth c D ks b nL Q w2 (cells + 1) (slots + N) (pc + 3) lv (xR (some w.length) :: st)) : xmJ p l e R s m args below meth c D ks b nL Q w cells slots pc lv st := by
  obtain ⟨w2, hw, hf2⟩ := xm_bind hf
  have hw2 := Option.some.inj hw
  intro H locs ls hP hS hl
  have hKn := hC.hk.1.1 ci _ hcl.1
  refine W.newcK hC.hx hC.hb hC.ho (hC.ht _ hlk) (hC.ht _ hins) (hC.ht _ hini) rfl hdg hcells hslots hKn.2.1 hP.2 fun H1 kC hkC e1 z1 o1 => ?_
  have hk : ∀ (k : Nat) (x : Nat × va_E), (xmws ks b w)[k]? = some x → H1[x.1]? = H[x.1]? := fun k x hx => o1 x.1 (by rw [← hP.2]; exact (hP.1 k x hx).lt)
  refine kk w2 hf2 H1 locs ls ⟨?_, ?_⟩ ⟨Nat.le_trans hS.1 (by rw [z1, hP.2]; omega), fun x h1 h2 => (o1 x (by rw [← hP.2]; exact Nat.lt_of_lt_of_le h1 hS.1)).trans (hS.2.1 x h1 h2), hS.2.2⟩ hl
  · rw [← hw2, ← xmws_app]
    refine (hP.1.kept hk).app (fun k x hx => ?_)
    have hz : k < 1 := (List.getElem?_eq_some_iff.mp hx).1
    rw [show k = 0 by omega] at hx
    cases hx
    exact ⟨_, hcl.1, (u_born ty hC.ht hcl.2.1 hKn hkC e1 hcl.2.2.1).to (hfs b)⟩
  · rw [← hw2, z1, List.length_append]; rfl
theorem xb_newarr (hC : xmC p s m args meth c D ks b nL cc own) {α : Type} {z : α} {F : xmW → Option α} {atype : ArrayType} {n : Int32} {N : Nat} (t : Nat) (hat : (atype = .int ∧ t = 0) ∨ (atype = .boolean ∧ t = 1)) (harr : Cond.arrayClass (newarray.typeOf atype) ∈ xmTs) (hn : ¬ n < 0) (hN : n.toNatClampNeg = N) (hb1 : N ≤ 1000) (hcells : cells + 1 ≤ R.cells) (hslots : slots + N ≤ R.slots) (hdg : decode cc pc = .ok (.newarray atype, 2)) (hf : (xmnai w t N).bind F = some z) (kk : ∀ w2 : xmW, F w2 = some z → xmJ p l e R s m args below meth c D ks b nL Q w2 (cells + 1) (slots + N) (pc + 2) lv (xR (some w.length) :: st)) : xmJ p l e R s m args below meth c D ks b nL Q w cells slots pc lv (xI n :: st) := by
  obtain ⟨w2, hw, hf2⟩ := xm_bind hf
  have hw2 := Option.some.inj hw
  intro H locs ls hP hS hl
  have hbytes : N * componentBytes (newarray.typeOf atype) ≤ 536870912 := by
    rcases hat with ⟨h, -⟩ | ⟨h, -⟩
    · subst h
      have h4 : componentBytes (newarray.typeOf .int) = 4 := by decide +kernel
      rw [h4]; omega
    · subst h
      have h4 : componentBytes (newarray.typeOf .boolean) = 1 := by decide +kernel
      rw [h4]; omega
  refine va_newaK hC.hx hC.hb (hC.ht _ harr) rfl hdg rfl hn hN hbytes hcells hslots hP.2 fun H1 cA e1 z1 o1 hAr hNm => ?_
  have hk : ∀ (k : Nat) (x : Nat × va_E), (xmws ks b w)[k]? = some x → H1[x.1]? = H[x.1]? := fun k x hx => o1 x.1 (by rw [← hP.2]; exact (hP.1 k x hx).lt)
  refine kk w2 hf2 H1 locs ls ⟨?_, ?_⟩ ⟨Nat.le_trans hS.1 (by rw [z1, hP.2]; omega), fun x h1 h2 => (o1 x (by rw [← hP.2]; exact Nat.lt_of_lt_of_le h1 hS.1)).trans (hS.2.1 x h1 h2), hS.2.2⟩ hl
  · rw [← hw2, ← xmws_app]
    refine (hP.1.kept hk).app (fun k x hx => ?_)
    have hz : k < 1 := (List.getElem?_eq_some_iff.mp hx).1
    rw [show k = 0 by omega] at hx
    cases hx
    rcases hat with ⟨h, h'⟩ | ⟨h, h'⟩
    · subst h; subst h'
      have hc : cA = ks 0 := by
        have h5 : s.vm.findClass ("[" ++ (FieldType.int).toString) = some (ks 0) := (hC.hk.1.2 0 _ rfl).2
        exact Option.some.inj (hNm.symm.trans h5)
      subst hc
      exact e1
    · subst h; subst h'
      have hc : cA = ks 1 := by
        have h5 : s.vm.findClass ("[" ++ (FieldType.boolean).toString) = some (ks 1) := (hC.hk.1.2 1 _ rfl).2
        exact Option.some.inj (hNm.symm.trans h5)
      subst hc
      exact e1
  · rw [← hw2, z1, List.length_append]; rfl
theorem xb_anew2 (hC : xmC p s m args meth c D ks b nL cc own) {α : Type} {z : α} {F : xmW → Option α} {index : Nat} {n : Int32} {N : Nat} (hlk : Cond.classLink own index "SmallFloats$Format" ∈ xmTs) (hn : ¬ n < 0) (hN : n.toNatClampNeg = N) (hb1 : N ≤ 1000) (hcells : cells + 1 ≤ R.cells) (hslots : slots + N ≤ R.slots) (hdg : decode cc pc = .ok (.anewarray index, 3)) (hf : (xmnaq w 2 N).bind F = some z) (kk : ∀ w2 : xmW, F w2 = some z → xmJ p l e R s m args below meth c D ks b nL Q w2 (cells + 1) (slots + N) (pc + 3) lv (xR (some w.length) :: st)) : xmJ p l e R s m args below meth c D ks b nL Q w cells slots pc lv (xI n :: st) := by
  obtain ⟨w2, hw, hf2⟩ := xm_bind hf
  have hw2 := Option.some.inj hw
  subst hN
  intro H locs ls hP hS hl
  refine W.anew hC.hx hC.hb hC.ho (hC.ht _ hlk) (va_AO.use hC.hk.2.1) rfl hdg rfl hn (by omega) hcells hslots fun cA kA comp f1 f2 f3 f4 => ?_
  generalize hH1 : H.push ({ cls := cA, slots := Array.replicate n.toNatClampNeg .null, vm := .none } : Cell) = H1
  have z1 : H1.size = H.size + 1 := by rw [← hH1, Array.size_push]
  have e1 : H1[H.size]? = some (arrV cA n.toNatClampNeg (fun _ => .null)) := by rw [← hH1, Array.getElem?_push_size, ← arrV_new]
  have o1 : ∀ q : Nat, q < H.size → H1[q]? = H[q]? := fun q hq => by rw [← hH1, Array.getElem?_push, if_neg (Nat.ne_of_lt hq)]
  have hk : ∀ (k : Nat) (x : Nat × va_E), (xmws ks b w)[k]? = some x → H1[x.1]? = H[x.1]? := fun k x hx => o1 x.1 ((hP.1 k x hx).lt)
  have hc : cA = ks 2 := by
    obtain ⟨kA', comp', -, -, -, h5⟩ := (hC.hk.1.2 2 _ rfl).2
    exact Option.some.inj (f1.symm.trans h5)
  subst hc
  rw [hP.2]
  refine kk w2 hf2 H1 locs ls ⟨?_, ?_⟩ ⟨Nat.le_trans hS.1 (by omega), fun x h1 h2 => (o1 x (Nat.lt_of_lt_of_le h1 hS.1)).trans (hS.2.1 x h1 h2), hS.2.2⟩ hl
  · rw [← hw2, ← xmws_app]
    refine (hP.1.kept hk).app (fun k x hx => ?_)
    have hz : k < 1 := (List.getElem?_eq_some_iff.mp hx).1
    rw [show k = 0 by omega] at hx
    cases hx
    show H1[b + w.length]? = some (vp_cell _ _)
    rw [vp_cell_q, ← hP.2]
    exact e1
  · rw [← hw2, z1, List.length_append, hP.2]; rfl
theorem xb_anew3 (hC : xmC p s m args meth c D ks b nL cc own) {α : Type} {z : α} {F : xmW → Option α} {index : Nat} {n : Int32} {N : Nat} (hlk : Cond.classLink own index "SmallFloats$Row" ∈ xmTs) (hn : ¬ n < 0) (hN : n.toNatClampNeg = N) (hb1 : N ≤ 1000) (hcells : cells + 1 ≤ R.cells) (hslots : slots + N ≤ R.slots) (hdg : decode cc pc = .ok (.anewarray index, 3)) (hf : (xmnaq w 3 N).bind F = some z) (kk : ∀ w2 : xmW, F w2 = some z → xmJ p l e R s m args below meth c D ks b nL Q w2 (cells + 1) (slots + N) (pc + 3) lv (xR (some w.length) :: st)) : xmJ p l e R s m args below meth c D ks b nL Q w cells slots pc lv (xI n :: st) := by
  obtain ⟨w2, hw, hf2⟩ := xm_bind hf
  have hw2 := Option.some.inj hw
  subst hN
  intro H locs ls hP hS hl
  refine W.anew hC.hx hC.hb hC.ho (hC.ht _ hlk) (va_AO.use hC.hk.2.2.1) rfl hdg rfl hn (by omega) hcells hslots fun cA kA comp f1 f2 f3 f4 => ?_
  generalize hH1 : H.push ({ cls := cA, slots := Array.replicate n.toNatClampNeg .null, vm := .none } : Cell) = H1
  have z1 : H1.size = H.size + 1 := by rw [← hH1, Array.size_push]
  have e1 : H1[H.size]? = some (arrV cA n.toNatClampNeg (fun _ => .null)) := by rw [← hH1, Array.getElem?_push_size, ← arrV_new]
  have o1 : ∀ q : Nat, q < H.size → H1[q]? = H[q]? := fun q hq => by rw [← hH1, Array.getElem?_push, if_neg (Nat.ne_of_lt hq)]
  have hk : ∀ (k : Nat) (x : Nat × va_E), (xmws ks b w)[k]? = some x → H1[x.1]? = H[x.1]? := fun k x hx => o1 x.1 ((hP.1 k x hx).lt)
  have hc : cA = ks 3 := by
    obtain ⟨kA', comp', -, -, -, h5⟩ := (hC.hk.1.2 3 _ rfl).2
    exact Option.some.inj (f1.symm.trans h5)
  subst hc
  rw [hP.2]
  refine kk w2 hf2 H1 locs ls ⟨?_, ?_⟩ ⟨Nat.le_trans hS.1 (by omega), fun x h1 h2 => (o1 x (Nat.lt_of_lt_of_le h1 hS.1)).trans (hS.2.1 x h1 h2), hS.2.2⟩ hl
  · rw [← hw2, ← xmws_app]
    refine (hP.1.kept hk).app (fun k x hx => ?_)
    have hz : k < 1 := (List.getElem?_eq_some_iff.mp hx).1
    rw [show k = 0 by omega] at hx
    cases hx
    show H1[b + w.length]? = some (vp_cell _ _)
    rw [vp_cell_q, ← hP.2]
    exact e1
  · rw [← hw2, z1, List.length_append, hP.2]; rfl
theorem xj_iret (hC : xmC p s m args meth c D ks b nL cc own) {mc ms : Nat} {x y : Int32} {w2 : xmW} (hr : meth.sig.returnType = some .int) (hc1 : cells ≤ mc) (hc2 : slots ≤ ms) (hdg : decode cc pc = .ok (.ireturn, 1)) (hx : x = y) (hw : w = w2) : xmJ p l e R s m args below meth c D ks b nL (MQ below (xmQ D ks b (some (xI y)) w2) args s mc ms (xmA b)) w cells slots pc lv [xI x] := by
  subst hx; subst hw
  intro H locs ls hP hS hl
  refine W.widen hc1 hc2 ?_
  exact W.iret hC.hx hC.hb hr (fun t ht _ => ⟨rfl, by rw [ht]; exact hP, hS.F ht⟩) hS.2.2 hdg hC.hq
theorem xj_lret (hC : xmC p s m args meth c D ks b nL cc own) {mc ms : Nat} {x y : Int64} {w2 : xmW} (hr : meth.sig.returnType = some .long) (hc1 : cells ≤ mc) (hc2 : slots ≤ ms) (hdg : decode cc pc = .ok (.lreturn, 1)) (hx : x = y) (hw : w = w2) : xmJ p l e R s m args below meth c D ks b nL (MQ below (xmQ D ks b (some (xL y)) w2) args s mc ms (xmA b)) w cells slots pc lv [xL x] := by
  subst hx; subst hw
  intro H locs ls hP hS hl
  refine W.widen hc1 hc2 ?_
  exact W.lret hC.hx hC.hb hr (fun t ht _ => ⟨rfl, by rw [ht]; exact hP, hS.F ht⟩) hS.2.2 hdg hC.hq
theorem xj_zret (hC : xmC p s m args meth c D ks b nL cc own) {mc ms : Nat} {x y : Int32} {w2 : xmW} (hr : meth.sig.returnType = some .boolean) (hc1 : cells ≤ mc) (hc2 : slots ≤ ms) (hdg : decode cc pc = .ok (.ireturn, 1)) (hz : xmbz x = some y) (hw : w = w2) : xmJ p l e R s m args below meth c D ks b nL (MQ below (xmQ D ks b (some (xI y)) w2) args s mc ms (xmA b)) w cells slots pc lv [xI x] := by
  subst hw
  unfold xmbz at hz
  split at hz
  · rename_i hx
    have hxy := Option.some.inj hz
    subst hxy
    intro H locs ls hP hS hl
    refine W.widen hc1 hc2 ?_
    exact W.zret hC.hx hC.hb hr (by rcases hx with rfl | rfl <;> decide +kernel) (fun t ht _ => ⟨rfl, by rw [ht]; exact hP, hS.F ht⟩) hS.2.2 hdg hC.hq
  · cases hz
theorem xj_aret (hC : xmC p s m args meth c D ks b nL cc own) {mc ms : Nat} {x y : Option Nat} {w2 : xmW} {C : String} (hr : meth.sig.returnType = some (.object C)) (hc1 : cells ≤ mc) (hc2 : slots ≤ ms) (hdg : decode cc pc = .ok (.areturn, 1)) (hx : x = y) (hw : w = w2) : xmJ p l e R s m args below meth c D ks b nL (MQ below (xmQ D ks b (some (xR y)) w2) args s mc ms (xmA b)) w cells slots pc lv [xR x] := by
  subst hx; subst hw
  intro H locs ls hP hS hl
  refine W.widen hc1 hc2 ?_
  exact W.aret hC.hx hC.hb hr (Or.inl ⟨_, rfl⟩) (by cases x with | none => exact Or.inl rfl | some k => exact Or.inr ⟨_, rfl⟩) (fun t ht _ => ⟨rfl, by rw [ht]; exact hP, hS.F ht⟩) hS.2.2 hdg hC.hq
theorem xj_vret (hC : xmC p s m args meth c D ks b nL cc own) {mc ms : Nat} {w2 : xmW} (hr : meth.sig.returnType = none) (hc1 : cells ≤ mc) (hc2 : slots ≤ ms) (hdg : decode cc pc = .ok (.return_, 1)) (hw : w = w2) : xmJ p l e R s m args below meth c D ks b nL (MQ below (xmQ D ks b none w2) args s mc ms (xmA b)) w cells slots pc lv [] := by
  subst hw
  intro H locs ls hP hS hl
  refine W.widen hc1 hc2 ?_
  exact W.vret hC.hx hC.hb hr (fun t ht _ => ⟨rfl, by rw [ht]; exact hP, hS.F ht⟩) hS.2.2 hdg hC.hq
theorem xj_objInit (hC : xmC p s m args meth c D ks b nL cc own) {index : Nat} {r : Option Nat} {k : Nat} (hrk : r = some k) (hlk : Cond.methodLink own index objectInit ∈ xmTs) (hin : Cond.instanceMethod objectInit ∈ xmTs) (hcd : Cond.code objectInit ⟨#[0xb1]⟩ 1 none ∈ xmTs) (hdg : decode cc pc = .ok (.invokespecial index, 3)) (hR : 1 ≤ R.frames ∧ xmsz st + 12 ≤ R.locals) (kk : xmJ p l e R s m args below meth c D ks b nL Q w cells slots (pc + 3) lv st) : xmJ p l e R s m args below meth c D ks b nL Q w cells slots pc lv (xR r :: st) := by
  subst hrk
  intro H locs ls hP hS hl
  refine W.objInit hC.hx hC.hb hC.ho (hC.ht _ hlk) (hC.ht _ hin) (hC.ht _ hcd) rfl (by rw [hC.hm]; exact hl.1) rfl hdg hR.1 ?_ ?_
  · show 2 * 0 + _ + 12 ≤ R.locals
    rw [xm_stk]; omega
  · exact kk H locs ls hP hS hl
theorem xj_mmax (hC : xmC p s m args meth c D ks b nL cc own) {index : Nat} {x y : Int32} (hlk : Cond.methodLink own index Lib.Math.max.name ∈ xmTs) (hst : Cond.static Lib.Math.max.name ∈ xmTs) (hini : Cond.initialized "java/lang/Math" ∈ xmTs) (hcd : Cond.code Lib.Math.max.name Lib.Math.max.code 2 (some .int) ∈ xmTs) (hR : 1 ≤ R.frames ∧ xmsz st + 13 ≤ R.locals) (hc1 : cells ≤ R.cells) (hc2 : slots ≤ R.slots) (hdg : decode cc pc = .ok (.invokestatic index, 3)) (kk : xmJ p l e R s m args below meth c D ks b nL Q w cells slots (pc + 3) lv (xI (if x < y then y else x) :: st)) : xmJ p l e R s m args below meth c D ks b nL Q w cells slots pc lv (xI y :: xI x :: st) := by
  intro H locs ls hP hS hl
  exact va_mmax hC.hx hC.hb (hC.hm.trans hl.1.symm) hC.ho (hC.ht _ hlk) (hC.ht _ hst) (hC.ht _ hini) (hC.ht _ hcd) hR.1 (by rw [xm_stk]; exact hR.2) hc1 hc2 hdg (kk H locs ls hP hS hl)
theorem xj_mmin (hC : xmC p s m args meth c D ks b nL cc own) {index : Nat} {x y : Int32} (hlk : Cond.methodLink own index Lib.Math.min.name ∈ xmTs) (hst : Cond.static Lib.Math.min.name ∈ xmTs) (hini : Cond.initialized "java/lang/Math" ∈ xmTs) (hcd : Cond.code Lib.Math.min.name Lib.Math.min.code 2 (some .int) ∈ xmTs) (hR : 1 ≤ R.frames ∧ xmsz st + 13 ≤ R.locals) (hc1 : cells ≤ R.cells) (hc2 : slots ≤ R.slots) (hdg : decode cc pc = .ok (.invokestatic index, 3)) (kk : xmJ p l e R s m args below meth c D ks b nL Q w cells slots (pc + 3) lv (xI (if y < x then y else x) :: st)) : xmJ p l e R s m args below meth c D ks b nL Q w cells slots pc lv (xI y :: xI x :: st) := by
  intro H locs ls hP hS hl
  exact va_mmin hC.hx hC.hb (hC.hm.trans hl.1.symm) hC.ho (hC.ht _ hlk) (hC.ht _ hst) (hC.ht _ hini) (hC.ht _ hcd) hR.1 (by rw [xm_stk]; exact hR.2) hc1 hc2 hdg (kk H locs ls hP hS hl)
theorem xj_mmax_long (hC : xmC p s m args meth c D ks b nL cc own) {index : Nat} {x y : Int64} (hlk : Cond.methodLink own index Lib.MathLoose.max_long.x ∈ xmTs) (hst : Cond.static Lib.MathLoose.max_long.x ∈ xmTs) (hini : Cond.initialized "java/lang/Math" ∈ xmTs) (hcd : Cond.code Lib.MathLoose.max_long.x Lib.MathLoose.max_long.code 4 (some .long) ∈ xmTs) (hR : 1 ≤ R.frames ∧ xmsz st + 15 ≤ R.locals) (hc1 : cells ≤ R.cells) (hc2 : slots ≤ R.slots) (hdg : decode cc pc = .ok (.invokestatic index, 3)) (kk : xmJ p l e R s m args below meth c D ks b nL Q w cells slots (pc + 3) lv (xL (if y < x then x else y) :: st)) : xmJ p l e R s m args below meth c D ks b nL Q w cells slots pc lv (xL y :: xL x :: st) := by
  intro H locs ls hP hS hl
  exact va_mmax_long hC.hx hC.hb (hC.hm.trans hl.1.symm) hC.ho (hC.ht _ hlk) (hC.ht _ hst) (hC.ht _ hini) (hC.ht _ hcd) hR.1 (by rw [xm_stk]; exact hR.2) hc1 hc2 hdg (kk H locs ls hP hS hl)
theorem xj_mmin_long (hC : xmC p s m args meth c D ks b nL cc own) {index : Nat} {x y : Int64} (hlk : Cond.methodLink own index Lib.MathLoose.min_long.x ∈ xmTs) (hst : Cond.static Lib.MathLoose.min_long.x ∈ xmTs) (hini : Cond.initialized "java/lang/Math" ∈ xmTs) (hcd : Cond.code Lib.MathLoose.min_long.x Lib.MathLoose.min_long.code 4 (some .long) ∈ xmTs) (hR : 1 ≤ R.frames ∧ xmsz st + 15 ≤ R.locals) (hc1 : cells ≤ R.cells) (hc2 : slots ≤ R.slots) (hdg : decode cc pc = .ok (.invokestatic index, 3)) (kk : xmJ p l e R s m args below meth c D ks b nL Q w cells slots (pc + 3) lv (xL (if y < x then y else x) :: st)) : xmJ p l e R s m args below meth c D ks b nL Q w cells slots pc lv (xL y :: xL x :: st) := by
  intro H locs ls hP hS hl
  exact va_mmin_long hC.hx hC.hb (hC.hm.trans hl.1.symm) hC.ho (hC.ht _ hlk) (hC.ht _ hst) (hC.ht _ hini) (hC.ht _ hcd) hR.1 (by rw [xm_stk]; exact hR.2) hc1 hc2 hdg (kk H locs ls hP hS hl)
theorem xj_mabs (hC : xmC p s m args meth c D ks b nL cc own) {index : Nat} {x : Int32} (hlk : Cond.methodLink own index Lib.Math.abs.name ∈ xmTs) (hst : Cond.static Lib.Math.abs.name ∈ xmTs) (hini : Cond.initialized "java/lang/Math" ∈ xmTs) (hcd : Cond.code Lib.Math.abs.name Lib.Math.abs.code 1 (some .int) ∈ xmTs) (hR : 1 ≤ R.frames ∧ xmsz st + 13 ≤ R.locals) (hc1 : cells ≤ R.cells) (hc2 : slots ≤ R.slots) (hdg : decode cc pc = .ok (.invokestatic index, 3)) (kk : xmJ p l e R s m args below meth c D ks b nL Q w cells slots (pc + 3) lv (xI (if 0 ≤ x then x else 0 - x) :: st)) : xmJ p l e R s m args below meth c D ks b nL Q w cells slots pc lv (xI x :: st) := by
  intro H locs ls hP hS hl
  exact va_mabs hC.hx hC.hb (hC.hm.trans hl.1.symm) hC.ho (hC.ht _ hlk) (hC.ht _ hst) (hC.ht _ hini) (hC.ht _ hcd) hR.1 (by rw [xm_stk]; exact hR.2) hc1 hc2 hdg (kk H locs ls hP hS hl)
theorem xj_mabs_long (hC : xmC p s m args meth c D ks b nL cc own) {index : Nat} {x : Int64} (hlk : Cond.methodLink own index Lib.MathLoose.abs_long.x ∈ xmTs) (hst : Cond.static Lib.MathLoose.abs_long.x ∈ xmTs) (hini : Cond.initialized "java/lang/Math" ∈ xmTs) (hcd : Cond.code Lib.MathLoose.abs_long.x Lib.MathLoose.abs_long.code 2 (some .long) ∈ xmTs) (hR : 1 ≤ R.frames ∧ xmsz st + 13 ≤ R.locals) (hc1 : cells ≤ R.cells) (hc2 : slots ≤ R.slots) (hdg : decode cc pc = .ok (.invokestatic index, 3)) (kk : xmJ p l e R s m args below meth c D ks b nL Q w cells slots (pc + 3) lv (xL (if 0 < x then x else -x) :: st)) : xmJ p l e R s m args below meth c D ks b nL Q w cells slots pc lv (xL x :: st) := by
  intro H locs ls hP hS hl
  exact va_mabs_long hC.hx hC.hb (hC.hm.trans hl.1.symm) hC.ho (hC.ht _ hlk) (hC.ht _ hst) (hC.ht _ hini) (hC.ht _ hcd) hR.1 (by rw [xm_stk]; exact hR.2) hc1 hc2 hdg (kk H locs ls hP hS hl)
def xmRun (p : Program) (l : Launch) (e : Env) (R : Room) (s : State) (m : MethodId) (args : Array Value) (below : List Frame) (meth : Method) (c : Code) (D : va_G) (ks : Nat → ClassId) (b nL : Nat) (w : xmW) (cells slots mc ms pc : Nat) (st0 st : List xmV) (rv : Option xmV) (w' : xmW) : Prop :=
  ∀ (H : Heap) (locs : List Loc) (ls : Array Slot), xmRP D ks b w H → ls.size = nL → ∃ a : Array Value, va_Run p l e R s m args below meth c H locs cells slots mc ms (F0 m pc ls (st0.map (xmcv b))) (st.map (xmcv b)) (xmQ D ks b rv w' a) (xmA b)
theorem xj_ret {mc ms : Nat} {st0 : List xmV} {rv : Option xmV} {w' : xmW} (hr : xmRun p l e R s m args below meth c D ks b nL w cells slots mc ms pc st0 st rv w') (kk : xmJ p l e R s m args below meth c D ks b nL Q w' (cells + mc) (slots + ms) (pc + 3) lv (rv.toList ++ st)) : xmJ p l e R s m args below meth c D ks b nL Q w cells slots pc lv st0 := by
  intro H locs ls hP hS hl T hT X
  obtain ⟨a, hrun⟩ := hr H locs ls hP hl.1
  obtain ⟨v, st₀, t, T', L, h0, X', hL, e1, e2, ⟨hv, hP', hz, hkeep⟩, stp⟩ := hrun T hT X
  have hv' : v = rv.map (xmcv b) := Outcome.returned.inj hv
  subst hv'
  rw [h0] at hz hkeep
  rw [← e1] at hP'
  have hS' : va_S (xmA b) s.heap T'.heap (locs ++ L) := ⟨Nat.le_trans hS.1 (by rw [e1]; exact hz), fun q h1 h2 => by rw [e1, hkeep q (Nat.lt_of_lt_of_le h1 hS.1) h2]; exact hS.2.1 q h1 h2, fun q hq => by
    rcases List.mem_append.mp hq with h | h
    · exact hS.2.2 q h
    · exact hL q h⟩
  have hst : (rv.toList ++ st).map (xmcv b) = (rv.map (xmcv b)).toList ++ st.map (xmcv b) := by cases rv <;> rfl
  have k2 := kk T'.heap (locs ++ L) ls hP' hS' hl
  rw [hst] at k2
  obtain ⟨t2, a1, b1⟩ := k2 T' rfl X'
  exact ⟨t2, stp t2 a1, b1⟩
theorem xj_ret0 {st0 : List xmV} {rv : Option xmV} {w' : xmW} (hr : xmRun p l e R s m args below meth c D ks b nL w cells slots 0 0 pc st0 st rv w') (kk : xmJ p l e R s m args below meth c D ks b nL Q w' cells slots (pc + 3) lv (rv.toList ++ st)) : xmJ p l e R s m args below meth c D ks b nL Q w cells slots pc lv st0 := xj_ret hr kk
theorem xj_reti {st0 : List xmV} {x : Int32} {w' : xmW} (hr : xmRun p l e R s m args below meth c D ks b nL w cells slots 0 0 pc st0 st (some (xI x)) w') (kk : xmJ p l e R s m args below meth c D ks b nL Q w' cells slots (pc + 3) lv (xI x :: st)) : xmJ p l e R s m args below meth c D ks b nL Q w cells slots pc lv st0 := xj_ret hr kk
theorem xj_retl {st0 : List xmV} {x : Int64} {w' : xmW} (hr : xmRun p l e R s m args below meth c D ks b nL w cells slots 0 0 pc st0 st (some (xL x)) w') (kk : xmJ p l e R s m args below meth c D ks b nL Q w' cells slots (pc + 3) lv (xL x :: st)) : xmJ p l e R s m args below meth c D ks b nL Q w cells slots pc lv st0 := xj_ret hr kk
theorem xj_retr {st0 : List xmV} {x : Option Nat} {w' : xmW} (hr : xmRun p l e R s m args below meth c D ks b nL w cells slots 0 0 pc st0 st (some (xR x)) w') (kk : xmJ p l e R s m args below meth c D ks b nL Q w' cells slots (pc + 3) lv (xR x :: st)) : xmJ p l e R s m args below meth c D ks b nL Q w cells slots pc lv st0 := xj_ret hr kk
theorem xj_retv {st0 : List xmV} {w' : xmW} (hr : xmRun p l e R s m args below meth c D ks b nL w cells slots 0 0 pc st0 st none w') (kk : xmJ p l e R s m args below meth c D ks b nL Q w' cells slots (pc + 3) lv st) : xmJ p l e R s m args below meth c D ks b nL Q w cells slots pc lv st0 := xj_ret hr kk
theorem xj_retiM {mc ms : Nat} {st0 : List xmV} {x : Int32} {w' : xmW} (hr : xmRun p l e R s m args below meth c D ks b nL w cells slots mc ms pc st0 st (some (xI x)) w') (kk : xmJ p l e R s m args below meth c D ks b nL Q w' (cells + mc) (slots + ms) (pc + 3) lv (xI x :: st)) : xmJ p l e R s m args below meth c D ks b nL Q w cells slots pc lv st0 := xj_ret hr kk
theorem xj_retvM {mc ms : Nat} {st0 : List xmV} {w' : xmW} (hr : xmRun p l e R s m args below meth c D ks b nL w cells slots mc ms pc st0 st none w') (kk : xmJ p l e R s m args below meth c D ks b nL Q w' (cells + mc) (slots + ms) (pc + 3) lv st) : xmJ p l e R s m args below meth c D ks b nL Q w cells slots pc lv st0 := xj_ret hr kk
theorem xm_good {y : MethodName} {bytes : ByteArray} {maxL : Nat} {ret : Option FieldType} (h : Cond.code y bytes maxL ret ∈ xmTs) : GoodIn xmTs (Cond.code y bytes maxL ret :: xmTs) := by
  intro w hw
  rcases List.mem_cons.mp hw with rfl | hw
  · exact ⟨h, good_of_word (xmTs_good _ h)⟩
  · exact ⟨hw, good_of_word (xmTs_good _ hw)⟩
theorem xm_blind {av : List Value} {D : va_G} {ks : Nat → ClassId} {b : Nat} {w : xmW} : FrameBlind (va_Pc av (fun U => xmRP D ks b w U.heap ∧ xmK D ks U)) := fun _ _ _ _ q => ⟨q.1, q.2.1, xmK.call q.2.2⟩
def xmDs (y : MethodName) (n : Nat) : Prop := y.cls ≠ "java/lang/invoke/MethodHandle" ∧ y.cls ≠ "java/lang/invoke/VarHandle" ∧ (parseMethodDescriptor y.desc).map (fun d => d.parameters.length) = some n
theorem xr_V (hC : xmC p s m args meth c D ks b nL cc own) {y : MethodName} {bytes : ByteArray} {maxL fr lo mc ms index n : Nat} {ret : Option FieldType} {as : List xmV} {rv : Option xmV} {w' : xmW} {st0 : List xmV} {r : Option Nat} (hM : xmM l y (Cond.code y bytes maxL ret :: xmTs) fr lo mc ms D ks b w (xR r :: as) rv w') {ci N : Nat} {T : u_T} {fs : List xmV} (hob : xmob w r ci = some fs) (hcl : vwCl[ci]? = some (y.cls, T, N)) (hcd : Cond.code y bytes maxL ret ∈ xmTs) (hini : Cond.initialized y.cls ∈ xmTs) (hin : Cond.instanceMethod y ∈ xmTs) (hse : Cond.selects y.cls y y ∈ xmTs) (hlk : Cond.methodLink own index y ∈ xmTs) (hd : xmDs y n) (hR : fr + 1 ≤ R.frames ∧ 8 + (maxL + 11) + lo ≤ R.locals) (hn : as.length = n) (hst : st0 = as.reverse ++ xR r :: st) (hW : xmsz st ≤ 8) (hf : cells + mc ≤ R.cells ∧ slots + ms ≤ R.slots) (hdg : decode cc pc = .ok (.invokevirtual index, 3)) : xmRun p l e R s m args below meth c D ks b nL w cells slots mc ms pc st0 st rv w' := by
  obtain ⟨k, rfl, h1⟩ := xmob_at hob
  intro H locs ls hP hsz
  subst hst
  have hcb := callB_of (R := R) (own := own) (index := index) (rm := ⟨fr, mc, ms, lo⟩) n hC.ht (xm_good hcd) rfl (mc := mc) (ms := ms) rfl rfl (hC.ht _ hini) (hC.ht _ hlk) hd hR
  exact ⟨_, va_runV (C := y.cls) (As := as.map (xmcv b)) (rest := st.map (xmcv b)) ⟨hC.hx, hC.hb, hC.hm, hC.ho, hC.ht⟩ hM ⟨hcb, hC.ht _ hin, hC.ht _ hse⟩ ⟨xm_blind, va_recv hC.hk.1 hP.1 hcl (xmws_get h1), fun U hU hW => ⟨rfl, by rw [hU]; exact hP, hC.hk.moved hW⟩⟩ rfl (by rw [List.length_map]; exact hn) hsz (by show List.map (xmcv b) (as.reverse ++ xR (some k) :: st) = _; rw [List.map_append, List.map_reverse]; rfl) (by show 2 * 0 + _ ≤ 8; rw [xm_stk]; omega) hdg hf⟩
theorem xr_S (hC : xmC p s m args meth c D ks b nL cc own) {y : MethodName} {bytes : ByteArray} {maxL fr lo mc ms index n : Nat} {ret : Option FieldType} {as : List xmV} {rv : Option xmV} {w' : xmW} {st0 : List xmV} (hM : xmM l y (Cond.code y bytes maxL ret :: xmTs) fr lo mc ms D ks b w as rv w') (hcd : Cond.code y bytes maxL ret ∈ xmTs) (hini : Cond.initialized y.cls ∈ xmTs) (hsta : Cond.static y ∈ xmTs) (hlk : Cond.methodLink own index y ∈ xmTs) (hd : xmDs y n) (hR : fr + 1 ≤ R.frames ∧ 8 + (maxL + 11) + lo ≤ R.locals) (hn : as.length = n) (hst : st0 = as.reverse ++ st) (hW : xmsz st ≤ 8) (hf : cells + mc ≤ R.cells ∧ slots + ms ≤ R.slots) (hdg : decode cc pc = .ok (.invokestatic index, 3)) : xmRun p l e R s m args below meth c D ks b nL w cells slots mc ms pc st0 st rv w' := by
  intro H locs ls hP hsz
  subst hst
  have hcb := callB_of (R := R) (own := own) (index := index) (rm := ⟨fr, mc, ms, lo⟩) n hC.ht (xm_good hcd) rfl (mc := mc) (ms := ms) rfl rfl (hC.ht _ hini) (hC.ht _ hlk) hd hR
  exact ⟨_, va_runS (As := as.map (xmcv b)) (rest := st.map (xmcv b)) ⟨hC.hx, hC.hb, hC.hm, hC.ho, hC.ht⟩ hM ⟨hcb, hC.ht _ hsta⟩ ⟨xm_blind, fun U hU hW => ⟨rfl, by rw [hU]; exact hP, hC.hk.moved hW⟩⟩ rfl (by rw [List.length_map]; exact hn) hsz (by show List.map (xmcv b) (as.reverse ++ st) = _; rw [List.map_append, List.map_reverse]) (by show 2 * 0 + _ ≤ 8; rw [xm_stk]; omega) hdg hf⟩
theorem xr_I (hC : xmC p s m args meth c D ks b nL cc own) {y : MethodName} {bytes : ByteArray} {maxL fr lo mc ms index n : Nat} {as : List xmV} {rv : Option xmV} {w' : xmW} {st0 : List xmV} {k : Nat} (hM : xmM l y (Cond.code y bytes maxL none :: xmTs) fr lo mc ms D ks b w (xR (some k) :: as) rv w') (hy1 : y.name = "<init>") (hcd : Cond.code y bytes maxL none ∈ xmTs) (hini : Cond.initialized y.cls ∈ xmTs) (hin : Cond.instanceMethod y ∈ xmTs) (hlk : Cond.methodLink own index y ∈ xmTs) (hd : xmDs y n) (hR : fr + 1 ≤ R.frames ∧ 8 + (maxL + 11) + lo ≤ R.locals) (hn : as.length = n) (hst : st0 = as.reverse ++ xR (some k) :: st) (hW : xmsz st ≤ 8) (hf : cells + mc ≤ R.cells ∧ slots + ms ≤ R.slots) (hdg : decode cc pc = .ok (.invokespecial index, 3)) : xmRun p l e R s m args below meth c D ks b nL w cells slots mc ms pc st0 st rv w' := by
  intro H locs ls hP hsz
  subst hst
  have hcb := callB_of (R := R) (own := own) (index := index) (rm := ⟨fr, mc, ms, lo⟩) n hC.ht (xm_good hcd) rfl (mc := mc) (ms := ms) rfl rfl (hC.ht _ hini) (hC.ht _ hlk) hd hR
  exact ⟨_, va_runI (b := b + k) (As := as.map (xmcv b)) (rest := st.map (xmcv b)) ⟨hC.hx, hC.hb, hC.hm, hC.ho, hC.ht⟩ hM ⟨hcb, hy1, hC.ht _ hin⟩ ⟨xm_blind, fun U hU hW => ⟨rfl, by rw [hU]; exact hP, hC.hk.moved hW⟩⟩ rfl (by rw [List.length_map]; exact hn) hsz (by show List.map (xmcv b) (as.reverse ++ xR (some k) :: st) = _; rw [List.map_append, List.map_reverse]; rfl) (by show 2 * 0 + _ ≤ 8; rw [xm_stk]; omega) hdg hf⟩
theorem xr_IN (hC : xmC p s m args meth c D ks b nL cc own) {y : MethodName} {bytes : ByteArray} {maxL fr lo mc ms index n : Nat} {as : List xmV} {rv : Option xmV} {w' : xmW} {st0 : List xmV} {k : Nat} (hM : xmM l y (Cond.code y bytes maxL none :: xmTs) fr lo mc ms D ks b w (xR (some k) :: as) rv w') {host : String} (hy1 : y.name = "<init>") (hcd : Cond.code y bytes maxL none ∈ xmTs) (hini : Cond.initialized y.cls ∈ xmTs) (hin : Cond.instanceMethod y ∈ xmTs) (hlk : va_Nw (.methodLinkNest own index y host) s) (hd : xmDs y n) (hR : fr + 1 ≤ R.frames ∧ 8 + (maxL + 11) + lo ≤ R.locals) (hn : as.length = n) (hst : st0 = as.reverse ++ xR (some k) :: st) (hW : xmsz st ≤ 8) (hf : cells + mc ≤ R.cells ∧ slots + ms ≤ R.slots) (hdg : decode cc pc = .ok (.invokespecial index, 3)) : xmRun p l e R s m args below meth c D ks b nL w cells slots mc ms pc st0 st rv w' := by
  intro H locs ls hP hsz
  subst hst
  have hcb := va_cnB (R := R) (own := own) (index := index) (rm := ⟨fr, mc, ms, lo⟩) n hC.ht (xm_good hcd) rfl (mc := mc) (ms := ms) rfl rfl hlk (hC.ht _ hini) hd hR
  exact ⟨_, va_runIN (b := b + k) (As := as.map (xmcv b)) (rest := st.map (xmcv b)) ⟨hC.hx, hC.hb, hC.hm, hC.ho, hC.ht⟩ hM ⟨hcb, hy1, hC.ht _ hin⟩ ⟨xm_blind, fun U hU hW => ⟨rfl, by rw [hU]; exact hP, hC.hk.moved hW⟩⟩ rfl (by rw [List.length_map]; exact hn) hsz (by show List.map (xmcv b) (as.reverse ++ xR (some k) :: st) = _; rw [List.map_append, List.map_reverse]; rfl) (by show 2 * 0 + _ ≤ 8; rw [xm_stk]; omega) hdg hf⟩
theorem xmM.of {y : MethodName} {ret : Option FieldType} {maxL fr lo mc ms : Nat} {as : List xmV} {lv0 : List (Nat × xmV)} {rv : Option xmV} {w' : xmW} (hy : plainName y.cls = true) (hown : y.cls = own) (hsz : xmsz as ≤ maxL) (hlv : xmarg 0 as = lv0)
    (body : ∀ p e s m args below meth c, xmC p s m args meth c D ks b maxL cc own → meth.sig.returnType = ret → meth.name = y.name → xmJ p l e ({ frames := fr, cells := mc, slots := ms, locals := lo }) s m args below meth c D ks b maxL (MQ below (xmQ D ks b rv w') args s mc ms (xmA b)) w 0 0 0 lv0 []) : xmM l y (Cond.code y cc maxL ret :: xmTs) fr lo mc ms D ks b w as rv w' := by
  refine Met.ofW (cc := cc) (maxL := maxL) (ret := ret) hy rfl ?_
  intro p e s m args below meth c s₁ B hml hv
  obtain ⟨rfl, hP, hK⟩ := hv
  have hts := atoms_spec (ws := Cond.code y cc maxL ret :: xmTs) B.pre
  have hown2 : s.vm.findClass own = some m.cls := by rw [← hown]; exact findClass_of_methodNamed B.named
  have hC : xmC p s m (as.map (xmcv b)).toArray meth c D ks b maxL cc own := ⟨B.exec, B.bytes, hml, hown2, fun w h => hts w (List.mem_cons_of_mem _ h), hK, by rw [hP.2]; omega, B.notSynchronized⟩
  have hl := lv_entry (as.map (xmcv b)) (n := maxL) (by rw [xm_slen]; exact hsz)
  rw [xmarg_lv, hlv] at hl
  rw [lg_entry_eq]
  exact body p e s m _ below meth c hC B.returns (name_of_methodNamed B.named B.method).1 s.heap [] _ hP va_S.rf hl
end XROWS
end
