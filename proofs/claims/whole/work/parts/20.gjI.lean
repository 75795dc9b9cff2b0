def mjI_bitCount : MR := (⟨"java/lang/Integer", "bitCount", "(I)I"⟩, prog_23_method_49_code, 1, (Option.some .int))
theorem ojI_bitCount : MOK mjI_bitCount 1 := ⟨lwg_of 657 (by decide +kernel) (by decide +kernel), lwg_of 116 (by decide +kernel) (by decide +kernel), ⟨by decide +kernel, by decide +kernel⟩, by decide +kernel, by decide⟩
theorem ijI_bitCount : Cond.static mjI_bitCount.1 ∈ lwg := lwg_of 656 (by decide +kernel) (by decide +kernel)
theorem djI_bitCount_0 : decode mjI_bitCount.2.1 0 = .ok (.iload_n 0, 1) := by decide +kernel
theorem djI_bitCount_1 : decode mjI_bitCount.2.1 1 = .ok (.iload_n 0, 1) := by decide +kernel
theorem djI_bitCount_2 : decode mjI_bitCount.2.1 2 = .ok (.iconst 1, 1) := by decide +kernel
theorem djI_bitCount_3 : decode mjI_bitCount.2.1 3 = .ok (.iushr, 1) := by decide +kernel
theorem djI_bitCount_4 : decode mjI_bitCount.2.1 4 = .ok (.ldc_w 265, 3) := by decide +kernel
theorem djI_bitCount_7 : decode mjI_bitCount.2.1 7 = .ok (.iand, 1) := by decide +kernel
theorem djI_bitCount_8 : decode mjI_bitCount.2.1 8 = .ok (.isub, 1) := by decide +kernel
theorem djI_bitCount_9 : decode mjI_bitCount.2.1 9 = .ok (.istore_n 0, 1) := by decide +kernel
theorem djI_bitCount_10 : decode mjI_bitCount.2.1 10 = .ok (.iload_n 0, 1) := by decide +kernel
theorem djI_bitCount_11 : decode mjI_bitCount.2.1 11 = .ok (.ldc_w 266, 3) := by decide +kernel
theorem djI_bitCount_14 : decode mjI_bitCount.2.1 14 = .ok (.iand, 1) := by decide +kernel
theorem djI_bitCount_15 : decode mjI_bitCount.2.1 15 = .ok (.iload_n 0, 1) := by decide +kernel
theorem djI_bitCount_16 : decode mjI_bitCount.2.1 16 = .ok (.iconst 2, 1) := by decide +kernel
theorem djI_bitCount_17 : decode mjI_bitCount.2.1 17 = .ok (.iushr, 1) := by decide +kernel
theorem djI_bitCount_18 : decode mjI_bitCount.2.1 18 = .ok (.ldc_w 266, 3) := by decide +kernel
theorem djI_bitCount_21 : decode mjI_bitCount.2.1 21 = .ok (.iand, 1) := by decide +kernel
theorem djI_bitCount_22 : decode mjI_bitCount.2.1 22 = .ok (.iadd, 1) := by decide +kernel
theorem djI_bitCount_23 : decode mjI_bitCount.2.1 23 = .ok (.istore_n 0, 1) := by decide +kernel
theorem djI_bitCount_24 : decode mjI_bitCount.2.1 24 = .ok (.iload_n 0, 1) := by decide +kernel
theorem djI_bitCount_25 : decode mjI_bitCount.2.1 25 = .ok (.iload_n 0, 1) := by decide +kernel
theorem djI_bitCount_26 : decode mjI_bitCount.2.1 26 = .ok (.iconst 4, 1) := by decide +kernel
theorem djI_bitCount_27 : decode mjI_bitCount.2.1 27 = .ok (.iushr, 1) := by decide +kernel
theorem djI_bitCount_28 : decode mjI_bitCount.2.1 28 = .ok (.iadd, 1) := by decide +kernel
theorem djI_bitCount_29 : decode mjI_bitCount.2.1 29 = .ok (.ldc_w 267, 3) := by decide +kernel
theorem djI_bitCount_32 : decode mjI_bitCount.2.1 32 = .ok (.iand, 1) := by decide +kernel
theorem djI_bitCount_33 : decode mjI_bitCount.2.1 33 = .ok (.istore_n 0, 1) := by decide +kernel
theorem djI_bitCount_34 : decode mjI_bitCount.2.1 34 = .ok (.iload_n 0, 1) := by decide +kernel
theorem djI_bitCount_35 : decode mjI_bitCount.2.1 35 = .ok (.iload_n 0, 1) := by decide +kernel
theorem djI_bitCount_36 : decode mjI_bitCount.2.1 36 = .ok (.bipush 8, 2) := by decide +kernel
theorem djI_bitCount_38 : decode mjI_bitCount.2.1 38 = .ok (.iushr, 1) := by decide +kernel
theorem djI_bitCount_39 : decode mjI_bitCount.2.1 39 = .ok (.iadd, 1) := by decide +kernel
theorem djI_bitCount_40 : decode mjI_bitCount.2.1 40 = .ok (.istore_n 0, 1) := by decide +kernel
theorem djI_bitCount_41 : decode mjI_bitCount.2.1 41 = .ok (.iload_n 0, 1) := by decide +kernel
theorem djI_bitCount_42 : decode mjI_bitCount.2.1 42 = .ok (.iload_n 0, 1) := by decide +kernel
theorem djI_bitCount_43 : decode mjI_bitCount.2.1 43 = .ok (.bipush 16, 2) := by decide +kernel
theorem djI_bitCount_45 : decode mjI_bitCount.2.1 45 = .ok (.iushr, 1) := by decide +kernel
theorem djI_bitCount_46 : decode mjI_bitCount.2.1 46 = .ok (.iadd, 1) := by decide +kernel
theorem djI_bitCount_47 : decode mjI_bitCount.2.1 47 = .ok (.istore_n 0, 1) := by decide +kernel
theorem djI_bitCount_48 : decode mjI_bitCount.2.1 48 = .ok (.iload_n 0, 1) := by decide +kernel
theorem djI_bitCount_49 : decode mjI_bitCount.2.1 49 = .ok (.bipush 63, 2) := by decide +kernel
theorem djI_bitCount_51 : decode mjI_bitCount.2.1 51 = .ok (.iand, 1) := by decide +kernel
theorem djI_bitCount_52 : decode mjI_bitCount.2.1 52 = .ok (.ireturn, 1) := by decide +kernel
theorem w658 : Cond.constant "java/lang/Integer" 265 1431655765 ∈ lwg := lwg_of 658 (by decide +kernel) (by decide +kernel)
theorem w659 : Cond.constant "java/lang/Integer" 266 858993459 ∈ lwg := lwg_of 659 (by decide +kernel) (by decide +kernel)
theorem w660 : Cond.constant "java/lang/Integer" 267 252645135 ∈ lwg := lwg_of 660 (by decide +kernel) (by decide +kernel)
theorem bjI_bitCount_0 {l : Launch} {G : Gx} {d : Nat} {bc bs : Nat} {Φ : OutV → Mm → Prop} (M : Mm) (x0 : Int32)
    (h : Φ (.inl (some (.int ((((((((x0 - (((x0.toUInt32 >>> ((1 : Int32).toUInt32 &&& Int32.toUInt32 31)).toInt32) &&& 1431655765)) &&& 858993459) + ((((x0 - (((x0.toUInt32 >>> ((1 : Int32).toUInt32 &&& Int32.toUInt32 31)).toInt32) &&& 1431655765)).toUInt32 >>> ((2 : Int32).toUInt32 &&& Int32.toUInt32 31)).toInt32) &&& 858993459)) + (((((x0 - (((x0.toUInt32 >>> ((1 : Int32).toUInt32 &&& Int32.toUInt32 31)).toInt32) &&& 1431655765)) &&& 858993459) + ((((x0 - (((x0.toUInt32 >>> ((1 : Int32).toUInt32 &&& Int32.toUInt32 31)).toInt32) &&& 1431655765)).toUInt32 >>> ((2 : Int32).toUInt32 &&& Int32.toUInt32 31)).toInt32) &&& 858993459)).toUInt32 >>> ((4 : Int32).toUInt32 &&& Int32.toUInt32 31)).toInt32)) &&& 252645135) + (((((((x0 - (((x0.toUInt32 >>> ((1 : Int32).toUInt32 &&& Int32.toUInt32 31)).toInt32) &&& 1431655765)) &&& 858993459) + ((((x0 - (((x0.toUInt32 >>> ((1 : Int32).toUInt32 &&& Int32.toUInt32 31)).toInt32) &&& 1431655765)).toUInt32 >>> ((2 : Int32).toUInt32 &&& Int32.toUInt32 31)).toInt32) &&& 858993459)) + (((((x0 - (((x0.toUInt32 >>> ((1 : Int32).toUInt32 &&& Int32.toUInt32 31)).toInt32) &&& 1431655765)) &&& 858993459) + ((((x0 - (((x0.toUInt32 >>> ((1 : Int32).toUInt32 &&& Int32.toUInt32 31)).toInt32) &&& 1431655765)).toUInt32 >>> ((2 : Int32).toUInt32 &&& Int32.toUInt32 31)).toInt32) &&& 858993459)).toUInt32 >>> ((4 : Int32).toUInt32 &&& Int32.toUInt32 31)).toInt32)) &&& 252645135).toUInt32 >>> ((8 : Int32).toUInt32 &&& Int32.toUInt32 31)).toInt32)) + ((((((((x0 - (((x0.toUInt32 >>> ((1 : Int32).toUInt32 &&& Int32.toUInt32 31)).toInt32) &&& 1431655765)) &&& 858993459) + ((((x0 - (((x0.toUInt32 >>> ((1 : Int32).toUInt32 &&& Int32.toUInt32 31)).toInt32) &&& 1431655765)).toUInt32 >>> ((2 : Int32).toUInt32 &&& Int32.toUInt32 31)).toInt32) &&& 858993459)) + (((((x0 - (((x0.toUInt32 >>> ((1 : Int32).toUInt32 &&& Int32.toUInt32 31)).toInt32) &&& 1431655765)) &&& 858993459) + ((((x0 - (((x0.toUInt32 >>> ((1 : Int32).toUInt32 &&& Int32.toUInt32 31)).toInt32) &&& 1431655765)).toUInt32 >>> ((2 : Int32).toUInt32 &&& Int32.toUInt32 31)).toInt32) &&& 858993459)).toUInt32 >>> ((4 : Int32).toUInt32 &&& Int32.toUInt32 31)).toInt32)) &&& 252645135) + (((((((x0 - (((x0.toUInt32 >>> ((1 : Int32).toUInt32 &&& Int32.toUInt32 31)).toInt32) &&& 1431655765)) &&& 858993459) + ((((x0 - (((x0.toUInt32 >>> ((1 : Int32).toUInt32 &&& Int32.toUInt32 31)).toInt32) &&& 1431655765)).toUInt32 >>> ((2 : Int32).toUInt32 &&& Int32.toUInt32 31)).toInt32) &&& 858993459)) + (((((x0 - (((x0.toUInt32 >>> ((1 : Int32).toUInt32 &&& Int32.toUInt32 31)).toInt32) &&& 1431655765)) &&& 858993459) + ((((x0 - (((x0.toUInt32 >>> ((1 : Int32).toUInt32 &&& Int32.toUInt32 31)).toInt32) &&& 1431655765)).toUInt32 >>> ((2 : Int32).toUInt32 &&& Int32.toUInt32 31)).toInt32) &&& 858993459)).toUInt32 >>> ((4 : Int32).toUInt32 &&& Int32.toUInt32 31)).toInt32)) &&& 252645135).toUInt32 >>> ((8 : Int32).toUInt32 &&& Int32.toUInt32 31)).toInt32)).toUInt32 >>> ((16 : Int32).toUInt32 &&& Int32.toUInt32 31)).toInt32)) &&& 63)))) M) :
    Ev l G d mjI_bitCount 0 [.int x0] [] M bc bs Φ := by
  refine Ev.iload_n djI_bitCount_0 rfl ?_
  refine Ev.iload_n djI_bitCount_1 rfl ?_
  refine Ev.iconst (v := 1) djI_bitCount_2 (by decide) ?_
  refine Ev.iushr djI_bitCount_3 ?_
  refine Ev.ldc_w (v := 1431655765) djI_bitCount_4 w658 ?_
  refine Ev.iand djI_bitCount_7 ?_
  refine Ev.isub djI_bitCount_8 ?_
  refine Ev.istore_n djI_bitCount_9 (by decide) ?_
  show Ev l G d mjI_bitCount (_ + _) [.int (x0 - (((x0.toUInt32 >>> ((1 : Int32).toUInt32 &&& Int32.toUInt32 31)).toInt32) &&& 1431655765))] [] M bc bs Φ
  refine Ev.iload_n djI_bitCount_10 rfl ?_
  refine Ev.ldc_w (v := 858993459) djI_bitCount_11 w659 ?_
  refine Ev.iand djI_bitCount_14 ?_
  refine Ev.iload_n djI_bitCount_15 rfl ?_
  refine Ev.iconst (v := 2) djI_bitCount_16 (by decide) ?_
  refine Ev.iushr djI_bitCount_17 ?_
  refine Ev.ldc_w (v := 858993459) djI_bitCount_18 w659 ?_
  refine Ev.iand djI_bitCount_21 ?_
  refine Ev.iadd djI_bitCount_22 ?_
  refine Ev.istore_n djI_bitCount_23 (by decide) ?_
  show Ev l G d mjI_bitCount (_ + _) [.int (((x0 - (((x0.toUInt32 >>> ((1 : Int32).toUInt32 &&& Int32.toUInt32 31)).toInt32) &&& 1431655765)) &&& 858993459) + ((((x0 - (((x0.toUInt32 >>> ((1 : Int32).toUInt32 &&& Int32.toUInt32 31)).toInt32) &&& 1431655765)).toUInt32 >>> ((2 : Int32).toUInt32 &&& Int32.toUInt32 31)).toInt32) &&& 858993459))] [] M bc bs Φ
  refine Ev.iload_n djI_bitCount_24 rfl ?_
  refine Ev.iload_n djI_bitCount_25 rfl ?_
  refine Ev.iconst (v := 4) djI_bitCount_26 (by decide) ?_
  refine Ev.iushr djI_bitCount_27 ?_
  refine Ev.iadd djI_bitCount_28 ?_
  refine Ev.ldc_w (v := 252645135) djI_bitCount_29 w660 ?_
  refine Ev.iand djI_bitCount_32 ?_
  refine Ev.istore_n djI_bitCount_33 (by decide) ?_
  show Ev l G d mjI_bitCount (_ + _) [.int (((((x0 - (((x0.toUInt32 >>> ((1 : Int32).toUInt32 &&& Int32.toUInt32 31)).toInt32) &&& 1431655765)) &&& 858993459) + ((((x0 - (((x0.toUInt32 >>> ((1 : Int32).toUInt32 &&& Int32.toUInt32 31)).toInt32) &&& 1431655765)).toUInt32 >>> ((2 : Int32).toUInt32 &&& Int32.toUInt32 31)).toInt32) &&& 858993459)) + (((((x0 - (((x0.toUInt32 >>> ((1 : Int32).toUInt32 &&& Int32.toUInt32 31)).toInt32) &&& 1431655765)) &&& 858993459) + ((((x0 - (((x0.toUInt32 >>> ((1 : Int32).toUInt32 &&& Int32.toUInt32 31)).toInt32) &&& 1431655765)).toUInt32 >>> ((2 : Int32).toUInt32 &&& Int32.toUInt32 31)).toInt32) &&& 858993459)).toUInt32 >>> ((4 : Int32).toUInt32 &&& Int32.toUInt32 31)).toInt32)) &&& 252645135)] [] M bc bs Φ
  refine Ev.iload_n djI_bitCount_34 rfl ?_
  refine Ev.iload_n djI_bitCount_35 rfl ?_
  refine Ev.bipush (v := 8) djI_bitCount_36 (by decide) ?_
  refine Ev.iushr djI_bitCount_38 ?_
  refine Ev.iadd djI_bitCount_39 ?_
  refine Ev.istore_n djI_bitCount_40 (by decide) ?_
  show Ev l G d mjI_bitCount (_ + _) [.int ((((((x0 - (((x0.toUInt32 >>> ((1 : Int32).toUInt32 &&& Int32.toUInt32 31)).toInt32) &&& 1431655765)) &&& 858993459) + ((((x0 - (((x0.toUInt32 >>> ((1 : Int32).toUInt32 &&& Int32.toUInt32 31)).toInt32) &&& 1431655765)).toUInt32 >>> ((2 : Int32).toUInt32 &&& Int32.toUInt32 31)).toInt32) &&& 858993459)) + (((((x0 - (((x0.toUInt32 >>> ((1 : Int32).toUInt32 &&& Int32.toUInt32 31)).toInt32) &&& 1431655765)) &&& 858993459) + ((((x0 - (((x0.toUInt32 >>> ((1 : Int32).toUInt32 &&& Int32.toUInt32 31)).toInt32) &&& 1431655765)).toUInt32 >>> ((2 : Int32).toUInt32 &&& Int32.toUInt32 31)).toInt32) &&& 858993459)).toUInt32 >>> ((4 : Int32).toUInt32 &&& Int32.toUInt32 31)).toInt32)) &&& 252645135) + (((((((x0 - (((x0.toUInt32 >>> ((1 : Int32).toUInt32 &&& Int32.toUInt32 31)).toInt32) &&& 1431655765)) &&& 858993459) + ((((x0 - (((x0.toUInt32 >>> ((1 : Int32).toUInt32 &&& Int32.toUInt32 31)).toInt32) &&& 1431655765)).toUInt32 >>> ((2 : Int32).toUInt32 &&& Int32.toUInt32 31)).toInt32) &&& 858993459)) + (((((x0 - (((x0.toUInt32 >>> ((1 : Int32).toUInt32 &&& Int32.toUInt32 31)).toInt32) &&& 1431655765)) &&& 858993459) + ((((x0 - (((x0.toUInt32 >>> ((1 : Int32).toUInt32 &&& Int32.toUInt32 31)).toInt32) &&& 1431655765)).toUInt32 >>> ((2 : Int32).toUInt32 &&& Int32.toUInt32 31)).toInt32) &&& 858993459)).toUInt32 >>> ((4 : Int32).toUInt32 &&& Int32.toUInt32 31)).toInt32)) &&& 252645135).toUInt32 >>> ((8 : Int32).toUInt32 &&& Int32.toUInt32 31)).toInt32))] [] M bc bs Φ
  refine Ev.iload_n djI_bitCount_41 rfl ?_
  refine Ev.iload_n djI_bitCount_42 rfl ?_
  refine Ev.bipush (v := 16) djI_bitCount_43 (by decide) ?_
  refine Ev.iushr djI_bitCount_45 ?_
  refine Ev.iadd djI_bitCount_46 ?_
  refine Ev.istore_n djI_bitCount_47 (by decide) ?_
  show Ev l G d mjI_bitCount (_ + _) [.int (((((((x0 - (((x0.toUInt32 >>> ((1 : Int32).toUInt32 &&& Int32.toUInt32 31)).toInt32) &&& 1431655765)) &&& 858993459) + ((((x0 - (((x0.toUInt32 >>> ((1 : Int32).toUInt32 &&& Int32.toUInt32 31)).toInt32) &&& 1431655765)).toUInt32 >>> ((2 : Int32).toUInt32 &&& Int32.toUInt32 31)).toInt32) &&& 858993459)) + (((((x0 - (((x0.toUInt32 >>> ((1 : Int32).toUInt32 &&& Int32.toUInt32 31)).toInt32) &&& 1431655765)) &&& 858993459) + ((((x0 - (((x0.toUInt32 >>> ((1 : Int32).toUInt32 &&& Int32.toUInt32 31)).toInt32) &&& 1431655765)).toUInt32 >>> ((2 : Int32).toUInt32 &&& Int32.toUInt32 31)).toInt32) &&& 858993459)).toUInt32 >>> ((4 : Int32).toUInt32 &&& Int32.toUInt32 31)).toInt32)) &&& 252645135) + (((((((x0 - (((x0.toUInt32 >>> ((1 : Int32).toUInt32 &&& Int32.toUInt32 31)).toInt32) &&& 1431655765)) &&& 858993459) + ((((x0 - (((x0.toUInt32 >>> ((1 : Int32).toUInt32 &&& Int32.toUInt32 31)).toInt32) &&& 1431655765)).toUInt32 >>> ((2 : Int32).toUInt32 &&& Int32.toUInt32 31)).toInt32) &&& 858993459)) + (((((x0 - (((x0.toUInt32 >>> ((1 : Int32).toUInt32 &&& Int32.toUInt32 31)).toInt32) &&& 1431655765)) &&& 858993459) + ((((x0 - (((x0.toUInt32 >>> ((1 : Int32).toUInt32 &&& Int32.toUInt32 31)).toInt32) &&& 1431655765)).toUInt32 >>> ((2 : Int32).toUInt32 &&& Int32.toUInt32 31)).toInt32) &&& 858993459)).toUInt32 >>> ((4 : Int32).toUInt32 &&& Int32.toUInt32 31)).toInt32)) &&& 252645135).toUInt32 >>> ((8 : Int32).toUInt32 &&& Int32.toUInt32 31)).toInt32)) + ((((((((x0 - (((x0.toUInt32 >>> ((1 : Int32).toUInt32 &&& Int32.toUInt32 31)).toInt32) &&& 1431655765)) &&& 858993459) + ((((x0 - (((x0.toUInt32 >>> ((1 : Int32).toUInt32 &&& Int32.toUInt32 31)).toInt32) &&& 1431655765)).toUInt32 >>> ((2 : Int32).toUInt32 &&& Int32.toUInt32 31)).toInt32) &&& 858993459)) + (((((x0 - (((x0.toUInt32 >>> ((1 : Int32).toUInt32 &&& Int32.toUInt32 31)).toInt32) &&& 1431655765)) &&& 858993459) + ((((x0 - (((x0.toUInt32 >>> ((1 : Int32).toUInt32 &&& Int32.toUInt32 31)).toInt32) &&& 1431655765)).toUInt32 >>> ((2 : Int32).toUInt32 &&& Int32.toUInt32 31)).toInt32) &&& 858993459)).toUInt32 >>> ((4 : Int32).toUInt32 &&& Int32.toUInt32 31)).toInt32)) &&& 252645135) + (((((((x0 - (((x0.toUInt32 >>> ((1 : Int32).toUInt32 &&& Int32.toUInt32 31)).toInt32) &&& 1431655765)) &&& 858993459) + ((((x0 - (((x0.toUInt32 >>> ((1 : Int32).toUInt32 &&& Int32.toUInt32 31)).toInt32) &&& 1431655765)).toUInt32 >>> ((2 : Int32).toUInt32 &&& Int32.toUInt32 31)).toInt32) &&& 858993459)) + (((((x0 - (((x0.toUInt32 >>> ((1 : Int32).toUInt32 &&& Int32.toUInt32 31)).toInt32) &&& 1431655765)) &&& 858993459) + ((((x0 - (((x0.toUInt32 >>> ((1 : Int32).toUInt32 &&& Int32.toUInt32 31)).toInt32) &&& 1431655765)).toUInt32 >>> ((2 : Int32).toUInt32 &&& Int32.toUInt32 31)).toInt32) &&& 858993459)).toUInt32 >>> ((4 : Int32).toUInt32 &&& Int32.toUInt32 31)).toInt32)) &&& 252645135).toUInt32 >>> ((8 : Int32).toUInt32 &&& Int32.toUInt32 31)).toInt32)).toUInt32 >>> ((16 : Int32).toUInt32 &&& Int32.toUInt32 31)).toInt32))] [] M bc bs Φ
  refine Ev.iload_n djI_bitCount_48 rfl ?_
  refine Ev.bipush (v := 63) djI_bitCount_49 (by decide) ?_
  refine Ev.iand djI_bitCount_51 ?_
  exact Ev.iret djI_bitCount_52 rfl rfl h
