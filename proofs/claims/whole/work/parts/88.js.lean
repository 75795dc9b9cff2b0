/-! ===== the texts of WORDS: length, charAt ===== -/
theorem djS_length_0 : decode mjS_length.2.1 0 = .ok (.aload_n 0, 1) := by decide +kernel
theorem djS_length_1 : decode mjS_length.2.1 1 = .ok (.getfield 9, 3) := by decide +kernel
theorem djS_length_4 : decode mjS_length.2.1 4 = .ok (.arraylength, 1) := by decide +kernel
theorem djS_length_5 : decode mjS_length.2.1 5 = .ok (.aload_n 0, 1) := by decide +kernel
theorem djS_length_6 : decode mjS_length.2.1 6 = .ok (.invokevirtual 335, 3) := by decide +kernel
theorem djS_length_9 : decode mjS_length.2.1 9 = .ok (.ishr, 1) := by decide +kernel
theorem djS_length_10 : decode mjS_length.2.1 10 = .ok (.ireturn, 1) := by decide +kernel
def mjS_coder : MR := (⟨"java/lang/String", "coder", "()B"⟩, prog_26_method_152_code, 1, (Option.some .byte))
theorem ojS_coder : MOK mjS_coder 0 := ⟨lwg_of 816 (by decide +kernel) (by decide +kernel), lwg_of 110 (by decide +kernel) (by decide +kernel), ⟨by decide +kernel, by decide +kernel⟩, by decide +kernel, by decide⟩
theorem ijS_coder : Cond.instanceMethod mjS_coder.1 ∈ lwg := lwg_of 814 (by decide +kernel) (by decide +kernel)
theorem sjS_coder : Cond.selects mjS_coder.1.cls mjS_coder.1 mjS_coder.1 ∈ lwg := lwg_of 815 (by decide +kernel) (by decide +kernel)
theorem djS_coder_0 : decode mjS_coder.2.1 0 = .ok (.getstatic 38, 3) := by decide +kernel
theorem djS_coder_3 : decode mjS_coder.2.1 3 = .ok (.ifCond .eq 10, 3) := by decide +kernel
theorem djS_coder_6 : decode mjS_coder.2.1 6 = .ok (.aload_n 0, 1) := by decide +kernel
theorem djS_coder_7 : decode mjS_coder.2.1 7 = .ok (.getfield 15, 3) := by decide +kernel
theorem djS_coder_10 : decode mjS_coder.2.1 10 = .ok (.goto 4, 3) := by decide +kernel
theorem djS_coder_13 : decode mjS_coder.2.1 13 = .ok (.iconst 1, 1) := by decide +kernel
theorem djS_coder_14 : decode mjS_coder.2.1 14 = .ok (.ireturn, 1) := by decide +kernel
def mjS_isLatin1 : MR := (⟨"java/lang/String", "isLatin1", "()Z"⟩, prog_26_method_154_code, 1, (Option.some .boolean))
theorem ojS_isLatin1 : MOK mjS_isLatin1 0 := ⟨lwg_of 826 (by decide +kernel) (by decide +kernel), lwg_of 110 (by decide +kernel) (by decide +kernel), ⟨by decide +kernel, by decide +kernel⟩, by decide +kernel, by decide⟩
theorem ijS_isLatin1 : Cond.instanceMethod mjS_isLatin1.1 ∈ lwg := lwg_of 824 (by decide +kernel) (by decide +kernel)
theorem sjS_isLatin1 : Cond.selects mjS_isLatin1.1.cls mjS_isLatin1.1 mjS_isLatin1.1 ∈ lwg := lwg_of 825 (by decide +kernel) (by decide +kernel)
theorem djS_isLatin1_0 : decode mjS_isLatin1.2.1 0 = .ok (.getstatic 38, 3) := by decide +kernel
theorem djS_isLatin1_3 : decode mjS_isLatin1.2.1 3 = .ok (.ifCond .eq 14, 3) := by decide +kernel
theorem djS_isLatin1_6 : decode mjS_isLatin1.2.1 6 = .ok (.aload_n 0, 1) := by decide +kernel
theorem djS_isLatin1_7 : decode mjS_isLatin1.2.1 7 = .ok (.getfield 15, 3) := by decide +kernel
theorem djS_isLatin1_10 : decode mjS_isLatin1.2.1 10 = .ok (.ifCond .ne 7, 3) := by decide +kernel
theorem djS_isLatin1_13 : decode mjS_isLatin1.2.1 13 = .ok (.iconst 1, 1) := by decide +kernel
theorem djS_isLatin1_14 : decode mjS_isLatin1.2.1 14 = .ok (.goto 4, 3) := by decide +kernel
theorem djS_isLatin1_17 : decode mjS_isLatin1.2.1 17 = .ok (.iconst 0, 1) := by decide +kernel
theorem djS_isLatin1_18 : decode mjS_isLatin1.2.1 18 = .ok (.ireturn, 1) := by decide +kernel
theorem djS_charAt_0 : decode mjS_charAt.2.1 0 = .ok (.aload_n 0, 1) := by decide +kernel
theorem djS_charAt_1 : decode mjS_charAt.2.1 1 = .ok (.invokevirtual 492, 3) := by decide +kernel
theorem djS_charAt_4 : decode mjS_charAt.2.1 4 = .ok (.ifCond .eq 12, 3) := by decide +kernel
theorem djS_charAt_7 : decode mjS_charAt.2.1 7 = .ok (.aload_n 0, 1) := by decide +kernel
theorem djS_charAt_8 : decode mjS_charAt.2.1 8 = .ok (.getfield 9, 3) := by decide +kernel
theorem djS_charAt_11 : decode mjS_charAt.2.1 11 = .ok (.iload_n 1, 1) := by decide +kernel
theorem djS_charAt_12 : decode mjS_charAt.2.1 12 = .ok (.invokestatic 495, 3) := by decide +kernel
theorem djS_charAt_15 : decode mjS_charAt.2.1 15 = .ok (.ireturn, 1) := by decide +kernel
theorem djS_charAt_16 : decode mjS_charAt.2.1 16 = .ok (.aload_n 0, 1) := by decide +kernel
theorem djS_charAt_17 : decode mjS_charAt.2.1 17 = .ok (.getfield 9, 3) := by decide +kernel
theorem djS_charAt_20 : decode mjS_charAt.2.1 20 = .ok (.iload_n 1, 1) := by decide +kernel
theorem djS_charAt_21 : decode mjS_charAt.2.1 21 = .ok (.invokestatic 498, 3) := by decide +kernel
theorem djS_charAt_24 : decode mjS_charAt.2.1 24 = .ok (.ireturn, 1) := by decide +kernel
def mjL_charAt : MR := (⟨"java/lang/StringLatin1", "charAt", "([BI)C"⟩, prog_27_method_2_code, 2, (Option.some .char))
theorem ojL_charAt : MOK mjL_charAt 2 := ⟨lwg_of 829 (by decide +kernel) (by decide +kernel), lwg_of 111 (by decide +kernel) (by decide +kernel), ⟨by decide +kernel, by decide +kernel⟩, by decide +kernel, by decide⟩
theorem ijL_charAt : Cond.static mjL_charAt.1 ∈ lwg := lwg_of 828 (by decide +kernel) (by decide +kernel)
theorem djL_charAt_0 : decode mjL_charAt.2.1 0 = .ok (.iload_n 1, 1) := by decide +kernel
theorem djL_charAt_1 : decode mjL_charAt.2.1 1 = .ok (.aload_n 0, 1) := by decide +kernel
theorem djL_charAt_2 : decode mjL_charAt.2.1 2 = .ok (.arraylength, 1) := by decide +kernel
theorem djL_charAt_3 : decode mjL_charAt.2.1 3 = .ok (.invokestatic 9, 3) := by decide +kernel
theorem djL_charAt_6 : decode mjL_charAt.2.1 6 = .ok (.aload_n 0, 1) := by decide +kernel
theorem djL_charAt_7 : decode mjL_charAt.2.1 7 = .ok (.iload_n 1, 1) := by decide +kernel
theorem djL_charAt_8 : decode mjL_charAt.2.1 8 = .ok (.baload, 1) := by decide +kernel
theorem djL_charAt_9 : decode mjL_charAt.2.1 9 = .ok (.sipush 255, 3) := by decide +kernel
theorem djL_charAt_12 : decode mjL_charAt.2.1 12 = .ok (.iand, 1) := by decide +kernel
theorem djL_charAt_13 : decode mjL_charAt.2.1 13 = .ok (.i2c, 1) := by decide +kernel
theorem djL_charAt_14 : decode mjL_charAt.2.1 14 = .ok (.ireturn, 1) := by decide +kernel
def mjS_checkIndex : MR := (⟨"java/lang/String", "checkIndex", "(II)V"⟩, prog_26_method_155_code, 2, none)
theorem ojS_checkIndex : MOK mjS_checkIndex 2 := ⟨lwg_of 832 (by decide +kernel) (by decide +kernel), lwg_of 110 (by decide +kernel) (by decide +kernel), ⟨by decide +kernel, by decide +kernel⟩, by decide +kernel, by decide⟩
theorem ijS_checkIndex : Cond.static mjS_checkIndex.1 ∈ lwg := lwg_of 831 (by decide +kernel) (by decide +kernel)
theorem djS_checkIndex_0 : decode mjS_checkIndex.2.1 0 = .ok (.iload_n 0, 1) := by decide +kernel
theorem djS_checkIndex_1 : decode mjS_checkIndex.2.1 1 = .ok (.iload_n 1, 1) := by decide +kernel
theorem djS_checkIndex_2 : decode mjS_checkIndex.2.1 2 = .ok (.getstatic 1053, 3) := by decide +kernel
theorem djS_checkIndex_5 : decode mjS_checkIndex.2.1 5 = .ok (.invokestatic 1059, 3) := by decide +kernel
theorem djS_checkIndex_8 : decode mjS_checkIndex.2.1 8 = .ok (.pop, 1) := by decide +kernel
theorem djS_checkIndex_9 : decode mjS_checkIndex.2.1 9 = .ok (.return_, 1) := by decide +kernel
def mjP_checkIndex : MR := (⟨"jdk/internal/util/Preconditions", "checkIndex", "(IILjava/util/function/BiFunction;)I"⟩, prog_35_method_11_code, 3, (Option.some .int))
theorem ojP_checkIndex : MOK mjP_checkIndex 3 := ⟨lwg_of 837 (by decide +kernel) (by decide +kernel), lwg_of 112 (by decide +kernel) (by decide +kernel), ⟨by decide +kernel, by decide +kernel⟩, by decide +kernel, by decide⟩
theorem ijP_checkIndex : Cond.static mjP_checkIndex.1 ∈ lwg := lwg_of 836 (by decide +kernel) (by decide +kernel)
theorem djP_checkIndex_0 : decode mjP_checkIndex.2.1 0 = .ok (.iload_n 0, 1) := by decide +kernel
theorem djP_checkIndex_1 : decode mjP_checkIndex.2.1 1 = .ok (.ifCond .lt 8, 3) := by decide +kernel
theorem djP_checkIndex_4 : decode mjP_checkIndex.2.1 4 = .ok (.iload_n 0, 1) := by decide +kernel
theorem djP_checkIndex_5 : decode mjP_checkIndex.2.1 5 = .ok (.iload_n 1, 1) := by decide +kernel
theorem djP_checkIndex_6 : decode mjP_checkIndex.2.1 6 = .ok (.if_icmp .lt 10, 3) := by decide +kernel
theorem djP_checkIndex_9 : decode mjP_checkIndex.2.1 9 = .ok (.aload_n 2, 1) := by decide +kernel
theorem djP_checkIndex_10 : decode mjP_checkIndex.2.1 10 = .ok (.iload_n 0, 1) := by decide +kernel
theorem djP_checkIndex_11 : decode mjP_checkIndex.2.1 11 = .ok (.iload_n 1, 1) := by decide +kernel
theorem djP_checkIndex_12 : decode mjP_checkIndex.2.1 12 = .ok (.invokestatic 95, 3) := by decide +kernel
theorem djP_checkIndex_15 : decode mjP_checkIndex.2.1 15 = .ok (.athrow, 1) := by decide +kernel
theorem djP_checkIndex_16 : decode mjP_checkIndex.2.1 16 = .ok (.iload_n 0, 1) := by decide +kernel
theorem djP_checkIndex_17 : decode mjP_checkIndex.2.1 17 = .ok (.ireturn, 1) := by decide +kernel
theorem jw_S335 : Cond.methodLink "java/lang/String" 335 ⟨"java/lang/String", "coder", "()B"⟩ ∈ lwg := lwg_of 813 (by decide +kernel) (by decide +kernel)
theorem jw_S38 : Cond.fieldLink "java/lang/String" 38 "java/lang/String" "COMPACT_STRINGS" "Z" ∈ lwg := lwg_of 817 (by decide +kernel) (by decide +kernel)
theorem jw_S492 : Cond.methodLink "java/lang/String" 492 ⟨"java/lang/String", "isLatin1", "()Z"⟩ ∈ lwg := lwg_of 823 (by decide +kernel) (by decide +kernel)
theorem jw_S495 : Cond.methodLink "java/lang/String" 495 ⟨"java/lang/StringLatin1", "charAt", "([BI)C"⟩ ∈ lwg := lwg_of 827 (by decide +kernel) (by decide +kernel)
theorem jw_L9 : Cond.methodLink "java/lang/StringLatin1" 9 ⟨"java/lang/String", "checkIndex", "(II)V"⟩ ∈ lwg := lwg_of 830 (by decide +kernel) (by decide +kernel)
theorem jw_S1053 : Cond.fieldLink "java/lang/String" 1053 "jdk/internal/util/Preconditions" "SIOOBE_FORMATTER" "Ljava/util/function/BiFunction;" ∈ lwg := lwg_of 833 (by decide +kernel) (by decide +kernel)
theorem jw_S1059 : Cond.methodLink "java/lang/String" 1059 ⟨"jdk/internal/util/Preconditions", "checkIndex", "(IILjava/util/function/BiFunction;)I"⟩ ∈ lwg := lwg_of 835 (by decide +kernel) (by decide +kernel)
theorem jw_S9 : Cond.fieldLink "java/lang/String" 9 "java/lang/String" "value" "[B" ∈ lwg := lwg_of 1849 (by decide +kernel) (by decide +kernel)
theorem jw_S15 : Cond.fieldLink "java/lang/String" 15 "java/lang/String" "coder" "B" ∈ lwg := lwg_of 1850 (by decide +kernel) (by decide +kernel)
section JS
variable {l : Launch} {G : Gx} {d : Nat} {bc bs : Nat} {Φ : OutV → Mm → Prop}
theorem cs_Z : ("java/lang/String", "COMPACT_STRINGS", "Z", Value.int 1) ∈ f_Z := by decide +kernel
theorem ct_jsCoder (M : Mm) (w : Nat) (hw : 1 ≤ w ∧ w ≤ 23) (h : Φ (.inl (some (.int 0))) M) : Ct l G d mjS_coder bc bs [.ref (w + 30)] M Φ := by
  refine Ct.of rfl (Nat.le_of_ble_eq_true rfl) ?_
  show Ev l G d mjS_coder 0 [.ref (w + 30)] [] M bc bs Φ
  refine Ev.gets djS_coder_0 cs_Z (Or.inl jw_S38) ?_
  refine Ev.if_eq 13 (by decide) djS_coder_3 (fun c => absurd c (by decide)) (fun _ => ?_)
  refine Ev.aload_n djS_coder_6 rfl ?_
  refine Ev.getF djS_coder_7 (wC_ok w hw) jw_S15 ?_
  refine Ev.goto 14 djS_coder_10 (by decide) ?_
  exact Ev.iret djS_coder_14 rfl rfl h
theorem ct_jsLatin (M : Mm) (w : Nat) (hw : 1 ≤ w ∧ w ≤ 23) (h : Φ (.inl (some (.int 1))) M) : Ct l G d mjS_isLatin1 bc bs [.ref (w + 30)] M Φ := by
  refine Ct.of rfl (Nat.le_of_ble_eq_true rfl) ?_
  show Ev l G d mjS_isLatin1 0 [.ref (w + 30)] [] M bc bs Φ
  refine Ev.gets djS_isLatin1_0 cs_Z (Or.inl jw_S38) ?_
  refine Ev.if_eq 17 (by decide) djS_isLatin1_3 (fun c => absurd c (by decide)) (fun _ => ?_)
  refine Ev.aload_n djS_isLatin1_6 rfl ?_
  refine Ev.getF djS_isLatin1_7 (wC_ok w hw) jw_S15 ?_
  refine Ev.if_ne 17 (by decide) djS_isLatin1_10 (fun c => absurd rfl c) (fun _ => ?_)
  refine Ev.iconst (v := 1) djS_isLatin1_13 (by decide) ?_
  refine Ev.goto 18 djS_isLatin1_14 (by decide) ?_
  exact Ev.iret djS_isLatin1_18 rfl rfl h
theorem shr0 (n : Nat) : Int32.ofNat n >>> ((0 : Int32) &&& 31) = nI n := by
  rw [show (0 : Int32) &&& 31 = 0 from rfl]
  exact Int32.shiftRight_zero
theorem wTx_len : ∀ w, (1 ≤ w ∧ w ≤ 23) → (wTx w).length ≤ 9 := fun a ha => of_decide_eq_true (w_all (p := fun a => decide ((wTx a).length ≤ 9)) (by decide +kernel) a ha)
theorem ct_jsLength (M : Mm) (w : Nat) (hw : 1 ≤ w ∧ w ≤ 23) (hd : 0 < d) (h : Φ (.inl (some (.int (nI (wTx w).length)))) M) : Ct l G d mjS_length bc bs [.ref (w + 30)] M Φ := by
  refine Ct.of rfl (Nat.le_of_ble_eq_true rfl) ?_
  show Ev l G d mjS_length 0 [.ref (w + 30)] [] M bc bs Φ
  have hl := wTx_len w hw
  refine Ev.aload_n djS_length_0 rfl ?_
  refine Ev.getF djS_length_1 (wV_ok w hw) jw_S9 ?_
  refine Ev.tlenW djS_length_4 hw ?_
  refine Ev.aload_n djS_length_5 rfl ?_
  refine Ev.vcT2 (z := mjS_coder) (a := w + 30) [] [.int (Int32.ofNat (wTx w).length)] rfl djS_length_6 ojS_coder rfl jw_S335 ijS_coder sjS_coder rfl (Nat.le_of_ble_eq_true rfl) ⟨by omega, by omega⟩ (CallVC.cps0 hd (ct_jsCoder M w hw ?_))
  show Ev l G d mjS_length 9 [.ref (w + 30)] [.int 0, .int (Int32.ofNat (wTx w).length)] M bc bs Φ
  refine Ev.ishr djS_length_9 ?_
  rw [shr0]
  exact Ev.iret djS_length_10 rfl rfl h
theorem ct_jpCheck (M : Mm) (i n : Int32) (v : Value) (hv : v = .null ∨ v = .ref 99) (h0 : ¬ i < 0) (h1 : i < n) (h : Φ (.inl (some (.int i))) M) : Ct l G d mjP_checkIndex bc bs [.int i, .int n, v] M Φ := by
  refine Ct.of rfl (by rcases hv with rfl | rfl <;> exact Nat.le_of_ble_eq_true rfl) ?_
  have e : ent [.int i, .int n, v] 3 = [.int i, .int n, v] := by rcases hv with rfl | rfl <;> rfl
  show Ev l G d mjP_checkIndex 0 (ent [.int i, .int n, v] 3) [] M bc bs Φ
  rw [e]
  refine Ev.iload_n djP_checkIndex_0 rfl ?_
  refine Ev.if_lt 9 (by decide) djP_checkIndex_1 (fun c => absurd c h0) (fun _ => ?_)
  refine Ev.iload_n djP_checkIndex_4 rfl ?_
  refine Ev.iload_n djP_checkIndex_5 rfl ?_
  refine Ev.icmp_lt 16 (by decide) djP_checkIndex_6 (fun _ => ?_) (fun c => absurd h1 c)
  refine Ev.iload_n djP_checkIndex_16 rfl ?_
  exact Ev.iret djP_checkIndex_17 rfl rfl h
theorem ct_jsCheck (M : Mm) (i n : Int32) (h0 : ¬ i < 0) (h1 : i < n) (hd : 0 < d) (h : Φ (.inl none) M) : Ct l G d mjS_checkIndex bc bs [.int i, .int n] M Φ := by
  refine Ct.of rfl (Nat.le_of_ble_eq_true rfl) ?_
  show Ev l G d mjS_checkIndex 0 [.int i, .int n] [] M bc bs Φ
  refine Ev.iload_n djS_checkIndex_0 rfl ?_
  refine Ev.iload_n djS_checkIndex_1 rfl ?_
  refine Ev.getsQ djS_checkIndex_2 jw_S1053 (fun v hv => ?_)
  refine Ev.vcS (z := mjP_checkIndex) [.int i, .int n, v] [] rfl djS_checkIndex_5 ojP_checkIndex rfl jw_S1059 ijP_checkIndex (Nat.le_of_ble_eq_true rfl) (CallVC.cps0 hd (ct_jpCheck M i n v hv h0 h1 ?_))
  show Ev l G d mjS_checkIndex 8 [.int i, .int n] [.int i] M bc bs Φ
  refine Ev.pop djS_checkIndex_8 rfl ?_
  exact Ev.vret djS_checkIndex_9 rfl h
theorem ch_small : ∀ w, (1 ≤ w ∧ w ≤ 23) → ((wTx w).all fun x => decide (((x &&& 255).toUInt32.toUInt16.toUInt32.toInt32) = x)) = true := w_all (p := fun a => (wTx a).all fun x => decide (((x &&& 255).toUInt32.toUInt16.toUInt32.toInt32) = x)) (by decide +kernel)
theorem ch_nar : ∀ w, (1 ≤ w ∧ w ≤ 23) → ((wTx w).all fun x => decide (narrow .char (.int x) = .int x)) = true := w_all (p := fun a => (wTx a).all fun x => decide (narrow .char (.int x) = .int x)) (by decide +kernel)
theorem ch_narD {w i : Nat} (hw : 1 ≤ w ∧ w ≤ 23) (hi : i < (wTx w).length) : narrow .char (.int ((wTx w).getD i 0)) = .int ((wTx w).getD i 0) :=
  of_decide_eq_true (List.all_eq_true.mp (ch_nar w hw) ((wTx w).getD i 0) (by rw [List.getD_eq_getElem?_getD, List.getElem?_eq_getElem hi]; exact List.getElem_mem hi))
theorem ct_jlChar (M : Mm) (w i : Nat) (hw : 1 ≤ w ∧ w ≤ 23) (hi : i < (wTx w).length) (hd : 1 < d) (h : Φ (.inl (some (.int ((wTx w).getD i 0)))) M) : Ct l G d mjL_charAt bc bs [.ref (w + 60), .int (nI i)] M Φ := by
  refine Ct.of rfl (Nat.le_of_ble_eq_true rfl) ?_
  show Ev l G d mjL_charAt 0 [.ref (w + 60), .int (nI i)] [] M bc bs Φ
  have hl := wTx_len w hw
  refine Ev.iload_n djL_charAt_0 rfl ?_
  refine Ev.aload_n djL_charAt_1 rfl ?_
  refine Ev.tlenW djL_charAt_2 hw ?_
  refine Ev.vcS (z := mjS_checkIndex) [.int (nI i), .int (Int32.ofNat (wTx w).length)] [] rfl djL_charAt_3 ojS_checkIndex rfl jw_L9 ijS_checkIndex (Nat.le_of_ble_eq_true rfl) (CallVC.cps0 (by omega) (ct_jsCheck M _ _ (nI_pos (by omega)) (by show nI i < nI _; exact nI_lt hi (by omega)) (by omega) ?_))
  show Ev l G d mjL_charAt 6 [.ref (w + 60), .int (nI i)] [] M bc bs Φ
  refine Ev.aload_n djL_charAt_6 rfl ?_
  refine Ev.iload_n djL_charAt_7 rfl ?_
  refine Ev.ttext djL_charAt_8 hw (vp_in_nI hi (by omega)) ?_
  rw [nI_clamp (by omega)]
  refine Ev.sipush (v := 255) djL_charAt_9 (by decide) ?_
  refine Ev.iand djL_charAt_12 ?_
  refine Ev.i2c djL_charAt_13 ?_
  have hx := List.all_eq_true.mp (ch_small w hw) ((wTx w).getD i 0) (by rw [List.getD_eq_getElem?_getD, List.getElem?_eq_getElem hi]; exact List.getElem_mem hi)
  rw [of_decide_eq_true hx]
  exact Ev.iret djL_charAt_14 rfl (ch_narD hw hi) h
theorem ct_jsChar (M : Mm) (w i : Nat) (hw : 1 ≤ w ∧ w ≤ 23) (hi : i < (wTx w).length) (hd : 2 < d) (h : Φ (.inl (some (.int ((wTx w).getD i 0)))) M) : Ct l G d mjS_charAt bc bs [.ref (w + 30), .int (nI i)] M Φ := by
  refine Ct.of rfl (Nat.le_of_ble_eq_true rfl) ?_
  show Ev l G d mjS_charAt 0 [.ref (w + 30), .int (nI i)] [] M bc bs Φ
  refine Ev.aload_n djS_charAt_0 rfl ?_
  refine Ev.vcT2 (z := mjS_isLatin1) (a := w + 30) [] [] rfl djS_charAt_1 ojS_isLatin1 rfl jw_S492 ijS_isLatin1 sjS_isLatin1 rfl (Nat.le_of_ble_eq_true rfl) ⟨by omega, by omega⟩ (CallVC.cps0 (by omega) (ct_jsLatin M w hw ?_))
  show Ev l G d mjS_charAt 4 [.ref (w + 30), .int (nI i)] [.int 1] M bc bs Φ
  refine Ev.if_eq 16 (by decide) djS_charAt_4 (fun c => absurd c (by decide)) (fun _ => ?_)
  refine Ev.aload_n djS_charAt_7 rfl ?_
  refine Ev.getF djS_charAt_8 (wV_ok w hw) jw_S9 ?_
  refine Ev.iload_n djS_charAt_11 rfl ?_
  refine Ev.vcS (z := mjL_charAt) [.ref (w + 60), .int (nI i)] [] rfl djS_charAt_12 ojL_charAt rfl jw_S495 ijL_charAt (Nat.le_of_ble_eq_true rfl) (CallVC.cps0 (by omega) (ct_jlChar M w i hw hi (by omega) ?_))
  show Ev l G d mjS_charAt 15 [.ref (w + 30), .int (nI i)] [.int ((wTx w).getD i 0)] M bc bs Φ
  have hx := List.all_eq_true.mp (ch_small w hw) ((wTx w).getD i 0) (by rw [List.getD_eq_getElem?_getD, List.getElem?_eq_getElem hi]; exact List.getElem_mem hi)
  exact Ev.iret djS_charAt_15 rfl (ch_narD hw hi) h
end JS
