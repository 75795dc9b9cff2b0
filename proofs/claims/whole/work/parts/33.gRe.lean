theorem dRe_numberHere_0 : decode mRe_numberHere.2.1 0 = .ok (.aload_n 0, 1) := by decide +kernel
theorem dRe_numberHere_1 : decode mRe_numberHere.2.1 1 = .ok (.getfield 131, 3) := by decide +kernel
theorem dRe_numberHere_4 : decode mRe_numberHere.2.1 4 = .ok (.ifCond .eq 5, 3) := by decide +kernel
theorem dRe_numberHere_7 : decode mRe_numberHere.2.1 7 = .ok (.iconst 0, 1) := by decide +kernel
theorem dRe_numberHere_8 : decode mRe_numberHere.2.1 8 = .ok (.ireturn, 1) := by decide +kernel
theorem dRe_numberHere_9 : decode mRe_numberHere.2.1 9 = .ok (.aload_n 0, 1) := by decide +kernel
theorem dRe_numberHere_10 : decode mRe_numberHere.2.1 10 = .ok (.invokevirtual 137, 3) := by decide +kernel
theorem dRe_numberHere_13 : decode mRe_numberHere.2.1 13 = .ok (.aload_n 0, 1) := by decide +kernel
theorem dRe_numberHere_14 : decode mRe_numberHere.2.1 14 = .ok (.getfield 124, 3) := by decide +kernel
theorem dRe_numberHere_17 : decode mRe_numberHere.2.1 17 = .ok (.istore 4, 2) := by decide +kernel
theorem dRe_numberHere_19 : decode mRe_numberHere.2.1 19 = .ok (.iconst 0, 1) := by decide +kernel
theorem dRe_numberHere_20 : decode mRe_numberHere.2.1 20 = .ok (.istore 5, 2) := by decide +kernel
theorem dRe_numberHere_22 : decode mRe_numberHere.2.1 22 = .ok (.aload_n 0, 1) := by decide +kernel
theorem dRe_numberHere_23 : decode mRe_numberHere.2.1 23 = .ok (.aload_n 0, 1) := by decide +kernel
theorem dRe_numberHere_24 : decode mRe_numberHere.2.1 24 = .ok (.getfield 124, 3) := by decide +kernel
theorem dRe_numberHere_27 : decode mRe_numberHere.2.1 27 = .ok (.invokevirtual 127, 3) := by decide +kernel
theorem dRe_numberHere_30 : decode mRe_numberHere.2.1 30 = .ok (.invokestatic 140, 3) := by decide +kernel
theorem dRe_numberHere_33 : decode mRe_numberHere.2.1 33 = .ok (.ifCond .ne 12, 3) := by decide +kernel
theorem dRe_numberHere_36 : decode mRe_numberHere.2.1 36 = .ok (.aload_n 0, 1) := by decide +kernel
theorem dRe_numberHere_37 : decode mRe_numberHere.2.1 37 = .ok (.iconst 1, 1) := by decide +kernel
theorem dRe_numberHere_38 : decode mRe_numberHere.2.1 38 = .ok (.aload_n 0, 1) := by decide +kernel
theorem dRe_numberHere_39 : decode mRe_numberHere.2.1 39 = .ok (.getfield 124, 3) := by decide +kernel
theorem dRe_numberHere_42 : decode mRe_numberHere.2.1 42 = .ok (.invokevirtual 144, 3) := by decide +kernel
theorem dRe_numberHere_45 : decode mRe_numberHere.2.1 45 = .ok (.aload_n 0, 1) := by decide +kernel
theorem dRe_numberHere_46 : decode mRe_numberHere.2.1 46 = .ok (.aload_n 0, 1) := by decide +kernel
theorem dRe_numberHere_47 : decode mRe_numberHere.2.1 47 = .ok (.getfield 124, 3) := by decide +kernel
theorem dRe_numberHere_50 : decode mRe_numberHere.2.1 50 = .ok (.invokevirtual 127, 3) := by decide +kernel
theorem dRe_numberHere_53 : decode mRe_numberHere.2.1 53 = .ok (.invokestatic 140, 3) := by decide +kernel
theorem dRe_numberHere_56 : decode mRe_numberHere.2.1 56 = .ok (.ifCond .eq 51, 3) := by decide +kernel
theorem dRe_numberHere_59 : decode mRe_numberHere.2.1 59 = .ok (.bipush 10, 2) := by decide +kernel
theorem dRe_numberHere_61 : decode mRe_numberHere.2.1 61 = .ok (.iload 5, 2) := by decide +kernel
theorem dRe_numberHere_63 : decode mRe_numberHere.2.1 63 = .ok (.imul, 1) := by decide +kernel
theorem dRe_numberHere_64 : decode mRe_numberHere.2.1 64 = .ok (.aload_n 0, 1) := by decide +kernel
theorem dRe_numberHere_65 : decode mRe_numberHere.2.1 65 = .ok (.aload_n 0, 1) := by decide +kernel
theorem dRe_numberHere_66 : decode mRe_numberHere.2.1 66 = .ok (.getfield 124, 3) := by decide +kernel
theorem dRe_numberHere_69 : decode mRe_numberHere.2.1 69 = .ok (.invokevirtual 127, 3) := by decide +kernel
theorem dRe_numberHere_72 : decode mRe_numberHere.2.1 72 = .ok (.iadd, 1) := by decide +kernel
theorem dRe_numberHere_73 : decode mRe_numberHere.2.1 73 = .ok (.bipush 48, 2) := by decide +kernel
theorem dRe_numberHere_75 : decode mRe_numberHere.2.1 75 = .ok (.isub, 1) := by decide +kernel
theorem dRe_numberHere_76 : decode mRe_numberHere.2.1 76 = .ok (.istore 5, 2) := by decide +kernel
theorem dRe_numberHere_78 : decode mRe_numberHere.2.1 78 = .ok (.iload 5, 2) := by decide +kernel
theorem dRe_numberHere_80 : decode mRe_numberHere.2.1 80 = .ok (.ldc 148, 2) := by decide +kernel
theorem dRe_numberHere_82 : decode mRe_numberHere.2.1 82 = .ok (.if_icmp .le 8, 3) := by decide +kernel
theorem dRe_numberHere_85 : decode mRe_numberHere.2.1 85 = .ok (.ldc 148, 2) := by decide +kernel
theorem dRe_numberHere_87 : decode mRe_numberHere.2.1 87 = .ok (.goto 5, 3) := by decide +kernel
theorem dRe_numberHere_90 : decode mRe_numberHere.2.1 90 = .ok (.iload 5, 2) := by decide +kernel
theorem dRe_numberHere_92 : decode mRe_numberHere.2.1 92 = .ok (.istore 5, 2) := by decide +kernel
theorem dRe_numberHere_94 : decode mRe_numberHere.2.1 94 = .ok (.aload_n 0, 1) := by decide +kernel
theorem dRe_numberHere_95 : decode mRe_numberHere.2.1 95 = .ok (.dup, 1) := by decide +kernel
theorem dRe_numberHere_96 : decode mRe_numberHere.2.1 96 = .ok (.getfield 124, 3) := by decide +kernel
theorem dRe_numberHere_99 : decode mRe_numberHere.2.1 99 = .ok (.iconst 1, 1) := by decide +kernel
theorem dRe_numberHere_100 : decode mRe_numberHere.2.1 100 = .ok (.iadd, 1) := by decide +kernel
theorem dRe_numberHere_101 : decode mRe_numberHere.2.1 101 = .ok (.putfield 124, 3) := by decide +kernel
theorem dRe_numberHere_104 : decode mRe_numberHere.2.1 104 = .ok (.goto (-59), 3) := by decide +kernel
theorem dRe_numberHere_107 : decode mRe_numberHere.2.1 107 = .ok (.iload 5, 2) := by decide +kernel
theorem dRe_numberHere_109 : decode mRe_numberHere.2.1 109 = .ok (.iload_n 1, 1) := by decide +kernel
theorem dRe_numberHere_110 : decode mRe_numberHere.2.1 110 = .ok (.iload_n 2, 1) := by decide +kernel
theorem dRe_numberHere_111 : decode mRe_numberHere.2.1 111 = .ok (.invokestatic 149, 3) := by decide +kernel
theorem dRe_numberHere_114 : decode mRe_numberHere.2.1 114 = .ok (.ifCond .eq 9, 3) := by decide +kernel
theorem dRe_numberHere_117 : decode mRe_numberHere.2.1 117 = .ok (.iload 5, 2) := by decide +kernel
theorem dRe_numberHere_119 : decode mRe_numberHere.2.1 119 = .ok (.iload_n 3, 1) := by decide +kernel
theorem dRe_numberHere_120 : decode mRe_numberHere.2.1 120 = .ok (.if_icmp .ne 10, 3) := by decide +kernel
theorem dRe_numberHere_123 : decode mRe_numberHere.2.1 123 = .ok (.aload_n 0, 1) := by decide +kernel
theorem dRe_numberHere_124 : decode mRe_numberHere.2.1 124 = .ok (.iconst 2, 1) := by decide +kernel
theorem dRe_numberHere_125 : decode mRe_numberHere.2.1 125 = .ok (.iload 4, 2) := by decide +kernel
theorem dRe_numberHere_127 : decode mRe_numberHere.2.1 127 = .ok (.invokevirtual 144, 3) := by decide +kernel
theorem dRe_numberHere_130 : decode mRe_numberHere.2.1 130 = .ok (.aload_n 0, 1) := by decide +kernel
theorem dRe_numberHere_131 : decode mRe_numberHere.2.1 131 = .ok (.getfield 131, 3) := by decide +kernel
theorem dRe_numberHere_134 : decode mRe_numberHere.2.1 134 = .ok (.ifCond .ne 8, 3) := by decide +kernel
theorem dRe_numberHere_137 : decode mRe_numberHere.2.1 137 = .ok (.iload 5, 2) := by decide +kernel
theorem dRe_numberHere_139 : decode mRe_numberHere.2.1 139 = .ok (.goto 4, 3) := by decide +kernel
theorem dRe_numberHere_142 : decode mRe_numberHere.2.1 142 = .ok (.iconst 0, 1) := by decide +kernel
theorem dRe_numberHere_143 : decode mRe_numberHere.2.1 143 = .ok (.ireturn, 1) := by decide +kernel
theorem bRe_numberHere_0 {l : Launch} {G : Gx} {d : Nat} {bc bs : Nat} {Φ : OutV → Mm → Prop} (M : Mm) (a0 : Nat) (x1 : Int32) (x2 : Int32) (x3 : Int32)
    (h : ((m_sh M a0).1 = 11) ∧ ((m_i M a0 5) = 0 → CallVC l G d mRe_numberHere 13 [.ref a0, .int x1, .int x2, .int x3, .null, .null] [] mRe_blanks [.ref a0] M bc bs Φ) ∧ (¬ (m_i M a0 5) = 0 → Φ (.inl (some (.int 0))) M)) :
    Ev l G d mRe_numberHere 0 [.ref a0, .int x1, .int x2, .int x3, .null, .null] [] M bc bs Φ := by
  refine Ev.aload_n dRe_numberHere_0 rfl ?_
  have g1 := h.1
  replace h := h.2
  refine Ev.getI dRe_numberHere_1 (Or.inl fRe_131) rfl g1 ?_
  refine Ev.if_eq 9 (by decide) dRe_numberHere_4 (fun c => ?_) (fun c => ?_)
  · replace h := h.1 c
    refine Ev.aload_n dRe_numberHere_9 rfl ?_
    exact Ev.vcV (z := mRe_blanks) (ci := 11) [] [] rfl dRe_numberHere_10 oRe_blanks rfl w1487 iRe_blanks sRe_blanks (by decide) rfl g1 (Nat.le_of_ble_eq_true rfl) h
  · replace h := h.2 c
    refine Ev.iconst (v := 0) dRe_numberHere_7 (by decide) ?_
    exact Ev.iret dRe_numberHere_8 rfl rfl h
theorem bRe_numberHere_13 {l : Launch} {G : Gx} {d : Nat} {bc bs : Nat} {Φ : OutV → Mm → Prop} (M : Mm) (a0 : Nat) (x1 : Int32) (x2 : Int32) (x3 : Int32) (u4 : Value) (u5 : Value)
    (h : ((m_sh M a0).1 = 11) ∧ CallVC l G d mRe_numberHere 30 [.ref a0, .int x1, .int x2, .int x3, .int (m_i M a0 4), .int 0] [] mRe_byteAt [.ref a0, .int (m_i M a0 4)] M bc bs Φ) :
    Ev l G d mRe_numberHere 13 [.ref a0, .int x1, .int x2, .int x3, u4, u5] [] M bc bs Φ := by
  refine Ev.aload_n dRe_numberHere_13 rfl ?_
  have g1 := h.1
  replace h := h.2
  refine Ev.getI dRe_numberHere_14 (Or.inl fRe_124) rfl g1 ?_
  refine Ev.istore dRe_numberHere_17 (by decide) ?_
  show Ev l G d mRe_numberHere (_ + _) [.ref a0, .int x1, .int x2, .int x3, .int (m_i M a0 4), u5] [] M bc bs Φ
  refine Ev.iconst (v := 0) dRe_numberHere_19 (by decide) ?_
  refine Ev.istore dRe_numberHere_20 (by decide) ?_
  show Ev l G d mRe_numberHere (_ + _) [.ref a0, .int x1, .int x2, .int x3, .int (m_i M a0 4), .int 0] [] M bc bs Φ
  refine Ev.aload_n dRe_numberHere_22 rfl ?_
  refine Ev.aload_n dRe_numberHere_23 rfl ?_
  refine Ev.getI dRe_numberHere_24 (Or.inl fRe_124) rfl g1 ?_
  exact Ev.vcV (z := mRe_byteAt) (ci := 11) [.int (m_i M a0 4)] [] rfl dRe_numberHere_27 oRe_byteAt rfl w1491 iRe_byteAt sRe_byteAt (by decide) rfl g1 (Nat.le_of_ble_eq_true rfl) h
def mRe_isDigit : MR := (⟨"BowingRowModel", "isDigit", "(I)Z"⟩, prog_14_method_9_code, 1, (Option.some .boolean))
theorem oRe_isDigit : MOK mRe_isDigit 1 := ⟨lwg_of 1532 (by decide +kernel) (by decide +kernel), lwg_of 103 (by decide +kernel) (by decide +kernel), ⟨by decide +kernel, by decide +kernel⟩, by decide +kernel, by decide⟩
theorem iRe_isDigit : Cond.static mRe_isDigit.1 ∈ lwg := lwg_of 1531 (by decide +kernel) (by decide +kernel)
theorem w1530 : Cond.methodLink "BowingRowModel" 140 ⟨"BowingRowModel", "isDigit", "(I)Z"⟩ ∈ lwg := lwg_of 1530 (by decide +kernel) (by decide +kernel)
theorem bRe_numberHere_30 {l : Launch} {G : Gx} {d : Nat} {bc bs : Nat} {Φ : OutV → Mm → Prop} (M : Mm) (a0 : Nat) (x1 : Int32) (x2 : Int32) (x3 : Int32) (x4 : Int32) (x5 : Int32) (s0 : Int32)
    (h : CallVC l G d mRe_numberHere 33 [.ref a0, .int x1, .int x2, .int x3, .int x4, .int x5] [] mRe_isDigit [.int s0] M bc bs Φ) :
    Ev l G d mRe_numberHere 30 [.ref a0, .int x1, .int x2, .int x3, .int x4, .int x5] [.int s0] M bc bs Φ := by
  exact Ev.vcS (z := mRe_isDigit) [.int s0] [] rfl dRe_numberHere_30 oRe_isDigit rfl w1530 iRe_isDigit (Nat.le_of_ble_eq_true rfl) h
theorem bRe_numberHere_33 {l : Launch} {G : Gx} {d : Nat} {bc bs : Nat} {Φ : OutV → Mm → Prop} (M : Mm) (a0 : Nat) (x1 : Int32) (x2 : Int32) (x3 : Int32) (x4 : Int32) (x5 : Int32) (s0 : Int32)
    (h : (¬ s0 = 0 → Ev l G d mRe_numberHere 45 [.ref a0, .int x1, .int x2, .int x3, .int x4, .int x5] [] M bc bs Φ) ∧ (s0 = 0 → ((m_sh M a0).1 = 11) ∧ CallVC l G d mRe_numberHere 45 [.ref a0, .int x1, .int x2, .int x3, .int x4, .int x5] [] mRe_wrong [.ref a0, .int 1, .int (m_i M a0 4)] M bc bs Φ)) :
    Ev l G d mRe_numberHere 33 [.ref a0, .int x1, .int x2, .int x3, .int x4, .int x5] [.int s0] M bc bs Φ := by
  refine Ev.if_ne 45 (by decide) dRe_numberHere_33 (fun c => ?_) (fun c => ?_)
  · replace h := h.1 c
    exact h
  · replace h := h.2 c
    refine Ev.aload_n dRe_numberHere_36 rfl ?_
    refine Ev.iconst (v := 1) dRe_numberHere_37 (by decide) ?_
    refine Ev.aload_n dRe_numberHere_38 rfl ?_
    have g1 := h.1
    replace h := h.2
    refine Ev.getI dRe_numberHere_39 (Or.inl fRe_124) rfl g1 ?_
    exact Ev.vcV (z := mRe_wrong) (ci := 11) [.int 1, .int (m_i M a0 4)] [] rfl dRe_numberHere_42 oRe_wrong rfl w1514 iRe_wrong sRe_wrong (by decide) rfl g1 (Nat.le_of_ble_eq_true rfl) h
theorem bRe_numberHere_45 {l : Launch} {G : Gx} {d : Nat} {bc bs : Nat} {Φ : OutV → Mm → Prop} (M : Mm) (a0 : Nat) (x1 : Int32) (x2 : Int32) (x3 : Int32) (x4 : Int32) (x5 : Int32)
    (h : ((m_sh M a0).1 = 11) ∧ CallVC l G d mRe_numberHere 53 [.ref a0, .int x1, .int x2, .int x3, .int x4, .int x5] [] mRe_byteAt [.ref a0, .int (m_i M a0 4)] M bc bs Φ) :
    Ev l G d mRe_numberHere 45 [.ref a0, .int x1, .int x2, .int x3, .int x4, .int x5] [] M bc bs Φ := by
  refine Ev.aload_n dRe_numberHere_45 rfl ?_
  refine Ev.aload_n dRe_numberHere_46 rfl ?_
  have g1 := h.1
  replace h := h.2
  refine Ev.getI dRe_numberHere_47 (Or.inl fRe_124) rfl g1 ?_
  exact Ev.vcV (z := mRe_byteAt) (ci := 11) [.int (m_i M a0 4)] [] rfl dRe_numberHere_50 oRe_byteAt rfl w1491 iRe_byteAt sRe_byteAt (by decide) rfl g1 (Nat.le_of_ble_eq_true rfl) h
theorem bRe_numberHere_53 {l : Launch} {G : Gx} {d : Nat} {bc bs : Nat} {Φ : OutV → Mm → Prop} (M : Mm) (a0 : Nat) (x1 : Int32) (x2 : Int32) (x3 : Int32) (x4 : Int32) (x5 : Int32) (s0 : Int32)
    (h : CallVC l G d mRe_numberHere 56 [.ref a0, .int x1, .int x2, .int x3, .int x4, .int x5] [] mRe_isDigit [.int s0] M bc bs Φ) :
    Ev l G d mRe_numberHere 53 [.ref a0, .int x1, .int x2, .int x3, .int x4, .int x5] [.int s0] M bc bs Φ := by
  exact Ev.vcS (z := mRe_isDigit) [.int s0] [] rfl dRe_numberHere_53 oRe_isDigit rfl w1530 iRe_isDigit (Nat.le_of_ble_eq_true rfl) h
theorem bRe_numberHere_56 {l : Launch} {G : Gx} {d : Nat} {bc bs : Nat} {Φ : OutV → Mm → Prop} (M : Mm) (a0 : Nat) (x1 : Int32) (x2 : Int32) (x3 : Int32) (x4 : Int32) (x5 : Int32) (s0 : Int32)
    (h : (s0 = 0 → CallVC l G d mRe_numberHere 114 [.ref a0, .int x1, .int x2, .int x3, .int x4, .int x5] [] mRe_in [.int x5, .int x1, .int x2] M bc bs Φ) ∧ (¬ s0 = 0 → ((m_sh M a0).1 = 11) ∧ CallVC l G d mRe_numberHere 72 [.ref a0, .int x1, .int x2, .int x3, .int x4, .int x5] [.int (10 * x5)] mRe_byteAt [.ref a0, .int (m_i M a0 4)] M bc bs Φ)) :
    Ev l G d mRe_numberHere 56 [.ref a0, .int x1, .int x2, .int x3, .int x4, .int x5] [.int s0] M bc bs Φ := by
  refine Ev.if_eq 107 (by decide) dRe_numberHere_56 (fun c => ?_) (fun c => ?_)
  · replace h := h.1 c
    refine Ev.iload dRe_numberHere_107 rfl ?_
    refine Ev.iload_n dRe_numberHere_109 rfl ?_
    refine Ev.iload_n dRe_numberHere_110 rfl ?_
    exact Ev.vcS (z := mRe_in) [.int x5, .int x1, .int x2] [] rfl dRe_numberHere_111 oRe_in rfl w1476 iRe_in (Nat.le_of_ble_eq_true rfl) h
  · replace h := h.2 c
    refine Ev.bipush (v := 10) dRe_numberHere_59 (by decide) ?_
    refine Ev.iload dRe_numberHere_61 rfl ?_
    refine Ev.imul dRe_numberHere_63 ?_
    refine Ev.aload_n dRe_numberHere_64 rfl ?_
    refine Ev.aload_n dRe_numberHere_65 rfl ?_
    have g1 := h.1
    replace h := h.2
    refine Ev.getI dRe_numberHere_66 (Or.inl fRe_124) rfl g1 ?_
    exact Ev.vcV (z := mRe_byteAt) (ci := 11) [.int (m_i M a0 4)] [.int (10 * x5)] rfl dRe_numberHere_69 oRe_byteAt rfl w1491 iRe_byteAt sRe_byteAt (by decide) rfl g1 (Nat.le_of_ble_eq_true rfl) h
theorem w1533 : Cond.constant "BowingRowModel" 148 100000 ∈ lwg := lwg_of 1533 (by decide +kernel) (by decide +kernel)
theorem bRe_numberHere_72 {l : Launch} {G : Gx} {d : Nat} {bc bs : Nat} {Φ : OutV → Mm → Prop} (M : Mm) (a0 : Nat) (x1 : Int32) (x2 : Int32) (x3 : Int32) (x4 : Int32) (x5 : Int32) (s0 : Int32) (s1 : Int32)
    (h : (((s0 + s1) - 48) ≤ 100000 → ((m_sh M a0).1 = 11) ∧ Ev l G d mRe_numberHere 45 [.ref a0, .int x1, .int x2, .int x3, .int x4, .int ((s0 + s1) - 48)] [] (m_si M a0 4 ((m_i M a0 4) + 1)) bc bs Φ) ∧ (¬ ((s0 + s1) - 48) ≤ 100000 → ((m_sh M a0).1 = 11) ∧ Ev l G d mRe_numberHere 45 [.ref a0, .int x1, .int x2, .int x3, .int x4, .int 100000] [] (m_si M a0 4 ((m_i M a0 4) + 1)) bc bs Φ)) :
    Ev l G d mRe_numberHere 72 [.ref a0, .int x1, .int x2, .int x3, .int x4, .int x5] [.int s1, .int s0] M bc bs Φ := by
  refine Ev.iadd dRe_numberHere_72 ?_
  refine Ev.bipush (v := 48) dRe_numberHere_73 (by decide) ?_
  refine Ev.isub dRe_numberHere_75 ?_
  refine Ev.istore dRe_numberHere_76 (by decide) ?_
  show Ev l G d mRe_numberHere (_ + _) [.ref a0, .int x1, .int x2, .int x3, .int x4, .int ((s0 + s1) - 48)] [] M bc bs Φ
  refine Ev.iload dRe_numberHere_78 rfl ?_
  refine Ev.ldc (v := 100000) dRe_numberHere_80 w1533 ?_
  refine Ev.icmp_le 90 (by decide) dRe_numberHere_82 (fun c => ?_) (fun c => ?_)
  · replace h := h.1 c
    refine Ev.iload dRe_numberHere_90 rfl ?_
    refine Ev.istore dRe_numberHere_92 (by decide) ?_
    show Ev l G d mRe_numberHere (_ + _) [.ref a0, .int x1, .int x2, .int x3, .int x4, .int ((s0 + s1) - 48)] [] M bc bs Φ
    refine Ev.aload_n dRe_numberHere_94 rfl ?_
    refine Ev.dup dRe_numberHere_95 rfl ?_
    have g1 := h.1
    replace h := h.2
    refine Ev.getI dRe_numberHere_96 (Or.inl fRe_124) rfl g1 ?_
    refine Ev.iconst (v := 1) dRe_numberHere_99 (by decide) ?_
    refine Ev.iadd dRe_numberHere_100 ?_
    refine Ev.putI dRe_numberHere_101 ⟨_, Or.inl ⟨fRe_124, (fun h => by cases h)⟩⟩ rfl ⟨rfl, rfl⟩ g1 ?_
    refine Ev.goto 45 dRe_numberHere_104 (by decide) ?_
    exact h
  · replace h := h.2 c
    refine Ev.ldc (v := 100000) dRe_numberHere_85 w1533 ?_
    refine Ev.goto 92 dRe_numberHere_87 (by decide) ?_
    refine Ev.istore dRe_numberHere_92 (by decide) ?_
    show Ev l G d mRe_numberHere (_ + _) [.ref a0, .int x1, .int x2, .int x3, .int x4, .int 100000] [] M bc bs Φ
    refine Ev.aload_n dRe_numberHere_94 rfl ?_
    refine Ev.dup dRe_numberHere_95 rfl ?_
    have g2 := h.1
    replace h := h.2
    refine Ev.getI dRe_numberHere_96 (Or.inl fRe_124) rfl g2 ?_
    refine Ev.iconst (v := 1) dRe_numberHere_99 (by decide) ?_
    refine Ev.iadd dRe_numberHere_100 ?_
    refine Ev.putI dRe_numberHere_101 ⟨_, Or.inl ⟨fRe_124, (fun h => by cases h)⟩⟩ rfl ⟨rfl, rfl⟩ g2 ?_
    refine Ev.goto 45 dRe_numberHere_104 (by decide) ?_
    exact h
theorem bRe_numberHere_114 {l : Launch} {G : Gx} {d : Nat} {bc bs : Nat} {Φ : OutV → Mm → Prop} (M : Mm) (a0 : Nat) (x1 : Int32) (x2 : Int32) (x3 : Int32) (x4 : Int32) (x5 : Int32) (s0 : Int32)
    (h : (s0 = 0 → Ev l G d mRe_numberHere 123 [.ref a0, .int x1, .int x2, .int x3, .int x4, .int x5] [] M bc bs Φ) ∧ (¬ s0 = 0 → (¬ x5 = x3 → Ev l G d mRe_numberHere 130 [.ref a0, .int x1, .int x2, .int x3, .int x4, .int x5] [] M bc bs Φ) ∧ (x5 = x3 → Ev l G d mRe_numberHere 123 [.ref a0, .int x1, .int x2, .int x3, .int x4, .int x5] [] M bc bs Φ))) :
    Ev l G d mRe_numberHere 114 [.ref a0, .int x1, .int x2, .int x3, .int x4, .int x5] [.int s0] M bc bs Φ := by
  refine Ev.if_eq 123 (by decide) dRe_numberHere_114 (fun c => ?_) (fun c => ?_)
  · replace h := h.1 c
    exact h
  · replace h := h.2 c
    refine Ev.iload dRe_numberHere_117 rfl ?_
    refine Ev.iload_n dRe_numberHere_119 rfl ?_
    refine Ev.icmp_ne 130 (by decide) dRe_numberHere_120 (fun c => ?_) (fun c => ?_)
    · replace h := h.1 c
      exact h
    · replace h := h.2 c
      exact h
theorem bRe_numberHere_123 {l : Launch} {G : Gx} {d : Nat} {bc bs : Nat} {Φ : OutV → Mm → Prop} (M : Mm) (a0 : Nat) (x1 : Int32) (x2 : Int32) (x3 : Int32) (x4 : Int32) (x5 : Int32)
    (h : ((m_sh M a0).1 = 11) ∧ CallVC l G d mRe_numberHere 130 [.ref a0, .int x1, .int x2, .int x3, .int x4, .int x5] [] mRe_wrong [.ref a0, .int 2, .int x4] M bc bs Φ) :
    Ev l G d mRe_numberHere 123 [.ref a0, .int x1, .int x2, .int x3, .int x4, .int x5] [] M bc bs Φ := by
  refine Ev.aload_n dRe_numberHere_123 rfl ?_
  refine Ev.iconst (v := 2) dRe_numberHere_124 (by decide) ?_
  refine Ev.iload dRe_numberHere_125 rfl ?_
  have g1 := h.1
  replace h := h.2
  exact Ev.vcV (z := mRe_wrong) (ci := 11) [.int 2, .int x4] [] rfl dRe_numberHere_127 oRe_wrong rfl w1514 iRe_wrong sRe_wrong (by decide) rfl g1 (Nat.le_of_ble_eq_true rfl) h
theorem bRe_numberHere_130 {l : Launch} {G : Gx} {d : Nat} {bc bs : Nat} {Φ : OutV → Mm → Prop} (M : Mm) (a0 : Nat) (x1 : Int32) (x2 : Int32) (x3 : Int32) (x4 : Int32) (x5 : Int32)
    (h : ((m_sh M a0).1 = 11) ∧ (¬ (m_i M a0 5) = 0 → Φ (.inl (some (.int 0))) M) ∧ ((m_i M a0 5) = 0 → Φ (.inl (some (.int x5))) M)) :
    Ev l G d mRe_numberHere 130 [.ref a0, .int x1, .int x2, .int x3, .int x4, .int x5] [] M bc bs Φ := by
  refine Ev.aload_n dRe_numberHere_130 rfl ?_
  have g1 := h.1
  replace h := h.2
  refine Ev.getI dRe_numberHere_131 (Or.inl fRe_131) rfl g1 ?_
  refine Ev.if_ne 142 (by decide) dRe_numberHere_134 (fun c => ?_) (fun c => ?_)
  · replace h := h.1 c
    refine Ev.iconst (v := 0) dRe_numberHere_142 (by decide) ?_
    exact Ev.iret dRe_numberHere_143 rfl rfl h
  · replace h := h.2 c
    refine Ev.iload dRe_numberHere_137 rfl ?_
    refine Ev.goto 143 dRe_numberHere_139 (by decide) ?_
    exact Ev.iret dRe_numberHere_143 rfl rfl h
theorem dRe_isDigit_0 : decode mRe_isDigit.2.1 0 = .ok (.iload_n 0, 1) := by decide +kernel
theorem dRe_isDigit_1 : decode mRe_isDigit.2.1 1 = .ok (.bipush 48, 2) := by decide +kernel
theorem dRe_isDigit_3 : decode mRe_isDigit.2.1 3 = .ok (.if_icmp .lt 13, 3) := by decide +kernel
theorem dRe_isDigit_6 : decode mRe_isDigit.2.1 6 = .ok (.iload_n 0, 1) := by decide +kernel
theorem dRe_isDigit_7 : decode mRe_isDigit.2.1 7 = .ok (.bipush 57, 2) := by decide +kernel
theorem dRe_isDigit_9 : decode mRe_isDigit.2.1 9 = .ok (.if_icmp .gt 7, 3) := by decide +kernel
theorem dRe_isDigit_12 : decode mRe_isDigit.2.1 12 = .ok (.iconst 1, 1) := by decide +kernel
theorem dRe_isDigit_13 : decode mRe_isDigit.2.1 13 = .ok (.goto 4, 3) := by decide +kernel
theorem dRe_isDigit_16 : decode mRe_isDigit.2.1 16 = .ok (.iconst 0, 1) := by decide +kernel
theorem dRe_isDigit_17 : decode mRe_isDigit.2.1 17 = .ok (.ireturn, 1) := by decide +kernel
theorem bRe_isDigit_0 {l : Launch} {G : Gx} {d : Nat} {bc bs : Nat} {Φ : OutV → Mm → Prop} (M : Mm) (x0 : Int32)
    (h : (x0 < 48 → Φ (.inl (some (.int 0))) M) ∧ (¬ x0 < 48 → (57 < x0 → Φ (.inl (some (.int 0))) M) ∧ (¬ 57 < x0 → Φ (.inl (some (.int 1))) M))) :
    Ev l G d mRe_isDigit 0 [.int x0] [] M bc bs Φ := by
  refine Ev.iload_n dRe_isDigit_0 rfl ?_
  refine Ev.bipush (v := 48) dRe_isDigit_1 (by decide) ?_
  refine Ev.icmp_lt 16 (by decide) dRe_isDigit_3 (fun c => ?_) (fun c => ?_)
  · replace h := h.1 c
    refine Ev.iconst (v := 0) dRe_isDigit_16 (by decide) ?_
    exact Ev.iret dRe_isDigit_17 rfl rfl h
  · replace h := h.2 c
    refine Ev.iload_n dRe_isDigit_6 rfl ?_
    refine Ev.bipush (v := 57) dRe_isDigit_7 (by decide) ?_
    refine Ev.icmp_gt 16 (by decide) dRe_isDigit_9 (fun c => ?_) (fun c => ?_)
    · replace h := h.1 c
      refine Ev.iconst (v := 0) dRe_isDigit_16 (by decide) ?_
      exact Ev.iret dRe_isDigit_17 rfl rfl h
    · replace h := h.2 c
      refine Ev.iconst (v := 1) dRe_isDigit_12 (by decide) ?_
      refine Ev.goto 17 dRe_isDigit_13 (by decide) ?_
      exact Ev.iret dRe_isDigit_17 rfl rfl h
theorem dRe_sign_0 : decode mRe_sign.2.1 0 = .ok (.aload_n 0, 1) := by decide +kernel
theorem dRe_sign_1 : decode mRe_sign.2.1 1 = .ok (.getfield 131, 3) := by decide +kernel
theorem dRe_sign_4 : decode mRe_sign.2.1 4 = .ok (.ifCond .eq 4, 3) := by decide +kernel
theorem dRe_sign_7 : decode mRe_sign.2.1 7 = .ok (.return_, 1) := by decide +kernel
theorem dRe_sign_8 : decode mRe_sign.2.1 8 = .ok (.aload_n 0, 1) := by decide +kernel
theorem dRe_sign_9 : decode mRe_sign.2.1 9 = .ok (.invokevirtual 137, 3) := by decide +kernel
theorem dRe_sign_12 : decode mRe_sign.2.1 12 = .ok (.aload_n 0, 1) := by decide +kernel
theorem dRe_sign_13 : decode mRe_sign.2.1 13 = .ok (.aload_n 0, 1) := by decide +kernel
theorem dRe_sign_14 : decode mRe_sign.2.1 14 = .ok (.getfield 124, 3) := by decide +kernel
theorem dRe_sign_17 : decode mRe_sign.2.1 17 = .ok (.invokevirtual 127, 3) := by decide +kernel
theorem dRe_sign_20 : decode mRe_sign.2.1 20 = .ok (.iload_n 1, 1) := by decide +kernel
theorem dRe_sign_21 : decode mRe_sign.2.1 21 = .ok (.if_icmp .ne 16, 3) := by decide +kernel
theorem dRe_sign_24 : decode mRe_sign.2.1 24 = .ok (.aload_n 0, 1) := by decide +kernel
theorem dRe_sign_25 : decode mRe_sign.2.1 25 = .ok (.dup, 1) := by decide +kernel
theorem dRe_sign_26 : decode mRe_sign.2.1 26 = .ok (.getfield 124, 3) := by decide +kernel
theorem dRe_sign_29 : decode mRe_sign.2.1 29 = .ok (.iconst 1, 1) := by decide +kernel
theorem dRe_sign_30 : decode mRe_sign.2.1 30 = .ok (.iadd, 1) := by decide +kernel
theorem dRe_sign_31 : decode mRe_sign.2.1 31 = .ok (.putfield 124, 3) := by decide +kernel
theorem dRe_sign_34 : decode mRe_sign.2.1 34 = .ok (.goto 12, 3) := by decide +kernel
theorem dRe_sign_37 : decode mRe_sign.2.1 37 = .ok (.aload_n 0, 1) := by decide +kernel
theorem dRe_sign_38 : decode mRe_sign.2.1 38 = .ok (.iconst 1, 1) := by decide +kernel
theorem dRe_sign_39 : decode mRe_sign.2.1 39 = .ok (.aload_n 0, 1) := by decide +kernel
theorem dRe_sign_40 : decode mRe_sign.2.1 40 = .ok (.getfield 124, 3) := by decide +kernel
theorem dRe_sign_43 : decode mRe_sign.2.1 43 = .ok (.invokevirtual 144, 3) := by decide +kernel
theorem dRe_sign_46 : decode mRe_sign.2.1 46 = .ok (.return_, 1) := by decide +kernel
theorem bRe_sign_0 {l : Launch} {G : Gx} {d : Nat} {bc bs : Nat} {Φ : OutV → Mm → Prop} (M : Mm) (a0 : Nat) (x1 : Int32)
    (h : ((m_sh M a0).1 = 11) ∧ ((m_i M a0 5) = 0 → CallVC l G d mRe_sign 12 [.ref a0, .int x1] [] mRe_blanks [.ref a0] M bc bs Φ) ∧ (¬ (m_i M a0 5) = 0 → Φ (.inl none) M)) :
    Ev l G d mRe_sign 0 [.ref a0, .int x1] [] M bc bs Φ := by
  refine Ev.aload_n dRe_sign_0 rfl ?_
  have g1 := h.1
  replace h := h.2
  refine Ev.getI dRe_sign_1 (Or.inl fRe_131) rfl g1 ?_
  refine Ev.if_eq 8 (by decide) dRe_sign_4 (fun c => ?_) (fun c => ?_)
  · replace h := h.1 c
    refine Ev.aload_n dRe_sign_8 rfl ?_
    exact Ev.vcV (z := mRe_blanks) (ci := 11) [] [] rfl dRe_sign_9 oRe_blanks rfl w1487 iRe_blanks sRe_blanks (by decide) rfl g1 (Nat.le_of_ble_eq_true rfl) h
  · replace h := h.2 c
    exact Ev.vret dRe_sign_7 rfl h
theorem bRe_sign_12 {l : Launch} {G : Gx} {d : Nat} {bc bs : Nat} {Φ : OutV → Mm → Prop} (M : Mm) (a0 : Nat) (x1 : Int32)
    (h : ((m_sh M a0).1 = 11) ∧ CallVC l G d mRe_sign 20 [.ref a0, .int x1] [] mRe_byteAt [.ref a0, .int (m_i M a0 4)] M bc bs Φ) :
    Ev l G d mRe_sign 12 [.ref a0, .int x1] [] M bc bs Φ := by
  refine Ev.aload_n dRe_sign_12 rfl ?_
  refine Ev.aload_n dRe_sign_13 rfl ?_
  have g1 := h.1
  replace h := h.2
  refine Ev.getI dRe_sign_14 (Or.inl fRe_124) rfl g1 ?_
  exact Ev.vcV (z := mRe_byteAt) (ci := 11) [.int (m_i M a0 4)] [] rfl dRe_sign_17 oRe_byteAt rfl w1491 iRe_byteAt sRe_byteAt (by decide) rfl g1 (Nat.le_of_ble_eq_true rfl) h
theorem bRe_sign_20 {l : Launch} {G : Gx} {d : Nat} {bc bs : Nat} {Φ : OutV → Mm → Prop} (M : Mm) (a0 : Nat) (x1 : Int32) (s0 : Int32)
    (h : (¬ s0 = x1 → ((m_sh M a0).1 = 11) ∧ CallVC l G d mRe_sign 46 [.ref a0, .int x1] [] mRe_wrong [.ref a0, .int 1, .int (m_i M a0 4)] M bc bs Φ) ∧ (s0 = x1 → ((m_sh M a0).1 = 11) ∧ Ev l G d mRe_sign 46 [.ref a0, .int x1] [] (m_si M a0 4 ((m_i M a0 4) + 1)) bc bs Φ)) :
    Ev l G d mRe_sign 20 [.ref a0, .int x1] [.int s0] M bc bs Φ := by
  refine Ev.iload_n dRe_sign_20 rfl ?_
  refine Ev.icmp_ne 37 (by decide) dRe_sign_21 (fun c => ?_) (fun c => ?_)
  · replace h := h.1 c
    refine Ev.aload_n dRe_sign_37 rfl ?_
    refine Ev.iconst (v := 1) dRe_sign_38 (by decide) ?_
    refine Ev.aload_n dRe_sign_39 rfl ?_
    have g1 := h.1
    replace h := h.2
    refine Ev.getI dRe_sign_40 (Or.inl fRe_124) rfl g1 ?_
    exact Ev.vcV (z := mRe_wrong) (ci := 11) [.int 1, .int (m_i M a0 4)] [] rfl dRe_sign_43 oRe_wrong rfl w1514 iRe_wrong sRe_wrong (by decide) rfl g1 (Nat.le_of_ble_eq_true rfl) h
  · replace h := h.2 c
    refine Ev.aload_n dRe_sign_24 rfl ?_
    refine Ev.dup dRe_sign_25 rfl ?_
    have g2 := h.1
    replace h := h.2
    refine Ev.getI dRe_sign_26 (Or.inl fRe_124) rfl g2 ?_
    refine Ev.iconst (v := 1) dRe_sign_29 (by decide) ?_
    refine Ev.iadd dRe_sign_30 ?_
    refine Ev.putI dRe_sign_31 ⟨_, Or.inl ⟨fRe_124, (fun h => by cases h)⟩⟩ rfl ⟨rfl, rfl⟩ g2 ?_
    refine Ev.goto 46 dRe_sign_34 (by decide) ?_
    exact h
theorem bRe_sign_46 {l : Launch} {G : Gx} {d : Nat} {bc bs : Nat} {Φ : OutV → Mm → Prop} (M : Mm) (a0 : Nat) (x1 : Int32)
    (h : Φ (.inl none) M) :
    Ev l G d mRe_sign 46 [.ref a0, .int x1] [] M bc bs Φ := by
  exact Ev.vret dRe_sign_46 rfl h
def mRe_law : MR := (⟨"BowingRowModel", "law", "(I)I"⟩, prog_14_method_25_code, 4, (Option.some .int))
theorem oRe_law : MOK mRe_law 1 := ⟨lwg_of 1541 (by decide +kernel) (by decide +kernel), lwg_of 103 (by decide +kernel) (by decide +kernel), ⟨by decide +kernel, by decide +kernel⟩, by decide +kernel, by decide⟩
theorem iRe_law : Cond.instanceMethod mRe_law.1 ∈ lwg := lwg_of 1539 (by decide +kernel) (by decide +kernel)
theorem sRe_law : Cond.selects mRe_law.1.cls mRe_law.1 mRe_law.1 ∈ lwg := lwg_of 1540 (by decide +kernel) (by decide +kernel)
theorem dRe_law_0 : decode mRe_law.2.1 0 = .ok (.aload_n 0, 1) := by decide +kernel
theorem dRe_law_1 : decode mRe_law.2.1 1 = .ok (.iconst 0, 1) := by decide +kernel
theorem dRe_law_2 : decode mRe_law.2.1 2 = .ok (.putfield 115, 3) := by decide +kernel
theorem dRe_law_5 : decode mRe_law.2.1 5 = .ok (.aload_n 0, 1) := by decide +kernel
theorem dRe_law_6 : decode mRe_law.2.1 6 = .ok (.iload_n 1, 1) := by decide +kernel
theorem dRe_law_7 : decode mRe_law.2.1 7 = .ok (.iconst 0, 1) := by decide +kernel
theorem dRe_law_8 : decode mRe_law.2.1 8 = .ok (.aload_n 0, 1) := by decide +kernel
theorem dRe_law_9 : decode mRe_law.2.1 9 = .ok (.getfield 118, 3) := by decide +kernel
theorem dRe_law_12 : decode mRe_law.2.1 12 = .ok (.invokestatic 149, 3) := by decide +kernel
theorem dRe_law_15 : decode mRe_law.2.1 15 = .ok (.ifCond .ne 7, 3) := by decide +kernel
theorem dRe_law_18 : decode mRe_law.2.1 18 = .ok (.iconst 1, 1) := by decide +kernel
theorem dRe_law_19 : decode mRe_law.2.1 19 = .ok (.goto 4, 3) := by decide +kernel
theorem dRe_law_22 : decode mRe_law.2.1 22 = .ok (.iconst 0, 1) := by decide +kernel
theorem dRe_law_23 : decode mRe_law.2.1 23 = .ok (.iconst 1, 1) := by decide +kernel
theorem dRe_law_24 : decode mRe_law.2.1 24 = .ok (.invokevirtual 196, 3) := by decide +kernel
theorem dRe_law_27 : decode mRe_law.2.1 27 = .ok (.ifCond .eq 5, 3) := by decide +kernel
theorem dRe_law_30 : decode mRe_law.2.1 30 = .ok (.iconst 0, 1) := by decide +kernel
theorem dRe_law_31 : decode mRe_law.2.1 31 = .ok (.ireturn, 1) := by decide +kernel
theorem dRe_law_32 : decode mRe_law.2.1 32 = .ok (.aload_n 0, 1) := by decide +kernel
theorem dRe_law_33 : decode mRe_law.2.1 33 = .ok (.iload_n 1, 1) := by decide +kernel
theorem dRe_law_34 : decode mRe_law.2.1 34 = .ok (.invokevirtual 200, 3) := by decide +kernel
theorem dRe_law_37 : decode mRe_law.2.1 37 = .ok (.aload_n 0, 1) := by decide +kernel
theorem dRe_law_38 : decode mRe_law.2.1 38 = .ok (.iconst 0, 1) := by decide +kernel
theorem dRe_law_39 : decode mRe_law.2.1 39 = .ok (.putfield 219, 3) := by decide +kernel
theorem dRe_law_42 : decode mRe_law.2.1 42 = .ok (.aload_n 0, 1) := by decide +kernel
theorem dRe_law_43 : decode mRe_law.2.1 43 = .ok (.invokevirtual 137, 3) := by decide +kernel
theorem dRe_law_46 : decode mRe_law.2.1 46 = .ok (.aload_n 0, 1) := by decide +kernel
theorem dRe_law_47 : decode mRe_law.2.1 47 = .ok (.getfield 131, 3) := by decide +kernel
theorem dRe_law_50 : decode mRe_law.2.1 50 = .ok (.ifCond .ne 25, 3) := by decide +kernel
theorem dRe_law_53 : decode mRe_law.2.1 53 = .ok (.aload_n 0, 1) := by decide +kernel
theorem dRe_law_54 : decode mRe_law.2.1 54 = .ok (.getfield 124, 3) := by decide +kernel
theorem dRe_law_57 : decode mRe_law.2.1 57 = .ok (.aload_n 0, 1) := by decide +kernel
theorem dRe_law_58 : decode mRe_law.2.1 58 = .ok (.getfield 121, 3) := by decide +kernel
theorem dRe_law_61 : decode mRe_law.2.1 61 = .ok (.if_icmp .ge 14, 3) := by decide +kernel
theorem dRe_law_64 : decode mRe_law.2.1 64 = .ok (.aload_n 0, 1) := by decide +kernel
theorem dRe_law_65 : decode mRe_law.2.1 65 = .ok (.invokevirtual 231, 3) := by decide +kernel
theorem dRe_law_68 : decode mRe_law.2.1 68 = .ok (.aload_n 0, 1) := by decide +kernel
theorem dRe_law_69 : decode mRe_law.2.1 69 = .ok (.invokevirtual 137, 3) := by decide +kernel
theorem dRe_law_72 : decode mRe_law.2.1 72 = .ok (.goto (-26), 3) := by decide +kernel
theorem dRe_law_75 : decode mRe_law.2.1 75 = .ok (.aload_n 0, 1) := by decide +kernel
theorem dRe_law_76 : decode mRe_law.2.1 76 = .ok (.aload_n 0, 1) := by decide +kernel
theorem dRe_law_77 : decode mRe_law.2.1 77 = .ok (.getfield 134, 3) := by decide +kernel
theorem dRe_law_80 : decode mRe_law.2.1 80 = .ok (.putfield 9, 3) := by decide +kernel
theorem dRe_law_83 : decode mRe_law.2.1 83 = .ok (.aload_n 0, 1) := by decide +kernel
theorem dRe_law_84 : decode mRe_law.2.1 84 = .ok (.getfield 131, 3) := by decide +kernel
theorem dRe_law_87 : decode mRe_law.2.1 87 = .ok (.ifCond .eq 11, 3) := by decide +kernel
theorem dRe_law_90 : decode mRe_law.2.1 90 = .ok (.aload_n 0, 1) := by decide +kernel
theorem dRe_law_91 : decode mRe_law.2.1 91 = .ok (.getfield 131, 3) := by decide +kernel
theorem dRe_law_94 : decode mRe_law.2.1 94 = .ok (.bipush 10, 2) := by decide +kernel
theorem dRe_law_96 : decode mRe_law.2.1 96 = .ok (.isub, 1) := by decide +kernel
theorem dRe_law_97 : decode mRe_law.2.1 97 = .ok (.ireturn, 1) := by decide +kernel
theorem dRe_law_98 : decode mRe_law.2.1 98 = .ok (.aload_n 0, 1) := by decide +kernel
theorem dRe_law_99 : decode mRe_law.2.1 99 = .ok (.aload_n 0, 1) := by decide +kernel
theorem dRe_law_100 : decode mRe_law.2.1 100 = .ok (.getfield 219, 3) := by decide +kernel
theorem dRe_law_103 : decode mRe_law.2.1 103 = .ok (.putfield 234, 3) := by decide +kernel
theorem dRe_law_106 : decode mRe_law.2.1 106 = .ok (.iconst 0, 1) := by decide +kernel
theorem dRe_law_107 : decode mRe_law.2.1 107 = .ok (.istore_n 2, 1) := by decide +kernel
theorem dRe_law_108 : decode mRe_law.2.1 108 = .ok (.iload_n 2, 1) := by decide +kernel
theorem dRe_law_109 : decode mRe_law.2.1 109 = .ok (.aload_n 0, 1) := by decide +kernel
theorem dRe_law_110 : decode mRe_law.2.1 110 = .ok (.getfield 234, 3) := by decide +kernel
theorem dRe_law_113 : decode mRe_law.2.1 113 = .ok (.if_icmp .ge 79, 3) := by decide +kernel
theorem dRe_law_116 : decode mRe_law.2.1 116 = .ok (.aload_n 0, 1) := by decide +kernel
theorem dRe_law_117 : decode mRe_law.2.1 117 = .ok (.getfield 28, 3) := by decide +kernel
theorem dRe_law_120 : decode mRe_law.2.1 120 = .ok (.iload_n 2, 1) := by decide +kernel
theorem dRe_law_121 : decode mRe_law.2.1 121 = .ok (.aload_n 0, 1) := by decide +kernel
theorem dRe_law_122 : decode mRe_law.2.1 122 = .ok (.getfield 25, 3) := by decide +kernel
theorem dRe_law_125 : decode mRe_law.2.1 125 = .ok (.iload_n 2, 1) := by decide +kernel
theorem dRe_law_126 : decode mRe_law.2.1 126 = .ok (.iaload, 1) := by decide +kernel
theorem dRe_law_127 : decode mRe_law.2.1 127 = .ok (.iastore, 1) := by decide +kernel
theorem dRe_law_128 : decode mRe_law.2.1 128 = .ok (.aload_n 0, 1) := by decide +kernel
theorem dRe_law_129 : decode mRe_law.2.1 129 = .ok (.getfield 34, 3) := by decide +kernel
theorem dRe_law_132 : decode mRe_law.2.1 132 = .ok (.iload_n 2, 1) := by decide +kernel
theorem dRe_law_133 : decode mRe_law.2.1 133 = .ok (.aload_n 0, 1) := by decide +kernel
theorem dRe_law_134 : decode mRe_law.2.1 134 = .ok (.getfield 31, 3) := by decide +kernel
theorem dRe_law_137 : decode mRe_law.2.1 137 = .ok (.iload_n 2, 1) := by decide +kernel
theorem dRe_law_138 : decode mRe_law.2.1 138 = .ok (.iaload, 1) := by decide +kernel
theorem dRe_law_139 : decode mRe_law.2.1 139 = .ok (.iastore, 1) := by decide +kernel
theorem dRe_law_140 : decode mRe_law.2.1 140 = .ok (.aload_n 0, 1) := by decide +kernel
theorem dRe_law_141 : decode mRe_law.2.1 141 = .ok (.getfield 40, 3) := by decide +kernel
theorem dRe_law_144 : decode mRe_law.2.1 144 = .ok (.iload_n 2, 1) := by decide +kernel
theorem dRe_law_145 : decode mRe_law.2.1 145 = .ok (.aload_n 0, 1) := by decide +kernel
theorem dRe_law_146 : decode mRe_law.2.1 146 = .ok (.getfield 37, 3) := by decide +kernel
theorem dRe_law_149 : decode mRe_law.2.1 149 = .ok (.iload_n 2, 1) := by decide +kernel
theorem dRe_law_150 : decode mRe_law.2.1 150 = .ok (.iaload, 1) := by decide +kernel
theorem dRe_law_151 : decode mRe_law.2.1 151 = .ok (.iastore, 1) := by decide +kernel
theorem dRe_law_152 : decode mRe_law.2.1 152 = .ok (.iconst 0, 1) := by decide +kernel
theorem dRe_law_153 : decode mRe_law.2.1 153 = .ok (.istore_n 3, 1) := by decide +kernel
theorem dRe_law_154 : decode mRe_law.2.1 154 = .ok (.iload_n 3, 1) := by decide +kernel
theorem dRe_law_155 : decode mRe_law.2.1 155 = .ok (.aload_n 0, 1) := by decide +kernel
theorem dRe_law_156 : decode mRe_law.2.1 156 = .ok (.getfield 40, 3) := by decide +kernel
theorem dRe_law_159 : decode mRe_law.2.1 159 = .ok (.iload_n 2, 1) := by decide +kernel
theorem dRe_law_160 : decode mRe_law.2.1 160 = .ok (.iaload, 1) := by decide +kernel
theorem dRe_law_161 : decode mRe_law.2.1 161 = .ok (.if_icmp .ge 25, 3) := by decide +kernel
theorem dRe_law_164 : decode mRe_law.2.1 164 = .ok (.aload_n 0, 1) := by decide +kernel
theorem dRe_law_165 : decode mRe_law.2.1 165 = .ok (.getfield 46, 3) := by decide +kernel
theorem dRe_law_168 : decode mRe_law.2.1 168 = .ok (.iload_n 2, 1) := by decide +kernel
theorem dRe_law_169 : decode mRe_law.2.1 169 = .ok (.aaload, 1) := by decide +kernel
theorem dRe_law_170 : decode mRe_law.2.1 170 = .ok (.iload_n 3, 1) := by decide +kernel
theorem dRe_law_171 : decode mRe_law.2.1 171 = .ok (.aload_n 0, 1) := by decide +kernel
theorem dRe_law_172 : decode mRe_law.2.1 172 = .ok (.getfield 43, 3) := by decide +kernel
theorem dRe_law_175 : decode mRe_law.2.1 175 = .ok (.iload_n 2, 1) := by decide +kernel
theorem dRe_law_176 : decode mRe_law.2.1 176 = .ok (.aaload, 1) := by decide +kernel
theorem dRe_law_177 : decode mRe_law.2.1 177 = .ok (.iload_n 3, 1) := by decide +kernel
theorem dRe_law_178 : decode mRe_law.2.1 178 = .ok (.iaload, 1) := by decide +kernel
theorem dRe_law_179 : decode mRe_law.2.1 179 = .ok (.iastore, 1) := by decide +kernel
theorem dRe_law_180 : decode mRe_law.2.1 180 = .ok (.iinc 3 1, 3) := by decide +kernel
theorem dRe_law_183 : decode mRe_law.2.1 183 = .ok (.goto (-29), 3) := by decide +kernel
theorem dRe_law_186 : decode mRe_law.2.1 186 = .ok (.iinc 2 1, 3) := by decide +kernel
theorem dRe_law_189 : decode mRe_law.2.1 189 = .ok (.goto (-81), 3) := by decide +kernel
theorem dRe_law_192 : decode mRe_law.2.1 192 = .ok (.aload_n 0, 1) := by decide +kernel
theorem dRe_law_193 : decode mRe_law.2.1 193 = .ok (.getfield 234, 3) := by decide +kernel
theorem dRe_law_196 : decode mRe_law.2.1 196 = .ok (.ireturn, 1) := by decide +kernel
theorem bRe_law_0 {l : Launch} {G : Gx} {d : Nat} {bc bs : Nat} {Φ : OutV → Mm → Prop} (M : Mm) (a0 : Nat) (x1 : Int32)
    (h : ((m_sh M a0).1 = 11) ∧ CallVC l G d mRe_law 15 [.ref a0, .int x1, .null, .null] [.ref a0] mRe_in [.int x1, .int 0, .int (m_i (m_si M a0 0 0) a0 1)] (m_si M a0 0 0) bc bs Φ) :
    Ev l G d mRe_law 0 [.ref a0, .int x1, .null, .null] [] M bc bs Φ := by
  refine Ev.aload_n dRe_law_0 rfl ?_
  refine Ev.iconst (v := 0) dRe_law_1 (by decide) ?_
  have g1 := h.1
  replace h := h.2
  refine Ev.putI dRe_law_2 ⟨_, Or.inl ⟨fRe_115, (fun h => by cases h)⟩⟩ rfl ⟨rfl, rfl⟩ g1 ?_
  refine Ev.aload_n dRe_law_5 rfl ?_
  refine Ev.iload_n dRe_law_6 rfl ?_
  refine Ev.iconst (v := 0) dRe_law_7 (by decide) ?_
  refine Ev.aload_n dRe_law_8 rfl ?_
  refine Ev.getI dRe_law_9 (Or.inl fRe_118) rfl g1 ?_
  exact Ev.vcS (z := mRe_in) [.int x1, .int 0, .int (m_i (m_si M a0 0 0) a0 1)] [.ref a0] rfl dRe_law_12 oRe_in rfl w1476 iRe_in (Nat.le_of_ble_eq_true rfl) h
theorem bRe_law_15 {l : Launch} {G : Gx} {d : Nat} {bc bs : Nat} {Φ : OutV → Mm → Prop} (M : Mm) (a0 : Nat) (x1 : Int32) (u2 : Value) (u3 : Value) (r0 : Nat) (s1 : Int32)
    (h : (¬ s1 = 0 → ((m_sh M r0).1 = 11) ∧ CallVC l G d mRe_law 27 [.ref a0, .int x1, u2, u3] [] mRe_bad [.ref r0, .int 0, .int 1] M bc bs Φ) ∧ (s1 = 0 → ((m_sh M r0).1 = 11) ∧ CallVC l G d mRe_law 27 [.ref a0, .int x1, u2, u3] [] mRe_bad [.ref r0, .int 1, .int 1] M bc bs Φ)) :
    Ev l G d mRe_law 15 [.ref a0, .int x1, u2, u3] [.int s1, .ref r0] M bc bs Φ := by
  refine Ev.if_ne 22 (by decide) dRe_law_15 (fun c => ?_) (fun c => ?_)
  · replace h := h.1 c
    refine Ev.iconst (v := 0) dRe_law_22 (by decide) ?_
    refine Ev.iconst (v := 1) dRe_law_23 (by decide) ?_
    have g1 := h.1
    replace h := h.2
    exact Ev.vcV (z := mRe_bad) (ci := 11) [.int 0, .int 1] [] rfl dRe_law_24 oRe_bad rfl w1479 iRe_bad sRe_bad (by decide) rfl g1 (Nat.le_of_ble_eq_true rfl) h
  · replace h := h.2 c
    refine Ev.iconst (v := 1) dRe_law_18 (by decide) ?_
    refine Ev.goto 23 dRe_law_19 (by decide) ?_
    refine Ev.iconst (v := 1) dRe_law_23 (by decide) ?_
    have g2 := h.1
    replace h := h.2
    exact Ev.vcV (z := mRe_bad) (ci := 11) [.int 1, .int 1] [] rfl dRe_law_24 oRe_bad rfl w1479 iRe_bad sRe_bad (by decide) rfl g2 (Nat.le_of_ble_eq_true rfl) h
theorem bRe_law_27 {l : Launch} {G : Gx} {d : Nat} {bc bs : Nat} {Φ : OutV → Mm → Prop} (M : Mm) (a0 : Nat) (x1 : Int32) (u2 : Value) (u3 : Value) (s0 : Int32)
    (h : (s0 = 0 → ((m_sh M a0).1 = 11) ∧ CallVC l G d mRe_law 37 [.ref a0, .int x1, u2, u3] [] mRe_starts [.ref a0, .int x1] M bc bs Φ) ∧ (¬ s0 = 0 → Φ (.inl (some (.int 0))) M)) :
    Ev l G d mRe_law 27 [.ref a0, .int x1, u2, u3] [.int s0] M bc bs Φ := by
  refine Ev.if_eq 32 (by decide) dRe_law_27 (fun c => ?_) (fun c => ?_)
  · replace h := h.1 c
    refine Ev.aload_n dRe_law_32 rfl ?_
    refine Ev.iload_n dRe_law_33 rfl ?_
    have g1 := h.1
    replace h := h.2
    exact Ev.vcV (z := mRe_starts) (ci := 11) [.int x1] [] rfl dRe_law_34 oRe_starts rfl w1483 iRe_starts sRe_starts (by decide) rfl g1 (Nat.le_of_ble_eq_true rfl) h
  · replace h := h.2 c
    refine Ev.iconst (v := 0) dRe_law_30 (by decide) ?_
    exact Ev.iret dRe_law_31 rfl rfl h
theorem fRe_219 : FOK "BowingRowModel" 219 11 14 false := ⟨RX12, TX12, nFd 11, rfl, by decide, rfl, by decide, rfl, lwg_of 1297 (by decide +kernel) (by decide +kernel)⟩
theorem bRe_law_37 {l : Launch} {G : Gx} {d : Nat} {bc bs : Nat} {Φ : OutV → Mm → Prop} (M : Mm) (a0 : Nat) (x1 : Int32) (u2 : Value) (u3 : Value)
    (h : ((m_sh M a0).1 = 11) ∧ CallVC l G d mRe_law 46 [.ref a0, .int x1, u2, u3] [] mRe_blanks [.ref a0] (m_si M a0 14 0) bc bs Φ) :
    Ev l G d mRe_law 37 [.ref a0, .int x1, u2, u3] [] M bc bs Φ := by
  refine Ev.aload_n dRe_law_37 rfl ?_
  refine Ev.iconst (v := 0) dRe_law_38 (by decide) ?_
  have g1 := h.1
  replace h := h.2
  refine Ev.putI dRe_law_39 ⟨_, Or.inl ⟨fRe_219, (fun h => by cases h)⟩⟩ rfl ⟨rfl, rfl⟩ g1 ?_
  refine Ev.aload_n dRe_law_42 rfl ?_
  exact Ev.vcV (z := mRe_blanks) (ci := 11) [] [] rfl dRe_law_43 oRe_blanks rfl w1487 iRe_blanks sRe_blanks (by decide) rfl g1 (Nat.le_of_ble_eq_true rfl) h
def mRe_rule : MR := (⟨"BowingRowModel", "rule", "()V"⟩, prog_14_method_24_code, 3, none)
theorem oRe_rule : MOK mRe_rule 0 := ⟨lwg_of 1545 (by decide +kernel) (by decide +kernel), lwg_of 103 (by decide +kernel) (by decide +kernel), ⟨by decide +kernel, by decide +kernel⟩, by decide +kernel, by decide⟩
theorem iRe_rule : Cond.instanceMethod mRe_rule.1 ∈ lwg := lwg_of 1544 (by decide +kernel) (by decide +kernel)
theorem sRe_rule : Cond.selects mRe_rule.1.cls mRe_rule.1 mRe_rule.1 ∈ lwg := lwg_of 50 (by decide +kernel) (by decide +kernel)
theorem w1542 : Cond.methodLink "BowingRowModel" 231 ⟨"BowingRowModel", "rule", "()V"⟩ ∈ lwg := lwg_of 1542 (by decide +kernel) (by decide +kernel)
theorem bRe_law_46 {l : Launch} {G : Gx} {d : Nat} {bc bs : Nat} {Φ : OutV → Mm → Prop} (M : Mm) (a0 : Nat) (x1 : Int32) (u2 : Value) (u3 : Value)
    (h : ((m_sh M a0).1 = 11) ∧ (¬ (m_i M a0 5) = 0 → Ev l G d mRe_law 75 [.ref a0, .int x1, u2, u3] [] M bc bs Φ) ∧ ((m_i M a0 5) = 0 → ((m_i M a0 2) ≤ (m_i M a0 4) → Ev l G d mRe_law 75 [.ref a0, .int x1, u2, u3] [] M bc bs Φ) ∧ (¬ (m_i M a0 2) ≤ (m_i M a0 4) → CallVC l G d mRe_law 68 [.ref a0, .int x1, u2, u3] [] mRe_rule [.ref a0] M bc bs Φ))) :
    Ev l G d mRe_law 46 [.ref a0, .int x1, u2, u3] [] M bc bs Φ := by
  refine Ev.aload_n dRe_law_46 rfl ?_
  have g1 := h.1
  replace h := h.2
  refine Ev.getI dRe_law_47 (Or.inl fRe_131) rfl g1 ?_
  refine Ev.if_ne 75 (by decide) dRe_law_50 (fun c => ?_) (fun c => ?_)
  · replace h := h.1 c
    exact h
  · replace h := h.2 c
    refine Ev.aload_n dRe_law_53 rfl ?_
    refine Ev.getI dRe_law_54 (Or.inl fRe_124) rfl g1 ?_
    refine Ev.aload_n dRe_law_57 rfl ?_
    refine Ev.getI dRe_law_58 (Or.inl fRe_121) rfl g1 ?_
    refine Ev.icmp_ge 75 (by decide) dRe_law_61 (fun c => ?_) (fun c => ?_)
    · replace h := h.1 c
      exact h
    · replace h := h.2 c
      refine Ev.aload_n dRe_law_64 rfl ?_
      exact Ev.vcV (z := mRe_rule) (ci := 11) [] [] rfl dRe_law_65 oRe_rule rfl w1542 iRe_rule sRe_rule (by decide) rfl g1 (Nat.le_of_ble_eq_true rfl) h
theorem bRe_law_68 {l : Launch} {G : Gx} {d : Nat} {bc bs : Nat} {Φ : OutV → Mm → Prop} (M : Mm) (a0 : Nat) (x1 : Int32) (u2 : Value) (u3 : Value)
    (h : ((m_sh M a0).1 = 11) ∧ CallVC l G d mRe_law 72 [.ref a0, .int x1, u2, u3] [] mRe_blanks [.ref a0] M bc bs Φ) :
    Ev l G d mRe_law 68 [.ref a0, .int x1, u2, u3] [] M bc bs Φ := by
  refine Ev.aload_n dRe_law_68 rfl ?_
  have g1 := h.1
  replace h := h.2
  exact Ev.vcV (z := mRe_blanks) (ci := 11) [] [] rfl dRe_law_69 oRe_blanks rfl w1487 iRe_blanks sRe_blanks (by decide) rfl g1 (Nat.le_of_ble_eq_true rfl) h
theorem bRe_law_72 {l : Launch} {G : Gx} {d : Nat} {bc bs : Nat} {Φ : OutV → Mm → Prop} (M : Mm) (a0 : Nat) (x1 : Int32) (u2 : Value) (u3 : Value)
    (h : Ev l G d mRe_law 46 [.ref a0, .int x1, u2, u3] [] M bc bs Φ) :
    Ev l G d mRe_law 72 [.ref a0, .int x1, u2, u3] [] M bc bs Φ := by
  refine Ev.goto 46 dRe_law_72 (by decide) ?_
  exact h
theorem fRe_234 : FOK "BowingRowModel" 234 11 15 false := ⟨RX12, TX12, nFd 11, rfl, by decide, rfl, by decide, rfl, lwg_of 1298 (by decide +kernel) (by decide +kernel)⟩
theorem bRe_law_75 {l : Launch} {G : Gx} {d : Nat} {bc bs : Nat} {Φ : OutV → Mm → Prop} (M : Mm) (a0 : Nat) (x1 : Int32) (u2 : Value) (u3 : Value)
    (h : ((m_sh M a0).1 = 11) ∧ ((m_i (m_si M a0 3 (m_i M a0 6)) a0 5) = 0 → Ev l G d mRe_law 106 [.ref a0, .int x1, u2, u3] [] (m_si (m_si M a0 3 (m_i M a0 6)) a0 15 (m_i (m_si M a0 3 (m_i M a0 6)) a0 14)) bc bs Φ) ∧ (¬ (m_i (m_si M a0 3 (m_i M a0 6)) a0 5) = 0 → Φ (.inl (some (.int ((m_i (m_si M a0 3 (m_i M a0 6)) a0 5) - 10)))) (m_si M a0 3 (m_i M a0 6)))) :
    Ev l G d mRe_law 75 [.ref a0, .int x1, u2, u3] [] M bc bs Φ := by
  refine Ev.aload_n dRe_law_75 rfl ?_
  refine Ev.aload_n dRe_law_76 rfl ?_
  have g1 := h.1
  replace h := h.2
  refine Ev.getI dRe_law_77 (Or.inl fRe_134) rfl g1 ?_
  refine Ev.putI dRe_law_80 ⟨_, Or.inl ⟨fRe_9, (fun h => by cases h)⟩⟩ rfl ⟨rfl, rfl⟩ g1 ?_
  refine Ev.aload_n dRe_law_83 rfl ?_
  refine Ev.getI dRe_law_84 (Or.inl fRe_131) rfl g1 ?_
  refine Ev.if_eq 98 (by decide) dRe_law_87 (fun c => ?_) (fun c => ?_)
  · replace h := h.1 c
    refine Ev.aload_n dRe_law_98 rfl ?_
    refine Ev.aload_n dRe_law_99 rfl ?_
    refine Ev.getI dRe_law_100 (Or.inl fRe_219) rfl g1 ?_
    refine Ev.putI dRe_law_103 ⟨_, Or.inl ⟨fRe_234, (fun h => by cases h)⟩⟩ rfl ⟨rfl, rfl⟩ g1 ?_
    exact h
  · replace h := h.2 c
    refine Ev.aload_n dRe_law_90 rfl ?_
    refine Ev.getI dRe_law_91 (Or.inl fRe_131) rfl g1 ?_
    refine Ev.bipush (v := 10) dRe_law_94 (by decide) ?_
    refine Ev.isub dRe_law_96 ?_
    exact Ev.iret dRe_law_97 rfl rfl h
theorem bRe_law_106 {l : Launch} {G : Gx} {d : Nat} {bc bs : Nat} {Φ : OutV → Mm → Prop} (M : Mm) (a0 : Nat) (x1 : Int32) (u2 : Value) (u3 : Value)
    (h : Ev l G d mRe_law 108 [.ref a0, .int x1, .int 0, u3] [] M bc bs Φ) :
    Ev l G d mRe_law 106 [.ref a0, .int x1, u2, u3] [] M bc bs Φ := by
  refine Ev.iconst (v := 0) dRe_law_106 (by decide) ?_
  refine Ev.istore_n dRe_law_107 (by decide) ?_
  show Ev l G d mRe_law (_ + _) [.ref a0, .int x1, .int 0, u3] [] M bc bs Φ
  exact h
theorem bRe_law_108 {l : Launch} {G : Gx} {d : Nat} {bc bs : Nat} {Φ : OutV → Mm → Prop} (M : Mm) (a0 : Nat) (x1 : Int32) (x2 : Int32) (u3 : Value)
    (h : ((m_sh M a0).1 = 11) ∧ ((m_i M a0 15) ≤ x2 → Φ (.inl (some (.int (m_i M a0 15)))) M) ∧ (¬ (m_i M a0 15) ≤ x2 → ((m_sh M (m_r M a0 17)).1 = 20) ∧ (vp_in x2 (m_sh M (m_r M a0 17)).2) ∧ ((m_sh M (m_r M a0 18)).1 = 20) ∧ (vp_in x2 (m_sh M (m_r M a0 18)).2) ∧ ((m_sh M (m_r M a0 19)).1 = 20) ∧ (vp_in x2 (m_sh M (m_r M a0 19)).2) ∧ ((m_sh M (m_r M a0 20)).1 = 20) ∧ (vp_in x2 (m_sh M (m_r M a0 20)).2) ∧ Ev l G d mRe_law 140 [.ref a0, .int x1, .int x2, u3] [] (m_si (m_si M (m_r M a0 18) x2.toNatClampNeg (m_i M (m_r M a0 17) x2.toNatClampNeg)) (m_r M a0 20) x2.toNatClampNeg (m_i (m_si M (m_r M a0 18) x2.toNatClampNeg (m_i M (m_r M a0 17) x2.toNatClampNeg)) (m_r M a0 19) x2.toNatClampNeg)) bc bs Φ)) :
    Ev l G d mRe_law 108 [.ref a0, .int x1, .int x2, u3] [] M bc bs Φ := by
  refine Ev.iload_n dRe_law_108 rfl ?_
  refine Ev.aload_n dRe_law_109 rfl ?_
  have g1 := h.1
  replace h := h.2
  refine Ev.getI dRe_law_110 (Or.inl fRe_234) rfl g1 ?_
  refine Ev.icmp_ge 192 (by decide) dRe_law_113 (fun c => ?_) (fun c => ?_)
  · replace h := h.1 c
    refine Ev.aload_n dRe_law_192 rfl ?_
    refine Ev.getI dRe_law_193 (Or.inl fRe_234) rfl g1 ?_
    exact Ev.iret dRe_law_196 rfl rfl h
  · replace h := h.2 c
    refine Ev.aload_n dRe_law_116 rfl ?_
    refine Ev.getR dRe_law_117 (Or.inl fRe_28) rfl g1 ?_
    refine Ev.iload_n dRe_law_120 rfl ?_
    refine Ev.aload_n dRe_law_121 rfl ?_
    refine Ev.getR dRe_law_122 (Or.inl fRe_25) rfl g1 ?_
    refine Ev.iload_n dRe_law_125 rfl ?_
    have g2 := h.1
    replace h := h.2
    have g3 := h.1
    replace h := h.2
    refine Ev.iald2 dRe_law_126 g2 g3 ?_
    have g4 := h.1
    replace h := h.2
    have g5 := h.1
    replace h := h.2
    refine Ev.iast2 dRe_law_127 g4 g5 ?_
    refine Ev.aload_n dRe_law_128 rfl ?_
    refine Ev.getR dRe_law_129 (Or.inl fRe_34) rfl g1 ?_
    refine Ev.iload_n dRe_law_132 rfl ?_
    refine Ev.aload_n dRe_law_133 rfl ?_
    refine Ev.getR dRe_law_134 (Or.inl fRe_31) rfl g1 ?_
    refine Ev.iload_n dRe_law_137 rfl ?_
    have g6 := h.1
    replace h := h.2
    have g7 := h.1
    replace h := h.2
    refine Ev.iald2 dRe_law_138 g6 g7 ?_
    have g8 := h.1
    replace h := h.2
    have g9 := h.1
    replace h := h.2
    refine Ev.iast2 dRe_law_139 g8 g9 ?_
    exact h
theorem bRe_law_140 {l : Launch} {G : Gx} {d : Nat} {bc bs : Nat} {Φ : OutV → Mm → Prop} (M : Mm) (a0 : Nat) (x1 : Int32) (x2 : Int32) (u3 : Value)
    (h : ((m_sh M a0).1 = 11) ∧ ((m_sh M (m_r M a0 21)).1 = 20) ∧ (vp_in x2 (m_sh M (m_r M a0 21)).2) ∧ ((m_sh M (m_r M a0 22)).1 = 20) ∧ (vp_in x2 (m_sh M (m_r M a0 22)).2) ∧ Ev l G d mRe_law 154 [.ref a0, .int x1, .int x2, .int 0] [] (m_si M (m_r M a0 22) x2.toNatClampNeg (m_i M (m_r M a0 21) x2.toNatClampNeg)) bc bs Φ) :
    Ev l G d mRe_law 140 [.ref a0, .int x1, .int x2, u3] [] M bc bs Φ := by
  refine Ev.aload_n dRe_law_140 rfl ?_
  have g1 := h.1
  replace h := h.2
  refine Ev.getR dRe_law_141 (Or.inl fRe_40) rfl g1 ?_
  refine Ev.iload_n dRe_law_144 rfl ?_
  refine Ev.aload_n dRe_law_145 rfl ?_
  refine Ev.getR dRe_law_146 (Or.inl fRe_37) rfl g1 ?_
  refine Ev.iload_n dRe_law_149 rfl ?_
  have g2 := h.1
  replace h := h.2
  have g3 := h.1
  replace h := h.2
  refine Ev.iald2 dRe_law_150 g2 g3 ?_
  have g4 := h.1
  replace h := h.2
  have g5 := h.1
  replace h := h.2
  refine Ev.iast2 dRe_law_151 g4 g5 ?_
  refine Ev.iconst (v := 0) dRe_law_152 (by decide) ?_
  refine Ev.istore_n dRe_law_153 (by decide) ?_
  show Ev l G d mRe_law (_ + _) [.ref a0, .int x1, .int x2, .int 0] [] (m_si M (m_r M a0 22) x2.toNatClampNeg (m_i M (m_r M a0 21) x2.toNatClampNeg)) bc bs Φ
  exact h
theorem bRe_law_154 {l : Launch} {G : Gx} {d : Nat} {bc bs : Nat} {Φ : OutV → Mm → Prop} (M : Mm) (a0 : Nat) (x1 : Int32) (x2 : Int32) (x3 : Int32)
    (h : ((m_sh M a0).1 = 11) ∧ ((m_sh M (m_r M a0 22)).1 = 20) ∧ (vp_in x2 (m_sh M (m_r M a0 22)).2) ∧ ((m_i M (m_r M a0 22) x2.toNatClampNeg) ≤ x3 → Ev l G d mRe_law 108 [.ref a0, .int x1, .int (x2 + 1), .int x3] [] M bc bs Φ) ∧ (¬ (m_i M (m_r M a0 22) x2.toNatClampNeg) ≤ x3 → ((m_sh M (m_r M a0 24)).1 = 33) ∧ (vp_in x2 (m_sh M (m_r M a0 24)).2) ∧ ((m_sh M (m_r M a0 23)).1 = 33) ∧ (vp_in x2 (m_sh M (m_r M a0 23)).2) ∧ ((m_sh M (m_r M (m_r M a0 23) x2.toNatClampNeg)).1 = 20) ∧ (vp_in x3 (m_sh M (m_r M (m_r M a0 23) x2.toNatClampNeg)).2) ∧ ((m_sh M (m_r M (m_r M a0 24) x2.toNatClampNeg)).1 = 20) ∧ (vp_in x3 (m_sh M (m_r M (m_r M a0 24) x2.toNatClampNeg)).2) ∧ Ev l G d mRe_law 154 [.ref a0, .int x1, .int x2, .int (x3 + 1)] [] (m_si M (m_r M (m_r M a0 24) x2.toNatClampNeg) x3.toNatClampNeg (m_i M (m_r M (m_r M a0 23) x2.toNatClampNeg) x3.toNatClampNeg)) bc bs Φ)) :
    Ev l G d mRe_law 154 [.ref a0, .int x1, .int x2, .int x3] [] M bc bs Φ := by
  refine Ev.iload_n dRe_law_154 rfl ?_
  refine Ev.aload_n dRe_law_155 rfl ?_
  have g1 := h.1
  replace h := h.2
  refine Ev.getR dRe_law_156 (Or.inl fRe_40) rfl g1 ?_
  refine Ev.iload_n dRe_law_159 rfl ?_
  have g2 := h.1
  replace h := h.2
  have g3 := h.1
  replace h := h.2
  refine Ev.iald2 dRe_law_160 g2 g3 ?_
  refine Ev.icmp_ge 186 (by decide) dRe_law_161 (fun c => ?_) (fun c => ?_)
  · replace h := h.1 c
    refine Ev.iinc (v := x2 + 1) dRe_law_186 (by decide) rfl rfl ?_
    show Ev l G d mRe_law (_ + _) [.ref a0, .int x1, .int (x2 + 1), .int x3] [] M bc bs Φ
    refine Ev.goto 108 dRe_law_189 (by decide) ?_
    exact h
  · replace h := h.2 c
    refine Ev.aload_n dRe_law_164 rfl ?_
    refine Ev.getR dRe_law_165 (Or.inl fRe_46) rfl g1 ?_
    refine Ev.iload_n dRe_law_168 rfl ?_
    have g4 := h.1
    replace h := h.2
    have g5 := h.1
    replace h := h.2
    refine Ev.aald2 33 (by decide) dRe_law_169 g4 g5 ?_
    refine Ev.iload_n dRe_law_170 rfl ?_
    refine Ev.aload_n dRe_law_171 rfl ?_
    refine Ev.getR dRe_law_172 (Or.inl fRe_43) rfl g1 ?_
    refine Ev.iload_n dRe_law_175 rfl ?_
    have g6 := h.1
    replace h := h.2
    have g7 := h.1
    replace h := h.2
    refine Ev.aald2 33 (by decide) dRe_law_176 g6 g7 ?_
    refine Ev.iload_n dRe_law_177 rfl ?_
    have g8 := h.1
    replace h := h.2
    have g9 := h.1
    replace h := h.2
    refine Ev.iald2 dRe_law_178 g8 g9 ?_
    have g10 := h.1
    replace h := h.2
    have g11 := h.1
    replace h := h.2
    refine Ev.iast2 dRe_law_179 g10 g11 ?_
    refine Ev.iinc (v := x3 + 1) dRe_law_180 (by decide) rfl rfl ?_
    show Ev l G d mRe_law (_ + _) [.ref a0, .int x1, .int x2, .int (x3 + 1)] [] (m_si M (m_r M (m_r M a0 24) x2.toNatClampNeg) x3.toNatClampNeg (m_i M (m_r M (m_r M a0 23) x2.toNatClampNeg) x3.toNatClampNeg)) bc bs Φ
    refine Ev.goto 154 dRe_law_183 (by decide) ?_
    exact h
theorem dRe_rule_0 : decode mRe_rule.2.1 0 = .ok (.aload_n 0, 1) := by decide +kernel
theorem dRe_rule_1 : decode mRe_rule.2.1 1 = .ok (.invokevirtual 215, 3) := by decide +kernel
theorem dRe_rule_4 : decode mRe_rule.2.1 4 = .ok (.istore_n 1, 1) := by decide +kernel
theorem dRe_rule_5 : decode mRe_rule.2.1 5 = .ok (.iload_n 1, 1) := by decide +kernel
theorem dRe_rule_6 : decode mRe_rule.2.1 6 = .ok (.iconst (-1), 1) := by decide +kernel
theorem dRe_rule_7 : decode mRe_rule.2.1 7 = .ok (.if_icmp .ne 15, 3) := by decide +kernel
theorem dRe_rule_10 : decode mRe_rule.2.1 10 = .ok (.aload_n 0, 1) := by decide +kernel
theorem dRe_rule_11 : decode mRe_rule.2.1 11 = .ok (.iconst 1, 1) := by decide +kernel
theorem dRe_rule_12 : decode mRe_rule.2.1 12 = .ok (.aload_n 0, 1) := by decide +kernel
theorem dRe_rule_13 : decode mRe_rule.2.1 13 = .ok (.getfield 124, 3) := by decide +kernel
theorem dRe_rule_16 : decode mRe_rule.2.1 16 = .ok (.invokevirtual 144, 3) := by decide +kernel
theorem dRe_rule_19 : decode mRe_rule.2.1 19 = .ok (.goto 21, 3) := by decide +kernel
theorem dRe_rule_22 : decode mRe_rule.2.1 22 = .ok (.aload_n 0, 1) := by decide +kernel
theorem dRe_rule_23 : decode mRe_rule.2.1 23 = .ok (.getfield 219, 3) := by decide +kernel
theorem dRe_rule_26 : decode mRe_rule.2.1 26 = .ok (.bipush 10, 2) := by decide +kernel
theorem dRe_rule_28 : decode mRe_rule.2.1 28 = .ok (.if_icmp .ne 12, 3) := by decide +kernel
theorem dRe_rule_31 : decode mRe_rule.2.1 31 = .ok (.aload_n 0, 1) := by decide +kernel
theorem dRe_rule_32 : decode mRe_rule.2.1 32 = .ok (.iconst 3, 1) := by decide +kernel
theorem dRe_rule_33 : decode mRe_rule.2.1 33 = .ok (.aload_n 0, 1) := by decide +kernel
theorem dRe_rule_34 : decode mRe_rule.2.1 34 = .ok (.getfield 124, 3) := by decide +kernel
theorem dRe_rule_37 : decode mRe_rule.2.1 37 = .ok (.invokevirtual 144, 3) := by decide +kernel
theorem dRe_rule_40 : decode mRe_rule.2.1 40 = .ok (.aload_n 0, 1) := by decide +kernel
theorem dRe_rule_41 : decode mRe_rule.2.1 41 = .ok (.getfield 131, 3) := by decide +kernel
theorem dRe_rule_44 : decode mRe_rule.2.1 44 = .ok (.ifCond .eq 4, 3) := by decide +kernel
theorem dRe_rule_47 : decode mRe_rule.2.1 47 = .ok (.return_, 1) := by decide +kernel
theorem dRe_rule_48 : decode mRe_rule.2.1 48 = .ok (.aload_n 0, 1) := by decide +kernel
theorem dRe_rule_49 : decode mRe_rule.2.1 49 = .ok (.invokevirtual 167, 3) := by decide +kernel
theorem dRe_rule_52 : decode mRe_rule.2.1 52 = .ok (.aload_n 0, 1) := by decide +kernel
theorem dRe_rule_53 : decode mRe_rule.2.1 53 = .ok (.iconst 0, 1) := by decide +kernel
theorem dRe_rule_54 : decode mRe_rule.2.1 54 = .ok (.putfield 222, 3) := by decide +kernel
theorem dRe_rule_57 : decode mRe_rule.2.1 57 = .ok (.iconst 0, 1) := by decide +kernel
theorem dRe_rule_58 : decode mRe_rule.2.1 58 = .ok (.istore_n 2, 1) := by decide +kernel
theorem dRe_rule_59 : decode mRe_rule.2.1 59 = .ok (.iload_n 1, 1) := by decide +kernel
theorem dRe_rule_60 : decode mRe_rule.2.1 60 = .ok (.bipush 6, 2) := by decide +kernel
theorem dRe_rule_62 : decode mRe_rule.2.1 62 = .ok (.if_icmp .ne 10, 3) := by decide +kernel
theorem dRe_rule_65 : decode mRe_rule.2.1 65 = .ok (.aload_n 0, 1) := by decide +kernel
theorem dRe_rule_66 : decode mRe_rule.2.1 66 = .ok (.invokevirtual 225, 3) := by decide +kernel
theorem dRe_rule_69 : decode mRe_rule.2.1 69 = .ok (.goto 69, 3) := by decide +kernel
theorem dRe_rule_72 : decode mRe_rule.2.1 72 = .ok (.iload_n 1, 1) := by decide +kernel
theorem dRe_rule_73 : decode mRe_rule.2.1 73 = .ok (.bipush 7, 2) := by decide +kernel
theorem dRe_rule_75 : decode mRe_rule.2.1 75 = .ok (.if_icmp .ne 10, 3) := by decide +kernel
theorem dRe_rule_78 : decode mRe_rule.2.1 78 = .ok (.aload_n 0, 1) := by decide +kernel
theorem dRe_rule_79 : decode mRe_rule.2.1 79 = .ok (.invokevirtual 228, 3) := by decide +kernel
theorem dRe_rule_82 : decode mRe_rule.2.1 82 = .ok (.goto 56, 3) := by decide +kernel
theorem dRe_rule_85 : decode mRe_rule.2.1 85 = .ok (.aload_n 0, 1) := by decide +kernel
theorem dRe_rule_86 : decode mRe_rule.2.1 86 = .ok (.iload_n 1, 1) := by decide +kernel
theorem dRe_rule_87 : decode mRe_rule.2.1 87 = .ok (.iconst 2, 1) := by decide +kernel
theorem dRe_rule_88 : decode mRe_rule.2.1 88 = .ok (.if_icmp .eq 13, 3) := by decide +kernel
theorem dRe_rule_91 : decode mRe_rule.2.1 91 = .ok (.iload_n 1, 1) := by decide +kernel
theorem dRe_rule_92 : decode mRe_rule.2.1 92 = .ok (.iconst 3, 1) := by decide +kernel
theorem dRe_rule_93 : decode mRe_rule.2.1 93 = .ok (.if_icmp .eq 8, 3) := by decide +kernel
theorem dRe_rule_96 : decode mRe_rule.2.1 96 = .ok (.iload_n 1, 1) := by decide +kernel
theorem dRe_rule_97 : decode mRe_rule.2.1 97 = .ok (.iconst 4, 1) := by decide +kernel
theorem dRe_rule_98 : decode mRe_rule.2.1 98 = .ok (.if_icmp .ne 7, 3) := by decide +kernel
theorem dRe_rule_101 : decode mRe_rule.2.1 101 = .ok (.iconst 0, 1) := by decide +kernel
theorem dRe_rule_102 : decode mRe_rule.2.1 102 = .ok (.goto 4, 3) := by decide +kernel
theorem dRe_rule_105 : decode mRe_rule.2.1 105 = .ok (.iconst 1, 1) := by decide +kernel
theorem dRe_rule_106 : decode mRe_rule.2.1 106 = .ok (.iload_n 1, 1) := by decide +kernel
theorem dRe_rule_107 : decode mRe_rule.2.1 107 = .ok (.ifCond .ne 8, 3) := by decide +kernel
theorem dRe_rule_110 : decode mRe_rule.2.1 110 = .ok (.bipush 99, 2) := by decide +kernel
theorem dRe_rule_112 : decode mRe_rule.2.1 112 = .ok (.goto 21, 3) := by decide +kernel
theorem dRe_rule_115 : decode mRe_rule.2.1 115 = .ok (.iload_n 1, 1) := by decide +kernel
theorem dRe_rule_116 : decode mRe_rule.2.1 116 = .ok (.iconst 1, 1) := by decide +kernel
theorem dRe_rule_117 : decode mRe_rule.2.1 117 = .ok (.if_icmp .eq 8, 3) := by decide +kernel
theorem dRe_rule_120 : decode mRe_rule.2.1 120 = .ok (.iload_n 1, 1) := by decide +kernel
theorem dRe_rule_121 : decode mRe_rule.2.1 121 = .ok (.iconst 4, 1) := by decide +kernel
theorem dRe_rule_122 : decode mRe_rule.2.1 122 = .ok (.if_icmp .ne 8, 3) := by decide +kernel
theorem dRe_rule_125 : decode mRe_rule.2.1 125 = .ok (.bipush 9, 2) := by decide +kernel
theorem dRe_rule_127 : decode mRe_rule.2.1 127 = .ok (.goto 6, 3) := by decide +kernel
theorem dRe_rule_130 : decode mRe_rule.2.1 130 = .ok (.sipush 999, 3) := by decide +kernel
theorem dRe_rule_133 : decode mRe_rule.2.1 133 = .ok (.iconst (-1), 1) := by decide +kernel
theorem dRe_rule_134 : decode mRe_rule.2.1 134 = .ok (.invokevirtual 188, 3) := by decide +kernel
theorem dRe_rule_137 : decode mRe_rule.2.1 137 = .ok (.istore_n 2, 1) := by decide +kernel
theorem dRe_rule_138 : decode mRe_rule.2.1 138 = .ok (.aload_n 0, 1) := by decide +kernel
theorem dRe_rule_139 : decode mRe_rule.2.1 139 = .ok (.getfield 25, 3) := by decide +kernel
theorem dRe_rule_142 : decode mRe_rule.2.1 142 = .ok (.aload_n 0, 1) := by decide +kernel
theorem dRe_rule_143 : decode mRe_rule.2.1 143 = .ok (.getfield 219, 3) := by decide +kernel
theorem dRe_rule_146 : decode mRe_rule.2.1 146 = .ok (.iload_n 1, 1) := by decide +kernel
theorem dRe_rule_147 : decode mRe_rule.2.1 147 = .ok (.iastore, 1) := by decide +kernel
theorem dRe_rule_148 : decode mRe_rule.2.1 148 = .ok (.aload_n 0, 1) := by decide +kernel
theorem dRe_rule_149 : decode mRe_rule.2.1 149 = .ok (.getfield 31, 3) := by decide +kernel
theorem dRe_rule_152 : decode mRe_rule.2.1 152 = .ok (.aload_n 0, 1) := by decide +kernel
theorem dRe_rule_153 : decode mRe_rule.2.1 153 = .ok (.getfield 219, 3) := by decide +kernel
theorem dRe_rule_156 : decode mRe_rule.2.1 156 = .ok (.iload_n 2, 1) := by decide +kernel
theorem dRe_rule_157 : decode mRe_rule.2.1 157 = .ok (.iastore, 1) := by decide +kernel
theorem dRe_rule_158 : decode mRe_rule.2.1 158 = .ok (.aload_n 0, 1) := by decide +kernel
theorem dRe_rule_159 : decode mRe_rule.2.1 159 = .ok (.getfield 37, 3) := by decide +kernel
theorem dRe_rule_162 : decode mRe_rule.2.1 162 = .ok (.aload_n 0, 1) := by decide +kernel
theorem dRe_rule_163 : decode mRe_rule.2.1 163 = .ok (.getfield 219, 3) := by decide +kernel
theorem dRe_rule_166 : decode mRe_rule.2.1 166 = .ok (.aload_n 0, 1) := by decide +kernel
theorem dRe_rule_167 : decode mRe_rule.2.1 167 = .ok (.getfield 222, 3) := by decide +kernel
theorem dRe_rule_170 : decode mRe_rule.2.1 170 = .ok (.iastore, 1) := by decide +kernel
theorem dRe_rule_171 : decode mRe_rule.2.1 171 = .ok (.aload_n 0, 1) := by decide +kernel
theorem dRe_rule_172 : decode mRe_rule.2.1 172 = .ok (.dup, 1) := by decide +kernel
theorem dRe_rule_173 : decode mRe_rule.2.1 173 = .ok (.getfield 219, 3) := by decide +kernel
theorem dRe_rule_176 : decode mRe_rule.2.1 176 = .ok (.iconst 1, 1) := by decide +kernel
theorem dRe_rule_177 : decode mRe_rule.2.1 177 = .ok (.iadd, 1) := by decide +kernel
theorem dRe_rule_178 : decode mRe_rule.2.1 178 = .ok (.putfield 219, 3) := by decide +kernel
theorem dRe_rule_181 : decode mRe_rule.2.1 181 = .ok (.aload_n 0, 1) := by decide +kernel
theorem dRe_rule_182 : decode mRe_rule.2.1 182 = .ok (.bipush 59, 2) := by decide +kernel
theorem dRe_rule_184 : decode mRe_rule.2.1 184 = .ok (.invokevirtual 192, 3) := by decide +kernel
theorem dRe_rule_187 : decode mRe_rule.2.1 187 = .ok (.return_, 1) := by decide +kernel
def mRe_ruleHere : MR := (⟨"BowingRowModel", "ruleHere", "()I"⟩, prog_14_method_23_code, 1, (Option.some .int))
theorem oRe_ruleHere : MOK mRe_ruleHere 0 := ⟨lwg_of 1549 (by decide +kernel) (by decide +kernel), lwg_of 103 (by decide +kernel) (by decide +kernel), ⟨by decide +kernel, by decide +kernel⟩, by decide +kernel, by decide⟩
theorem iRe_ruleHere : Cond.instanceMethod mRe_ruleHere.1 ∈ lwg := lwg_of 1548 (by decide +kernel) (by decide +kernel)
theorem sRe_ruleHere : Cond.selects mRe_ruleHere.1.cls mRe_ruleHere.1 mRe_ruleHere.1 ∈ lwg := lwg_of 51 (by decide +kernel) (by decide +kernel)
theorem w1546 : Cond.methodLink "BowingRowModel" 215 ⟨"BowingRowModel", "ruleHere", "()I"⟩ ∈ lwg := lwg_of 1546 (by decide +kernel) (by decide +kernel)
theorem bRe_rule_0 {l : Launch} {G : Gx} {d : Nat} {bc bs : Nat} {Φ : OutV → Mm → Prop} (M : Mm) (a0 : Nat)
    (h : ((m_sh M a0).1 = 11) ∧ CallVC l G d mRe_rule 4 [.ref a0, .null, .null] [] mRe_ruleHere [.ref a0] M bc bs Φ) :
    Ev l G d mRe_rule 0 [.ref a0, .null, .null] [] M bc bs Φ := by
  refine Ev.aload_n dRe_rule_0 rfl ?_
  have g1 := h.1
  replace h := h.2
  exact Ev.vcV (z := mRe_ruleHere) (ci := 11) [] [] rfl dRe_rule_1 oRe_ruleHere rfl w1546 iRe_ruleHere sRe_ruleHere (by decide) rfl g1 (Nat.le_of_ble_eq_true rfl) h
theorem bRe_rule_4 {l : Launch} {G : Gx} {d : Nat} {bc bs : Nat} {Φ : OutV → Mm → Prop} (M : Mm) (a0 : Nat) (u1 : Value) (u2 : Value) (s0 : Int32)
    (h : (¬ s0 = ((-1)) → ((m_sh M a0).1 = 11) ∧ (¬ (m_i M a0 14) = 10 → Ev l G d mRe_rule 40 [.ref a0, .int s0, u2] [] M bc bs Φ) ∧ ((m_i M a0 14) = 10 → CallVC l G d mRe_rule 40 [.ref a0, .int s0, u2] [] mRe_wrong [.ref a0, .int 3, .int (m_i M a0 4)] M bc bs Φ)) ∧ (s0 = ((-1)) → ((m_sh M a0).1 = 11) ∧ CallVC l G d mRe_rule 19 [.ref a0, .int s0, u2] [] mRe_wrong [.ref a0, .int 1, .int (m_i M a0 4)] M bc bs Φ)) :
    Ev l G d mRe_rule 4 [.ref a0, u1, u2] [.int s0] M bc bs Φ := by
  refine Ev.istore_n dRe_rule_4 (by decide) ?_
  show Ev l G d mRe_rule (_ + _) [.ref a0, .int s0, u2] [] M bc bs Φ
  refine Ev.iload_n dRe_rule_5 rfl ?_
  refine Ev.iconst (v := (-1)) dRe_rule_6 (by decide) ?_
  refine Ev.icmp_ne 22 (by decide) dRe_rule_7 (fun c => ?_) (fun c => ?_)
  · replace h := h.1 c
    refine Ev.aload_n dRe_rule_22 rfl ?_
    have g1 := h.1
    replace h := h.2
    refine Ev.getI dRe_rule_23 (Or.inl fRe_219) rfl g1 ?_
    refine Ev.bipush (v := 10) dRe_rule_26 (by decide) ?_
    refine Ev.icmp_ne 40 (by decide) dRe_rule_28 (fun c => ?_) (fun c => ?_)
    · replace h := h.1 c
      exact h
    · replace h := h.2 c
      refine Ev.aload_n dRe_rule_31 rfl ?_
      refine Ev.iconst (v := 3) dRe_rule_32 (by decide) ?_
      refine Ev.aload_n dRe_rule_33 rfl ?_
      refine Ev.getI dRe_rule_34 (Or.inl fRe_124) rfl g1 ?_
      exact Ev.vcV (z := mRe_wrong) (ci := 11) [.int 3, .int (m_i M a0 4)] [] rfl dRe_rule_37 oRe_wrong rfl w1514 iRe_wrong sRe_wrong (by decide) rfl g1 (Nat.le_of_ble_eq_true rfl) h
  · replace h := h.2 c
    refine Ev.aload_n dRe_rule_10 rfl ?_
    refine Ev.iconst (v := 1) dRe_rule_11 (by decide) ?_
    refine Ev.aload_n dRe_rule_12 rfl ?_
    have g2 := h.1
    replace h := h.2
    refine Ev.getI dRe_rule_13 (Or.inl fRe_124) rfl g2 ?_
    exact Ev.vcV (z := mRe_wrong) (ci := 11) [.int 1, .int (m_i M a0 4)] [] rfl dRe_rule_16 oRe_wrong rfl w1514 iRe_wrong sRe_wrong (by decide) rfl g2 (Nat.le_of_ble_eq_true rfl) h
theorem bRe_rule_19 {l : Launch} {G : Gx} {d : Nat} {bc bs : Nat} {Φ : OutV → Mm → Prop} (M : Mm) (a0 : Nat) (x1 : Int32) (u2 : Value)
    (h : Ev l G d mRe_rule 40 [.ref a0, .int x1, u2] [] M bc bs Φ) :
    Ev l G d mRe_rule 19 [.ref a0, .int x1, u2] [] M bc bs Φ := by
  refine Ev.goto 40 dRe_rule_19 (by decide) ?_
  exact h
theorem bRe_rule_40 {l : Launch} {G : Gx} {d : Nat} {bc bs : Nat} {Φ : OutV → Mm → Prop} (M : Mm) (a0 : Nat) (x1 : Int32) (u2 : Value)
    (h : ((m_sh M a0).1 = 11) ∧ ((m_i M a0 5) = 0 → CallVC l G d mRe_rule 52 [.ref a0, .int x1, u2] [] mRe_skipWord [.ref a0] M bc bs Φ) ∧ (¬ (m_i M a0 5) = 0 → Φ (.inl none) M)) :
    Ev l G d mRe_rule 40 [.ref a0, .int x1, u2] [] M bc bs Φ := by
  refine Ev.aload_n dRe_rule_40 rfl ?_
  have g1 := h.1
  replace h := h.2
  refine Ev.getI dRe_rule_41 (Or.inl fRe_131) rfl g1 ?_
  refine Ev.if_eq 48 (by decide) dRe_rule_44 (fun c => ?_) (fun c => ?_)
  · replace h := h.1 c
    refine Ev.aload_n dRe_rule_48 rfl ?_
    exact Ev.vcV (z := mRe_skipWord) (ci := 11) [] [] rfl dRe_rule_49 oRe_skipWord rfl w1518 iRe_skipWord sRe_skipWord (by decide) rfl g1 (Nat.le_of_ble_eq_true rfl) h
  · replace h := h.2 c
    exact Ev.vret dRe_rule_47 rfl h
theorem fRe_222 : FOK "BowingRowModel" 222 11 16 false := ⟨RX12, TX12, nFd 11, rfl, by decide, rfl, by decide, rfl, lwg_of 1299 (by decide +kernel) (by decide +kernel)⟩
def mRe_ors : MR := (⟨"BowingRowModel", "ors", "()V"⟩, prog_14_method_32_code, 1, none)
theorem oRe_ors : MOK mRe_ors 0 := ⟨lwg_of 1584 (by decide +kernel) (by decide +kernel), lwg_of 103 (by decide +kernel) (by decide +kernel), ⟨by decide +kernel, by decide +kernel⟩, by decide +kernel, by decide⟩
theorem iRe_ors : Cond.instanceMethod mRe_ors.1 ∈ lwg := lwg_of 1583 (by decide +kernel) (by decide +kernel)
theorem sRe_ors : Cond.selects mRe_ors.1.cls mRe_ors.1 mRe_ors.1 ∈ lwg := lwg_of 59 (by decide +kernel) (by decide +kernel)
theorem w1581 : Cond.methodLink "BowingRowModel" 228 ⟨"BowingRowModel", "ors", "()V"⟩ ∈ lwg := lwg_of 1581 (by decide +kernel) (by decide +kernel)
def mRe_sum : MR := (⟨"BowingRowModel", "sum", "()V"⟩, prog_14_method_28_code, 2, none)
theorem oRe_sum : MOK mRe_sum 0 := ⟨lwg_of 1553 (by decide +kernel) (by decide +kernel), lwg_of 103 (by decide +kernel) (by decide +kernel), ⟨by decide +kernel, by decide +kernel⟩, by decide +kernel, by decide⟩
theorem iRe_sum : Cond.instanceMethod mRe_sum.1 ∈ lwg := lwg_of 1552 (by decide +kernel) (by decide +kernel)
theorem sRe_sum : Cond.selects mRe_sum.1.cls mRe_sum.1 mRe_sum.1 ∈ lwg := lwg_of 52 (by decide +kernel) (by decide +kernel)
theorem w1550 : Cond.methodLink "BowingRowModel" 225 ⟨"BowingRowModel", "sum", "()V"⟩ ∈ lwg := lwg_of 1550 (by decide +kernel) (by decide +kernel)
theorem bRe_rule_52 {l : Launch} {G : Gx} {d : Nat} {bc bs : Nat} {Φ : OutV → Mm → Prop} (M : Mm) (a0 : Nat) (x1 : Int32) (u2 : Value)
    (h : ((m_sh M a0).1 = 11) ∧ (¬ x1 = 6 → (¬ x1 = 7 → (x1 = 2 → (¬ x1 = 0 → (x1 = 1 → CallVC l G d mRe_rule 137 [.ref a0, .int x1, .int 0] [] mRe_numberHere [.ref a0, .int 0, .int 9, .int ((-1))] (m_si M a0 16 0) bc bs Φ) ∧ (¬ x1 = 1 → (¬ x1 = 4 → CallVC l G d mRe_rule 137 [.ref a0, .int x1, .int 0] [] mRe_numberHere [.ref a0, .int 0, .int 999, .int ((-1))] (m_si M a0 16 0) bc bs Φ) ∧ (x1 = 4 → CallVC l G d mRe_rule 137 [.ref a0, .int x1, .int 0] [] mRe_numberHere [.ref a0, .int 0, .int 9, .int ((-1))] (m_si M a0 16 0) bc bs Φ))) ∧ (x1 = 0 → CallVC l G d mRe_rule 137 [.ref a0, .int x1, .int 0] [] mRe_numberHere [.ref a0, .int 0, .int 99, .int ((-1))] (m_si M a0 16 0) bc bs Φ)) ∧ (¬ x1 = 2 → (x1 = 3 → (¬ x1 = 0 → (x1 = 1 → CallVC l G d mRe_rule 137 [.ref a0, .int x1, .int 0] [] mRe_numberHere [.ref a0, .int 0, .int 9, .int ((-1))] (m_si M a0 16 0) bc bs Φ) ∧ (¬ x1 = 1 → (¬ x1 = 4 → CallVC l G d mRe_rule 137 [.ref a0, .int x1, .int 0] [] mRe_numberHere [.ref a0, .int 0, .int 999, .int ((-1))] (m_si M a0 16 0) bc bs Φ) ∧ (x1 = 4 → CallVC l G d mRe_rule 137 [.ref a0, .int x1, .int 0] [] mRe_numberHere [.ref a0, .int 0, .int 9, .int ((-1))] (m_si M a0 16 0) bc bs Φ))) ∧ (x1 = 0 → CallVC l G d mRe_rule 137 [.ref a0, .int x1, .int 0] [] mRe_numberHere [.ref a0, .int 0, .int 99, .int ((-1))] (m_si M a0 16 0) bc bs Φ)) ∧ (¬ x1 = 3 → (¬ x1 = 4 → (¬ x1 = 0 → (x1 = 1 → CallVC l G d mRe_rule 137 [.ref a0, .int x1, .int 0] [] mRe_numberHere [.ref a0, .int 1, .int 9, .int ((-1))] (m_si M a0 16 0) bc bs Φ) ∧ (¬ x1 = 1 → (¬ x1 = 4 → CallVC l G d mRe_rule 137 [.ref a0, .int x1, .int 0] [] mRe_numberHere [.ref a0, .int 1, .int 999, .int ((-1))] (m_si M a0 16 0) bc bs Φ) ∧ (x1 = 4 → CallVC l G d mRe_rule 137 [.ref a0, .int x1, .int 0] [] mRe_numberHere [.ref a0, .int 1, .int 9, .int ((-1))] (m_si M a0 16 0) bc bs Φ))) ∧ (x1 = 0 → CallVC l G d mRe_rule 137 [.ref a0, .int x1, .int 0] [] mRe_numberHere [.ref a0, .int 1, .int 99, .int ((-1))] (m_si M a0 16 0) bc bs Φ)) ∧ (x1 = 4 → (¬ x1 = 0 → (x1 = 1 → CallVC l G d mRe_rule 137 [.ref a0, .int x1, .int 0] [] mRe_numberHere [.ref a0, .int 0, .int 9, .int ((-1))] (m_si M a0 16 0) bc bs Φ) ∧ (¬ x1 = 1 → (¬ x1 = 4 → CallVC l G d mRe_rule 137 [.ref a0, .int x1, .int 0] [] mRe_numberHere [.ref a0, .int 0, .int 999, .int ((-1))] (m_si M a0 16 0) bc bs Φ) ∧ (x1 = 4 → CallVC l G d mRe_rule 137 [.ref a0, .int x1, .int 0] [] mRe_numberHere [.ref a0, .int 0, .int 9, .int ((-1))] (m_si M a0 16 0) bc bs Φ))) ∧ (x1 = 0 → CallVC l G d mRe_rule 137 [.ref a0, .int x1, .int 0] [] mRe_numberHere [.ref a0, .int 0, .int 99, .int ((-1))] (m_si M a0 16 0) bc bs Φ))))) ∧ (x1 = 7 → CallVC l G d mRe_rule 82 [.ref a0, .int x1, .int 0] [] mRe_ors [.ref a0] (m_si M a0 16 0) bc bs Φ)) ∧ (x1 = 6 → CallVC l G d mRe_rule 69 [.ref a0, .int x1, .int 0] [] mRe_sum [.ref a0] (m_si M a0 16 0) bc bs Φ)) :
    Ev l G d mRe_rule 52 [.ref a0, .int x1, u2] [] M bc bs Φ := by
  refine Ev.aload_n dRe_rule_52 rfl ?_
  refine Ev.iconst (v := 0) dRe_rule_53 (by decide) ?_
  have g1 := h.1
  replace h := h.2
  refine Ev.putI dRe_rule_54 ⟨_, Or.inl ⟨fRe_222, (fun h => by cases h)⟩⟩ rfl ⟨rfl, rfl⟩ g1 ?_
  refine Ev.iconst (v := 0) dRe_rule_57 (by decide) ?_
  refine Ev.istore_n dRe_rule_58 (by decide) ?_
  show Ev l G d mRe_rule (_ + _) [.ref a0, .int x1, .int 0] [] (m_si M a0 16 0) bc bs Φ
  refine Ev.iload_n dRe_rule_59 rfl ?_
  refine Ev.bipush (v := 6) dRe_rule_60 (by decide) ?_
  refine Ev.icmp_ne 72 (by decide) dRe_rule_62 (fun c => ?_) (fun c => ?_)
  · replace h := h.1 c
    refine Ev.iload_n dRe_rule_72 rfl ?_
    refine Ev.bipush (v := 7) dRe_rule_73 (by decide) ?_
    refine Ev.icmp_ne 85 (by decide) dRe_rule_75 (fun c => ?_) (fun c => ?_)
    · replace h := h.1 c
      refine Ev.aload_n dRe_rule_85 rfl ?_
      refine Ev.iload_n dRe_rule_86 rfl ?_
      refine Ev.iconst (v := 2) dRe_rule_87 (by decide) ?_
      refine Ev.icmp_eq 101 (by decide) dRe_rule_88 (fun c => ?_) (fun c => ?_)
      · replace h := h.1 c
        refine Ev.iconst (v := 0) dRe_rule_101 (by decide) ?_
        refine Ev.goto 106 dRe_rule_102 (by decide) ?_
        refine Ev.iload_n dRe_rule_106 rfl ?_
        refine Ev.if_ne 115 (by decide) dRe_rule_107 (fun c => ?_) (fun c => ?_)
        · replace h := h.1 c
          refine Ev.iload_n dRe_rule_115 rfl ?_
          refine Ev.iconst (v := 1) dRe_rule_116 (by decide) ?_
          refine Ev.icmp_eq 125 (by decide) dRe_rule_117 (fun c => ?_) (fun c => ?_)
          · replace h := h.1 c
            refine Ev.bipush (v := 9) dRe_rule_125 (by decide) ?_
            refine Ev.goto 133 dRe_rule_127 (by decide) ?_
            refine Ev.iconst (v := (-1)) dRe_rule_133 (by decide) ?_
            exact Ev.vcV (z := mRe_numberHere) (ci := 11) [.int 0, .int 9, .int ((-1))] [] rfl dRe_rule_134 oRe_numberHere rfl w1526 iRe_numberHere sRe_numberHere (by decide) rfl g1 (Nat.le_of_ble_eq_true rfl) h
          · replace h := h.2 c
            refine Ev.iload_n dRe_rule_120 rfl ?_
            refine Ev.iconst (v := 4) dRe_rule_121 (by decide) ?_
            refine Ev.icmp_ne 130 (by decide) dRe_rule_122 (fun c => ?_) (fun c => ?_)
            · replace h := h.1 c
              refine Ev.sipush (v := 999) dRe_rule_130 (by decide) ?_
              refine Ev.iconst (v := (-1)) dRe_rule_133 (by decide) ?_
              exact Ev.vcV (z := mRe_numberHere) (ci := 11) [.int 0, .int 999, .int ((-1))] [] rfl dRe_rule_134 oRe_numberHere rfl w1526 iRe_numberHere sRe_numberHere (by decide) rfl g1 (Nat.le_of_ble_eq_true rfl) h
            · replace h := h.2 c
              refine Ev.bipush (v := 9) dRe_rule_125 (by decide) ?_
              refine Ev.goto 133 dRe_rule_127 (by decide) ?_
              refine Ev.iconst (v := (-1)) dRe_rule_133 (by decide) ?_
              exact Ev.vcV (z := mRe_numberHere) (ci := 11) [.int 0, .int 9, .int ((-1))] [] rfl dRe_rule_134 oRe_numberHere rfl w1526 iRe_numberHere sRe_numberHere (by decide) rfl g1 (Nat.le_of_ble_eq_true rfl) h
        · replace h := h.2 c
          refine Ev.bipush (v := 99) dRe_rule_110 (by decide) ?_
          refine Ev.goto 133 dRe_rule_112 (by decide) ?_
          refine Ev.iconst (v := (-1)) dRe_rule_133 (by decide) ?_
          exact Ev.vcV (z := mRe_numberHere) (ci := 11) [.int 0, .int 99, .int ((-1))] [] rfl dRe_rule_134 oRe_numberHere rfl w1526 iRe_numberHere sRe_numberHere (by decide) rfl g1 (Nat.le_of_ble_eq_true rfl) h
      · replace h := h.2 c
        refine Ev.iload_n dRe_rule_91 rfl ?_
        refine Ev.iconst (v := 3) dRe_rule_92 (by decide) ?_
        refine Ev.icmp_eq 101 (by decide) dRe_rule_93 (fun c => ?_) (fun c => ?_)
        · replace h := h.1 c
          refine Ev.iconst (v := 0) dRe_rule_101 (by decide) ?_
          refine Ev.goto 106 dRe_rule_102 (by decide) ?_
          refine Ev.iload_n dRe_rule_106 rfl ?_
          refine Ev.if_ne 115 (by decide) dRe_rule_107 (fun c => ?_) (fun c => ?_)
          · replace h := h.1 c
            refine Ev.iload_n dRe_rule_115 rfl ?_
            refine Ev.iconst (v := 1) dRe_rule_116 (by decide) ?_
            refine Ev.icmp_eq 125 (by decide) dRe_rule_117 (fun c => ?_) (fun c => ?_)
            · replace h := h.1 c
              refine Ev.bipush (v := 9) dRe_rule_125 (by decide) ?_
              refine Ev.goto 133 dRe_rule_127 (by decide) ?_
              refine Ev.iconst (v := (-1)) dRe_rule_133 (by decide) ?_
              exact Ev.vcV (z := mRe_numberHere) (ci := 11) [.int 0, .int 9, .int ((-1))] [] rfl dRe_rule_134 oRe_numberHere rfl w1526 iRe_numberHere sRe_numberHere (by decide) rfl g1 (Nat.le_of_ble_eq_true rfl) h
            · replace h := h.2 c
              refine Ev.iload_n dRe_rule_120 rfl ?_
              refine Ev.iconst (v := 4) dRe_rule_121 (by decide) ?_
              refine Ev.icmp_ne 130 (by decide) dRe_rule_122 (fun c => ?_) (fun c => ?_)
              · replace h := h.1 c
                refine Ev.sipush (v := 999) dRe_rule_130 (by decide) ?_
                refine Ev.iconst (v := (-1)) dRe_rule_133 (by decide) ?_
                exact Ev.vcV (z := mRe_numberHere) (ci := 11) [.int 0, .int 999, .int ((-1))] [] rfl dRe_rule_134 oRe_numberHere rfl w1526 iRe_numberHere sRe_numberHere (by decide) rfl g1 (Nat.le_of_ble_eq_true rfl) h
              · replace h := h.2 c
                refine Ev.bipush (v := 9) dRe_rule_125 (by decide) ?_
                refine Ev.goto 133 dRe_rule_127 (by decide) ?_
                refine Ev.iconst (v := (-1)) dRe_rule_133 (by decide) ?_
                exact Ev.vcV (z := mRe_numberHere) (ci := 11) [.int 0, .int 9, .int ((-1))] [] rfl dRe_rule_134 oRe_numberHere rfl w1526 iRe_numberHere sRe_numberHere (by decide) rfl g1 (Nat.le_of_ble_eq_true rfl) h
          · replace h := h.2 c
            refine Ev.bipush (v := 99) dRe_rule_110 (by decide) ?_
            refine Ev.goto 133 dRe_rule_112 (by decide) ?_
            refine Ev.iconst (v := (-1)) dRe_rule_133 (by decide) ?_
            exact Ev.vcV (z := mRe_numberHere) (ci := 11) [.int 0, .int 99, .int ((-1))] [] rfl dRe_rule_134 oRe_numberHere rfl w1526 iRe_numberHere sRe_numberHere (by decide) rfl g1 (Nat.le_of_ble_eq_true rfl) h
        · replace h := h.2 c
          refine Ev.iload_n dRe_rule_96 rfl ?_
          refine Ev.iconst (v := 4) dRe_rule_97 (by decide) ?_
          refine Ev.icmp_ne 105 (by decide) dRe_rule_98 (fun c => ?_) (fun c => ?_)
          · replace h := h.1 c
            refine Ev.iconst (v := 1) dRe_rule_105 (by decide) ?_
            refine Ev.iload_n dRe_rule_106 rfl ?_
            refine Ev.if_ne 115 (by decide) dRe_rule_107 (fun c => ?_) (fun c => ?_)
            · replace h := h.1 c
              refine Ev.iload_n dRe_rule_115 rfl ?_
              refine Ev.iconst (v := 1) dRe_rule_116 (by decide) ?_
              refine Ev.icmp_eq 125 (by decide) dRe_rule_117 (fun c => ?_) (fun c => ?_)
              · replace h := h.1 c
                refine Ev.bipush (v := 9) dRe_rule_125 (by decide) ?_
                refine Ev.goto 133 dRe_rule_127 (by decide) ?_
                refine Ev.iconst (v := (-1)) dRe_rule_133 (by decide) ?_
                exact Ev.vcV (z := mRe_numberHere) (ci := 11) [.int 1, .int 9, .int ((-1))] [] rfl dRe_rule_134 oRe_numberHere rfl w1526 iRe_numberHere sRe_numberHere (by decide) rfl g1 (Nat.le_of_ble_eq_true rfl) h
              · replace h := h.2 c
                refine Ev.iload_n dRe_rule_120 rfl ?_
                refine Ev.iconst (v := 4) dRe_rule_121 (by decide) ?_
                refine Ev.icmp_ne 130 (by decide) dRe_rule_122 (fun c => ?_) (fun c => ?_)
                · replace h := h.1 c
                  refine Ev.sipush (v := 999) dRe_rule_130 (by decide) ?_
                  refine Ev.iconst (v := (-1)) dRe_rule_133 (by decide) ?_
                  exact Ev.vcV (z := mRe_numberHere) (ci := 11) [.int 1, .int 999, .int ((-1))] [] rfl dRe_rule_134 oRe_numberHere rfl w1526 iRe_numberHere sRe_numberHere (by decide) rfl g1 (Nat.le_of_ble_eq_true rfl) h
                · replace h := h.2 c
                  refine Ev.bipush (v := 9) dRe_rule_125 (by decide) ?_
                  refine Ev.goto 133 dRe_rule_127 (by decide) ?_
                  refine Ev.iconst (v := (-1)) dRe_rule_133 (by decide) ?_
                  exact Ev.vcV (z := mRe_numberHere) (ci := 11) [.int 1, .int 9, .int ((-1))] [] rfl dRe_rule_134 oRe_numberHere rfl w1526 iRe_numberHere sRe_numberHere (by decide) rfl g1 (Nat.le_of_ble_eq_true rfl) h
            · replace h := h.2 c
              refine Ev.bipush (v := 99) dRe_rule_110 (by decide) ?_
              refine Ev.goto 133 dRe_rule_112 (by decide) ?_
              refine Ev.iconst (v := (-1)) dRe_rule_133 (by decide) ?_
              exact Ev.vcV (z := mRe_numberHere) (ci := 11) [.int 1, .int 99, .int ((-1))] [] rfl dRe_rule_134 oRe_numberHere rfl w1526 iRe_numberHere sRe_numberHere (by decide) rfl g1 (Nat.le_of_ble_eq_true rfl) h
          · replace h := h.2 c
            refine Ev.iconst (v := 0) dRe_rule_101 (by decide) ?_
            refine Ev.goto 106 dRe_rule_102 (by decide) ?_
            refine Ev.iload_n dRe_rule_106 rfl ?_
            refine Ev.if_ne 115 (by decide) dRe_rule_107 (fun c => ?_) (fun c => ?_)
            · replace h := h.1 c
              refine Ev.iload_n dRe_rule_115 rfl ?_
              refine Ev.iconst (v := 1) dRe_rule_116 (by decide) ?_
              refine Ev.icmp_eq 125 (by decide) dRe_rule_117 (fun c => ?_) (fun c => ?_)
              · replace h := h.1 c
                refine Ev.bipush (v := 9) dRe_rule_125 (by decide) ?_
                refine Ev.goto 133 dRe_rule_127 (by decide) ?_
                refine Ev.iconst (v := (-1)) dRe_rule_133 (by decide) ?_
                exact Ev.vcV (z := mRe_numberHere) (ci := 11) [.int 0, .int 9, .int ((-1))] [] rfl dRe_rule_134 oRe_numberHere rfl w1526 iRe_numberHere sRe_numberHere (by decide) rfl g1 (Nat.le_of_ble_eq_true rfl) h
              · replace h := h.2 c
                refine Ev.iload_n dRe_rule_120 rfl ?_
                refine Ev.iconst (v := 4) dRe_rule_121 (by decide) ?_
                refine Ev.icmp_ne 130 (by decide) dRe_rule_122 (fun c => ?_) (fun c => ?_)
                · replace h := h.1 c
                  refine Ev.sipush (v := 999) dRe_rule_130 (by decide) ?_
                  refine Ev.iconst (v := (-1)) dRe_rule_133 (by decide) ?_
                  exact Ev.vcV (z := mRe_numberHere) (ci := 11) [.int 0, .int 999, .int ((-1))] [] rfl dRe_rule_134 oRe_numberHere rfl w1526 iRe_numberHere sRe_numberHere (by decide) rfl g1 (Nat.le_of_ble_eq_true rfl) h
                · replace h := h.2 c
                  refine Ev.bipush (v := 9) dRe_rule_125 (by decide) ?_
                  refine Ev.goto 133 dRe_rule_127 (by decide) ?_
                  refine Ev.iconst (v := (-1)) dRe_rule_133 (by decide) ?_
                  exact Ev.vcV (z := mRe_numberHere) (ci := 11) [.int 0, .int 9, .int ((-1))] [] rfl dRe_rule_134 oRe_numberHere rfl w1526 iRe_numberHere sRe_numberHere (by decide) rfl g1 (Nat.le_of_ble_eq_true rfl) h
            · replace h := h.2 c
              refine Ev.bipush (v := 99) dRe_rule_110 (by decide) ?_
              refine Ev.goto 133 dRe_rule_112 (by decide) ?_
              refine Ev.iconst (v := (-1)) dRe_rule_133 (by decide) ?_
              exact Ev.vcV (z := mRe_numberHere) (ci := 11) [.int 0, .int 99, .int ((-1))] [] rfl dRe_rule_134 oRe_numberHere rfl w1526 iRe_numberHere sRe_numberHere (by decide) rfl g1 (Nat.le_of_ble_eq_true rfl) h
    · replace h := h.2 c
      refine Ev.aload_n dRe_rule_78 rfl ?_
      exact Ev.vcV (z := mRe_ors) (ci := 11) [] [] rfl dRe_rule_79 oRe_ors rfl w1581 iRe_ors sRe_ors (by decide) rfl g1 (Nat.le_of_ble_eq_true rfl) h
  · replace h := h.2 c
    refine Ev.aload_n dRe_rule_65 rfl ?_
    exact Ev.vcV (z := mRe_sum) (ci := 11) [] [] rfl dRe_rule_66 oRe_sum rfl w1550 iRe_sum sRe_sum (by decide) rfl g1 (Nat.le_of_ble_eq_true rfl) h
theorem bRe_rule_69 {l : Launch} {G : Gx} {d : Nat} {bc bs : Nat} {Φ : OutV → Mm → Prop} (M : Mm) (a0 : Nat) (x1 : Int32) (x2 : Int32)
    (h : Ev l G d mRe_rule 138 [.ref a0, .int x1, .int x2] [] M bc bs Φ) :
    Ev l G d mRe_rule 69 [.ref a0, .int x1, .int x2] [] M bc bs Φ := by
  refine Ev.goto 138 dRe_rule_69 (by decide) ?_
  exact h
theorem bRe_rule_82 {l : Launch} {G : Gx} {d : Nat} {bc bs : Nat} {Φ : OutV → Mm → Prop} (M : Mm) (a0 : Nat) (x1 : Int32) (x2 : Int32)
    (h : Ev l G d mRe_rule 138 [.ref a0, .int x1, .int x2] [] M bc bs Φ) :
    Ev l G d mRe_rule 82 [.ref a0, .int x1, .int x2] [] M bc bs Φ := by
  refine Ev.goto 138 dRe_rule_82 (by decide) ?_
  exact h
theorem bRe_rule_137 {l : Launch} {G : Gx} {d : Nat} {bc bs : Nat} {Φ : OutV → Mm → Prop} (M : Mm) (a0 : Nat) (x1 : Int32) (x2 : Int32) (s0 : Int32)
    (h : Ev l G d mRe_rule 138 [.ref a0, .int x1, .int s0] [] M bc bs Φ) :
    Ev l G d mRe_rule 137 [.ref a0, .int x1, .int x2] [.int s0] M bc bs Φ := by
  refine Ev.istore_n dRe_rule_137 (by decide) ?_
  show Ev l G d mRe_rule (_ + _) [.ref a0, .int x1, .int s0] [] M bc bs Φ
  exact h
theorem bRe_rule_138 {l : Launch} {G : Gx} {d : Nat} {bc bs : Nat} {Φ : OutV → Mm → Prop} (M : Mm) (a0 : Nat) (x1 : Int32) (x2 : Int32)
    (h : ((m_sh M a0).1 = 11) ∧ ((m_sh M (m_r M a0 17)).1 = 20) ∧ (vp_in (m_i M a0 14) (m_sh M (m_r M a0 17)).2) ∧ ((m_sh M (m_r M a0 19)).1 = 20) ∧ (vp_in (m_i (m_si M (m_r M a0 17) (m_i M a0 14).toNatClampNeg x1) a0 14) (m_sh M (m_r M a0 19)).2) ∧ Ev l G d mRe_rule 158 [.ref a0, .int x1, .int x2] [] (m_si (m_si M (m_r M a0 17) (m_i M a0 14).toNatClampNeg x1) (m_r M a0 19) (m_i (m_si M (m_r M a0 17) (m_i M a0 14).toNatClampNeg x1) a0 14).toNatClampNeg x2) bc bs Φ) :
    Ev l G d mRe_rule 138 [.ref a0, .int x1, .int x2] [] M bc bs Φ := by
  refine Ev.aload_n dRe_rule_138 rfl ?_
  have g1 := h.1
  replace h := h.2
  refine Ev.getR dRe_rule_139 (Or.inl fRe_25) rfl g1 ?_
  refine Ev.aload_n dRe_rule_142 rfl ?_
  refine Ev.getI dRe_rule_143 (Or.inl fRe_219) rfl g1 ?_
  refine Ev.iload_n dRe_rule_146 rfl ?_
  have g2 := h.1
  replace h := h.2
  have g3 := h.1
  replace h := h.2
  refine Ev.iast2 dRe_rule_147 g2 g3 ?_
  refine Ev.aload_n dRe_rule_148 rfl ?_
  refine Ev.getR dRe_rule_149 (Or.inl fRe_31) rfl g1 ?_
  refine Ev.aload_n dRe_rule_152 rfl ?_
  refine Ev.getI dRe_rule_153 (Or.inl fRe_219) rfl g1 ?_
  refine Ev.iload_n dRe_rule_156 rfl ?_
  have g4 := h.1
  replace h := h.2
  have g5 := h.1
  replace h := h.2
  refine Ev.iast2 dRe_rule_157 g4 g5 ?_
  exact h
theorem bRe_rule_158 {l : Launch} {G : Gx} {d : Nat} {bc bs : Nat} {Φ : OutV → Mm → Prop} (M : Mm) (a0 : Nat) (x1 : Int32) (x2 : Int32)
    (h : ((m_sh M a0).1 = 11) ∧ ((m_sh M (m_r M a0 21)).1 = 20) ∧ (vp_in (m_i M a0 14) (m_sh M (m_r M a0 21)).2) ∧ Ev l G d mRe_rule 181 [.ref a0, .int x1, .int x2] [] (m_si (m_si M (m_r M a0 21) (m_i M a0 14).toNatClampNeg (m_i M a0 16)) a0 14 ((m_i (m_si M (m_r M a0 21) (m_i M a0 14).toNatClampNeg (m_i M a0 16)) a0 14) + 1)) bc bs Φ) :
    Ev l G d mRe_rule 158 [.ref a0, .int x1, .int x2] [] M bc bs Φ := by
  refine Ev.aload_n dRe_rule_158 rfl ?_
  have g1 := h.1
  replace h := h.2
  refine Ev.getR dRe_rule_159 (Or.inl fRe_37) rfl g1 ?_
  refine Ev.aload_n dRe_rule_162 rfl ?_
  refine Ev.getI dRe_rule_163 (Or.inl fRe_219) rfl g1 ?_
  refine Ev.aload_n dRe_rule_166 rfl ?_
  refine Ev.getI dRe_rule_167 (Or.inl fRe_222) rfl g1 ?_
  have g2 := h.1
  replace h := h.2
  have g3 := h.1
  replace h := h.2
  refine Ev.iast2 dRe_rule_170 g2 g3 ?_
  refine Ev.aload_n dRe_rule_171 rfl ?_
  refine Ev.dup dRe_rule_172 rfl ?_
  refine Ev.getI dRe_rule_173 (Or.inl fRe_219) rfl g1 ?_
  refine Ev.iconst (v := 1) dRe_rule_176 (by decide) ?_
  refine Ev.iadd dRe_rule_177 ?_
  refine Ev.putI dRe_rule_178 ⟨_, Or.inl ⟨fRe_219, (fun h => by cases h)⟩⟩ rfl ⟨rfl, rfl⟩ g1 ?_
  exact h
theorem bRe_rule_181 {l : Launch} {G : Gx} {d : Nat} {bc bs : Nat} {Φ : OutV → Mm → Prop} (M : Mm) (a0 : Nat) (x1 : Int32) (x2 : Int32)
    (h : ((m_sh M a0).1 = 11) ∧ CallVC l G d mRe_rule 187 [.ref a0, .int x1, .int x2] [] mRe_sign [.ref a0, .int 59] M bc bs Φ) :
    Ev l G d mRe_rule 181 [.ref a0, .int x1, .int x2] [] M bc bs Φ := by
  refine Ev.aload_n dRe_rule_181 rfl ?_
  refine Ev.bipush (v := 59) dRe_rule_182 (by decide) ?_
  have g1 := h.1
  replace h := h.2
  exact Ev.vcV (z := mRe_sign) (ci := 11) [.int 59] [] rfl dRe_rule_184 oRe_sign rfl w1534 iRe_sign sRe_sign (by decide) rfl g1 (Nat.le_of_ble_eq_true rfl) h
theorem bRe_rule_187 {l : Launch} {G : Gx} {d : Nat} {bc bs : Nat} {Φ : OutV → Mm → Prop} (M : Mm) (a0 : Nat) (x1 : Int32) (x2 : Int32)
    (h : Φ (.inl none) M) :
    Ev l G d mRe_rule 187 [.ref a0, .int x1, .int x2] [] M bc bs Φ := by
  exact Ev.vret dRe_rule_187 rfl h
theorem dRe_ruleHere_0 : decode mRe_ruleHere.2.1 0 = .ok (.aload_n 0, 1) := by decide +kernel
theorem dRe_ruleHere_1 : decode mRe_ruleHere.2.1 1 = .ok (.iconst 4, 1) := by decide +kernel
theorem dRe_ruleHere_2 : decode mRe_ruleHere.2.1 2 = .ok (.bipush 21, 2) := by decide +kernel
theorem dRe_ruleHere_4 : decode mRe_ruleHere.2.1 4 = .ok (.iconst 5, 1) := by decide +kernel
theorem dRe_ruleHere_5 : decode mRe_ruleHere.2.1 5 = .ok (.iconst 0, 1) := by decide +kernel
theorem dRe_ruleHere_6 : decode mRe_ruleHere.2.1 6 = .ok (.iconst 0, 1) := by decide +kernel
theorem dRe_ruleHere_7 : decode mRe_ruleHere.2.1 7 = .ok (.invokestatic 176, 3) := by decide +kernel
theorem dRe_ruleHere_10 : decode mRe_ruleHere.2.1 10 = .ok (.invokevirtual 163, 3) := by decide +kernel
theorem dRe_ruleHere_13 : decode mRe_ruleHere.2.1 13 = .ok (.ifCond .eq 5, 3) := by decide +kernel
theorem dRe_ruleHere_16 : decode mRe_ruleHere.2.1 16 = .ok (.iconst 0, 1) := by decide +kernel
theorem dRe_ruleHere_17 : decode mRe_ruleHere.2.1 17 = .ok (.ireturn, 1) := by decide +kernel
theorem dRe_ruleHere_18 : decode mRe_ruleHere.2.1 18 = .ok (.aload_n 0, 1) := by decide +kernel
theorem dRe_ruleHere_19 : decode mRe_ruleHere.2.1 19 = .ok (.bipush 20, 2) := by decide +kernel
theorem dRe_ruleHere_21 : decode mRe_ruleHere.2.1 21 = .ok (.bipush 9, 2) := by decide +kernel
theorem dRe_ruleHere_23 : decode mRe_ruleHere.2.1 23 = .ok (.bipush 13, 2) := by decide +kernel
theorem dRe_ruleHere_25 : decode mRe_ruleHere.2.1 25 = .ok (.iconst 5, 1) := by decide +kernel
theorem dRe_ruleHere_26 : decode mRe_ruleHere.2.1 26 = .ok (.bipush 19, 2) := by decide +kernel
theorem dRe_ruleHere_28 : decode mRe_ruleHere.2.1 28 = .ok (.invokestatic 176, 3) := by decide +kernel
theorem dRe_ruleHere_31 : decode mRe_ruleHere.2.1 31 = .ok (.invokevirtual 163, 3) := by decide +kernel
theorem dRe_ruleHere_34 : decode mRe_ruleHere.2.1 34 = .ok (.ifCond .eq 5, 3) := by decide +kernel
theorem dRe_ruleHere_37 : decode mRe_ruleHere.2.1 37 = .ok (.iconst 1, 1) := by decide +kernel
theorem dRe_ruleHere_38 : decode mRe_ruleHere.2.1 38 = .ok (.ireturn, 1) := by decide +kernel
theorem dRe_ruleHere_39 : decode mRe_ruleHere.2.1 39 = .ok (.aload_n 0, 1) := by decide +kernel
theorem dRe_ruleHere_40 : decode mRe_ruleHere.2.1 40 = .ok (.iconst 2, 1) := by decide +kernel
theorem dRe_ruleHere_41 : decode mRe_ruleHere.2.1 41 = .ok (.iconst 5, 1) := by decide +kernel
theorem dRe_ruleHere_42 : decode mRe_ruleHere.2.1 42 = .ok (.bipush 12, 2) := by decide +kernel
theorem dRe_ruleHere_44 : decode mRe_ruleHere.2.1 44 = .ok (.bipush 12, 2) := by decide +kernel
theorem dRe_ruleHere_46 : decode mRe_ruleHere.2.1 46 = .ok (.iconst 0, 1) := by decide +kernel
theorem dRe_ruleHere_47 : decode mRe_ruleHere.2.1 47 = .ok (.invokestatic 176, 3) := by decide +kernel
theorem dRe_ruleHere_50 : decode mRe_ruleHere.2.1 50 = .ok (.invokevirtual 163, 3) := by decide +kernel
theorem dRe_ruleHere_53 : decode mRe_ruleHere.2.1 53 = .ok (.ifCond .eq 5, 3) := by decide +kernel
theorem dRe_ruleHere_56 : decode mRe_ruleHere.2.1 56 = .ok (.iconst 2, 1) := by decide +kernel
theorem dRe_ruleHere_57 : decode mRe_ruleHere.2.1 57 = .ok (.ireturn, 1) := by decide +kernel
theorem dRe_ruleHere_58 : decode mRe_ruleHere.2.1 58 = .ok (.aload_n 0, 1) := by decide +kernel
theorem dRe_ruleHere_59 : decode mRe_ruleHere.2.1 59 = .ok (.bipush 19, 2) := by decide +kernel
theorem dRe_ruleHere_61 : decode mRe_ruleHere.2.1 61 = .ok (.bipush 8, 2) := by decide +kernel
theorem dRe_ruleHere_63 : decode mRe_ruleHere.2.1 63 = .ok (.bipush 21, 2) := by decide +kernel
theorem dRe_ruleHere_65 : decode mRe_ruleHere.2.1 65 = .ok (.bipush 20, 2) := by decide +kernel
theorem dRe_ruleHere_67 : decode mRe_ruleHere.2.1 67 = .ok (.iconst 0, 1) := by decide +kernel
theorem dRe_ruleHere_68 : decode mRe_ruleHere.2.1 68 = .ok (.invokestatic 176, 3) := by decide +kernel
theorem dRe_ruleHere_71 : decode mRe_ruleHere.2.1 71 = .ok (.invokevirtual 163, 3) := by decide +kernel
theorem dRe_ruleHere_74 : decode mRe_ruleHere.2.1 74 = .ok (.ifCond .eq 5, 3) := by decide +kernel
theorem dRe_ruleHere_77 : decode mRe_ruleHere.2.1 77 = .ok (.iconst 3, 1) := by decide +kernel
theorem dRe_ruleHere_78 : decode mRe_ruleHere.2.1 78 = .ok (.ireturn, 1) := by decide +kernel
theorem dRe_ruleHere_79 : decode mRe_ruleHere.2.1 79 = .ok (.aload_n 0, 1) := by decide +kernel
theorem dRe_ruleHere_80 : decode mRe_ruleHere.2.1 80 = .ok (.iconst 2, 1) := by decide +kernel
theorem dRe_ruleHere_81 : decode mRe_ruleHere.2.1 81 = .ok (.bipush 15, 2) := by decide +kernel
theorem dRe_ruleHere_83 : decode mRe_ruleHere.2.1 83 = .ok (.bipush 23, 2) := by decide +kernel
theorem dRe_ruleHere_85 : decode mRe_ruleHere.2.1 85 = .ok (.iconst 0, 1) := by decide +kernel
theorem dRe_ruleHere_86 : decode mRe_ruleHere.2.1 86 = .ok (.iconst 0, 1) := by decide +kernel
theorem dRe_ruleHere_87 : decode mRe_ruleHere.2.1 87 = .ok (.invokestatic 176, 3) := by decide +kernel
theorem dRe_ruleHere_90 : decode mRe_ruleHere.2.1 90 = .ok (.invokevirtual 163, 3) := by decide +kernel
theorem dRe_ruleHere_93 : decode mRe_ruleHere.2.1 93 = .ok (.ifCond .eq 5, 3) := by decide +kernel
theorem dRe_ruleHere_96 : decode mRe_ruleHere.2.1 96 = .ok (.iconst 4, 1) := by decide +kernel
theorem dRe_ruleHere_97 : decode mRe_ruleHere.2.1 97 = .ok (.ireturn, 1) := by decide +kernel
theorem dRe_ruleHere_98 : decode mRe_ruleHere.2.1 98 = .ok (.aload_n 0, 1) := by decide +kernel
theorem dRe_ruleHere_99 : decode mRe_ruleHere.2.1 99 = .ok (.bipush 12, 2) := by decide +kernel
theorem dRe_ruleHere_101 : decode mRe_ruleHere.2.1 101 = .ok (.iconst 1, 1) := by decide +kernel
theorem dRe_ruleHere_102 : decode mRe_ruleHere.2.1 102 = .ok (.bipush 16, 2) := by decide +kernel
theorem dRe_ruleHere_104 : decode mRe_ruleHere.2.1 104 = .ok (.bipush 19, 2) := by decide +kernel
theorem dRe_ruleHere_106 : decode mRe_ruleHere.2.1 106 = .ok (.iconst 5, 1) := by decide +kernel
theorem dRe_ruleHere_107 : decode mRe_ruleHere.2.1 107 = .ok (.invokestatic 176, 3) := by decide +kernel
theorem dRe_ruleHere_110 : decode mRe_ruleHere.2.1 110 = .ok (.invokevirtual 163, 3) := by decide +kernel
theorem dRe_ruleHere_113 : decode mRe_ruleHere.2.1 113 = .ok (.ifCond .eq 5, 3) := by decide +kernel
theorem dRe_ruleHere_116 : decode mRe_ruleHere.2.1 116 = .ok (.iconst 5, 1) := by decide +kernel
theorem dRe_ruleHere_117 : decode mRe_ruleHere.2.1 117 = .ok (.ireturn, 1) := by decide +kernel
theorem dRe_ruleHere_118 : decode mRe_ruleHere.2.1 118 = .ok (.aload_n 0, 1) := by decide +kernel
theorem dRe_ruleHere_119 : decode mRe_ruleHere.2.1 119 = .ok (.bipush 23, 2) := by decide +kernel
theorem dRe_ruleHere_121 : decode mRe_ruleHere.2.1 121 = .ok (.bipush 15, 2) := by decide +kernel
theorem dRe_ruleHere_123 : decode mRe_ruleHere.2.1 123 = .ok (.bipush 18, 2) := by decide +kernel
theorem dRe_ruleHere_125 : decode mRe_ruleHere.2.1 125 = .ok (.bipush 20, 2) := by decide +kernel
theorem dRe_ruleHere_127 : decode mRe_ruleHere.2.1 127 = .ok (.bipush 8, 2) := by decide +kernel
theorem dRe_ruleHere_129 : decode mRe_ruleHere.2.1 129 = .ok (.invokestatic 176, 3) := by decide +kernel
theorem dRe_ruleHere_132 : decode mRe_ruleHere.2.1 132 = .ok (.invokevirtual 163, 3) := by decide +kernel
theorem dRe_ruleHere_135 : decode mRe_ruleHere.2.1 135 = .ok (.ifCond .eq 6, 3) := by decide +kernel
theorem dRe_ruleHere_138 : decode mRe_ruleHere.2.1 138 = .ok (.bipush 6, 2) := by decide +kernel
theorem dRe_ruleHere_140 : decode mRe_ruleHere.2.1 140 = .ok (.ireturn, 1) := by decide +kernel
theorem dRe_ruleHere_141 : decode mRe_ruleHere.2.1 141 = .ok (.aload_n 0, 1) := by decide +kernel
theorem dRe_ruleHere_142 : decode mRe_ruleHere.2.1 142 = .ok (.bipush 13, 2) := by decide +kernel
theorem dRe_ruleHere_144 : decode mRe_ruleHere.2.1 144 = .ok (.bipush 21, 2) := by decide +kernel
theorem dRe_ruleHere_146 : decode mRe_ruleHere.2.1 146 = .ok (.bipush 19, 2) := by decide +kernel
theorem dRe_ruleHere_148 : decode mRe_ruleHere.2.1 148 = .ok (.bipush 20, 2) := by decide +kernel
theorem dRe_ruleHere_150 : decode mRe_ruleHere.2.1 150 = .ok (.iconst 0, 1) := by decide +kernel
theorem dRe_ruleHere_151 : decode mRe_ruleHere.2.1 151 = .ok (.invokestatic 176, 3) := by decide +kernel
theorem dRe_ruleHere_154 : decode mRe_ruleHere.2.1 154 = .ok (.invokevirtual 163, 3) := by decide +kernel
theorem dRe_ruleHere_157 : decode mRe_ruleHere.2.1 157 = .ok (.ifCond .eq 8, 3) := by decide +kernel
theorem dRe_ruleHere_160 : decode mRe_ruleHere.2.1 160 = .ok (.bipush 7, 2) := by decide +kernel
theorem dRe_ruleHere_162 : decode mRe_ruleHere.2.1 162 = .ok (.goto 4, 3) := by decide +kernel
theorem dRe_ruleHere_165 : decode mRe_ruleHere.2.1 165 = .ok (.iconst (-1), 1) := by decide +kernel
theorem dRe_ruleHere_166 : decode mRe_ruleHere.2.1 166 = .ok (.ireturn, 1) := by decide +kernel
theorem bRe_ruleHere_0 {l : Launch} {G : Gx} {d : Nat} {bc bs : Nat} {Φ : OutV → Mm → Prop} (M : Mm) (a0 : Nat)
    (h : CallVC l G d mRe_ruleHere 10 [.ref a0] [.ref a0] mRe_five [.int 4, .int 21, .int 5, .int 0, .int 0] M bc bs Φ) :
    Ev l G d mRe_ruleHere 0 [.ref a0] [] M bc bs Φ := by
  refine Ev.aload_n dRe_ruleHere_0 rfl ?_
  refine Ev.iconst (v := 4) dRe_ruleHere_1 (by decide) ?_
  refine Ev.bipush (v := 21) dRe_ruleHere_2 (by decide) ?_
  refine Ev.iconst (v := 5) dRe_ruleHere_4 (by decide) ?_
  refine Ev.iconst (v := 0) dRe_ruleHere_5 (by decide) ?_
  refine Ev.iconst (v := 0) dRe_ruleHere_6 (by decide) ?_
  exact Ev.vcS (z := mRe_five) [.int 4, .int 21, .int 5, .int 0, .int 0] [.ref a0] rfl dRe_ruleHere_7 oRe_five rfl w1500 iRe_five (Nat.le_of_ble_eq_true rfl) h
theorem bRe_ruleHere_10 {l : Launch} {G : Gx} {d : Nat} {bc bs : Nat} {Φ : OutV → Mm → Prop} (M : Mm) (a0 : Nat) (r0 : Nat) (w1 : Int64)
    (h : ((m_sh M r0).1 = 11) ∧ CallVC l G d mRe_ruleHere 13 [.ref a0] [] mRe_isWord [.ref r0, .long w1] M bc bs Φ) :
    Ev l G d mRe_ruleHere 10 [.ref a0] [.long w1, .ref r0] M bc bs Φ := by
  have g1 := h.1
  replace h := h.2
  exact Ev.vcV (z := mRe_isWord) (ci := 11) [.long w1] [] rfl dRe_ruleHere_10 oRe_isWord rfl w1504 iRe_isWord sRe_isWord (by decide) rfl g1 (Nat.le_of_ble_eq_true rfl) h
theorem bRe_ruleHere_13 {l : Launch} {G : Gx} {d : Nat} {bc bs : Nat} {Φ : OutV → Mm → Prop} (M : Mm) (a0 : Nat) (s0 : Int32)
    (h : (s0 = 0 → CallVC l G d mRe_ruleHere 31 [.ref a0] [.ref a0] mRe_five [.int 20, .int 9, .int 13, .int 5, .int 19] M bc bs Φ) ∧ (¬ s0 = 0 → Φ (.inl (some (.int 0))) M)) :
    Ev l G d mRe_ruleHere 13 [.ref a0] [.int s0] M bc bs Φ := by
  refine Ev.if_eq 18 (by decide) dRe_ruleHere_13 (fun c => ?_) (fun c => ?_)
  · replace h := h.1 c
    refine Ev.aload_n dRe_ruleHere_18 rfl ?_
    refine Ev.bipush (v := 20) dRe_ruleHere_19 (by decide) ?_
    refine Ev.bipush (v := 9) dRe_ruleHere_21 (by decide) ?_
    refine Ev.bipush (v := 13) dRe_ruleHere_23 (by decide) ?_
    refine Ev.iconst (v := 5) dRe_ruleHere_25 (by decide) ?_
    refine Ev.bipush (v := 19) dRe_ruleHere_26 (by decide) ?_
    exact Ev.vcS (z := mRe_five) [.int 20, .int 9, .int 13, .int 5, .int 19] [.ref a0] rfl dRe_ruleHere_28 oRe_five rfl w1500 iRe_five (Nat.le_of_ble_eq_true rfl) h
  · replace h := h.2 c
    refine Ev.iconst (v := 0) dRe_ruleHere_16 (by decide) ?_
    exact Ev.iret dRe_ruleHere_17 rfl rfl h
theorem bRe_ruleHere_31 {l : Launch} {G : Gx} {d : Nat} {bc bs : Nat} {Φ : OutV → Mm → Prop} (M : Mm) (a0 : Nat) (r0 : Nat) (w1 : Int64)
    (h : ((m_sh M r0).1 = 11) ∧ CallVC l G d mRe_ruleHere 34 [.ref a0] [] mRe_isWord [.ref r0, .long w1] M bc bs Φ) :
    Ev l G d mRe_ruleHere 31 [.ref a0] [.long w1, .ref r0] M bc bs Φ := by
  have g1 := h.1
  replace h := h.2
  exact Ev.vcV (z := mRe_isWord) (ci := 11) [.long w1] [] rfl dRe_ruleHere_31 oRe_isWord rfl w1504 iRe_isWord sRe_isWord (by decide) rfl g1 (Nat.le_of_ble_eq_true rfl) h
theorem bRe_ruleHere_34 {l : Launch} {G : Gx} {d : Nat} {bc bs : Nat} {Φ : OutV → Mm → Prop} (M : Mm) (a0 : Nat) (s0 : Int32)
    (h : (s0 = 0 → CallVC l G d mRe_ruleHere 50 [.ref a0] [.ref a0] mRe_five [.int 2, .int 5, .int 12, .int 12, .int 0] M bc bs Φ) ∧ (¬ s0 = 0 → Φ (.inl (some (.int 1))) M)) :
    Ev l G d mRe_ruleHere 34 [.ref a0] [.int s0] M bc bs Φ := by
  refine Ev.if_eq 39 (by decide) dRe_ruleHere_34 (fun c => ?_) (fun c => ?_)
  · replace h := h.1 c
    refine Ev.aload_n dRe_ruleHere_39 rfl ?_
    refine Ev.iconst (v := 2) dRe_ruleHere_40 (by decide) ?_
    refine Ev.iconst (v := 5) dRe_ruleHere_41 (by decide) ?_
    refine Ev.bipush (v := 12) dRe_ruleHere_42 (by decide) ?_
    refine Ev.bipush (v := 12) dRe_ruleHere_44 (by decide) ?_
    refine Ev.iconst (v := 0) dRe_ruleHere_46 (by decide) ?_
    exact Ev.vcS (z := mRe_five) [.int 2, .int 5, .int 12, .int 12, .int 0] [.ref a0] rfl dRe_ruleHere_47 oRe_five rfl w1500 iRe_five (Nat.le_of_ble_eq_true rfl) h
  · replace h := h.2 c
    refine Ev.iconst (v := 1) dRe_ruleHere_37 (by decide) ?_
    exact Ev.iret dRe_ruleHere_38 rfl rfl h
theorem bRe_ruleHere_50 {l : Launch} {G : Gx} {d : Nat} {bc bs : Nat} {Φ : OutV → Mm → Prop} (M : Mm) (a0 : Nat) (r0 : Nat) (w1 : Int64)
    (h : ((m_sh M r0).1 = 11) ∧ CallVC l G d mRe_ruleHere 53 [.ref a0] [] mRe_isWord [.ref r0, .long w1] M bc bs Φ) :
    Ev l G d mRe_ruleHere 50 [.ref a0] [.long w1, .ref r0] M bc bs Φ := by
  have g1 := h.1
  replace h := h.2
  exact Ev.vcV (z := mRe_isWord) (ci := 11) [.long w1] [] rfl dRe_ruleHere_50 oRe_isWord rfl w1504 iRe_isWord sRe_isWord (by decide) rfl g1 (Nat.le_of_ble_eq_true rfl) h
theorem bRe_ruleHere_53 {l : Launch} {G : Gx} {d : Nat} {bc bs : Nat} {Φ : OutV → Mm → Prop} (M : Mm) (a0 : Nat) (s0 : Int32)
    (h : (s0 = 0 → CallVC l G d mRe_ruleHere 71 [.ref a0] [.ref a0] mRe_five [.int 19, .int 8, .int 21, .int 20, .int 0] M bc bs Φ) ∧ (¬ s0 = 0 → Φ (.inl (some (.int 2))) M)) :
    Ev l G d mRe_ruleHere 53 [.ref a0] [.int s0] M bc bs Φ := by
  refine Ev.if_eq 58 (by decide) dRe_ruleHere_53 (fun c => ?_) (fun c => ?_)
  · replace h := h.1 c
    refine Ev.aload_n dRe_ruleHere_58 rfl ?_
    refine Ev.bipush (v := 19) dRe_ruleHere_59 (by decide) ?_
    refine Ev.bipush (v := 8) dRe_ruleHere_61 (by decide) ?_
    refine Ev.bipush (v := 21) dRe_ruleHere_63 (by decide) ?_
    refine Ev.bipush (v := 20) dRe_ruleHere_65 (by decide) ?_
    refine Ev.iconst (v := 0) dRe_ruleHere_67 (by decide) ?_
    exact Ev.vcS (z := mRe_five) [.int 19, .int 8, .int 21, .int 20, .int 0] [.ref a0] rfl dRe_ruleHere_68 oRe_five rfl w1500 iRe_five (Nat.le_of_ble_eq_true rfl) h
  · replace h := h.2 c
    refine Ev.iconst (v := 2) dRe_ruleHere_56 (by decide) ?_
    exact Ev.iret dRe_ruleHere_57 rfl rfl h
theorem bRe_ruleHere_71 {l : Launch} {G : Gx} {d : Nat} {bc bs : Nat} {Φ : OutV → Mm → Prop} (M : Mm) (a0 : Nat) (r0 : Nat) (w1 : Int64)
    (h : ((m_sh M r0).1 = 11) ∧ CallVC l G d mRe_ruleHere 74 [.ref a0] [] mRe_isWord [.ref r0, .long w1] M bc bs Φ) :
    Ev l G d mRe_ruleHere 71 [.ref a0] [.long w1, .ref r0] M bc bs Φ := by
  have g1 := h.1
  replace h := h.2
  exact Ev.vcV (z := mRe_isWord) (ci := 11) [.long w1] [] rfl dRe_ruleHere_71 oRe_isWord rfl w1504 iRe_isWord sRe_isWord (by decide) rfl g1 (Nat.le_of_ble_eq_true rfl) h
theorem bRe_ruleHere_74 {l : Launch} {G : Gx} {d : Nat} {bc bs : Nat} {Φ : OutV → Mm → Prop} (M : Mm) (a0 : Nat) (s0 : Int32)
    (h : (s0 = 0 → CallVC l G d mRe_ruleHere 90 [.ref a0] [.ref a0] mRe_five [.int 2, .int 15, .int 23, .int 0, .int 0] M bc bs Φ) ∧ (¬ s0 = 0 → Φ (.inl (some (.int 3))) M)) :
    Ev l G d mRe_ruleHere 74 [.ref a0] [.int s0] M bc bs Φ := by
  refine Ev.if_eq 79 (by decide) dRe_ruleHere_74 (fun c => ?_) (fun c => ?_)
  · replace h := h.1 c
    refine Ev.aload_n dRe_ruleHere_79 rfl ?_
    refine Ev.iconst (v := 2) dRe_ruleHere_80 (by decide) ?_
    refine Ev.bipush (v := 15) dRe_ruleHere_81 (by decide) ?_
    refine Ev.bipush (v := 23) dRe_ruleHere_83 (by decide) ?_
    refine Ev.iconst (v := 0) dRe_ruleHere_85 (by decide) ?_
    refine Ev.iconst (v := 0) dRe_ruleHere_86 (by decide) ?_
    exact Ev.vcS (z := mRe_five) [.int 2, .int 15, .int 23, .int 0, .int 0] [.ref a0] rfl dRe_ruleHere_87 oRe_five rfl w1500 iRe_five (Nat.le_of_ble_eq_true rfl) h
  · replace h := h.2 c
    refine Ev.iconst (v := 3) dRe_ruleHere_77 (by decide) ?_
    exact Ev.iret dRe_ruleHere_78 rfl rfl h
theorem bRe_ruleHere_90 {l : Launch} {G : Gx} {d : Nat} {bc bs : Nat} {Φ : OutV → Mm → Prop} (M : Mm) (a0 : Nat) (r0 : Nat) (w1 : Int64)
    (h : ((m_sh M r0).1 = 11) ∧ CallVC l G d mRe_ruleHere 93 [.ref a0] [] mRe_isWord [.ref r0, .long w1] M bc bs Φ) :
    Ev l G d mRe_ruleHere 90 [.ref a0] [.long w1, .ref r0] M bc bs Φ := by
  have g1 := h.1
  replace h := h.2
  exact Ev.vcV (z := mRe_isWord) (ci := 11) [.long w1] [] rfl dRe_ruleHere_90 oRe_isWord rfl w1504 iRe_isWord sRe_isWord (by decide) rfl g1 (Nat.le_of_ble_eq_true rfl) h
theorem bRe_ruleHere_93 {l : Launch} {G : Gx} {d : Nat} {bc bs : Nat} {Φ : OutV → Mm → Prop} (M : Mm) (a0 : Nat) (s0 : Int32)
    (h : (s0 = 0 → CallVC l G d mRe_ruleHere 110 [.ref a0] [.ref a0] mRe_five [.int 12, .int 1, .int 16, .int 19, .int 5] M bc bs Φ) ∧ (¬ s0 = 0 → Φ (.inl (some (.int 4))) M)) :
    Ev l G d mRe_ruleHere 93 [.ref a0] [.int s0] M bc bs Φ := by
  refine Ev.if_eq 98 (by decide) dRe_ruleHere_93 (fun c => ?_) (fun c => ?_)
  · replace h := h.1 c
    refine Ev.aload_n dRe_ruleHere_98 rfl ?_
    refine Ev.bipush (v := 12) dRe_ruleHere_99 (by decide) ?_
    refine Ev.iconst (v := 1) dRe_ruleHere_101 (by decide) ?_
    refine Ev.bipush (v := 16) dRe_ruleHere_102 (by decide) ?_
    refine Ev.bipush (v := 19) dRe_ruleHere_104 (by decide) ?_
    refine Ev.iconst (v := 5) dRe_ruleHere_106 (by decide) ?_
    exact Ev.vcS (z := mRe_five) [.int 12, .int 1, .int 16, .int 19, .int 5] [.ref a0] rfl dRe_ruleHere_107 oRe_five rfl w1500 iRe_five (Nat.le_of_ble_eq_true rfl) h
  · replace h := h.2 c
    refine Ev.iconst (v := 4) dRe_ruleHere_96 (by decide) ?_
    exact Ev.iret dRe_ruleHere_97 rfl rfl h
theorem bRe_ruleHere_110 {l : Launch} {G : Gx} {d : Nat} {bc bs : Nat} {Φ : OutV → Mm → Prop} (M : Mm) (a0 : Nat) (r0 : Nat) (w1 : Int64)
    (h : ((m_sh M r0).1 = 11) ∧ CallVC l G d mRe_ruleHere 113 [.ref a0] [] mRe_isWord [.ref r0, .long w1] M bc bs Φ) :
    Ev l G d mRe_ruleHere 110 [.ref a0] [.long w1, .ref r0] M bc bs Φ := by
  have g1 := h.1
  replace h := h.2
  exact Ev.vcV (z := mRe_isWord) (ci := 11) [.long w1] [] rfl dRe_ruleHere_110 oRe_isWord rfl w1504 iRe_isWord sRe_isWord (by decide) rfl g1 (Nat.le_of_ble_eq_true rfl) h
theorem bRe_ruleHere_113 {l : Launch} {G : Gx} {d : Nat} {bc bs : Nat} {Φ : OutV → Mm → Prop} (M : Mm) (a0 : Nat) (s0 : Int32)
    (h : (s0 = 0 → CallVC l G d mRe_ruleHere 132 [.ref a0] [.ref a0] mRe_five [.int 23, .int 15, .int 18, .int 20, .int 8] M bc bs Φ) ∧ (¬ s0 = 0 → Φ (.inl (some (.int 5))) M)) :
    Ev l G d mRe_ruleHere 113 [.ref a0] [.int s0] M bc bs Φ := by
  refine Ev.if_eq 118 (by decide) dRe_ruleHere_113 (fun c => ?_) (fun c => ?_)
  · replace h := h.1 c
    refine Ev.aload_n dRe_ruleHere_118 rfl ?_
    refine Ev.bipush (v := 23) dRe_ruleHere_119 (by decide) ?_
    refine Ev.bipush (v := 15) dRe_ruleHere_121 (by decide) ?_
    refine Ev.bipush (v := 18) dRe_ruleHere_123 (by decide) ?_
    refine Ev.bipush (v := 20) dRe_ruleHere_125 (by decide) ?_
    refine Ev.bipush (v := 8) dRe_ruleHere_127 (by decide) ?_
    exact Ev.vcS (z := mRe_five) [.int 23, .int 15, .int 18, .int 20, .int 8] [.ref a0] rfl dRe_ruleHere_129 oRe_five rfl w1500 iRe_five (Nat.le_of_ble_eq_true rfl) h
  · replace h := h.2 c
    refine Ev.iconst (v := 5) dRe_ruleHere_116 (by decide) ?_
    exact Ev.iret dRe_ruleHere_117 rfl rfl h
theorem bRe_ruleHere_132 {l : Launch} {G : Gx} {d : Nat} {bc bs : Nat} {Φ : OutV → Mm → Prop} (M : Mm) (a0 : Nat) (r0 : Nat) (w1 : Int64)
    (h : ((m_sh M r0).1 = 11) ∧ CallVC l G d mRe_ruleHere 135 [.ref a0] [] mRe_isWord [.ref r0, .long w1] M bc bs Φ) :
    Ev l G d mRe_ruleHere 132 [.ref a0] [.long w1, .ref r0] M bc bs Φ := by
  have g1 := h.1
  replace h := h.2
  exact Ev.vcV (z := mRe_isWord) (ci := 11) [.long w1] [] rfl dRe_ruleHere_132 oRe_isWord rfl w1504 iRe_isWord sRe_isWord (by decide) rfl g1 (Nat.le_of_ble_eq_true rfl) h
theorem bRe_ruleHere_135 {l : Launch} {G : Gx} {d : Nat} {bc bs : Nat} {Φ : OutV → Mm → Prop} (M : Mm) (a0 : Nat) (s0 : Int32)
    (h : (s0 = 0 → CallVC l G d mRe_ruleHere 154 [.ref a0] [.ref a0] mRe_five [.int 13, .int 21, .int 19, .int 20, .int 0] M bc bs Φ) ∧ (¬ s0 = 0 → Φ (.inl (some (.int 6))) M)) :
    Ev l G d mRe_ruleHere 135 [.ref a0] [.int s0] M bc bs Φ := by
  refine Ev.if_eq 141 (by decide) dRe_ruleHere_135 (fun c => ?_) (fun c => ?_)
  · replace h := h.1 c
    refine Ev.aload_n dRe_ruleHere_141 rfl ?_
    refine Ev.bipush (v := 13) dRe_ruleHere_142 (by decide) ?_
    refine Ev.bipush (v := 21) dRe_ruleHere_144 (by decide) ?_
    refine Ev.bipush (v := 19) dRe_ruleHere_146 (by decide) ?_
    refine Ev.bipush (v := 20) dRe_ruleHere_148 (by decide) ?_
    refine Ev.iconst (v := 0) dRe_ruleHere_150 (by decide) ?_
    exact Ev.vcS (z := mRe_five) [.int 13, .int 21, .int 19, .int 20, .int 0] [.ref a0] rfl dRe_ruleHere_151 oRe_five rfl w1500 iRe_five (Nat.le_of_ble_eq_true rfl) h
  · replace h := h.2 c
    refine Ev.bipush (v := 6) dRe_ruleHere_138 (by decide) ?_
    exact Ev.iret dRe_ruleHere_140 rfl rfl h
theorem bRe_ruleHere_154 {l : Launch} {G : Gx} {d : Nat} {bc bs : Nat} {Φ : OutV → Mm → Prop} (M : Mm) (a0 : Nat) (r0 : Nat) (w1 : Int64)
    (h : ((m_sh M r0).1 = 11) ∧ CallVC l G d mRe_ruleHere 157 [.ref a0] [] mRe_isWord [.ref r0, .long w1] M bc bs Φ) :
    Ev l G d mRe_ruleHere 154 [.ref a0] [.long w1, .ref r0] M bc bs Φ := by
  have g1 := h.1
  replace h := h.2
  exact Ev.vcV (z := mRe_isWord) (ci := 11) [.long w1] [] rfl dRe_ruleHere_154 oRe_isWord rfl w1504 iRe_isWord sRe_isWord (by decide) rfl g1 (Nat.le_of_ble_eq_true rfl) h
theorem bRe_ruleHere_157 {l : Launch} {G : Gx} {d : Nat} {bc bs : Nat} {Φ : OutV → Mm → Prop} (M : Mm) (a0 : Nat) (s0 : Int32)
    (h : (s0 = 0 → Φ (.inl (some (.int ((-1))))) M) ∧ (¬ s0 = 0 → Φ (.inl (some (.int 7))) M)) :
    Ev l G d mRe_ruleHere 157 [.ref a0] [.int s0] M bc bs Φ := by
  refine Ev.if_eq 165 (by decide) dRe_ruleHere_157 (fun c => ?_) (fun c => ?_)
  · replace h := h.1 c
    refine Ev.iconst (v := (-1)) dRe_ruleHere_165 (by decide) ?_
    exact Ev.iret dRe_ruleHere_166 rfl rfl h
  · replace h := h.2 c
    refine Ev.bipush (v := 7) dRe_ruleHere_160 (by decide) ?_
    refine Ev.goto 166 dRe_ruleHere_162 (by decide) ?_
    exact Ev.iret dRe_ruleHere_166 rfl rfl h
theorem dRe_sum_0 : decode mRe_sum.2.1 0 = .ok (.aload_n 0, 1) := by decide +kernel
theorem dRe_sum_1 : decode mRe_sum.2.1 1 = .ok (.invokevirtual 237, 3) := by decide +kernel
theorem dRe_sum_4 : decode mRe_sum.2.1 4 = .ok (.aload_n 0, 1) := by decide +kernel
theorem dRe_sum_5 : decode mRe_sum.2.1 5 = .ok (.invokevirtual 240, 3) := by decide +kernel
theorem dRe_sum_8 : decode mRe_sum.2.1 8 = .ok (.istore_n 1, 1) := by decide +kernel
theorem dRe_sum_9 : decode mRe_sum.2.1 9 = .ok (.aload_n 0, 1) := by decide +kernel
theorem dRe_sum_10 : decode mRe_sum.2.1 10 = .ok (.getfield 131, 3) := by decide +kernel
theorem dRe_sum_13 : decode mRe_sum.2.1 13 = .ok (.ifCond .ne 54, 3) := by decide +kernel
theorem dRe_sum_16 : decode mRe_sum.2.1 16 = .ok (.iload_n 1, 1) := by decide +kernel
theorem dRe_sum_17 : decode mRe_sum.2.1 17 = .ok (.bipush 43, 2) := by decide +kernel
theorem dRe_sum_19 : decode mRe_sum.2.1 19 = .ok (.if_icmp .eq 9, 3) := by decide +kernel
theorem dRe_sum_22 : decode mRe_sum.2.1 22 = .ok (.iload_n 1, 1) := by decide +kernel
theorem dRe_sum_23 : decode mRe_sum.2.1 23 = .ok (.bipush 45, 2) := by decide +kernel
theorem dRe_sum_25 : decode mRe_sum.2.1 25 = .ok (.if_icmp .ne 42, 3) := by decide +kernel
theorem dRe_sum_28 : decode mRe_sum.2.1 28 = .ok (.aload_n 0, 1) := by decide +kernel
theorem dRe_sum_29 : decode mRe_sum.2.1 29 = .ok (.dup, 1) := by decide +kernel
theorem dRe_sum_30 : decode mRe_sum.2.1 30 = .ok (.getfield 124, 3) := by decide +kernel
theorem dRe_sum_33 : decode mRe_sum.2.1 33 = .ok (.iconst 1, 1) := by decide +kernel
theorem dRe_sum_34 : decode mRe_sum.2.1 34 = .ok (.iadd, 1) := by decide +kernel
theorem dRe_sum_35 : decode mRe_sum.2.1 35 = .ok (.putfield 124, 3) := by decide +kernel
theorem dRe_sum_38 : decode mRe_sum.2.1 38 = .ok (.aload_n 0, 1) := by decide +kernel
theorem dRe_sum_39 : decode mRe_sum.2.1 39 = .ok (.invokevirtual 237, 3) := by decide +kernel
theorem dRe_sum_42 : decode mRe_sum.2.1 42 = .ok (.aload_n 0, 1) := by decide +kernel
theorem dRe_sum_43 : decode mRe_sum.2.1 43 = .ok (.iload_n 1, 1) := by decide +kernel
theorem dRe_sum_44 : decode mRe_sum.2.1 44 = .ok (.bipush 43, 2) := by decide +kernel
theorem dRe_sum_46 : decode mRe_sum.2.1 46 = .ok (.if_icmp .ne 8, 3) := by decide +kernel
theorem dRe_sum_49 : decode mRe_sum.2.1 49 = .ok (.bipush 10, 2) := by decide +kernel
theorem dRe_sum_51 : decode mRe_sum.2.1 51 = .ok (.goto 5, 3) := by decide +kernel
theorem dRe_sum_54 : decode mRe_sum.2.1 54 = .ok (.bipush 11, 2) := by decide +kernel
theorem dRe_sum_56 : decode mRe_sum.2.1 56 = .ok (.invokevirtual 243, 3) := by decide +kernel
theorem dRe_sum_59 : decode mRe_sum.2.1 59 = .ok (.aload_n 0, 1) := by decide +kernel
theorem dRe_sum_60 : decode mRe_sum.2.1 60 = .ok (.invokevirtual 240, 3) := by decide +kernel
theorem dRe_sum_63 : decode mRe_sum.2.1 63 = .ok (.istore_n 1, 1) := by decide +kernel
theorem dRe_sum_64 : decode mRe_sum.2.1 64 = .ok (.goto (-55), 3) := by decide +kernel
theorem dRe_sum_67 : decode mRe_sum.2.1 67 = .ok (.return_, 1) := by decide +kernel
def mRe_product : MR := (⟨"BowingRowModel", "product", "()V"⟩, prog_14_method_29_code, 2, none)
theorem oRe_product : MOK mRe_product 0 := ⟨lwg_of 1557 (by decide +kernel) (by decide +kernel), lwg_of 103 (by decide +kernel) (by decide +kernel), ⟨by decide +kernel, by decide +kernel⟩, by decide +kernel, by decide⟩
theorem iRe_product : Cond.instanceMethod mRe_product.1 ∈ lwg := lwg_of 1556 (by decide +kernel) (by decide +kernel)
theorem sRe_product : Cond.selects mRe_product.1.cls mRe_product.1 mRe_product.1 ∈ lwg := lwg_of 53 (by decide +kernel) (by decide +kernel)
theorem w1554 : Cond.methodLink "BowingRowModel" 237 ⟨"BowingRowModel", "product", "()V"⟩ ∈ lwg := lwg_of 1554 (by decide +kernel) (by decide +kernel)
theorem bRe_sum_0 {l : Launch} {G : Gx} {d : Nat} {bc bs : Nat} {Φ : OutV → Mm → Prop} (M : Mm) (a0 : Nat)
    (h : ((m_sh M a0).1 = 11) ∧ CallVC l G d mRe_sum 4 [.ref a0, .null] [] mRe_product [.ref a0] M bc bs Φ) :
    Ev l G d mRe_sum 0 [.ref a0, .null] [] M bc bs Φ := by
  refine Ev.aload_n dRe_sum_0 rfl ?_
  have g1 := h.1
  replace h := h.2
  exact Ev.vcV (z := mRe_product) (ci := 11) [] [] rfl dRe_sum_1 oRe_product rfl w1554 iRe_product sRe_product (by decide) rfl g1 (Nat.le_of_ble_eq_true rfl) h
def mRe_signHere : MR := (⟨"BowingRowModel", "signHere", "()I"⟩, prog_14_method_16_code, 1, (Option.some .int))
theorem oRe_signHere : MOK mRe_signHere 0 := ⟨lwg_of 1565 (by decide +kernel) (by decide +kernel), lwg_of 103 (by decide +kernel) (by decide +kernel), ⟨by decide +kernel, by decide +kernel⟩, by decide +kernel, by decide⟩
theorem iRe_signHere : Cond.instanceMethod mRe_signHere.1 ∈ lwg := lwg_of 1564 (by decide +kernel) (by decide +kernel)
theorem sRe_signHere : Cond.selects mRe_signHere.1.cls mRe_signHere.1 mRe_signHere.1 ∈ lwg := lwg_of 55 (by decide +kernel) (by decide +kernel)
theorem w1562 : Cond.methodLink "BowingRowModel" 240 ⟨"BowingRowModel", "signHere", "()I"⟩ ∈ lwg := lwg_of 1562 (by decide +kernel) (by decide +kernel)
theorem bRe_sum_4 {l : Launch} {G : Gx} {d : Nat} {bc bs : Nat} {Φ : OutV → Mm → Prop} (M : Mm) (a0 : Nat) (u1 : Value)
    (h : ((m_sh M a0).1 = 11) ∧ CallVC l G d mRe_sum 8 [.ref a0, u1] [] mRe_signHere [.ref a0] M bc bs Φ) :
    Ev l G d mRe_sum 4 [.ref a0, u1] [] M bc bs Φ := by
  refine Ev.aload_n dRe_sum_4 rfl ?_
  have g1 := h.1
  replace h := h.2
  exact Ev.vcV (z := mRe_signHere) (ci := 11) [] [] rfl dRe_sum_5 oRe_signHere rfl w1562 iRe_signHere sRe_signHere (by decide) rfl g1 (Nat.le_of_ble_eq_true rfl) h
theorem bRe_sum_8 {l : Launch} {G : Gx} {d : Nat} {bc bs : Nat} {Φ : OutV → Mm → Prop} (M : Mm) (a0 : Nat) (u1 : Value) (s0 : Int32)
    (h : Ev l G d mRe_sum 9 [.ref a0, .int s0] [] M bc bs Φ) :
    Ev l G d mRe_sum 8 [.ref a0, u1] [.int s0] M bc bs Φ := by
  refine Ev.istore_n dRe_sum_8 (by decide) ?_
  show Ev l G d mRe_sum (_ + _) [.ref a0, .int s0] [] M bc bs Φ
  exact h
theorem bRe_sum_9 {l : Launch} {G : Gx} {d : Nat} {bc bs : Nat} {Φ : OutV → Mm → Prop} (M : Mm) (a0 : Nat) (x1 : Int32)
    (h : ((m_sh M a0).1 = 11) ∧ (¬ (m_i M a0 5) = 0 → Φ (.inl none) M) ∧ ((m_i M a0 5) = 0 → (x1 = 43 → Ev l G d mRe_sum 28 [.ref a0, .int x1] [] M bc bs Φ) ∧ (¬ x1 = 43 → (¬ x1 = 45 → Φ (.inl none) M) ∧ (x1 = 45 → Ev l G d mRe_sum 28 [.ref a0, .int x1] [] M bc bs Φ)))) :
    Ev l G d mRe_sum 9 [.ref a0, .int x1] [] M bc bs Φ := by
  refine Ev.aload_n dRe_sum_9 rfl ?_
  have g1 := h.1
  replace h := h.2
  refine Ev.getI dRe_sum_10 (Or.inl fRe_131) rfl g1 ?_
  refine Ev.if_ne 67 (by decide) dRe_sum_13 (fun c => ?_) (fun c => ?_)
  · replace h := h.1 c
    exact Ev.vret dRe_sum_67 rfl h
  · replace h := h.2 c
    refine Ev.iload_n dRe_sum_16 rfl ?_
    refine Ev.bipush (v := 43) dRe_sum_17 (by decide) ?_
    refine Ev.icmp_eq 28 (by decide) dRe_sum_19 (fun c => ?_) (fun c => ?_)
    · replace h := h.1 c
      exact h
    · replace h := h.2 c
      refine Ev.iload_n dRe_sum_22 rfl ?_
      refine Ev.bipush (v := 45) dRe_sum_23 (by decide) ?_
      refine Ev.icmp_ne 67 (by decide) dRe_sum_25 (fun c => ?_) (fun c => ?_)
      · replace h := h.1 c
        exact Ev.vret dRe_sum_67 rfl h
      · replace h := h.2 c
        exact h
theorem bRe_sum_28 {l : Launch} {G : Gx} {d : Nat} {bc bs : Nat} {Φ : OutV → Mm → Prop} (M : Mm) (a0 : Nat) (x1 : Int32)
    (h : ((m_sh M a0).1 = 11) ∧ CallVC l G d mRe_sum 42 [.ref a0, .int x1] [] mRe_product [.ref a0] (m_si M a0 4 ((m_i M a0 4) + 1)) bc bs Φ) :
    Ev l G d mRe_sum 28 [.ref a0, .int x1] [] M bc bs Φ := by
  refine Ev.aload_n dRe_sum_28 rfl ?_
  refine Ev.dup dRe_sum_29 rfl ?_
  have g1 := h.1
  replace h := h.2
  refine Ev.getI dRe_sum_30 (Or.inl fRe_124) rfl g1 ?_
  refine Ev.iconst (v := 1) dRe_sum_33 (by decide) ?_
  refine Ev.iadd dRe_sum_34 ?_
  refine Ev.putI dRe_sum_35 ⟨_, Or.inl ⟨fRe_124, (fun h => by cases h)⟩⟩ rfl ⟨rfl, rfl⟩ g1 ?_
  refine Ev.aload_n dRe_sum_38 rfl ?_
  exact Ev.vcV (z := mRe_product) (ci := 11) [] [] rfl dRe_sum_39 oRe_product rfl w1554 iRe_product sRe_product (by decide) rfl g1 (Nat.le_of_ble_eq_true rfl) h
def mRe_tells : MR := (⟨"BowingRowModel", "tells", "(I)V"⟩, prog_14_method_27_code, 2, none)
theorem oRe_tells : MOK mRe_tells 1 := ⟨lwg_of 1576 (by decide +kernel) (by decide +kernel), lwg_of 103 (by decide +kernel) (by decide +kernel), ⟨by decide +kernel, by decide +kernel⟩, by decide +kernel, by decide⟩
theorem iRe_tells : Cond.instanceMethod mRe_tells.1 ∈ lwg := lwg_of 1575 (by decide +kernel) (by decide +kernel)
theorem sRe_tells : Cond.selects mRe_tells.1.cls mRe_tells.1 mRe_tells.1 ∈ lwg := lwg_of 57 (by decide +kernel) (by decide +kernel)
theorem w1573 : Cond.methodLink "BowingRowModel" 243 ⟨"BowingRowModel", "tells", "(I)V"⟩ ∈ lwg := lwg_of 1573 (by decide +kernel) (by decide +kernel)
theorem bRe_sum_42 {l : Launch} {G : Gx} {d : Nat} {bc bs : Nat} {Φ : OutV → Mm → Prop} (M : Mm) (a0 : Nat) (x1 : Int32)
    (h : (¬ x1 = 43 → ((m_sh M a0).1 = 11) ∧ CallVC l G d mRe_sum 59 [.ref a0, .int x1] [] mRe_tells [.ref a0, .int 11] M bc bs Φ) ∧ (x1 = 43 → ((m_sh M a0).1 = 11) ∧ CallVC l G d mRe_sum 59 [.ref a0, .int x1] [] mRe_tells [.ref a0, .int 10] M bc bs Φ)) :
    Ev l G d mRe_sum 42 [.ref a0, .int x1] [] M bc bs Φ := by
  refine Ev.aload_n dRe_sum_42 rfl ?_
  refine Ev.iload_n dRe_sum_43 rfl ?_
  refine Ev.bipush (v := 43) dRe_sum_44 (by decide) ?_
  refine Ev.icmp_ne 54 (by decide) dRe_sum_46 (fun c => ?_) (fun c => ?_)
  · replace h := h.1 c
    refine Ev.bipush (v := 11) dRe_sum_54 (by decide) ?_
    have g1 := h.1
    replace h := h.2
    exact Ev.vcV (z := mRe_tells) (ci := 11) [.int 11] [] rfl dRe_sum_56 oRe_tells rfl w1573 iRe_tells sRe_tells (by decide) rfl g1 (Nat.le_of_ble_eq_true rfl) h
  · replace h := h.2 c
    refine Ev.bipush (v := 10) dRe_sum_49 (by decide) ?_
    refine Ev.goto 56 dRe_sum_51 (by decide) ?_
    have g2 := h.1
    replace h := h.2
    exact Ev.vcV (z := mRe_tells) (ci := 11) [.int 10] [] rfl dRe_sum_56 oRe_tells rfl w1573 iRe_tells sRe_tells (by decide) rfl g2 (Nat.le_of_ble_eq_true rfl) h
theorem bRe_sum_59 {l : Launch} {G : Gx} {d : Nat} {bc bs : Nat} {Φ : OutV → Mm → Prop} (M : Mm) (a0 : Nat) (x1 : Int32)
    (h : ((m_sh M a0).1 = 11) ∧ CallVC l G d mRe_sum 63 [.ref a0, .int x1] [] mRe_signHere [.ref a0] M bc bs Φ) :
    Ev l G d mRe_sum 59 [.ref a0, .int x1] [] M bc bs Φ := by
  refine Ev.aload_n dRe_sum_59 rfl ?_
  have g1 := h.1
  replace h := h.2
  exact Ev.vcV (z := mRe_signHere) (ci := 11) [] [] rfl dRe_sum_60 oRe_signHere rfl w1562 iRe_signHere sRe_signHere (by decide) rfl g1 (Nat.le_of_ble_eq_true rfl) h
theorem bRe_sum_63 {l : Launch} {G : Gx} {d : Nat} {bc bs : Nat} {Φ : OutV → Mm → Prop} (M : Mm) (a0 : Nat) (x1 : Int32) (s0 : Int32)
    (h : Ev l G d mRe_sum 9 [.ref a0, .int s0] [] M bc bs Φ) :
    Ev l G d mRe_sum 63 [.ref a0, .int x1] [.int s0] M bc bs Φ := by
  refine Ev.istore_n dRe_sum_63 (by decide) ?_
  show Ev l G d mRe_sum (_ + _) [.ref a0, .int s0] [] M bc bs Φ
  refine Ev.goto 9 dRe_sum_64 (by decide) ?_
  exact h
theorem dRe_product_0 : decode mRe_product.2.1 0 = .ok (.aload_n 0, 1) := by decide +kernel
theorem dRe_product_1 : decode mRe_product.2.1 1 = .ok (.invokevirtual 246, 3) := by decide +kernel
theorem dRe_product_4 : decode mRe_product.2.1 4 = .ok (.aload_n 0, 1) := by decide +kernel
theorem dRe_product_5 : decode mRe_product.2.1 5 = .ok (.invokevirtual 240, 3) := by decide +kernel
theorem dRe_product_8 : decode mRe_product.2.1 8 = .ok (.istore_n 1, 1) := by decide +kernel
theorem dRe_product_9 : decode mRe_product.2.1 9 = .ok (.aload_n 0, 1) := by decide +kernel
theorem dRe_product_10 : decode mRe_product.2.1 10 = .ok (.getfield 131, 3) := by decide +kernel
theorem dRe_product_13 : decode mRe_product.2.1 13 = .ok (.ifCond .ne 54, 3) := by decide +kernel
theorem dRe_product_16 : decode mRe_product.2.1 16 = .ok (.iload_n 1, 1) := by decide +kernel
theorem dRe_product_17 : decode mRe_product.2.1 17 = .ok (.bipush 42, 2) := by decide +kernel
theorem dRe_product_19 : decode mRe_product.2.1 19 = .ok (.if_icmp .eq 9, 3) := by decide +kernel
theorem dRe_product_22 : decode mRe_product.2.1 22 = .ok (.iload_n 1, 1) := by decide +kernel
theorem dRe_product_23 : decode mRe_product.2.1 23 = .ok (.bipush 47, 2) := by decide +kernel
theorem dRe_product_25 : decode mRe_product.2.1 25 = .ok (.if_icmp .ne 42, 3) := by decide +kernel
theorem dRe_product_28 : decode mRe_product.2.1 28 = .ok (.aload_n 0, 1) := by decide +kernel
theorem dRe_product_29 : decode mRe_product.2.1 29 = .ok (.dup, 1) := by decide +kernel
theorem dRe_product_30 : decode mRe_product.2.1 30 = .ok (.getfield 124, 3) := by decide +kernel
theorem dRe_product_33 : decode mRe_product.2.1 33 = .ok (.iconst 1, 1) := by decide +kernel
theorem dRe_product_34 : decode mRe_product.2.1 34 = .ok (.iadd, 1) := by decide +kernel
theorem dRe_product_35 : decode mRe_product.2.1 35 = .ok (.putfield 124, 3) := by decide +kernel
theorem dRe_product_38 : decode mRe_product.2.1 38 = .ok (.aload_n 0, 1) := by decide +kernel
theorem dRe_product_39 : decode mRe_product.2.1 39 = .ok (.invokevirtual 246, 3) := by decide +kernel
theorem dRe_product_42 : decode mRe_product.2.1 42 = .ok (.aload_n 0, 1) := by decide +kernel
theorem dRe_product_43 : decode mRe_product.2.1 43 = .ok (.iload_n 1, 1) := by decide +kernel
theorem dRe_product_44 : decode mRe_product.2.1 44 = .ok (.bipush 42, 2) := by decide +kernel
theorem dRe_product_46 : decode mRe_product.2.1 46 = .ok (.if_icmp .ne 8, 3) := by decide +kernel
theorem dRe_product_49 : decode mRe_product.2.1 49 = .ok (.bipush 12, 2) := by decide +kernel
theorem dRe_product_51 : decode mRe_product.2.1 51 = .ok (.goto 5, 3) := by decide +kernel
theorem dRe_product_54 : decode mRe_product.2.1 54 = .ok (.bipush 13, 2) := by decide +kernel
theorem dRe_product_56 : decode mRe_product.2.1 56 = .ok (.invokevirtual 243, 3) := by decide +kernel
theorem dRe_product_59 : decode mRe_product.2.1 59 = .ok (.aload_n 0, 1) := by decide +kernel
theorem dRe_product_60 : decode mRe_product.2.1 60 = .ok (.invokevirtual 240, 3) := by decide +kernel
theorem dRe_product_63 : decode mRe_product.2.1 63 = .ok (.istore_n 1, 1) := by decide +kernel
theorem dRe_product_64 : decode mRe_product.2.1 64 = .ok (.goto (-55), 3) := by decide +kernel
theorem dRe_product_67 : decode mRe_product.2.1 67 = .ok (.return_, 1) := by decide +kernel
def mRe_unit : MR := (⟨"BowingRowModel", "unit", "()V"⟩, prog_14_method_31_code, 4, none)
theorem oRe_unit : MOK mRe_unit 0 := ⟨lwg_of 1561 (by decide +kernel) (by decide +kernel), lwg_of 103 (by decide +kernel) (by decide +kernel), ⟨by decide +kernel, by decide +kernel⟩, by decide +kernel, by decide⟩
theorem iRe_unit : Cond.instanceMethod mRe_unit.1 ∈ lwg := lwg_of 1560 (by decide +kernel) (by decide +kernel)
theorem sRe_unit : Cond.selects mRe_unit.1.cls mRe_unit.1 mRe_unit.1 ∈ lwg := lwg_of 54 (by decide +kernel) (by decide +kernel)
theorem w1558 : Cond.methodLink "BowingRowModel" 246 ⟨"BowingRowModel", "unit", "()V"⟩ ∈ lwg := lwg_of 1558 (by decide +kernel) (by decide +kernel)
theorem bRe_product_0 {l : Launch} {G : Gx} {d : Nat} {bc bs : Nat} {Φ : OutV → Mm → Prop} (M : Mm) (a0 : Nat)
    (h : ((m_sh M a0).1 = 11) ∧ CallVC l G d mRe_product 4 [.ref a0, .null] [] mRe_unit [.ref a0] M bc bs Φ) :
    Ev l G d mRe_product 0 [.ref a0, .null] [] M bc bs Φ := by
  refine Ev.aload_n dRe_product_0 rfl ?_
  have g1 := h.1
  replace h := h.2
  exact Ev.vcV (z := mRe_unit) (ci := 11) [] [] rfl dRe_product_1 oRe_unit rfl w1558 iRe_unit sRe_unit (by decide) rfl g1 (Nat.le_of_ble_eq_true rfl) h
theorem bRe_product_4 {l : Launch} {G : Gx} {d : Nat} {bc bs : Nat} {Φ : OutV → Mm → Prop} (M : Mm) (a0 : Nat) (u1 : Value)
    (h : ((m_sh M a0).1 = 11) ∧ CallVC l G d mRe_product 8 [.ref a0, u1] [] mRe_signHere [.ref a0] M bc bs Φ) :
    Ev l G d mRe_product 4 [.ref a0, u1] [] M bc bs Φ := by
  refine Ev.aload_n dRe_product_4 rfl ?_
  have g1 := h.1
  replace h := h.2
  exact Ev.vcV (z := mRe_signHere) (ci := 11) [] [] rfl dRe_product_5 oRe_signHere rfl w1562 iRe_signHere sRe_signHere (by decide) rfl g1 (Nat.le_of_ble_eq_true rfl) h
theorem bRe_product_8 {l : Launch} {G : Gx} {d : Nat} {bc bs : Nat} {Φ : OutV → Mm → Prop} (M : Mm) (a0 : Nat) (u1 : Value) (s0 : Int32)
    (h : Ev l G d mRe_product 9 [.ref a0, .int s0] [] M bc bs Φ) :
    Ev l G d mRe_product 8 [.ref a0, u1] [.int s0] M bc bs Φ := by
  refine Ev.istore_n dRe_product_8 (by decide) ?_
  show Ev l G d mRe_product (_ + _) [.ref a0, .int s0] [] M bc bs Φ
  exact h
theorem bRe_product_9 {l : Launch} {G : Gx} {d : Nat} {bc bs : Nat} {Φ : OutV → Mm → Prop} (M : Mm) (a0 : Nat) (x1 : Int32)
    (h : ((m_sh M a0).1 = 11) ∧ (¬ (m_i M a0 5) = 0 → Φ (.inl none) M) ∧ ((m_i M a0 5) = 0 → (x1 = 42 → Ev l G d mRe_product 28 [.ref a0, .int x1] [] M bc bs Φ) ∧ (¬ x1 = 42 → (¬ x1 = 47 → Φ (.inl none) M) ∧ (x1 = 47 → Ev l G d mRe_product 28 [.ref a0, .int x1] [] M bc bs Φ)))) :
    Ev l G d mRe_product 9 [.ref a0, .int x1] [] M bc bs Φ := by
  refine Ev.aload_n dRe_product_9 rfl ?_
  have g1 := h.1
  replace h := h.2
  refine Ev.getI dRe_product_10 (Or.inl fRe_131) rfl g1 ?_
  refine Ev.if_ne 67 (by decide) dRe_product_13 (fun c => ?_) (fun c => ?_)
  · replace h := h.1 c
    exact Ev.vret dRe_product_67 rfl h
  · replace h := h.2 c
    refine Ev.iload_n dRe_product_16 rfl ?_
    refine Ev.bipush (v := 42) dRe_product_17 (by decide) ?_
    refine Ev.icmp_eq 28 (by decide) dRe_product_19 (fun c => ?_) (fun c => ?_)
    · replace h := h.1 c
      exact h
    · replace h := h.2 c
      refine Ev.iload_n dRe_product_22 rfl ?_
      refine Ev.bipush (v := 47) dRe_product_23 (by decide) ?_
      refine Ev.icmp_ne 67 (by decide) dRe_product_25 (fun c => ?_) (fun c => ?_)
      · replace h := h.1 c
        exact Ev.vret dRe_product_67 rfl h
      · replace h := h.2 c
        exact h
theorem bRe_product_28 {l : Launch} {G : Gx} {d : Nat} {bc bs : Nat} {Φ : OutV → Mm → Prop} (M : Mm) (a0 : Nat) (x1 : Int32)
    (h : ((m_sh M a0).1 = 11) ∧ CallVC l G d mRe_product 42 [.ref a0, .int x1] [] mRe_unit [.ref a0] (m_si M a0 4 ((m_i M a0 4) + 1)) bc bs Φ) :
    Ev l G d mRe_product 28 [.ref a0, .int x1] [] M bc bs Φ := by
  refine Ev.aload_n dRe_product_28 rfl ?_
  refine Ev.dup dRe_product_29 rfl ?_
  have g1 := h.1
  replace h := h.2
  refine Ev.getI dRe_product_30 (Or.inl fRe_124) rfl g1 ?_
  refine Ev.iconst (v := 1) dRe_product_33 (by decide) ?_
  refine Ev.iadd dRe_product_34 ?_
  refine Ev.putI dRe_product_35 ⟨_, Or.inl ⟨fRe_124, (fun h => by cases h)⟩⟩ rfl ⟨rfl, rfl⟩ g1 ?_
  refine Ev.aload_n dRe_product_38 rfl ?_
  exact Ev.vcV (z := mRe_unit) (ci := 11) [] [] rfl dRe_product_39 oRe_unit rfl w1558 iRe_unit sRe_unit (by decide) rfl g1 (Nat.le_of_ble_eq_true rfl) h
theorem bRe_product_42 {l : Launch} {G : Gx} {d : Nat} {bc bs : Nat} {Φ : OutV → Mm → Prop} (M : Mm) (a0 : Nat) (x1 : Int32)
    (h : (¬ x1 = 42 → ((m_sh M a0).1 = 11) ∧ CallVC l G d mRe_product 59 [.ref a0, .int x1] [] mRe_tells [.ref a0, .int 13] M bc bs Φ) ∧ (x1 = 42 → ((m_sh M a0).1 = 11) ∧ CallVC l G d mRe_product 59 [.ref a0, .int x1] [] mRe_tells [.ref a0, .int 12] M bc bs Φ)) :
    Ev l G d mRe_product 42 [.ref a0, .int x1] [] M bc bs Φ := by
  refine Ev.aload_n dRe_product_42 rfl ?_
  refine Ev.iload_n dRe_product_43 rfl ?_
  refine Ev.bipush (v := 42) dRe_product_44 (by decide) ?_
  refine Ev.icmp_ne 54 (by decide) dRe_product_46 (fun c => ?_) (fun c => ?_)
  · replace h := h.1 c
    refine Ev.bipush (v := 13) dRe_product_54 (by decide) ?_
    have g1 := h.1
    replace h := h.2
    exact Ev.vcV (z := mRe_tells) (ci := 11) [.int 13] [] rfl dRe_product_56 oRe_tells rfl w1573 iRe_tells sRe_tells (by decide) rfl g1 (Nat.le_of_ble_eq_true rfl) h
  · replace h := h.2 c
    refine Ev.bipush (v := 12) dRe_product_49 (by decide) ?_
    refine Ev.goto 56 dRe_product_51 (by decide) ?_
    have g2 := h.1
    replace h := h.2
    exact Ev.vcV (z := mRe_tells) (ci := 11) [.int 12] [] rfl dRe_product_56 oRe_tells rfl w1573 iRe_tells sRe_tells (by decide) rfl g2 (Nat.le_of_ble_eq_true rfl) h
theorem bRe_product_59 {l : Launch} {G : Gx} {d : Nat} {bc bs : Nat} {Φ : OutV → Mm → Prop} (M : Mm) (a0 : Nat) (x1 : Int32)
    (h : ((m_sh M a0).1 = 11) ∧ CallVC l G d mRe_product 63 [.ref a0, .int x1] [] mRe_signHere [.ref a0] M bc bs Φ) :
    Ev l G d mRe_product 59 [.ref a0, .int x1] [] M bc bs Φ := by
  refine Ev.aload_n dRe_product_59 rfl ?_
  have g1 := h.1
  replace h := h.2
  exact Ev.vcV (z := mRe_signHere) (ci := 11) [] [] rfl dRe_product_60 oRe_signHere rfl w1562 iRe_signHere sRe_signHere (by decide) rfl g1 (Nat.le_of_ble_eq_true rfl) h
theorem bRe_product_63 {l : Launch} {G : Gx} {d : Nat} {bc bs : Nat} {Φ : OutV → Mm → Prop} (M : Mm) (a0 : Nat) (x1 : Int32) (s0 : Int32)
    (h : Ev l G d mRe_product 9 [.ref a0, .int s0] [] M bc bs Φ) :
    Ev l G d mRe_product 63 [.ref a0, .int x1] [.int s0] M bc bs Φ := by
  refine Ev.istore_n dRe_product_63 (by decide) ?_
  show Ev l G d mRe_product (_ + _) [.ref a0, .int s0] [] M bc bs Φ
  refine Ev.goto 9 dRe_product_64 (by decide) ?_
  exact h
theorem dRe_unit_0 : decode mRe_unit.2.1 0 = .ok (.aload_n 0, 1) := by decide +kernel
theorem dRe_unit_1 : decode mRe_unit.2.1 1 = .ok (.invokevirtual 240, 3) := by decide +kernel
theorem dRe_unit_4 : decode mRe_unit.2.1 4 = .ok (.istore_n 1, 1) := by decide +kernel
theorem dRe_unit_5 : decode mRe_unit.2.1 5 = .ok (.aload_n 0, 1) := by decide +kernel
theorem dRe_unit_6 : decode mRe_unit.2.1 6 = .ok (.invokevirtual 255, 3) := by decide +kernel
theorem dRe_unit_9 : decode mRe_unit.2.1 9 = .ok (.istore_n 2, 1) := by decide +kernel
theorem dRe_unit_10 : decode mRe_unit.2.1 10 = .ok (.aload_n 0, 1) := by decide +kernel
theorem dRe_unit_11 : decode mRe_unit.2.1 11 = .ok (.getfield 131, 3) := by decide +kernel
theorem dRe_unit_14 : decode mRe_unit.2.1 14 = .ok (.ifCond .eq 4, 3) := by decide +kernel
theorem dRe_unit_17 : decode mRe_unit.2.1 17 = .ok (.return_, 1) := by decide +kernel
theorem dRe_unit_18 : decode mRe_unit.2.1 18 = .ok (.iload_n 1, 1) := by decide +kernel
theorem dRe_unit_19 : decode mRe_unit.2.1 19 = .ok (.invokestatic 140, 3) := by decide +kernel
theorem dRe_unit_22 : decode mRe_unit.2.1 22 = .ok (.ifCond .eq 26, 3) := by decide +kernel
theorem dRe_unit_25 : decode mRe_unit.2.1 25 = .ok (.aload_n 0, 1) := by decide +kernel
theorem dRe_unit_26 : decode mRe_unit.2.1 26 = .ok (.iconst 0, 1) := by decide +kernel
theorem dRe_unit_27 : decode mRe_unit.2.1 27 = .ok (.sipush 9999, 3) := by decide +kernel
theorem dRe_unit_30 : decode mRe_unit.2.1 30 = .ok (.iconst (-1), 1) := by decide +kernel
theorem dRe_unit_31 : decode mRe_unit.2.1 31 = .ok (.invokevirtual 188, 3) := by decide +kernel
theorem dRe_unit_34 : decode mRe_unit.2.1 34 = .ok (.istore_n 3, 1) := by decide +kernel
theorem dRe_unit_35 : decode mRe_unit.2.1 35 = .ok (.aload_n 0, 1) := by decide +kernel
theorem dRe_unit_36 : decode mRe_unit.2.1 36 = .ok (.iconst 0, 1) := by decide +kernel
theorem dRe_unit_37 : decode mRe_unit.2.1 37 = .ok (.invokevirtual 243, 3) := by decide +kernel
theorem dRe_unit_40 : decode mRe_unit.2.1 40 = .ok (.aload_n 0, 1) := by decide +kernel
theorem dRe_unit_41 : decode mRe_unit.2.1 41 = .ok (.iload_n 3, 1) := by decide +kernel
theorem dRe_unit_42 : decode mRe_unit.2.1 42 = .ok (.invokevirtual 243, 3) := by decide +kernel
theorem dRe_unit_45 : decode mRe_unit.2.1 45 = .ok (.goto 62, 3) := by decide +kernel
theorem dRe_unit_48 : decode mRe_unit.2.1 48 = .ok (.iload_n 2, 1) := by decide +kernel
theorem dRe_unit_49 : decode mRe_unit.2.1 49 = .ok (.ifCond .le 15, 3) := by decide +kernel
theorem dRe_unit_52 : decode mRe_unit.2.1 52 = .ok (.aload_n 0, 1) := by decide +kernel
theorem dRe_unit_53 : decode mRe_unit.2.1 53 = .ok (.invokevirtual 167, 3) := by decide +kernel
theorem dRe_unit_56 : decode mRe_unit.2.1 56 = .ok (.aload_n 0, 1) := by decide +kernel
theorem dRe_unit_57 : decode mRe_unit.2.1 57 = .ok (.iload_n 2, 1) := by decide +kernel
theorem dRe_unit_58 : decode mRe_unit.2.1 58 = .ok (.invokevirtual 243, 3) := by decide +kernel
theorem dRe_unit_61 : decode mRe_unit.2.1 61 = .ok (.goto 46, 3) := by decide +kernel
theorem dRe_unit_64 : decode mRe_unit.2.1 64 = .ok (.iload_n 1, 1) := by decide +kernel
theorem dRe_unit_65 : decode mRe_unit.2.1 65 = .ok (.bipush 40, 2) := by decide +kernel
theorem dRe_unit_67 : decode mRe_unit.2.1 67 = .ok (.if_icmp .ne 31, 3) := by decide +kernel
theorem dRe_unit_70 : decode mRe_unit.2.1 70 = .ok (.aload_n 0, 1) := by decide +kernel
theorem dRe_unit_71 : decode mRe_unit.2.1 71 = .ok (.iconst 1, 1) := by decide +kernel
theorem dRe_unit_72 : decode mRe_unit.2.1 72 = .ok (.invokevirtual 258, 3) := by decide +kernel
theorem dRe_unit_75 : decode mRe_unit.2.1 75 = .ok (.aload_n 0, 1) := by decide +kernel
theorem dRe_unit_76 : decode mRe_unit.2.1 76 = .ok (.invokevirtual 225, 3) := by decide +kernel
theorem dRe_unit_79 : decode mRe_unit.2.1 79 = .ok (.aload_n 0, 1) := by decide +kernel
theorem dRe_unit_80 : decode mRe_unit.2.1 80 = .ok (.bipush 41, 2) := by decide +kernel
theorem dRe_unit_82 : decode mRe_unit.2.1 82 = .ok (.invokevirtual 192, 3) := by decide +kernel
theorem dRe_unit_85 : decode mRe_unit.2.1 85 = .ok (.aload_n 0, 1) := by decide +kernel
theorem dRe_unit_86 : decode mRe_unit.2.1 86 = .ok (.dup, 1) := by decide +kernel
theorem dRe_unit_87 : decode mRe_unit.2.1 87 = .ok (.getfield 170, 3) := by decide +kernel
theorem dRe_unit_90 : decode mRe_unit.2.1 90 = .ok (.iconst 1, 1) := by decide +kernel
theorem dRe_unit_91 : decode mRe_unit.2.1 91 = .ok (.isub, 1) := by decide +kernel
theorem dRe_unit_92 : decode mRe_unit.2.1 92 = .ok (.putfield 170, 3) := by decide +kernel
theorem dRe_unit_95 : decode mRe_unit.2.1 95 = .ok (.goto 12, 3) := by decide +kernel
theorem dRe_unit_98 : decode mRe_unit.2.1 98 = .ok (.aload_n 0, 1) := by decide +kernel
theorem dRe_unit_99 : decode mRe_unit.2.1 99 = .ok (.iconst 1, 1) := by decide +kernel
theorem dRe_unit_100 : decode mRe_unit.2.1 100 = .ok (.aload_n 0, 1) := by decide +kernel
theorem dRe_unit_101 : decode mRe_unit.2.1 101 = .ok (.getfield 124, 3) := by decide +kernel
theorem dRe_unit_104 : decode mRe_unit.2.1 104 = .ok (.invokevirtual 144, 3) := by decide +kernel
theorem dRe_unit_107 : decode mRe_unit.2.1 107 = .ok (.return_, 1) := by decide +kernel
theorem bRe_unit_0 {l : Launch} {G : Gx} {d : Nat} {bc bs : Nat} {Φ : OutV → Mm → Prop} (M : Mm) (a0 : Nat)
    (h : ((m_sh M a0).1 = 11) ∧ CallVC l G d mRe_unit 4 [.ref a0, .null, .null, .null] [] mRe_signHere [.ref a0] M bc bs Φ) :
    Ev l G d mRe_unit 0 [.ref a0, .null, .null, .null] [] M bc bs Φ := by
  refine Ev.aload_n dRe_unit_0 rfl ?_
  have g1 := h.1
  replace h := h.2
  exact Ev.vcV (z := mRe_signHere) (ci := 11) [] [] rfl dRe_unit_1 oRe_signHere rfl w1562 iRe_signHere sRe_signHere (by decide) rfl g1 (Nat.le_of_ble_eq_true rfl) h
def mRe_nameHere : MR := (⟨"BowingRowModel", "nameHere", "()I"⟩, prog_14_method_30_code, 1, (Option.some .int))
theorem oRe_nameHere : MOK mRe_nameHere 0 := ⟨lwg_of 1569 (by decide +kernel) (by decide +kernel), lwg_of 103 (by decide +kernel) (by decide +kernel), ⟨by decide +kernel, by decide +kernel⟩, by decide +kernel, by decide⟩
theorem iRe_nameHere : Cond.instanceMethod mRe_nameHere.1 ∈ lwg := lwg_of 1568 (by decide +kernel) (by decide +kernel)
theorem sRe_nameHere : Cond.selects mRe_nameHere.1.cls mRe_nameHere.1 mRe_nameHere.1 ∈ lwg := lwg_of 56 (by decide +kernel) (by decide +kernel)
theorem w1566 : Cond.methodLink "BowingRowModel" 255 ⟨"BowingRowModel", "nameHere", "()I"⟩ ∈ lwg := lwg_of 1566 (by decide +kernel) (by decide +kernel)
theorem bRe_unit_4 {l : Launch} {G : Gx} {d : Nat} {bc bs : Nat} {Φ : OutV → Mm → Prop} (M : Mm) (a0 : Nat) (u1 : Value) (u2 : Value) (u3 : Value) (s0 : Int32)
    (h : ((m_sh M a0).1 = 11) ∧ CallVC l G d mRe_unit 9 [.ref a0, .int s0, u2, u3] [] mRe_nameHere [.ref a0] M bc bs Φ) :
    Ev l G d mRe_unit 4 [.ref a0, u1, u2, u3] [.int s0] M bc bs Φ := by
  refine Ev.istore_n dRe_unit_4 (by decide) ?_
  show Ev l G d mRe_unit (_ + _) [.ref a0, .int s0, u2, u3] [] M bc bs Φ
  refine Ev.aload_n dRe_unit_5 rfl ?_
  have g1 := h.1
  replace h := h.2
  exact Ev.vcV (z := mRe_nameHere) (ci := 11) [] [] rfl dRe_unit_6 oRe_nameHere rfl w1566 iRe_nameHere sRe_nameHere (by decide) rfl g1 (Nat.le_of_ble_eq_true rfl) h
theorem bRe_unit_9 {l : Launch} {G : Gx} {d : Nat} {bc bs : Nat} {Φ : OutV → Mm → Prop} (M : Mm) (a0 : Nat) (x1 : Int32) (u2 : Value) (u3 : Value) (s0 : Int32)
    (h : ((m_sh M a0).1 = 11) ∧ ((m_i M a0 5) = 0 → CallVC l G d mRe_unit 22 [.ref a0, .int x1, .int s0, u3] [] mRe_isDigit [.int x1] M bc bs Φ) ∧ (¬ (m_i M a0 5) = 0 → Φ (.inl none) M)) :
    Ev l G d mRe_unit 9 [.ref a0, .int x1, u2, u3] [.int s0] M bc bs Φ := by
  refine Ev.istore_n dRe_unit_9 (by decide) ?_
  show Ev l G d mRe_unit (_ + _) [.ref a0, .int x1, .int s0, u3] [] M bc bs Φ
  refine Ev.aload_n dRe_unit_10 rfl ?_
  have g1 := h.1
  replace h := h.2
  refine Ev.getI dRe_unit_11 (Or.inl fRe_131) rfl g1 ?_
  refine Ev.if_eq 18 (by decide) dRe_unit_14 (fun c => ?_) (fun c => ?_)
  · replace h := h.1 c
    refine Ev.iload_n dRe_unit_18 rfl ?_
    exact Ev.vcS (z := mRe_isDigit) [.int x1] [] rfl dRe_unit_19 oRe_isDigit rfl w1530 iRe_isDigit (Nat.le_of_ble_eq_true rfl) h
  · replace h := h.2 c
    exact Ev.vret dRe_unit_17 rfl h
def mRe_opens : MR := (⟨"BowingRowModel", "opens", "(I)V"⟩, prog_14_method_18_code, 2, none)
theorem oRe_opens : MOK mRe_opens 1 := ⟨lwg_of 1580 (by decide +kernel) (by decide +kernel), lwg_of 103 (by decide +kernel) (by decide +kernel), ⟨by decide +kernel, by decide +kernel⟩, by decide +kernel, by decide⟩
theorem iRe_opens : Cond.instanceMethod mRe_opens.1 ∈ lwg := lwg_of 1579 (by decide +kernel) (by decide +kernel)
theorem sRe_opens : Cond.selects mRe_opens.1.cls mRe_opens.1 mRe_opens.1 ∈ lwg := lwg_of 58 (by decide +kernel) (by decide +kernel)
theorem w1577 : Cond.methodLink "BowingRowModel" 258 ⟨"BowingRowModel", "opens", "(I)V"⟩ ∈ lwg := lwg_of 1577 (by decide +kernel) (by decide +kernel)
theorem bRe_unit_22 {l : Launch} {G : Gx} {d : Nat} {bc bs : Nat} {Φ : OutV → Mm → Prop} (M : Mm) (a0 : Nat) (x1 : Int32) (x2 : Int32) (u3 : Value) (s0 : Int32)
    (h : (s0 = 0 → (x2 ≤ 0 → (¬ x1 = 40 → ((m_sh M a0).1 = 11) ∧ CallVC l G d mRe_unit 107 [.ref a0, .int x1, .int x2, u3] [] mRe_wrong [.ref a0, .int 1, .int (m_i M a0 4)] M bc bs Φ) ∧ (x1 = 40 → ((m_sh M a0).1 = 11) ∧ CallVC l G d mRe_unit 75 [.ref a0, .int x1, .int x2, u3] [] mRe_opens [.ref a0, .int 1] M bc bs Φ)) ∧ (¬ x2 ≤ 0 → ((m_sh M a0).1 = 11) ∧ CallVC l G d mRe_unit 56 [.ref a0, .int x1, .int x2, u3] [] mRe_skipWord [.ref a0] M bc bs Φ)) ∧ (¬ s0 = 0 → ((m_sh M a0).1 = 11) ∧ CallVC l G d mRe_unit 34 [.ref a0, .int x1, .int x2, u3] [] mRe_numberHere [.ref a0, .int 0, .int 9999, .int ((-1))] M bc bs Φ)) :
    Ev l G d mRe_unit 22 [.ref a0, .int x1, .int x2, u3] [.int s0] M bc bs Φ := by
  refine Ev.if_eq 48 (by decide) dRe_unit_22 (fun c => ?_) (fun c => ?_)
  · replace h := h.1 c
    refine Ev.iload_n dRe_unit_48 rfl ?_
    refine Ev.if_le 64 (by decide) dRe_unit_49 (fun c => ?_) (fun c => ?_)
    · replace h := h.1 c
      refine Ev.iload_n dRe_unit_64 rfl ?_
      refine Ev.bipush (v := 40) dRe_unit_65 (by decide) ?_
      refine Ev.icmp_ne 98 (by decide) dRe_unit_67 (fun c => ?_) (fun c => ?_)
      · replace h := h.1 c
        refine Ev.aload_n dRe_unit_98 rfl ?_
        refine Ev.iconst (v := 1) dRe_unit_99 (by decide) ?_
        refine Ev.aload_n dRe_unit_100 rfl ?_
        have g1 := h.1
        replace h := h.2
        refine Ev.getI dRe_unit_101 (Or.inl fRe_124) rfl g1 ?_
        exact Ev.vcV (z := mRe_wrong) (ci := 11) [.int 1, .int (m_i M a0 4)] [] rfl dRe_unit_104 oRe_wrong rfl w1514 iRe_wrong sRe_wrong (by decide) rfl g1 (Nat.le_of_ble_eq_true rfl) h
      · replace h := h.2 c
        refine Ev.aload_n dRe_unit_70 rfl ?_
        refine Ev.iconst (v := 1) dRe_unit_71 (by decide) ?_
        have g2 := h.1
        replace h := h.2
        exact Ev.vcV (z := mRe_opens) (ci := 11) [.int 1] [] rfl dRe_unit_72 oRe_opens rfl w1577 iRe_opens sRe_opens (by decide) rfl g2 (Nat.le_of_ble_eq_true rfl) h
    · replace h := h.2 c
      refine Ev.aload_n dRe_unit_52 rfl ?_
      have g3 := h.1
      replace h := h.2
      exact Ev.vcV (z := mRe_skipWord) (ci := 11) [] [] rfl dRe_unit_53 oRe_skipWord rfl w1518 iRe_skipWord sRe_skipWord (by decide) rfl g3 (Nat.le_of_ble_eq_true rfl) h
  · replace h := h.2 c
    refine Ev.aload_n dRe_unit_25 rfl ?_
    refine Ev.iconst (v := 0) dRe_unit_26 (by decide) ?_
    refine Ev.sipush (v := 9999) dRe_unit_27 (by decide) ?_
    refine Ev.iconst (v := (-1)) dRe_unit_30 (by decide) ?_
    have g4 := h.1
    replace h := h.2
    exact Ev.vcV (z := mRe_numberHere) (ci := 11) [.int 0, .int 9999, .int ((-1))] [] rfl dRe_unit_31 oRe_numberHere rfl w1526 iRe_numberHere sRe_numberHere (by decide) rfl g4 (Nat.le_of_ble_eq_true rfl) h
theorem bRe_unit_34 {l : Launch} {G : Gx} {d : Nat} {bc bs : Nat} {Φ : OutV → Mm → Prop} (M : Mm) (a0 : Nat) (x1 : Int32) (x2 : Int32) (u3 : Value) (s0 : Int32)
    (h : ((m_sh M a0).1 = 11) ∧ CallVC l G d mRe_unit 40 [.ref a0, .int x1, .int x2, .int s0] [] mRe_tells [.ref a0, .int 0] M bc bs Φ) :
    Ev l G d mRe_unit 34 [.ref a0, .int x1, .int x2, u3] [.int s0] M bc bs Φ := by
  refine Ev.istore_n dRe_unit_34 (by decide) ?_
  show Ev l G d mRe_unit (_ + _) [.ref a0, .int x1, .int x2, .int s0] [] M bc bs Φ
  refine Ev.aload_n dRe_unit_35 rfl ?_
  refine Ev.iconst (v := 0) dRe_unit_36 (by decide) ?_
  have g1 := h.1
  replace h := h.2
  exact Ev.vcV (z := mRe_tells) (ci := 11) [.int 0] [] rfl dRe_unit_37 oRe_tells rfl w1573 iRe_tells sRe_tells (by decide) rfl g1 (Nat.le_of_ble_eq_true rfl) h
theorem bRe_unit_40 {l : Launch} {G : Gx} {d : Nat} {bc bs : Nat} {Φ : OutV → Mm → Prop} (M : Mm) (a0 : Nat) (x1 : Int32) (x2 : Int32) (x3 : Int32)
    (h : ((m_sh M a0).1 = 11) ∧ CallVC l G d mRe_unit 45 [.ref a0, .int x1, .int x2, .int x3] [] mRe_tells [.ref a0, .int x3] M bc bs Φ) :
    Ev l G d mRe_unit 40 [.ref a0, .int x1, .int x2, .int x3] [] M bc bs Φ := by
  refine Ev.aload_n dRe_unit_40 rfl ?_
  refine Ev.iload_n dRe_unit_41 rfl ?_
  have g1 := h.1
  replace h := h.2
  exact Ev.vcV (z := mRe_tells) (ci := 11) [.int x3] [] rfl dRe_unit_42 oRe_tells rfl w1573 iRe_tells sRe_tells (by decide) rfl g1 (Nat.le_of_ble_eq_true rfl) h
theorem bRe_unit_45 {l : Launch} {G : Gx} {d : Nat} {bc bs : Nat} {Φ : OutV → Mm → Prop} (M : Mm) (a0 : Nat) (x1 : Int32) (x2 : Int32) (x3 : Int32)
    (h : Ev l G d mRe_unit 107 [.ref a0, .int x1, .int x2, .int x3] [] M bc bs Φ) :
    Ev l G d mRe_unit 45 [.ref a0, .int x1, .int x2, .int x3] [] M bc bs Φ := by
  refine Ev.goto 107 dRe_unit_45 (by decide) ?_
  exact h
theorem bRe_unit_56 {l : Launch} {G : Gx} {d : Nat} {bc bs : Nat} {Φ : OutV → Mm → Prop} (M : Mm) (a0 : Nat) (x1 : Int32) (x2 : Int32) (u3 : Value)
    (h : ((m_sh M a0).1 = 11) ∧ CallVC l G d mRe_unit 61 [.ref a0, .int x1, .int x2, u3] [] mRe_tells [.ref a0, .int x2] M bc bs Φ) :
    Ev l G d mRe_unit 56 [.ref a0, .int x1, .int x2, u3] [] M bc bs Φ := by
  refine Ev.aload_n dRe_unit_56 rfl ?_
  refine Ev.iload_n dRe_unit_57 rfl ?_
  have g1 := h.1
  replace h := h.2
  exact Ev.vcV (z := mRe_tells) (ci := 11) [.int x2] [] rfl dRe_unit_58 oRe_tells rfl w1573 iRe_tells sRe_tells (by decide) rfl g1 (Nat.le_of_ble_eq_true rfl) h
theorem bRe_unit_61 {l : Launch} {G : Gx} {d : Nat} {bc bs : Nat} {Φ : OutV → Mm → Prop} (M : Mm) (a0 : Nat) (x1 : Int32) (x2 : Int32) (u3 : Value)
    (h : Ev l G d mRe_unit 107 [.ref a0, .int x1, .int x2, u3] [] M bc bs Φ) :
    Ev l G d mRe_unit 61 [.ref a0, .int x1, .int x2, u3] [] M bc bs Φ := by
  refine Ev.goto 107 dRe_unit_61 (by decide) ?_
  exact h
theorem bRe_unit_75 {l : Launch} {G : Gx} {d : Nat} {bc bs : Nat} {Φ : OutV → Mm → Prop} (M : Mm) (a0 : Nat) (x1 : Int32) (x2 : Int32) (u3 : Value)
    (h : ((m_sh M a0).1 = 11) ∧ CallVC l G d mRe_unit 79 [.ref a0, .int x1, .int x2, u3] [] mRe_sum [.ref a0] M bc bs Φ) :
    Ev l G d mRe_unit 75 [.ref a0, .int x1, .int x2, u3] [] M bc bs Φ := by
  refine Ev.aload_n dRe_unit_75 rfl ?_
  have g1 := h.1
  replace h := h.2
  exact Ev.vcV (z := mRe_sum) (ci := 11) [] [] rfl dRe_unit_76 oRe_sum rfl w1550 iRe_sum sRe_sum (by decide) rfl g1 (Nat.le_of_ble_eq_true rfl) h
theorem bRe_unit_79 {l : Launch} {G : Gx} {d : Nat} {bc bs : Nat} {Φ : OutV → Mm → Prop} (M : Mm) (a0 : Nat) (x1 : Int32) (x2 : Int32) (u3 : Value)
    (h : ((m_sh M a0).1 = 11) ∧ CallVC l G d mRe_unit 85 [.ref a0, .int x1, .int x2, u3] [] mRe_sign [.ref a0, .int 41] M bc bs Φ) :
    Ev l G d mRe_unit 79 [.ref a0, .int x1, .int x2, u3] [] M bc bs Φ := by
  refine Ev.aload_n dRe_unit_79 rfl ?_
  refine Ev.bipush (v := 41) dRe_unit_80 (by decide) ?_
  have g1 := h.1
  replace h := h.2
  exact Ev.vcV (z := mRe_sign) (ci := 11) [.int 41] [] rfl dRe_unit_82 oRe_sign rfl w1534 iRe_sign sRe_sign (by decide) rfl g1 (Nat.le_of_ble_eq_true rfl) h
theorem bRe_unit_85 {l : Launch} {G : Gx} {d : Nat} {bc bs : Nat} {Φ : OutV → Mm → Prop} (M : Mm) (a0 : Nat) (x1 : Int32) (x2 : Int32) (u3 : Value)
    (h : ((m_sh M a0).1 = 11) ∧ Ev l G d mRe_unit 107 [.ref a0, .int x1, .int x2, u3] [] (m_si M a0 8 ((m_i M a0 8) - 1)) bc bs Φ) :
    Ev l G d mRe_unit 85 [.ref a0, .int x1, .int x2, u3] [] M bc bs Φ := by
  refine Ev.aload_n dRe_unit_85 rfl ?_
  refine Ev.dup dRe_unit_86 rfl ?_
  have g1 := h.1
  replace h := h.2
  refine Ev.getI dRe_unit_87 (Or.inl fRe_170) rfl g1 ?_
  refine Ev.iconst (v := 1) dRe_unit_90 (by decide) ?_
  refine Ev.isub dRe_unit_91 ?_
  refine Ev.putI dRe_unit_92 ⟨_, Or.inl ⟨fRe_170, (fun h => by cases h)⟩⟩ rfl ⟨rfl, rfl⟩ g1 ?_
  refine Ev.goto 107 dRe_unit_95 (by decide) ?_
  exact h
theorem bRe_unit_107 {l : Launch} {G : Gx} {d : Nat} {bc bs : Nat} {Φ : OutV → Mm → Prop} (M : Mm) (a0 : Nat) (x1 : Int32) (x2 : Int32) (u3 : Value)
    (h : Φ (.inl none) M) :
    Ev l G d mRe_unit 107 [.ref a0, .int x1, .int x2, u3] [] M bc bs Φ := by
  exact Ev.vret dRe_unit_107 rfl h
theorem dRe_signHere_0 : decode mRe_signHere.2.1 0 = .ok (.aload_n 0, 1) := by decide +kernel
theorem dRe_signHere_1 : decode mRe_signHere.2.1 1 = .ok (.getfield 131, 3) := by decide +kernel
theorem dRe_signHere_4 : decode mRe_signHere.2.1 4 = .ok (.ifCond .eq 5, 3) := by decide +kernel
theorem dRe_signHere_7 : decode mRe_signHere.2.1 7 = .ok (.iconst (-1), 1) := by decide +kernel
theorem dRe_signHere_8 : decode mRe_signHere.2.1 8 = .ok (.ireturn, 1) := by decide +kernel
theorem dRe_signHere_9 : decode mRe_signHere.2.1 9 = .ok (.aload_n 0, 1) := by decide +kernel
theorem dRe_signHere_10 : decode mRe_signHere.2.1 10 = .ok (.invokevirtual 137, 3) := by decide +kernel
theorem dRe_signHere_13 : decode mRe_signHere.2.1 13 = .ok (.aload_n 0, 1) := by decide +kernel
theorem dRe_signHere_14 : decode mRe_signHere.2.1 14 = .ok (.aload_n 0, 1) := by decide +kernel
theorem dRe_signHere_15 : decode mRe_signHere.2.1 15 = .ok (.getfield 124, 3) := by decide +kernel
theorem dRe_signHere_18 : decode mRe_signHere.2.1 18 = .ok (.invokevirtual 127, 3) := by decide +kernel
theorem dRe_signHere_21 : decode mRe_signHere.2.1 21 = .ok (.ireturn, 1) := by decide +kernel
theorem bRe_signHere_0 {l : Launch} {G : Gx} {d : Nat} {bc bs : Nat} {Φ : OutV → Mm → Prop} (M : Mm) (a0 : Nat)
    (h : ((m_sh M a0).1 = 11) ∧ ((m_i M a0 5) = 0 → CallVC l G d mRe_signHere 13 [.ref a0] [] mRe_blanks [.ref a0] M bc bs Φ) ∧ (¬ (m_i M a0 5) = 0 → Φ (.inl (some (.int ((-1))))) M)) :
    Ev l G d mRe_signHere 0 [.ref a0] [] M bc bs Φ := by
  refine Ev.aload_n dRe_signHere_0 rfl ?_
  have g1 := h.1
  replace h := h.2
  refine Ev.getI dRe_signHere_1 (Or.inl fRe_131) rfl g1 ?_
  refine Ev.if_eq 9 (by decide) dRe_signHere_4 (fun c => ?_) (fun c => ?_)
  · replace h := h.1 c
    refine Ev.aload_n dRe_signHere_9 rfl ?_
    exact Ev.vcV (z := mRe_blanks) (ci := 11) [] [] rfl dRe_signHere_10 oRe_blanks rfl w1487 iRe_blanks sRe_blanks (by decide) rfl g1 (Nat.le_of_ble_eq_true rfl) h
  · replace h := h.2 c
    refine Ev.iconst (v := (-1)) dRe_signHere_7 (by decide) ?_
    exact Ev.iret dRe_signHere_8 rfl rfl h
theorem bRe_signHere_13 {l : Launch} {G : Gx} {d : Nat} {bc bs : Nat} {Φ : OutV → Mm → Prop} (M : Mm) (a0 : Nat)
    (h : ((m_sh M a0).1 = 11) ∧ CallVC l G d mRe_signHere 21 [.ref a0] [] mRe_byteAt [.ref a0, .int (m_i M a0 4)] M bc bs Φ) :
    Ev l G d mRe_signHere 13 [.ref a0] [] M bc bs Φ := by
  refine Ev.aload_n dRe_signHere_13 rfl ?_
  refine Ev.aload_n dRe_signHere_14 rfl ?_
  have g1 := h.1
  replace h := h.2
  refine Ev.getI dRe_signHere_15 (Or.inl fRe_124) rfl g1 ?_
  exact Ev.vcV (z := mRe_byteAt) (ci := 11) [.int (m_i M a0 4)] [] rfl dRe_signHere_18 oRe_byteAt rfl w1491 iRe_byteAt sRe_byteAt (by decide) rfl g1 (Nat.le_of_ble_eq_true rfl) h
theorem bRe_signHere_21 {l : Launch} {G : Gx} {d : Nat} {bc bs : Nat} {Φ : OutV → Mm → Prop} (M : Mm) (a0 : Nat) (s0 : Int32)
    (h : Φ (.inl (some (.int s0))) M) :
    Ev l G d mRe_signHere 21 [.ref a0] [.int s0] M bc bs Φ := by
  exact Ev.iret dRe_signHere_21 rfl rfl h
theorem dRe_nameHere_0 : decode mRe_nameHere.2.1 0 = .ok (.aload_n 0, 1) := by decide +kernel
theorem dRe_nameHere_1 : decode mRe_nameHere.2.1 1 = .ok (.iconst 1, 1) := by decide +kernel
theorem dRe_nameHere_2 : decode mRe_nameHere.2.1 2 = .ok (.bipush 7, 2) := by decide +kernel
theorem dRe_nameHere_4 : decode mRe_nameHere.2.1 4 = .ok (.iconst 5, 1) := by decide +kernel
theorem dRe_nameHere_5 : decode mRe_nameHere.2.1 5 = .ok (.iconst 0, 1) := by decide +kernel
theorem dRe_nameHere_6 : decode mRe_nameHere.2.1 6 = .ok (.iconst 0, 1) := by decide +kernel
theorem dRe_nameHere_7 : decode mRe_nameHere.2.1 7 = .ok (.invokestatic 176, 3) := by decide +kernel
theorem dRe_nameHere_10 : decode mRe_nameHere.2.1 10 = .ok (.invokevirtual 163, 3) := by decide +kernel
theorem dRe_nameHere_13 : decode mRe_nameHere.2.1 13 = .ok (.ifCond .eq 5, 3) := by decide +kernel
theorem dRe_nameHere_16 : decode mRe_nameHere.2.1 16 = .ok (.iconst 1, 1) := by decide +kernel
theorem dRe_nameHere_17 : decode mRe_nameHere.2.1 17 = .ok (.ireturn, 1) := by decide +kernel
theorem dRe_nameHere_18 : decode mRe_nameHere.2.1 18 = .ok (.aload_n 0, 1) := by decide +kernel
theorem dRe_nameHere_19 : decode mRe_nameHere.2.1 19 = .ok (.bipush 12, 2) := by decide +kernel
theorem dRe_nameHere_21 : decode mRe_nameHere.2.1 21 = .ok (.bipush 15, 2) := by decide +kernel
theorem dRe_nameHere_23 : decode mRe_nameHere.2.1 23 = .ok (.iconst 1, 1) := by decide +kernel
theorem dRe_nameHere_24 : decode mRe_nameHere.2.1 24 = .ok (.iconst 4, 1) := by decide +kernel
theorem dRe_nameHere_25 : decode mRe_nameHere.2.1 25 = .ok (.iconst 0, 1) := by decide +kernel
theorem dRe_nameHere_26 : decode mRe_nameHere.2.1 26 = .ok (.invokestatic 176, 3) := by decide +kernel
theorem dRe_nameHere_29 : decode mRe_nameHere.2.1 29 = .ok (.invokevirtual 163, 3) := by decide +kernel
theorem dRe_nameHere_32 : decode mRe_nameHere.2.1 32 = .ok (.ifCond .eq 5, 3) := by decide +kernel
theorem dRe_nameHere_35 : decode mRe_nameHere.2.1 35 = .ok (.iconst 2, 1) := by decide +kernel
theorem dRe_nameHere_36 : decode mRe_nameHere.2.1 36 = .ok (.ireturn, 1) := by decide +kernel
theorem dRe_nameHere_37 : decode mRe_nameHere.2.1 37 = .ok (.aload_n 0, 1) := by decide +kernel
theorem dRe_nameHere_38 : decode mRe_nameHere.2.1 38 = .ok (.ldc2_w 153, 3) := by decide +kernel
theorem dRe_nameHere_41 : decode mRe_nameHere.2.1 41 = .ok (.iconst 5, 1) := by decide +kernel
theorem dRe_nameHere_42 : decode mRe_nameHere.2.1 42 = .ok (.bipush 18, 2) := by decide +kernel
theorem dRe_nameHere_44 : decode mRe_nameHere.2.1 44 = .ok (.bipush 18, 2) := by decide +kernel
theorem dRe_nameHere_46 : decode mRe_nameHere.2.1 46 = .ok (.iconst 1, 1) := by decide +kernel
theorem dRe_nameHere_47 : decode mRe_nameHere.2.1 47 = .ok (.bipush 14, 2) := by decide +kernel
theorem dRe_nameHere_49 : decode mRe_nameHere.2.1 49 = .ok (.invokestatic 176, 3) := by decide +kernel
theorem dRe_nameHere_52 : decode mRe_nameHere.2.1 52 = .ok (.lmul, 1) := by decide +kernel
theorem dRe_nameHere_53 : decode mRe_nameHere.2.1 53 = .ok (.ldc2_w 249, 3) := by decide +kernel
theorem dRe_nameHere_56 : decode mRe_nameHere.2.1 56 = .ok (.ladd, 1) := by decide +kernel
theorem dRe_nameHere_57 : decode mRe_nameHere.2.1 57 = .ok (.invokevirtual 163, 3) := by decide +kernel
theorem dRe_nameHere_60 : decode mRe_nameHere.2.1 60 = .ok (.ifCond .eq 5, 3) := by decide +kernel
theorem dRe_nameHere_63 : decode mRe_nameHere.2.1 63 = .ok (.iconst 3, 1) := by decide +kernel
theorem dRe_nameHere_64 : decode mRe_nameHere.2.1 64 = .ok (.ireturn, 1) := by decide +kernel
theorem dRe_nameHere_65 : decode mRe_nameHere.2.1 65 = .ok (.aload_n 0, 1) := by decide +kernel
theorem dRe_nameHere_66 : decode mRe_nameHere.2.1 66 = .ok (.bipush 15, 2) := by decide +kernel
theorem dRe_nameHere_68 : decode mRe_nameHere.2.1 68 = .ok (.bipush 12, 2) := by decide +kernel
theorem dRe_nameHere_70 : decode mRe_nameHere.2.1 70 = .ok (.iconst 4, 1) := by decide +kernel
theorem dRe_nameHere_71 : decode mRe_nameHere.2.1 71 = .ok (.iconst 5, 1) := by decide +kernel
theorem dRe_nameHere_72 : decode mRe_nameHere.2.1 72 = .ok (.bipush 18, 2) := by decide +kernel
theorem dRe_nameHere_74 : decode mRe_nameHere.2.1 74 = .ok (.invokestatic 176, 3) := by decide +kernel
theorem dRe_nameHere_77 : decode mRe_nameHere.2.1 77 = .ok (.invokevirtual 163, 3) := by decide +kernel
theorem dRe_nameHere_80 : decode mRe_nameHere.2.1 80 = .ok (.ifCond .eq 5, 3) := by decide +kernel
theorem dRe_nameHere_83 : decode mRe_nameHere.2.1 83 = .ok (.iconst 4, 1) := by decide +kernel
theorem dRe_nameHere_84 : decode mRe_nameHere.2.1 84 = .ok (.ireturn, 1) := by decide +kernel
theorem dRe_nameHere_85 : decode mRe_nameHere.2.1 85 = .ok (.aload_n 0, 1) := by decide +kernel
theorem dRe_nameHere_86 : decode mRe_nameHere.2.1 86 = .ok (.ldc2_w 153, 3) := by decide +kernel
theorem dRe_nameHere_89 : decode mRe_nameHere.2.1 89 = .ok (.ldc2_w 153, 3) := by decide +kernel
theorem dRe_nameHere_92 : decode mRe_nameHere.2.1 92 = .ok (.bipush 8, 2) := by decide +kernel
theorem dRe_nameHere_94 : decode mRe_nameHere.2.1 94 = .ok (.iconst 5, 1) := by decide +kernel
theorem dRe_nameHere_95 : decode mRe_nameHere.2.1 95 = .ok (.iconst 1, 1) := by decide +kernel
theorem dRe_nameHere_96 : decode mRe_nameHere.2.1 96 = .ok (.bipush 22, 2) := by decide +kernel
theorem dRe_nameHere_98 : decode mRe_nameHere.2.1 98 = .ok (.bipush 9, 2) := by decide +kernel
theorem dRe_nameHere_100 : decode mRe_nameHere.2.1 100 = .ok (.invokestatic 176, 3) := by decide +kernel
theorem dRe_nameHere_103 : decode mRe_nameHere.2.1 103 = .ok (.lmul, 1) := by decide +kernel
theorem dRe_nameHere_104 : decode mRe_nameHere.2.1 104 = .ok (.ldc2_w 251, 3) := by decide +kernel
theorem dRe_nameHere_107 : decode mRe_nameHere.2.1 107 = .ok (.ladd, 1) := by decide +kernel
theorem dRe_nameHere_108 : decode mRe_nameHere.2.1 108 = .ok (.lmul, 1) := by decide +kernel
theorem dRe_nameHere_109 : decode mRe_nameHere.2.1 109 = .ok (.ldc2_w 253, 3) := by decide +kernel
theorem dRe_nameHere_112 : decode mRe_nameHere.2.1 112 = .ok (.ladd, 1) := by decide +kernel
theorem dRe_nameHere_113 : decode mRe_nameHere.2.1 113 = .ok (.invokevirtual 163, 3) := by decide +kernel
theorem dRe_nameHere_116 : decode mRe_nameHere.2.1 116 = .ok (.ifCond .eq 5, 3) := by decide +kernel
theorem dRe_nameHere_119 : decode mRe_nameHere.2.1 119 = .ok (.iconst 5, 1) := by decide +kernel
theorem dRe_nameHere_120 : decode mRe_nameHere.2.1 120 = .ok (.ireturn, 1) := by decide +kernel
theorem dRe_nameHere_121 : decode mRe_nameHere.2.1 121 = .ok (.aload_n 0, 1) := by decide +kernel
theorem dRe_nameHere_122 : decode mRe_nameHere.2.1 122 = .ok (.ldc2_w 153, 3) := by decide +kernel
theorem dRe_nameHere_125 : decode mRe_nameHere.2.1 125 = .ok (.bipush 12, 2) := by decide +kernel
theorem dRe_nameHere_127 : decode mRe_nameHere.2.1 127 = .ok (.bipush 15, 2) := by decide +kernel
theorem dRe_nameHere_129 : decode mRe_nameHere.2.1 129 = .ok (.bipush 14, 2) := by decide +kernel
theorem dRe_nameHere_131 : decode mRe_nameHere.2.1 131 = .ok (.bipush 7, 2) := by decide +kernel
theorem dRe_nameHere_133 : decode mRe_nameHere.2.1 133 = .ok (.iconst 5, 1) := by decide +kernel
theorem dRe_nameHere_134 : decode mRe_nameHere.2.1 134 = .ok (.invokestatic 176, 3) := by decide +kernel
theorem dRe_nameHere_137 : decode mRe_nameHere.2.1 137 = .ok (.lmul, 1) := by decide +kernel
theorem dRe_nameHere_138 : decode mRe_nameHere.2.1 138 = .ok (.ldc2_w 253, 3) := by decide +kernel
theorem dRe_nameHere_141 : decode mRe_nameHere.2.1 141 = .ok (.ladd, 1) := by decide +kernel
theorem dRe_nameHere_142 : decode mRe_nameHere.2.1 142 = .ok (.invokevirtual 163, 3) := by decide +kernel
theorem dRe_nameHere_145 : decode mRe_nameHere.2.1 145 = .ok (.ifCond .eq 6, 3) := by decide +kernel
theorem dRe_nameHere_148 : decode mRe_nameHere.2.1 148 = .ok (.bipush 6, 2) := by decide +kernel
theorem dRe_nameHere_150 : decode mRe_nameHere.2.1 150 = .ok (.ireturn, 1) := by decide +kernel
theorem dRe_nameHere_151 : decode mRe_nameHere.2.1 151 = .ok (.aload_n 0, 1) := by decide +kernel
theorem dRe_nameHere_152 : decode mRe_nameHere.2.1 152 = .ok (.bipush 8, 2) := by decide +kernel
theorem dRe_nameHere_154 : decode mRe_nameHere.2.1 154 = .ok (.bipush 15, 2) := by decide +kernel
theorem dRe_nameHere_156 : decode mRe_nameHere.2.1 156 = .ok (.bipush 21, 2) := by decide +kernel
theorem dRe_nameHere_158 : decode mRe_nameHere.2.1 158 = .ok (.bipush 18, 2) := by decide +kernel
theorem dRe_nameHere_160 : decode mRe_nameHere.2.1 160 = .ok (.iconst 0, 1) := by decide +kernel
theorem dRe_nameHere_161 : decode mRe_nameHere.2.1 161 = .ok (.invokestatic 176, 3) := by decide +kernel
theorem dRe_nameHere_164 : decode mRe_nameHere.2.1 164 = .ok (.invokevirtual 163, 3) := by decide +kernel
theorem dRe_nameHere_167 : decode mRe_nameHere.2.1 167 = .ok (.ifCond .eq 8, 3) := by decide +kernel
theorem dRe_nameHere_170 : decode mRe_nameHere.2.1 170 = .ok (.bipush 7, 2) := by decide +kernel
theorem dRe_nameHere_172 : decode mRe_nameHere.2.1 172 = .ok (.goto 4, 3) := by decide +kernel
theorem dRe_nameHere_175 : decode mRe_nameHere.2.1 175 = .ok (.iconst 0, 1) := by decide +kernel
theorem dRe_nameHere_176 : decode mRe_nameHere.2.1 176 = .ok (.ireturn, 1) := by decide +kernel
theorem bRe_nameHere_0 {l : Launch} {G : Gx} {d : Nat} {bc bs : Nat} {Φ : OutV → Mm → Prop} (M : Mm) (a0 : Nat)
    (h : CallVC l G d mRe_nameHere 10 [.ref a0] [.ref a0] mRe_five [.int 1, .int 7, .int 5, .int 0, .int 0] M bc bs Φ) :
    Ev l G d mRe_nameHere 0 [.ref a0] [] M bc bs Φ := by
  refine Ev.aload_n dRe_nameHere_0 rfl ?_
  refine Ev.iconst (v := 1) dRe_nameHere_1 (by decide) ?_
  refine Ev.bipush (v := 7) dRe_nameHere_2 (by decide) ?_
  refine Ev.iconst (v := 5) dRe_nameHere_4 (by decide) ?_
  refine Ev.iconst (v := 0) dRe_nameHere_5 (by decide) ?_
  refine Ev.iconst (v := 0) dRe_nameHere_6 (by decide) ?_
  exact Ev.vcS (z := mRe_five) [.int 1, .int 7, .int 5, .int 0, .int 0] [.ref a0] rfl dRe_nameHere_7 oRe_five rfl w1500 iRe_five (Nat.le_of_ble_eq_true rfl) h
theorem bRe_nameHere_10 {l : Launch} {G : Gx} {d : Nat} {bc bs : Nat} {Φ : OutV → Mm → Prop} (M : Mm) (a0 : Nat) (r0 : Nat) (w1 : Int64)
    (h : ((m_sh M r0).1 = 11) ∧ CallVC l G d mRe_nameHere 13 [.ref a0] [] mRe_isWord [.ref r0, .long w1] M bc bs Φ) :
    Ev l G d mRe_nameHere 10 [.ref a0] [.long w1, .ref r0] M bc bs Φ := by
  have g1 := h.1
  replace h := h.2
  exact Ev.vcV (z := mRe_isWord) (ci := 11) [.long w1] [] rfl dRe_nameHere_10 oRe_isWord rfl w1504 iRe_isWord sRe_isWord (by decide) rfl g1 (Nat.le_of_ble_eq_true rfl) h
theorem bRe_nameHere_13 {l : Launch} {G : Gx} {d : Nat} {bc bs : Nat} {Φ : OutV → Mm → Prop} (M : Mm) (a0 : Nat) (s0 : Int32)
    (h : (s0 = 0 → CallVC l G d mRe_nameHere 29 [.ref a0] [.ref a0] mRe_five [.int 12, .int 15, .int 1, .int 4, .int 0] M bc bs Φ) ∧ (¬ s0 = 0 → Φ (.inl (some (.int 1))) M)) :
    Ev l G d mRe_nameHere 13 [.ref a0] [.int s0] M bc bs Φ := by
  refine Ev.if_eq 18 (by decide) dRe_nameHere_13 (fun c => ?_) (fun c => ?_)
  · replace h := h.1 c
    refine Ev.aload_n dRe_nameHere_18 rfl ?_
    refine Ev.bipush (v := 12) dRe_nameHere_19 (by decide) ?_
    refine Ev.bipush (v := 15) dRe_nameHere_21 (by decide) ?_
    refine Ev.iconst (v := 1) dRe_nameHere_23 (by decide) ?_
    refine Ev.iconst (v := 4) dRe_nameHere_24 (by decide) ?_
    refine Ev.iconst (v := 0) dRe_nameHere_25 (by decide) ?_
    exact Ev.vcS (z := mRe_five) [.int 12, .int 15, .int 1, .int 4, .int 0] [.ref a0] rfl dRe_nameHere_26 oRe_five rfl w1500 iRe_five (Nat.le_of_ble_eq_true rfl) h
  · replace h := h.2 c
    refine Ev.iconst (v := 1) dRe_nameHere_16 (by decide) ?_
    exact Ev.iret dRe_nameHere_17 rfl rfl h
theorem bRe_nameHere_29 {l : Launch} {G : Gx} {d : Nat} {bc bs : Nat} {Φ : OutV → Mm → Prop} (M : Mm) (a0 : Nat) (r0 : Nat) (w1 : Int64)
    (h : ((m_sh M r0).1 = 11) ∧ CallVC l G d mRe_nameHere 32 [.ref a0] [] mRe_isWord [.ref r0, .long w1] M bc bs Φ) :
    Ev l G d mRe_nameHere 29 [.ref a0] [.long w1, .ref r0] M bc bs Φ := by
  have g1 := h.1
  replace h := h.2
  exact Ev.vcV (z := mRe_isWord) (ci := 11) [.long w1] [] rfl dRe_nameHere_29 oRe_isWord rfl w1504 iRe_isWord sRe_isWord (by decide) rfl g1 (Nat.le_of_ble_eq_true rfl) h
theorem bRe_nameHere_32 {l : Launch} {G : Gx} {d : Nat} {bc bs : Nat} {Φ : OutV → Mm → Prop} (M : Mm) (a0 : Nat) (s0 : Int32)
    (h : (s0 = 0 → CallVC l G d mRe_nameHere 52 [.ref a0] [.long 27, .ref a0] mRe_five [.int 5, .int 18, .int 18, .int 1, .int 14] M bc bs Φ) ∧ (¬ s0 = 0 → Φ (.inl (some (.int 2))) M)) :
    Ev l G d mRe_nameHere 32 [.ref a0] [.int s0] M bc bs Φ := by
  refine Ev.if_eq 37 (by decide) dRe_nameHere_32 (fun c => ?_) (fun c => ?_)
  · replace h := h.1 c
    refine Ev.aload_n dRe_nameHere_37 rfl ?_
    refine Ev.ldc2_w (v := 27) dRe_nameHere_38 w1499 ?_
    refine Ev.iconst (v := 5) dRe_nameHere_41 (by decide) ?_
    refine Ev.bipush (v := 18) dRe_nameHere_42 (by decide) ?_
    refine Ev.bipush (v := 18) dRe_nameHere_44 (by decide) ?_
    refine Ev.iconst (v := 1) dRe_nameHere_46 (by decide) ?_
    refine Ev.bipush (v := 14) dRe_nameHere_47 (by decide) ?_
    exact Ev.vcS (z := mRe_five) [.int 5, .int 18, .int 18, .int 1, .int 14] [.long 27, .ref a0] rfl dRe_nameHere_49 oRe_five rfl w1500 iRe_five (Nat.le_of_ble_eq_true rfl) h
  · replace h := h.2 c
    refine Ev.iconst (v := 2) dRe_nameHere_35 (by decide) ?_
    exact Ev.iret dRe_nameHere_36 rfl rfl h
theorem w1570 : Cond.constantLong "BowingRowModel" 249 4 ∈ lwg := lwg_of 1570 (by decide +kernel) (by decide +kernel)
theorem bRe_nameHere_52 {l : Launch} {G : Gx} {d : Nat} {bc bs : Nat} {Φ : OutV → Mm → Prop} (M : Mm) (a0 : Nat) (r0 : Nat) (w1 : Int64) (w2 : Int64)
    (h : ((m_sh M r0).1 = 11) ∧ CallVC l G d mRe_nameHere 60 [.ref a0] [] mRe_isWord [.ref r0, .long ((w1 * w2) + 4)] M bc bs Φ) :
    Ev l G d mRe_nameHere 52 [.ref a0] [.long w2, .long w1, .ref r0] M bc bs Φ := by
  refine Ev.lmul dRe_nameHere_52 ?_
  refine Ev.ldc2_w (v := 4) dRe_nameHere_53 w1570 ?_
  refine Ev.ladd dRe_nameHere_56 ?_
  have g1 := h.1
  replace h := h.2
  exact Ev.vcV (z := mRe_isWord) (ci := 11) [.long ((w1 * w2) + 4)] [] rfl dRe_nameHere_57 oRe_isWord rfl w1504 iRe_isWord sRe_isWord (by decide) rfl g1 (Nat.le_of_ble_eq_true rfl) h
theorem bRe_nameHere_60 {l : Launch} {G : Gx} {d : Nat} {bc bs : Nat} {Φ : OutV → Mm → Prop} (M : Mm) (a0 : Nat) (s0 : Int32)
    (h : (s0 = 0 → CallVC l G d mRe_nameHere 77 [.ref a0] [.ref a0] mRe_five [.int 15, .int 12, .int 4, .int 5, .int 18] M bc bs Φ) ∧ (¬ s0 = 0 → Φ (.inl (some (.int 3))) M)) :
    Ev l G d mRe_nameHere 60 [.ref a0] [.int s0] M bc bs Φ := by
  refine Ev.if_eq 65 (by decide) dRe_nameHere_60 (fun c => ?_) (fun c => ?_)
  · replace h := h.1 c
    refine Ev.aload_n dRe_nameHere_65 rfl ?_
    refine Ev.bipush (v := 15) dRe_nameHere_66 (by decide) ?_
    refine Ev.bipush (v := 12) dRe_nameHere_68 (by decide) ?_
    refine Ev.iconst (v := 4) dRe_nameHere_70 (by decide) ?_
    refine Ev.iconst (v := 5) dRe_nameHere_71 (by decide) ?_
    refine Ev.bipush (v := 18) dRe_nameHere_72 (by decide) ?_
    exact Ev.vcS (z := mRe_five) [.int 15, .int 12, .int 4, .int 5, .int 18] [.ref a0] rfl dRe_nameHere_74 oRe_five rfl w1500 iRe_five (Nat.le_of_ble_eq_true rfl) h
  · replace h := h.2 c
    refine Ev.iconst (v := 3) dRe_nameHere_63 (by decide) ?_
    exact Ev.iret dRe_nameHere_64 rfl rfl h
theorem bRe_nameHere_77 {l : Launch} {G : Gx} {d : Nat} {bc bs : Nat} {Φ : OutV → Mm → Prop} (M : Mm) (a0 : Nat) (r0 : Nat) (w1 : Int64)
    (h : ((m_sh M r0).1 = 11) ∧ CallVC l G d mRe_nameHere 80 [.ref a0] [] mRe_isWord [.ref r0, .long w1] M bc bs Φ) :
    Ev l G d mRe_nameHere 77 [.ref a0] [.long w1, .ref r0] M bc bs Φ := by
  have g1 := h.1
  replace h := h.2
  exact Ev.vcV (z := mRe_isWord) (ci := 11) [.long w1] [] rfl dRe_nameHere_77 oRe_isWord rfl w1504 iRe_isWord sRe_isWord (by decide) rfl g1 (Nat.le_of_ble_eq_true rfl) h
theorem bRe_nameHere_80 {l : Launch} {G : Gx} {d : Nat} {bc bs : Nat} {Φ : OutV → Mm → Prop} (M : Mm) (a0 : Nat) (s0 : Int32)
    (h : (s0 = 0 → CallVC l G d mRe_nameHere 103 [.ref a0] [.long 27, .long 27, .ref a0] mRe_five [.int 8, .int 5, .int 1, .int 22, .int 9] M bc bs Φ) ∧ (¬ s0 = 0 → Φ (.inl (some (.int 4))) M)) :
    Ev l G d mRe_nameHere 80 [.ref a0] [.int s0] M bc bs Φ := by
  refine Ev.if_eq 85 (by decide) dRe_nameHere_80 (fun c => ?_) (fun c => ?_)
  · replace h := h.1 c
    refine Ev.aload_n dRe_nameHere_85 rfl ?_
    refine Ev.ldc2_w (v := 27) dRe_nameHere_86 w1499 ?_
    refine Ev.ldc2_w (v := 27) dRe_nameHere_89 w1499 ?_
    refine Ev.bipush (v := 8) dRe_nameHere_92 (by decide) ?_
    refine Ev.iconst (v := 5) dRe_nameHere_94 (by decide) ?_
    refine Ev.iconst (v := 1) dRe_nameHere_95 (by decide) ?_
    refine Ev.bipush (v := 22) dRe_nameHere_96 (by decide) ?_
    refine Ev.bipush (v := 9) dRe_nameHere_98 (by decide) ?_
    exact Ev.vcS (z := mRe_five) [.int 8, .int 5, .int 1, .int 22, .int 9] [.long 27, .long 27, .ref a0] rfl dRe_nameHere_100 oRe_five rfl w1500 iRe_five (Nat.le_of_ble_eq_true rfl) h
  · replace h := h.2 c
    refine Ev.iconst (v := 4) dRe_nameHere_83 (by decide) ?_
    exact Ev.iret dRe_nameHere_84 rfl rfl h
theorem w1571 : Cond.constantLong "BowingRowModel" 251 5 ∈ lwg := lwg_of 1571 (by decide +kernel) (by decide +kernel)
theorem w1572 : Cond.constantLong "BowingRowModel" 253 18 ∈ lwg := lwg_of 1572 (by decide +kernel) (by decide +kernel)
theorem bRe_nameHere_103 {l : Launch} {G : Gx} {d : Nat} {bc bs : Nat} {Φ : OutV → Mm → Prop} (M : Mm) (a0 : Nat) (r0 : Nat) (w1 : Int64) (w2 : Int64) (w3 : Int64)
    (h : ((m_sh M r0).1 = 11) ∧ CallVC l G d mRe_nameHere 116 [.ref a0] [] mRe_isWord [.ref r0, .long ((w1 * ((w2 * w3) + 5)) + 18)] M bc bs Φ) :
    Ev l G d mRe_nameHere 103 [.ref a0] [.long w3, .long w2, .long w1, .ref r0] M bc bs Φ := by
  refine Ev.lmul dRe_nameHere_103 ?_
  refine Ev.ldc2_w (v := 5) dRe_nameHere_104 w1571 ?_
  refine Ev.ladd dRe_nameHere_107 ?_
  refine Ev.lmul dRe_nameHere_108 ?_
  refine Ev.ldc2_w (v := 18) dRe_nameHere_109 w1572 ?_
  refine Ev.ladd dRe_nameHere_112 ?_
  have g1 := h.1
  replace h := h.2
  exact Ev.vcV (z := mRe_isWord) (ci := 11) [.long ((w1 * ((w2 * w3) + 5)) + 18)] [] rfl dRe_nameHere_113 oRe_isWord rfl w1504 iRe_isWord sRe_isWord (by decide) rfl g1 (Nat.le_of_ble_eq_true rfl) h
theorem bRe_nameHere_116 {l : Launch} {G : Gx} {d : Nat} {bc bs : Nat} {Φ : OutV → Mm → Prop} (M : Mm) (a0 : Nat) (s0 : Int32)
    (h : (s0 = 0 → CallVC l G d mRe_nameHere 137 [.ref a0] [.long 27, .ref a0] mRe_five [.int 12, .int 15, .int 14, .int 7, .int 5] M bc bs Φ) ∧ (¬ s0 = 0 → Φ (.inl (some (.int 5))) M)) :
    Ev l G d mRe_nameHere 116 [.ref a0] [.int s0] M bc bs Φ := by
  refine Ev.if_eq 121 (by decide) dRe_nameHere_116 (fun c => ?_) (fun c => ?_)
  · replace h := h.1 c
    refine Ev.aload_n dRe_nameHere_121 rfl ?_
    refine Ev.ldc2_w (v := 27) dRe_nameHere_122 w1499 ?_
    refine Ev.bipush (v := 12) dRe_nameHere_125 (by decide) ?_
    refine Ev.bipush (v := 15) dRe_nameHere_127 (by decide) ?_
    refine Ev.bipush (v := 14) dRe_nameHere_129 (by decide) ?_
    refine Ev.bipush (v := 7) dRe_nameHere_131 (by decide) ?_
    refine Ev.iconst (v := 5) dRe_nameHere_133 (by decide) ?_
    exact Ev.vcS (z := mRe_five) [.int 12, .int 15, .int 14, .int 7, .int 5] [.long 27, .ref a0] rfl dRe_nameHere_134 oRe_five rfl w1500 iRe_five (Nat.le_of_ble_eq_true rfl) h
  · replace h := h.2 c
    refine Ev.iconst (v := 5) dRe_nameHere_119 (by decide) ?_
    exact Ev.iret dRe_nameHere_120 rfl rfl h
theorem bRe_nameHere_137 {l : Launch} {G : Gx} {d : Nat} {bc bs : Nat} {Φ : OutV → Mm → Prop} (M : Mm) (a0 : Nat) (r0 : Nat) (w1 : Int64) (w2 : Int64)
    (h : ((m_sh M r0).1 = 11) ∧ CallVC l G d mRe_nameHere 145 [.ref a0] [] mRe_isWord [.ref r0, .long ((w1 * w2) + 18)] M bc bs Φ) :
    Ev l G d mRe_nameHere 137 [.ref a0] [.long w2, .long w1, .ref r0] M bc bs Φ := by
  refine Ev.lmul dRe_nameHere_137 ?_
  refine Ev.ldc2_w (v := 18) dRe_nameHere_138 w1572 ?_
  refine Ev.ladd dRe_nameHere_141 ?_
  have g1 := h.1
  replace h := h.2
  exact Ev.vcV (z := mRe_isWord) (ci := 11) [.long ((w1 * w2) + 18)] [] rfl dRe_nameHere_142 oRe_isWord rfl w1504 iRe_isWord sRe_isWord (by decide) rfl g1 (Nat.le_of_ble_eq_true rfl) h
theorem bRe_nameHere_145 {l : Launch} {G : Gx} {d : Nat} {bc bs : Nat} {Φ : OutV → Mm → Prop} (M : Mm) (a0 : Nat) (s0 : Int32)
    (h : (s0 = 0 → CallVC l G d mRe_nameHere 164 [.ref a0] [.ref a0] mRe_five [.int 8, .int 15, .int 21, .int 18, .int 0] M bc bs Φ) ∧ (¬ s0 = 0 → Φ (.inl (some (.int 6))) M)) :
    Ev l G d mRe_nameHere 145 [.ref a0] [.int s0] M bc bs Φ := by
  refine Ev.if_eq 151 (by decide) dRe_nameHere_145 (fun c => ?_) (fun c => ?_)
  · replace h := h.1 c
    refine Ev.aload_n dRe_nameHere_151 rfl ?_
    refine Ev.bipush (v := 8) dRe_nameHere_152 (by decide) ?_
    refine Ev.bipush (v := 15) dRe_nameHere_154 (by decide) ?_
    refine Ev.bipush (v := 21) dRe_nameHere_156 (by decide) ?_
    refine Ev.bipush (v := 18) dRe_nameHere_158 (by decide) ?_
    refine Ev.iconst (v := 0) dRe_nameHere_160 (by decide) ?_
    exact Ev.vcS (z := mRe_five) [.int 8, .int 15, .int 21, .int 18, .int 0] [.ref a0] rfl dRe_nameHere_161 oRe_five rfl w1500 iRe_five (Nat.le_of_ble_eq_true rfl) h
  · replace h := h.2 c
    refine Ev.bipush (v := 6) dRe_nameHere_148 (by decide) ?_
    exact Ev.iret dRe_nameHere_150 rfl rfl h
theorem bRe_nameHere_164 {l : Launch} {G : Gx} {d : Nat} {bc bs : Nat} {Φ : OutV → Mm → Prop} (M : Mm) (a0 : Nat) (r0 : Nat) (w1 : Int64)
    (h : ((m_sh M r0).1 = 11) ∧ CallVC l G d mRe_nameHere 167 [.ref a0] [] mRe_isWord [.ref r0, .long w1] M bc bs Φ) :
    Ev l G d mRe_nameHere 164 [.ref a0] [.long w1, .ref r0] M bc bs Φ := by
  have g1 := h.1
  replace h := h.2
  exact Ev.vcV (z := mRe_isWord) (ci := 11) [.long w1] [] rfl dRe_nameHere_164 oRe_isWord rfl w1504 iRe_isWord sRe_isWord (by decide) rfl g1 (Nat.le_of_ble_eq_true rfl) h
theorem bRe_nameHere_167 {l : Launch} {G : Gx} {d : Nat} {bc bs : Nat} {Φ : OutV → Mm → Prop} (M : Mm) (a0 : Nat) (s0 : Int32)
    (h : (s0 = 0 → Φ (.inl (some (.int 0))) M) ∧ (¬ s0 = 0 → Φ (.inl (some (.int 7))) M)) :
    Ev l G d mRe_nameHere 167 [.ref a0] [.int s0] M bc bs Φ := by
  refine Ev.if_eq 175 (by decide) dRe_nameHere_167 (fun c => ?_) (fun c => ?_)
  · replace h := h.1 c
    refine Ev.iconst (v := 0) dRe_nameHere_175 (by decide) ?_
    exact Ev.iret dRe_nameHere_176 rfl rfl h
  · replace h := h.2 c
    refine Ev.bipush (v := 7) dRe_nameHere_170 (by decide) ?_
    refine Ev.goto 176 dRe_nameHere_172 (by decide) ?_
    exact Ev.iret dRe_nameHere_176 rfl rfl h
theorem dRe_tells_0 : decode mRe_tells.2.1 0 = .ok (.aload_n 0, 1) := by decide +kernel
theorem dRe_tells_1 : decode mRe_tells.2.1 1 = .ok (.getfield 43, 3) := by decide +kernel
theorem dRe_tells_4 : decode mRe_tells.2.1 4 = .ok (.aload_n 0, 1) := by decide +kernel
theorem dRe_tells_5 : decode mRe_tells.2.1 5 = .ok (.getfield 219, 3) := by decide +kernel
theorem dRe_tells_8 : decode mRe_tells.2.1 8 = .ok (.aaload, 1) := by decide +kernel
theorem dRe_tells_9 : decode mRe_tells.2.1 9 = .ok (.aload_n 0, 1) := by decide +kernel
theorem dRe_tells_10 : decode mRe_tells.2.1 10 = .ok (.getfield 222, 3) := by decide +kernel
theorem dRe_tells_13 : decode mRe_tells.2.1 13 = .ok (.iload_n 1, 1) := by decide +kernel
theorem dRe_tells_14 : decode mRe_tells.2.1 14 = .ok (.iastore, 1) := by decide +kernel
theorem dRe_tells_15 : decode mRe_tells.2.1 15 = .ok (.aload_n 0, 1) := by decide +kernel
theorem dRe_tells_16 : decode mRe_tells.2.1 16 = .ok (.dup, 1) := by decide +kernel
theorem dRe_tells_17 : decode mRe_tells.2.1 17 = .ok (.getfield 222, 3) := by decide +kernel
theorem dRe_tells_20 : decode mRe_tells.2.1 20 = .ok (.iconst 1, 1) := by decide +kernel
theorem dRe_tells_21 : decode mRe_tells.2.1 21 = .ok (.iadd, 1) := by decide +kernel
theorem dRe_tells_22 : decode mRe_tells.2.1 22 = .ok (.putfield 222, 3) := by decide +kernel
theorem dRe_tells_25 : decode mRe_tells.2.1 25 = .ok (.return_, 1) := by decide +kernel
theorem bRe_tells_0 {l : Launch} {G : Gx} {d : Nat} {bc bs : Nat} {Φ : OutV → Mm → Prop} (M : Mm) (a0 : Nat) (x1 : Int32)
    (h : ((m_sh M a0).1 = 11) ∧ ((m_sh M (m_r M a0 23)).1 = 33) ∧ (vp_in (m_i M a0 14) (m_sh M (m_r M a0 23)).2) ∧ ((m_sh M (m_r M (m_r M a0 23) (m_i M a0 14).toNatClampNeg)).1 = 20) ∧ (vp_in (m_i M a0 16) (m_sh M (m_r M (m_r M a0 23) (m_i M a0 14).toNatClampNeg)).2) ∧ Φ (.inl none) (m_si (m_si M (m_r M (m_r M a0 23) (m_i M a0 14).toNatClampNeg) (m_i M a0 16).toNatClampNeg x1) a0 16 ((m_i (m_si M (m_r M (m_r M a0 23) (m_i M a0 14).toNatClampNeg) (m_i M a0 16).toNatClampNeg x1) a0 16) + 1))) :
    Ev l G d mRe_tells 0 [.ref a0, .int x1] [] M bc bs Φ := by
  refine Ev.aload_n dRe_tells_0 rfl ?_
  have g1 := h.1
  replace h := h.2
  refine Ev.getR dRe_tells_1 (Or.inl fRe_43) rfl g1 ?_
  refine Ev.aload_n dRe_tells_4 rfl ?_
  refine Ev.getI dRe_tells_5 (Or.inl fRe_219) rfl g1 ?_
  have g2 := h.1
  replace h := h.2
  have g3 := h.1
  replace h := h.2
  refine Ev.aald2 33 (by decide) dRe_tells_8 g2 g3 ?_
  refine Ev.aload_n dRe_tells_9 rfl ?_
  refine Ev.getI dRe_tells_10 (Or.inl fRe_222) rfl g1 ?_
  refine Ev.iload_n dRe_tells_13 rfl ?_
  have g4 := h.1
  replace h := h.2
  have g5 := h.1
  replace h := h.2
  refine Ev.iast2 dRe_tells_14 g4 g5 ?_
  refine Ev.aload_n dRe_tells_15 rfl ?_
  refine Ev.dup dRe_tells_16 rfl ?_
  refine Ev.getI dRe_tells_17 (Or.inl fRe_222) rfl g1 ?_
  refine Ev.iconst (v := 1) dRe_tells_20 (by decide) ?_
  refine Ev.iadd dRe_tells_21 ?_
  refine Ev.putI dRe_tells_22 ⟨_, Or.inl ⟨fRe_222, (fun h => by cases h)⟩⟩ rfl ⟨rfl, rfl⟩ g1 ?_
  exact Ev.vret dRe_tells_25 rfl h
theorem dRe_opens_0 : decode mRe_opens.2.1 0 = .ok (.aload_n 0, 1) := by decide +kernel
theorem dRe_opens_1 : decode mRe_opens.2.1 1 = .ok (.getfield 170, 3) := by decide +kernel
theorem dRe_opens_4 : decode mRe_opens.2.1 4 = .ok (.bipush 6, 2) := by decide +kernel
theorem dRe_opens_6 : decode mRe_opens.2.1 6 = .ok (.if_icmp .ne 12, 3) := by decide +kernel
theorem dRe_opens_9 : decode mRe_opens.2.1 9 = .ok (.aload_n 0, 1) := by decide +kernel
theorem dRe_opens_10 : decode mRe_opens.2.1 10 = .ok (.iconst 3, 1) := by decide +kernel
theorem dRe_opens_11 : decode mRe_opens.2.1 11 = .ok (.aload_n 0, 1) := by decide +kernel
theorem dRe_opens_12 : decode mRe_opens.2.1 12 = .ok (.getfield 124, 3) := by decide +kernel
theorem dRe_opens_15 : decode mRe_opens.2.1 15 = .ok (.invokevirtual 144, 3) := by decide +kernel
theorem dRe_opens_18 : decode mRe_opens.2.1 18 = .ok (.aload_n 0, 1) := by decide +kernel
theorem dRe_opens_19 : decode mRe_opens.2.1 19 = .ok (.dup, 1) := by decide +kernel
theorem dRe_opens_20 : decode mRe_opens.2.1 20 = .ok (.getfield 170, 3) := by decide +kernel
theorem dRe_opens_23 : decode mRe_opens.2.1 23 = .ok (.iconst 1, 1) := by decide +kernel
theorem dRe_opens_24 : decode mRe_opens.2.1 24 = .ok (.iadd, 1) := by decide +kernel
theorem dRe_opens_25 : decode mRe_opens.2.1 25 = .ok (.putfield 170, 3) := by decide +kernel
theorem dRe_opens_28 : decode mRe_opens.2.1 28 = .ok (.aload_n 0, 1) := by decide +kernel
theorem dRe_opens_29 : decode mRe_opens.2.1 29 = .ok (.dup, 1) := by decide +kernel
theorem dRe_opens_30 : decode mRe_opens.2.1 30 = .ok (.getfield 124, 3) := by decide +kernel
theorem dRe_opens_33 : decode mRe_opens.2.1 33 = .ok (.iload_n 1, 1) := by decide +kernel
theorem dRe_opens_34 : decode mRe_opens.2.1 34 = .ok (.iadd, 1) := by decide +kernel
theorem dRe_opens_35 : decode mRe_opens.2.1 35 = .ok (.putfield 124, 3) := by decide +kernel
theorem dRe_opens_38 : decode mRe_opens.2.1 38 = .ok (.return_, 1) := by decide +kernel
theorem bRe_opens_0 {l : Launch} {G : Gx} {d : Nat} {bc bs : Nat} {Φ : OutV → Mm → Prop} (M : Mm) (a0 : Nat) (x1 : Int32)
    (h : ((m_sh M a0).1 = 11) ∧ (¬ (m_i M a0 8) = 6 → Ev l G d mRe_opens 18 [.ref a0, .int x1] [] M bc bs Φ) ∧ ((m_i M a0 8) = 6 → CallVC l G d mRe_opens 18 [.ref a0, .int x1] [] mRe_wrong [.ref a0, .int 3, .int (m_i M a0 4)] M bc bs Φ)) :
    Ev l G d mRe_opens 0 [.ref a0, .int x1] [] M bc bs Φ := by
  refine Ev.aload_n dRe_opens_0 rfl ?_
  have g1 := h.1
  replace h := h.2
  refine Ev.getI dRe_opens_1 (Or.inl fRe_170) rfl g1 ?_
  refine Ev.bipush (v := 6) dRe_opens_4 (by decide) ?_
  refine Ev.icmp_ne 18 (by decide) dRe_opens_6 (fun c => ?_) (fun c => ?_)
  · replace h := h.1 c
    exact h
  · replace h := h.2 c
    refine Ev.aload_n dRe_opens_9 rfl ?_
    refine Ev.iconst (v := 3) dRe_opens_10 (by decide) ?_
    refine Ev.aload_n dRe_opens_11 rfl ?_
    refine Ev.getI dRe_opens_12 (Or.inl fRe_124) rfl g1 ?_
    exact Ev.vcV (z := mRe_wrong) (ci := 11) [.int 3, .int (m_i M a0 4)] [] rfl dRe_opens_15 oRe_wrong rfl w1514 iRe_wrong sRe_wrong (by decide) rfl g1 (Nat.le_of_ble_eq_true rfl) h
theorem bRe_opens_18 {l : Launch} {G : Gx} {d : Nat} {bc bs : Nat} {Φ : OutV → Mm → Prop} (M : Mm) (a0 : Nat) (x1 : Int32)
    (h : ((m_sh M a0).1 = 11) ∧ Φ (.inl none) (m_si (m_si M a0 8 ((m_i M a0 8) + 1)) a0 4 ((m_i (m_si M a0 8 ((m_i M a0 8) + 1)) a0 4) + x1))) :
    Ev l G d mRe_opens 18 [.ref a0, .int x1] [] M bc bs Φ := by
  refine Ev.aload_n dRe_opens_18 rfl ?_
  refine Ev.dup dRe_opens_19 rfl ?_
  have g1 := h.1
  replace h := h.2
  refine Ev.getI dRe_opens_20 (Or.inl fRe_170) rfl g1 ?_
  refine Ev.iconst (v := 1) dRe_opens_23 (by decide) ?_
  refine Ev.iadd dRe_opens_24 ?_
  refine Ev.putI dRe_opens_25 ⟨_, Or.inl ⟨fRe_170, (fun h => by cases h)⟩⟩ rfl ⟨rfl, rfl⟩ g1 ?_
  refine Ev.aload_n dRe_opens_28 rfl ?_
  refine Ev.dup dRe_opens_29 rfl ?_
  refine Ev.getI dRe_opens_30 (Or.inl fRe_124) rfl g1 ?_
  refine Ev.iload_n dRe_opens_33 rfl ?_
  refine Ev.iadd dRe_opens_34 ?_
  refine Ev.putI dRe_opens_35 ⟨_, Or.inl ⟨fRe_124, (fun h => by cases h)⟩⟩ rfl ⟨rfl, rfl⟩ g1 ?_
  exact Ev.vret dRe_opens_38 rfl h
theorem dRe_ors_0 : decode mRe_ors.2.1 0 = .ok (.aload_n 0, 1) := by decide +kernel
theorem dRe_ors_1 : decode mRe_ors.2.1 1 = .ok (.invokevirtual 261, 3) := by decide +kernel
theorem dRe_ors_4 : decode mRe_ors.2.1 4 = .ok (.aload_n 0, 1) := by decide +kernel
theorem dRe_ors_5 : decode mRe_ors.2.1 5 = .ok (.ldc2_w 264, 3) := by decide +kernel
theorem dRe_ors_8 : decode mRe_ors.2.1 8 = .ok (.invokevirtual 266, 3) := by decide +kernel
theorem dRe_ors_11 : decode mRe_ors.2.1 11 = .ok (.ifCond .eq 16, 3) := by decide +kernel
theorem dRe_ors_14 : decode mRe_ors.2.1 14 = .ok (.aload_n 0, 1) := by decide +kernel
theorem dRe_ors_15 : decode mRe_ors.2.1 15 = .ok (.invokevirtual 261, 3) := by decide +kernel
theorem dRe_ors_18 : decode mRe_ors.2.1 18 = .ok (.aload_n 0, 1) := by decide +kernel
theorem dRe_ors_19 : decode mRe_ors.2.1 19 = .ok (.bipush 19, 2) := by decide +kernel
theorem dRe_ors_21 : decode mRe_ors.2.1 21 = .ok (.invokevirtual 243, 3) := by decide +kernel
theorem dRe_ors_24 : decode mRe_ors.2.1 24 = .ok (.goto (-20), 3) := by decide +kernel
theorem dRe_ors_27 : decode mRe_ors.2.1 27 = .ok (.return_, 1) := by decide +kernel
def mRe_ands : MR := (⟨"BowingRowModel", "ands", "()V"⟩, prog_14_method_33_code, 1, none)
theorem oRe_ands : MOK mRe_ands 0 := ⟨lwg_of 1588 (by decide +kernel) (by decide +kernel), lwg_of 103 (by decide +kernel) (by decide +kernel), ⟨by decide +kernel, by decide +kernel⟩, by decide +kernel, by decide⟩
theorem iRe_ands : Cond.instanceMethod mRe_ands.1 ∈ lwg := lwg_of 1587 (by decide +kernel) (by decide +kernel)
theorem sRe_ands : Cond.selects mRe_ands.1.cls mRe_ands.1 mRe_ands.1 ∈ lwg := lwg_of 60 (by decide +kernel) (by decide +kernel)
theorem w1585 : Cond.methodLink "BowingRowModel" 261 ⟨"BowingRowModel", "ands", "()V"⟩ ∈ lwg := lwg_of 1585 (by decide +kernel) (by decide +kernel)
theorem bRe_ors_0 {l : Launch} {G : Gx} {d : Nat} {bc bs : Nat} {Φ : OutV → Mm → Prop} (M : Mm) (a0 : Nat)
    (h : ((m_sh M a0).1 = 11) ∧ CallVC l G d mRe_ors 4 [.ref a0] [] mRe_ands [.ref a0] M bc bs Φ) :
    Ev l G d mRe_ors 0 [.ref a0] [] M bc bs Φ := by
  refine Ev.aload_n dRe_ors_0 rfl ?_
  have g1 := h.1
  replace h := h.2
  exact Ev.vcV (z := mRe_ands) (ci := 11) [] [] rfl dRe_ors_1 oRe_ands rfl w1585 iRe_ands sRe_ands (by decide) rfl g1 (Nat.le_of_ble_eq_true rfl) h
theorem w1597 : Cond.constantLong "BowingRowModel" 264 423 ∈ lwg := lwg_of 1597 (by decide +kernel) (by decide +kernel)
def mRe_eats : MR := (⟨"BowingRowModel", "eats", "(J)Z"⟩, prog_14_method_15_code, 3, (Option.some .boolean))
theorem oRe_eats : MOK mRe_eats 1 := ⟨lwg_of 1596 (by decide +kernel) (by decide +kernel), lwg_of 103 (by decide +kernel) (by decide +kernel), ⟨by decide +kernel, by decide +kernel⟩, by decide +kernel, by decide⟩
theorem iRe_eats : Cond.instanceMethod mRe_eats.1 ∈ lwg := lwg_of 1595 (by decide +kernel) (by decide +kernel)
theorem sRe_eats : Cond.selects mRe_eats.1.cls mRe_eats.1 mRe_eats.1 ∈ lwg := lwg_of 62 (by decide +kernel) (by decide +kernel)
theorem w1593 : Cond.methodLink "BowingRowModel" 266 ⟨"BowingRowModel", "eats", "(J)Z"⟩ ∈ lwg := lwg_of 1593 (by decide +kernel) (by decide +kernel)
theorem bRe_ors_4 {l : Launch} {G : Gx} {d : Nat} {bc bs : Nat} {Φ : OutV → Mm → Prop} (M : Mm) (a0 : Nat)
    (h : ((m_sh M a0).1 = 11) ∧ CallVC l G d mRe_ors 11 [.ref a0] [] mRe_eats [.ref a0, .long 423] M bc bs Φ) :
    Ev l G d mRe_ors 4 [.ref a0] [] M bc bs Φ := by
  refine Ev.aload_n dRe_ors_4 rfl ?_
  refine Ev.ldc2_w (v := 423) dRe_ors_5 w1597 ?_
  have g1 := h.1
  replace h := h.2
  exact Ev.vcV (z := mRe_eats) (ci := 11) [.long 423] [] rfl dRe_ors_8 oRe_eats rfl w1593 iRe_eats sRe_eats (by decide) rfl g1 (Nat.le_of_ble_eq_true rfl) h
theorem bRe_ors_11 {l : Launch} {G : Gx} {d : Nat} {bc bs : Nat} {Φ : OutV → Mm → Prop} (M : Mm) (a0 : Nat) (s0 : Int32)
    (h : (s0 = 0 → Φ (.inl none) M) ∧ (¬ s0 = 0 → ((m_sh M a0).1 = 11) ∧ CallVC l G d mRe_ors 18 [.ref a0] [] mRe_ands [.ref a0] M bc bs Φ)) :
    Ev l G d mRe_ors 11 [.ref a0] [.int s0] M bc bs Φ := by
  refine Ev.if_eq 27 (by decide) dRe_ors_11 (fun c => ?_) (fun c => ?_)
  · replace h := h.1 c
    exact Ev.vret dRe_ors_27 rfl h
  · replace h := h.2 c
    refine Ev.aload_n dRe_ors_14 rfl ?_
    have g1 := h.1
    replace h := h.2
    exact Ev.vcV (z := mRe_ands) (ci := 11) [] [] rfl dRe_ors_15 oRe_ands rfl w1585 iRe_ands sRe_ands (by decide) rfl g1 (Nat.le_of_ble_eq_true rfl) h
theorem bRe_ors_18 {l : Launch} {G : Gx} {d : Nat} {bc bs : Nat} {Φ : OutV → Mm → Prop} (M : Mm) (a0 : Nat)
    (h : ((m_sh M a0).1 = 11) ∧ CallVC l G d mRe_ors 24 [.ref a0] [] mRe_tells [.ref a0, .int 19] M bc bs Φ) :
    Ev l G d mRe_ors 18 [.ref a0] [] M bc bs Φ := by
  refine Ev.aload_n dRe_ors_18 rfl ?_
  refine Ev.bipush (v := 19) dRe_ors_19 (by decide) ?_
  have g1 := h.1
  replace h := h.2
  exact Ev.vcV (z := mRe_tells) (ci := 11) [.int 19] [] rfl dRe_ors_21 oRe_tells rfl w1573 iRe_tells sRe_tells (by decide) rfl g1 (Nat.le_of_ble_eq_true rfl) h
theorem bRe_ors_24 {l : Launch} {G : Gx} {d : Nat} {bc bs : Nat} {Φ : OutV → Mm → Prop} (M : Mm) (a0 : Nat)
    (h : Ev l G d mRe_ors 4 [.ref a0] [] M bc bs Φ) :
    Ev l G d mRe_ors 24 [.ref a0] [] M bc bs Φ := by
  refine Ev.goto 4 dRe_ors_24 (by decide) ?_
  exact h
theorem dRe_ands_0 : decode mRe_ands.2.1 0 = .ok (.aload_n 0, 1) := by decide +kernel
theorem dRe_ands_1 : decode mRe_ands.2.1 1 = .ok (.invokevirtual 269, 3) := by decide +kernel
theorem dRe_ands_4 : decode mRe_ands.2.1 4 = .ok (.aload_n 0, 1) := by decide +kernel
theorem dRe_ands_5 : decode mRe_ands.2.1 5 = .ok (.iconst 1, 1) := by decide +kernel
theorem dRe_ands_6 : decode mRe_ands.2.1 6 = .ok (.bipush 14, 2) := by decide +kernel
theorem dRe_ands_8 : decode mRe_ands.2.1 8 = .ok (.iconst 4, 1) := by decide +kernel
theorem dRe_ands_9 : decode mRe_ands.2.1 9 = .ok (.iconst 0, 1) := by decide +kernel
theorem dRe_ands_10 : decode mRe_ands.2.1 10 = .ok (.iconst 0, 1) := by decide +kernel
theorem dRe_ands_11 : decode mRe_ands.2.1 11 = .ok (.invokestatic 176, 3) := by decide +kernel
theorem dRe_ands_14 : decode mRe_ands.2.1 14 = .ok (.invokevirtual 266, 3) := by decide +kernel
theorem dRe_ands_17 : decode mRe_ands.2.1 17 = .ok (.ifCond .eq 16, 3) := by decide +kernel
theorem dRe_ands_20 : decode mRe_ands.2.1 20 = .ok (.aload_n 0, 1) := by decide +kernel
theorem dRe_ands_21 : decode mRe_ands.2.1 21 = .ok (.invokevirtual 269, 3) := by decide +kernel
theorem dRe_ands_24 : decode mRe_ands.2.1 24 = .ok (.aload_n 0, 1) := by decide +kernel
theorem dRe_ands_25 : decode mRe_ands.2.1 25 = .ok (.bipush 18, 2) := by decide +kernel
theorem dRe_ands_27 : decode mRe_ands.2.1 27 = .ok (.invokevirtual 243, 3) := by decide +kernel
theorem dRe_ands_30 : decode mRe_ands.2.1 30 = .ok (.goto (-26), 3) := by decide +kernel
theorem dRe_ands_33 : decode mRe_ands.2.1 33 = .ok (.return_, 1) := by decide +kernel
def mRe_asked : MR := (⟨"BowingRowModel", "asked", "()V"⟩, prog_14_method_34_code, 2, none)
theorem oRe_asked : MOK mRe_asked 0 := ⟨lwg_of 1592 (by decide +kernel) (by decide +kernel), lwg_of 103 (by decide +kernel) (by decide +kernel), ⟨by decide +kernel, by decide +kernel⟩, by decide +kernel, by decide⟩
theorem iRe_asked : Cond.instanceMethod mRe_asked.1 ∈ lwg := lwg_of 1591 (by decide +kernel) (by decide +kernel)
theorem sRe_asked : Cond.selects mRe_asked.1.cls mRe_asked.1 mRe_asked.1 ∈ lwg := lwg_of 61 (by decide +kernel) (by decide +kernel)
theorem w1589 : Cond.methodLink "BowingRowModel" 269 ⟨"BowingRowModel", "asked", "()V"⟩ ∈ lwg := lwg_of 1589 (by decide +kernel) (by decide +kernel)
theorem bRe_ands_0 {l : Launch} {G : Gx} {d : Nat} {bc bs : Nat} {Φ : OutV → Mm → Prop} (M : Mm) (a0 : Nat)
    (h : ((m_sh M a0).1 = 11) ∧ CallVC l G d mRe_ands 4 [.ref a0] [] mRe_asked [.ref a0] M bc bs Φ) :
    Ev l G d mRe_ands 0 [.ref a0] [] M bc bs Φ := by
  refine Ev.aload_n dRe_ands_0 rfl ?_
  have g1 := h.1
  replace h := h.2
  exact Ev.vcV (z := mRe_asked) (ci := 11) [] [] rfl dRe_ands_1 oRe_asked rfl w1589 iRe_asked sRe_asked (by decide) rfl g1 (Nat.le_of_ble_eq_true rfl) h
theorem bRe_ands_4 {l : Launch} {G : Gx} {d : Nat} {bc bs : Nat} {Φ : OutV → Mm → Prop} (M : Mm) (a0 : Nat)
    (h : CallVC l G d mRe_ands 14 [.ref a0] [.ref a0] mRe_five [.int 1, .int 14, .int 4, .int 0, .int 0] M bc bs Φ) :
    Ev l G d mRe_ands 4 [.ref a0] [] M bc bs Φ := by
  refine Ev.aload_n dRe_ands_4 rfl ?_
  refine Ev.iconst (v := 1) dRe_ands_5 (by decide) ?_
  refine Ev.bipush (v := 14) dRe_ands_6 (by decide) ?_
  refine Ev.iconst (v := 4) dRe_ands_8 (by decide) ?_
  refine Ev.iconst (v := 0) dRe_ands_9 (by decide) ?_
  refine Ev.iconst (v := 0) dRe_ands_10 (by decide) ?_
  exact Ev.vcS (z := mRe_five) [.int 1, .int 14, .int 4, .int 0, .int 0] [.ref a0] rfl dRe_ands_11 oRe_five rfl w1500 iRe_five (Nat.le_of_ble_eq_true rfl) h
theorem bRe_ands_14 {l : Launch} {G : Gx} {d : Nat} {bc bs : Nat} {Φ : OutV → Mm → Prop} (M : Mm) (a0 : Nat) (r0 : Nat) (w1 : Int64)
    (h : ((m_sh M r0).1 = 11) ∧ CallVC l G d mRe_ands 17 [.ref a0] [] mRe_eats [.ref r0, .long w1] M bc bs Φ) :
    Ev l G d mRe_ands 14 [.ref a0] [.long w1, .ref r0] M bc bs Φ := by
  have g1 := h.1
  replace h := h.2
  exact Ev.vcV (z := mRe_eats) (ci := 11) [.long w1] [] rfl dRe_ands_14 oRe_eats rfl w1593 iRe_eats sRe_eats (by decide) rfl g1 (Nat.le_of_ble_eq_true rfl) h
theorem bRe_ands_17 {l : Launch} {G : Gx} {d : Nat} {bc bs : Nat} {Φ : OutV → Mm → Prop} (M : Mm) (a0 : Nat) (s0 : Int32)
    (h : (s0 = 0 → Φ (.inl none) M) ∧ (¬ s0 = 0 → ((m_sh M a0).1 = 11) ∧ CallVC l G d mRe_ands 24 [.ref a0] [] mRe_asked [.ref a0] M bc bs Φ)) :
    Ev l G d mRe_ands 17 [.ref a0] [.int s0] M bc bs Φ := by
  refine Ev.if_eq 33 (by decide) dRe_ands_17 (fun c => ?_) (fun c => ?_)
  · replace h := h.1 c
    exact Ev.vret dRe_ands_33 rfl h
  · replace h := h.2 c
    refine Ev.aload_n dRe_ands_20 rfl ?_
    have g1 := h.1
    replace h := h.2
    exact Ev.vcV (z := mRe_asked) (ci := 11) [] [] rfl dRe_ands_21 oRe_asked rfl w1589 iRe_asked sRe_asked (by decide) rfl g1 (Nat.le_of_ble_eq_true rfl) h
theorem bRe_ands_24 {l : Launch} {G : Gx} {d : Nat} {bc bs : Nat} {Φ : OutV → Mm → Prop} (M : Mm) (a0 : Nat)
    (h : ((m_sh M a0).1 = 11) ∧ CallVC l G d mRe_ands 30 [.ref a0] [] mRe_tells [.ref a0, .int 18] M bc bs Φ) :
    Ev l G d mRe_ands 24 [.ref a0] [] M bc bs Φ := by
  refine Ev.aload_n dRe_ands_24 rfl ?_
  refine Ev.bipush (v := 18) dRe_ands_25 (by decide) ?_
  have g1 := h.1
  replace h := h.2
  exact Ev.vcV (z := mRe_tells) (ci := 11) [.int 18] [] rfl dRe_ands_27 oRe_tells rfl w1573 iRe_tells sRe_tells (by decide) rfl g1 (Nat.le_of_ble_eq_true rfl) h
theorem bRe_ands_30 {l : Launch} {G : Gx} {d : Nat} {bc bs : Nat} {Φ : OutV → Mm → Prop} (M : Mm) (a0 : Nat)
    (h : Ev l G d mRe_ands 4 [.ref a0] [] M bc bs Φ) :
    Ev l G d mRe_ands 30 [.ref a0] [] M bc bs Φ := by
  refine Ev.goto 4 dRe_ands_30 (by decide) ?_
  exact h
