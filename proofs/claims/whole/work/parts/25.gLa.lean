theorem dLa_readSum_0 : decode mLa_readSum.2.1 0 = .ok (.iload_n 2, 1) := by decide +kernel
theorem dLa_readSum_1 : decode mLa_readSum.2.1 1 = .ok (.bipush 43, 2) := by decide +kernel
theorem dLa_readSum_3 : decode mLa_readSum.2.1 3 = .ok (.if_icmp .ne 17, 3) := by decide +kernel
theorem dLa_readSum_6 : decode mLa_readSum.2.1 6 = .ok (.aload_n 0, 1) := by decide +kernel
theorem dLa_readSum_7 : decode mLa_readSum.2.1 7 = .ok (.aload_n 1, 1) := by decide +kernel
theorem dLa_readSum_8 : decode mLa_readSum.2.1 8 = .ok (.bipush 42, 2) := by decide +kernel
theorem dLa_readSum_10 : decode mLa_readSum.2.1 10 = .ok (.bipush 47, 2) := by decide +kernel
theorem dLa_readSum_12 : decode mLa_readSum.2.1 12 = .ok (.iload 4, 2) := by decide +kernel
theorem dLa_readSum_14 : decode mLa_readSum.2.1 14 = .ok (.invokevirtual 77, 3) := by decide +kernel
theorem dLa_readSum_17 : decode mLa_readSum.2.1 17 = .ok (.goto 10, 3) := by decide +kernel
theorem dLa_readSum_20 : decode mLa_readSum.2.1 20 = .ok (.aload_n 0, 1) := by decide +kernel
theorem dLa_readSum_21 : decode mLa_readSum.2.1 21 = .ok (.aload_n 1, 1) := by decide +kernel
theorem dLa_readSum_22 : decode mLa_readSum.2.1 22 = .ok (.iload 4, 2) := by decide +kernel
theorem dLa_readSum_24 : decode mLa_readSum.2.1 24 = .ok (.invokevirtual 117, 3) := by decide +kernel
theorem dLa_readSum_27 : decode mLa_readSum.2.1 27 = .ok (.istore 5, 2) := by decide +kernel
theorem dLa_readSum_29 : decode mLa_readSum.2.1 29 = .ok (.aload_n 1, 1) := by decide +kernel
theorem dLa_readSum_30 : decode mLa_readSum.2.1 30 = .ok (.invokevirtual 109, 3) := by decide +kernel
theorem dLa_readSum_33 : decode mLa_readSum.2.1 33 = .ok (.istore 6, 2) := by decide +kernel
theorem dLa_readSum_35 : decode mLa_readSum.2.1 35 = .ok (.iconst 0, 1) := by decide +kernel
theorem dLa_readSum_36 : decode mLa_readSum.2.1 36 = .ok (.istore 7, 2) := by decide +kernel
theorem dLa_readSum_38 : decode mLa_readSum.2.1 38 = .ok (.iload 7, 2) := by decide +kernel
theorem dLa_readSum_40 : decode mLa_readSum.2.1 40 = .ok (.sipush 500, 3) := by decide +kernel
theorem dLa_readSum_43 : decode mLa_readSum.2.1 43 = .ok (.if_icmp .ge 74, 3) := by decide +kernel
theorem dLa_readSum_46 : decode mLa_readSum.2.1 46 = .ok (.iload 5, 2) := by decide +kernel
theorem dLa_readSum_48 : decode mLa_readSum.2.1 48 = .ok (.ifCond .eq 69, 3) := by decide +kernel
theorem dLa_readSum_51 : decode mLa_readSum.2.1 51 = .ok (.iload 6, 2) := by decide +kernel
theorem dLa_readSum_53 : decode mLa_readSum.2.1 53 = .ok (.iload_n 2, 1) := by decide +kernel
theorem dLa_readSum_54 : decode mLa_readSum.2.1 54 = .ok (.if_icmp .eq 9, 3) := by decide +kernel
theorem dLa_readSum_57 : decode mLa_readSum.2.1 57 = .ok (.iload 6, 2) := by decide +kernel
theorem dLa_readSum_59 : decode mLa_readSum.2.1 59 = .ok (.iload_n 3, 1) := by decide +kernel
theorem dLa_readSum_60 : decode mLa_readSum.2.1 60 = .ok (.if_icmp .ne 57, 3) := by decide +kernel
theorem dLa_readSum_63 : decode mLa_readSum.2.1 63 = .ok (.aload_n 1, 1) := by decide +kernel
theorem dLa_readSum_64 : decode mLa_readSum.2.1 64 = .ok (.invokevirtual 60, 3) := by decide +kernel
theorem dLa_readSum_67 : decode mLa_readSum.2.1 67 = .ok (.iload_n 2, 1) := by decide +kernel
theorem dLa_readSum_68 : decode mLa_readSum.2.1 68 = .ok (.bipush 43, 2) := by decide +kernel
theorem dLa_readSum_70 : decode mLa_readSum.2.1 70 = .ok (.if_icmp .ne 17, 3) := by decide +kernel
theorem dLa_readSum_73 : decode mLa_readSum.2.1 73 = .ok (.aload_n 0, 1) := by decide +kernel
theorem dLa_readSum_74 : decode mLa_readSum.2.1 74 = .ok (.aload_n 1, 1) := by decide +kernel
theorem dLa_readSum_75 : decode mLa_readSum.2.1 75 = .ok (.bipush 42, 2) := by decide +kernel
theorem dLa_readSum_77 : decode mLa_readSum.2.1 77 = .ok (.bipush 47, 2) := by decide +kernel
theorem dLa_readSum_79 : decode mLa_readSum.2.1 79 = .ok (.iload 4, 2) := by decide +kernel
theorem dLa_readSum_81 : decode mLa_readSum.2.1 81 = .ok (.invokevirtual 77, 3) := by decide +kernel
theorem dLa_readSum_84 : decode mLa_readSum.2.1 84 = .ok (.goto 10, 3) := by decide +kernel
theorem dLa_readSum_87 : decode mLa_readSum.2.1 87 = .ok (.aload_n 0, 1) := by decide +kernel
theorem dLa_readSum_88 : decode mLa_readSum.2.1 88 = .ok (.aload_n 1, 1) := by decide +kernel
theorem dLa_readSum_89 : decode mLa_readSum.2.1 89 = .ok (.iload 4, 2) := by decide +kernel
theorem dLa_readSum_91 : decode mLa_readSum.2.1 91 = .ok (.invokevirtual 117, 3) := by decide +kernel
theorem dLa_readSum_94 : decode mLa_readSum.2.1 94 = .ok (.istore 5, 2) := by decide +kernel
theorem dLa_readSum_96 : decode mLa_readSum.2.1 96 = .ok (.aload_n 0, 1) := by decide +kernel
theorem dLa_readSum_97 : decode mLa_readSum.2.1 97 = .ok (.iload 6, 2) := by decide +kernel
theorem dLa_readSum_99 : decode mLa_readSum.2.1 99 = .ok (.invokestatic 113, 3) := by decide +kernel
theorem dLa_readSum_102 : decode mLa_readSum.2.1 102 = .ok (.invokevirtual 102, 3) := by decide +kernel
theorem dLa_readSum_105 : decode mLa_readSum.2.1 105 = .ok (.aload_n 1, 1) := by decide +kernel
theorem dLa_readSum_106 : decode mLa_readSum.2.1 106 = .ok (.invokevirtual 109, 3) := by decide +kernel
theorem dLa_readSum_109 : decode mLa_readSum.2.1 109 = .ok (.istore 6, 2) := by decide +kernel
theorem dLa_readSum_111 : decode mLa_readSum.2.1 111 = .ok (.iinc 7 1, 3) := by decide +kernel
theorem dLa_readSum_114 : decode mLa_readSum.2.1 114 = .ok (.goto (-76), 3) := by decide +kernel
theorem dLa_readSum_117 : decode mLa_readSum.2.1 117 = .ok (.iload 5, 2) := by decide +kernel
theorem dLa_readSum_119 : decode mLa_readSum.2.1 119 = .ok (.ireturn, 1) := by decide +kernel
def mLa_readOperand : MR := (⟨"BowingRow$Law", "readOperand", "(LBowingRow$Tokens;I)Z"⟩, prog_6_method_8_code, 4, (Option.some .boolean))
theorem oLa_readOperand : MOK mLa_readOperand 2 := ⟨lwg_of 984 (by decide +kernel) (by decide +kernel), lwg_of 94 (by decide +kernel) (by decide +kernel), ⟨by decide +kernel, by decide +kernel⟩, by decide +kernel, by decide⟩
theorem iLa_readOperand : Cond.instanceMethod mLa_readOperand.1 ∈ lwg := lwg_of 983 (by decide +kernel) (by decide +kernel)
theorem sLa_readOperand : Cond.selects mLa_readOperand.1.cls mLa_readOperand.1 mLa_readOperand.1 ∈ lwg := lwg_of 27 (by decide +kernel) (by decide +kernel)
theorem w981 : Cond.methodLink "BowingRow$Law" 117 ⟨"BowingRow$Law", "readOperand", "(LBowingRow$Tokens;I)Z"⟩ ∈ lwg := lwg_of 981 (by decide +kernel) (by decide +kernel)
theorem bLa_readSum_0 {l : Launch} {G : Gx} {d : Nat} {bc bs : Nat} {Φ : OutV → Mm → Prop} (M : Mm) (a0 : Nat) (a1 : Nat) (x2 : Int32) (x3 : Int32) (x4 : Int32)
    (h : (¬ x2 = 43 → ((m_sh M a0).1 = 4) ∧ CallVC l G d mLa_readSum 27 [.ref a0, .ref a1, .int x2, .int x3, .int x4, .null, .null, .null] [] mLa_readOperand [.ref a0, .ref a1, .int x4] M bc bs Φ) ∧ (x2 = 43 → ((m_sh M a0).1 = 4) ∧ CallVC l G d mLa_readSum 17 [.ref a0, .ref a1, .int x2, .int x3, .int x4, .null, .null, .null] [] mLa_readSum [.ref a0, .ref a1, .int 42, .int 47, .int x4] M bc bs Φ)) :
    Ev l G d mLa_readSum 0 [.ref a0, .ref a1, .int x2, .int x3, .int x4, .null, .null, .null] [] M bc bs Φ := by
  refine Ev.iload_n dLa_readSum_0 rfl ?_
  refine Ev.bipush (v := 43) dLa_readSum_1 (by decide) ?_
  refine Ev.icmp_ne 20 (by decide) dLa_readSum_3 (fun c => ?_) (fun c => ?_)
  · replace h := h.1 c
    refine Ev.aload_n dLa_readSum_20 rfl ?_
    refine Ev.aload_n dLa_readSum_21 rfl ?_
    refine Ev.iload dLa_readSum_22 rfl ?_
    have g1 := h.1
    replace h := h.2
    exact Ev.vcV (z := mLa_readOperand) (ci := 4) [.ref a1, .int x4] [] rfl dLa_readSum_24 oLa_readOperand rfl w981 iLa_readOperand sLa_readOperand (by decide) rfl g1 (Nat.le_of_ble_eq_true rfl) h
  · replace h := h.2 c
    refine Ev.aload_n dLa_readSum_6 rfl ?_
    refine Ev.aload_n dLa_readSum_7 rfl ?_
    refine Ev.bipush (v := 42) dLa_readSum_8 (by decide) ?_
    refine Ev.bipush (v := 47) dLa_readSum_10 (by decide) ?_
    refine Ev.iload dLa_readSum_12 rfl ?_
    have g2 := h.1
    replace h := h.2
    exact Ev.vcV (z := mLa_readSum) (ci := 4) [.ref a1, .int 42, .int 47, .int x4] [] rfl dLa_readSum_14 oLa_readSum rfl w977 iLa_readSum sLa_readSum (by decide) rfl g2 (Nat.le_of_ble_eq_true rfl) h
theorem bLa_readSum_17 {l : Launch} {G : Gx} {d : Nat} {bc bs : Nat} {Φ : OutV → Mm → Prop} (M : Mm) (a0 : Nat) (a1 : Nat) (x2 : Int32) (x3 : Int32) (x4 : Int32) (u5 : Value) (u6 : Value) (u7 : Value) (s0 : Int32)
    (h : Ev l G d mLa_readSum 27 [.ref a0, .ref a1, .int x2, .int x3, .int x4, u5, u6, u7] [.int s0] M bc bs Φ) :
    Ev l G d mLa_readSum 17 [.ref a0, .ref a1, .int x2, .int x3, .int x4, u5, u6, u7] [.int s0] M bc bs Φ := by
  refine Ev.goto 27 dLa_readSum_17 (by decide) ?_
  exact h
theorem bLa_readSum_27 {l : Launch} {G : Gx} {d : Nat} {bc bs : Nat} {Φ : OutV → Mm → Prop} (M : Mm) (a0 : Nat) (a1 : Nat) (x2 : Int32) (x3 : Int32) (x4 : Int32) (u5 : Value) (u6 : Value) (u7 : Value) (s0 : Int32)
    (h : ((m_sh M a1).1 = 8) ∧ CallVC l G d mLa_readSum 33 [.ref a0, .ref a1, .int x2, .int x3, .int x4, .int s0, u6, u7] [] mTo_signHere [.ref a1] M bc bs Φ) :
    Ev l G d mLa_readSum 27 [.ref a0, .ref a1, .int x2, .int x3, .int x4, u5, u6, u7] [.int s0] M bc bs Φ := by
  refine Ev.istore dLa_readSum_27 (by decide) ?_
  show Ev l G d mLa_readSum (_ + _) [.ref a0, .ref a1, .int x2, .int x3, .int x4, .int s0, u6, u7] [] M bc bs Φ
  refine Ev.aload_n dLa_readSum_29 rfl ?_
  have g1 := h.1
  replace h := h.2
  exact Ev.vcV (z := mTo_signHere) (ci := 8) [] [] rfl dLa_readSum_30 oTo_signHere rfl w968 iTo_signHere sTo_signHere (by decide) rfl g1 (Nat.le_of_ble_eq_true rfl) h
theorem bLa_readSum_33 {l : Launch} {G : Gx} {d : Nat} {bc bs : Nat} {Φ : OutV → Mm → Prop} (M : Mm) (a0 : Nat) (a1 : Nat) (x2 : Int32) (x3 : Int32) (x4 : Int32) (x5 : Int32) (u6 : Value) (u7 : Value) (s0 : Int32)
    (h : Ev l G d mLa_readSum 38 [.ref a0, .ref a1, .int x2, .int x3, .int x4, .int x5, .int s0, .int 0] [] M bc bs Φ) :
    Ev l G d mLa_readSum 33 [.ref a0, .ref a1, .int x2, .int x3, .int x4, .int x5, u6, u7] [.int s0] M bc bs Φ := by
  refine Ev.istore dLa_readSum_33 (by decide) ?_
  show Ev l G d mLa_readSum (_ + _) [.ref a0, .ref a1, .int x2, .int x3, .int x4, .int x5, .int s0, u7] [] M bc bs Φ
  refine Ev.iconst (v := 0) dLa_readSum_35 (by decide) ?_
  refine Ev.istore dLa_readSum_36 (by decide) ?_
  show Ev l G d mLa_readSum (_ + _) [.ref a0, .ref a1, .int x2, .int x3, .int x4, .int x5, .int s0, .int 0] [] M bc bs Φ
  exact h
theorem bLa_readSum_38 {l : Launch} {G : Gx} {d : Nat} {bc bs : Nat} {Φ : OutV → Mm → Prop} (M : Mm) (a0 : Nat) (a1 : Nat) (x2 : Int32) (x3 : Int32) (x4 : Int32) (x5 : Int32) (x6 : Int32) (x7 : Int32)
    (h : (500 ≤ x7 → (narrow .boolean (.int x5) = .int x5) ∧ Φ (.inl (some (.int x5))) M) ∧ (¬ 500 ≤ x7 → (x5 = 0 → (narrow .boolean (.int x5) = .int x5) ∧ Φ (.inl (some (.int x5))) M) ∧ (¬ x5 = 0 → (x6 = x2 → Ev l G d mLa_readSum 63 [.ref a0, .ref a1, .int x2, .int x3, .int x4, .int x5, .int x6, .int x7] [] M bc bs Φ) ∧ (¬ x6 = x2 → (¬ x6 = x3 → (narrow .boolean (.int x5) = .int x5) ∧ Φ (.inl (some (.int x5))) M) ∧ (x6 = x3 → Ev l G d mLa_readSum 63 [.ref a0, .ref a1, .int x2, .int x3, .int x4, .int x5, .int x6, .int x7] [] M bc bs Φ))))) :
    Ev l G d mLa_readSum 38 [.ref a0, .ref a1, .int x2, .int x3, .int x4, .int x5, .int x6, .int x7] [] M bc bs Φ := by
  refine Ev.iload dLa_readSum_38 rfl ?_
  refine Ev.sipush (v := 500) dLa_readSum_40 (by decide) ?_
  refine Ev.icmp_ge 117 (by decide) dLa_readSum_43 (fun c => ?_) (fun c => ?_)
  · replace h := h.1 c
    refine Ev.iload dLa_readSum_117 rfl ?_
    have g1 := h.1
    replace h := h.2
    exact Ev.iret dLa_readSum_119 rfl g1 h
  · replace h := h.2 c
    refine Ev.iload dLa_readSum_46 rfl ?_
    refine Ev.if_eq 117 (by decide) dLa_readSum_48 (fun c => ?_) (fun c => ?_)
    · replace h := h.1 c
      refine Ev.iload dLa_readSum_117 rfl ?_
      have g2 := h.1
      replace h := h.2
      exact Ev.iret dLa_readSum_119 rfl g2 h
    · replace h := h.2 c
      refine Ev.iload dLa_readSum_51 rfl ?_
      refine Ev.iload_n dLa_readSum_53 rfl ?_
      refine Ev.icmp_eq 63 (by decide) dLa_readSum_54 (fun c => ?_) (fun c => ?_)
      · replace h := h.1 c
        exact h
      · replace h := h.2 c
        refine Ev.iload dLa_readSum_57 rfl ?_
        refine Ev.iload_n dLa_readSum_59 rfl ?_
        refine Ev.icmp_ne 117 (by decide) dLa_readSum_60 (fun c => ?_) (fun c => ?_)
        · replace h := h.1 c
          refine Ev.iload dLa_readSum_117 rfl ?_
          have g3 := h.1
          replace h := h.2
          exact Ev.iret dLa_readSum_119 rfl g3 h
        · replace h := h.2 c
          exact h
theorem bLa_readSum_63 {l : Launch} {G : Gx} {d : Nat} {bc bs : Nat} {Φ : OutV → Mm → Prop} (M : Mm) (a0 : Nat) (a1 : Nat) (x2 : Int32) (x3 : Int32) (x4 : Int32) (x5 : Int32) (x6 : Int32) (x7 : Int32)
    (h : ((m_sh M a1).1 = 8) ∧ CallVC l G d mLa_readSum 67 [.ref a0, .ref a1, .int x2, .int x3, .int x4, .int x5, .int x6, .int x7] [] mTo_goOn [.ref a1] M bc bs Φ) :
    Ev l G d mLa_readSum 63 [.ref a0, .ref a1, .int x2, .int x3, .int x4, .int x5, .int x6, .int x7] [] M bc bs Φ := by
  refine Ev.aload_n dLa_readSum_63 rfl ?_
  have g1 := h.1
  replace h := h.2
  exact Ev.vcV (z := mTo_goOn) (ci := 8) [] [] rfl dLa_readSum_64 oTo_goOn rfl w951 iTo_goOn sTo_goOn (by decide) rfl g1 (Nat.le_of_ble_eq_true rfl) h
theorem bLa_readSum_67 {l : Launch} {G : Gx} {d : Nat} {bc bs : Nat} {Φ : OutV → Mm → Prop} (M : Mm) (a0 : Nat) (a1 : Nat) (x2 : Int32) (x3 : Int32) (x4 : Int32) (x5 : Int32) (x6 : Int32) (x7 : Int32)
    (h : (¬ x2 = 43 → ((m_sh M a0).1 = 4) ∧ CallVC l G d mLa_readSum 94 [.ref a0, .ref a1, .int x2, .int x3, .int x4, .int x5, .int x6, .int x7] [] mLa_readOperand [.ref a0, .ref a1, .int x4] M bc bs Φ) ∧ (x2 = 43 → ((m_sh M a0).1 = 4) ∧ CallVC l G d mLa_readSum 84 [.ref a0, .ref a1, .int x2, .int x3, .int x4, .int x5, .int x6, .int x7] [] mLa_readSum [.ref a0, .ref a1, .int 42, .int 47, .int x4] M bc bs Φ)) :
    Ev l G d mLa_readSum 67 [.ref a0, .ref a1, .int x2, .int x3, .int x4, .int x5, .int x6, .int x7] [] M bc bs Φ := by
  refine Ev.iload_n dLa_readSum_67 rfl ?_
  refine Ev.bipush (v := 43) dLa_readSum_68 (by decide) ?_
  refine Ev.icmp_ne 87 (by decide) dLa_readSum_70 (fun c => ?_) (fun c => ?_)
  · replace h := h.1 c
    refine Ev.aload_n dLa_readSum_87 rfl ?_
    refine Ev.aload_n dLa_readSum_88 rfl ?_
    refine Ev.iload dLa_readSum_89 rfl ?_
    have g1 := h.1
    replace h := h.2
    exact Ev.vcV (z := mLa_readOperand) (ci := 4) [.ref a1, .int x4] [] rfl dLa_readSum_91 oLa_readOperand rfl w981 iLa_readOperand sLa_readOperand (by decide) rfl g1 (Nat.le_of_ble_eq_true rfl) h
  · replace h := h.2 c
    refine Ev.aload_n dLa_readSum_73 rfl ?_
    refine Ev.aload_n dLa_readSum_74 rfl ?_
    refine Ev.bipush (v := 42) dLa_readSum_75 (by decide) ?_
    refine Ev.bipush (v := 47) dLa_readSum_77 (by decide) ?_
    refine Ev.iload dLa_readSum_79 rfl ?_
    have g2 := h.1
    replace h := h.2
    exact Ev.vcV (z := mLa_readSum) (ci := 4) [.ref a1, .int 42, .int 47, .int x4] [] rfl dLa_readSum_81 oLa_readSum rfl w977 iLa_readSum sLa_readSum (by decide) rfl g2 (Nat.le_of_ble_eq_true rfl) h
theorem bLa_readSum_84 {l : Launch} {G : Gx} {d : Nat} {bc bs : Nat} {Φ : OutV → Mm → Prop} (M : Mm) (a0 : Nat) (a1 : Nat) (x2 : Int32) (x3 : Int32) (x4 : Int32) (x5 : Int32) (x6 : Int32) (x7 : Int32) (s0 : Int32)
    (h : Ev l G d mLa_readSum 94 [.ref a0, .ref a1, .int x2, .int x3, .int x4, .int x5, .int x6, .int x7] [.int s0] M bc bs Φ) :
    Ev l G d mLa_readSum 84 [.ref a0, .ref a1, .int x2, .int x3, .int x4, .int x5, .int x6, .int x7] [.int s0] M bc bs Φ := by
  refine Ev.goto 94 dLa_readSum_84 (by decide) ?_
  exact h
theorem bLa_readSum_94 {l : Launch} {G : Gx} {d : Nat} {bc bs : Nat} {Φ : OutV → Mm → Prop} (M : Mm) (a0 : Nat) (a1 : Nat) (x2 : Int32) (x3 : Int32) (x4 : Int32) (x5 : Int32) (x6 : Int32) (x7 : Int32) (s0 : Int32)
    (h : CallVC l G d mLa_readSum 102 [.ref a0, .ref a1, .int x2, .int x3, .int x4, .int s0, .int x6, .int x7] [.ref a0] mLa_stepFor [.int x6] M bc bs Φ) :
    Ev l G d mLa_readSum 94 [.ref a0, .ref a1, .int x2, .int x3, .int x4, .int x5, .int x6, .int x7] [.int s0] M bc bs Φ := by
  refine Ev.istore dLa_readSum_94 (by decide) ?_
  show Ev l G d mLa_readSum (_ + _) [.ref a0, .ref a1, .int x2, .int x3, .int x4, .int s0, .int x6, .int x7] [] M bc bs Φ
  refine Ev.aload_n dLa_readSum_96 rfl ?_
  refine Ev.iload dLa_readSum_97 rfl ?_
  exact Ev.vcS (z := mLa_stepFor) [.int x6] [.ref a0] rfl dLa_readSum_99 oLa_stepFor rfl w986 iLa_stepFor (Nat.le_of_ble_eq_true rfl) h
theorem bLa_readSum_102 {l : Launch} {G : Gx} {d : Nat} {bc bs : Nat} {Φ : OutV → Mm → Prop} (M : Mm) (a0 : Nat) (a1 : Nat) (x2 : Int32) (x3 : Int32) (x4 : Int32) (x5 : Int32) (x6 : Int32) (x7 : Int32) (r0 : Nat) (s1 : Int32)
    (h : ((m_sh M r0).1 = 4) ∧ CallVC l G d mLa_readSum 105 [.ref a0, .ref a1, .int x2, .int x3, .int x4, .int x5, .int x6, .int x7] [] mLa_addStep [.ref r0, .int s1] M bc bs Φ) :
    Ev l G d mLa_readSum 102 [.ref a0, .ref a1, .int x2, .int x3, .int x4, .int x5, .int x6, .int x7] [.int s1, .ref r0] M bc bs Φ := by
  have g1 := h.1
  replace h := h.2
  exact Ev.vcV (z := mLa_addStep) (ci := 4) [.int s1] [] rfl dLa_readSum_102 oLa_addStep rfl w972 iLa_addStep sLa_addStep (by decide) rfl g1 (Nat.le_of_ble_eq_true rfl) h
theorem bLa_readSum_105 {l : Launch} {G : Gx} {d : Nat} {bc bs : Nat} {Φ : OutV → Mm → Prop} (M : Mm) (a0 : Nat) (a1 : Nat) (x2 : Int32) (x3 : Int32) (x4 : Int32) (x5 : Int32) (x6 : Int32) (x7 : Int32)
    (h : ((m_sh M a1).1 = 8) ∧ CallVC l G d mLa_readSum 109 [.ref a0, .ref a1, .int x2, .int x3, .int x4, .int x5, .int x6, .int x7] [] mTo_signHere [.ref a1] M bc bs Φ) :
    Ev l G d mLa_readSum 105 [.ref a0, .ref a1, .int x2, .int x3, .int x4, .int x5, .int x6, .int x7] [] M bc bs Φ := by
  refine Ev.aload_n dLa_readSum_105 rfl ?_
  have g1 := h.1
  replace h := h.2
  exact Ev.vcV (z := mTo_signHere) (ci := 8) [] [] rfl dLa_readSum_106 oTo_signHere rfl w968 iTo_signHere sTo_signHere (by decide) rfl g1 (Nat.le_of_ble_eq_true rfl) h
theorem bLa_readSum_109 {l : Launch} {G : Gx} {d : Nat} {bc bs : Nat} {Φ : OutV → Mm → Prop} (M : Mm) (a0 : Nat) (a1 : Nat) (x2 : Int32) (x3 : Int32) (x4 : Int32) (x5 : Int32) (x6 : Int32) (x7 : Int32) (s0 : Int32)
    (h : Ev l G d mLa_readSum 38 [.ref a0, .ref a1, .int x2, .int x3, .int x4, .int x5, .int s0, .int (x7 + 1)] [] M bc bs Φ) :
    Ev l G d mLa_readSum 109 [.ref a0, .ref a1, .int x2, .int x3, .int x4, .int x5, .int x6, .int x7] [.int s0] M bc bs Φ := by
  refine Ev.istore dLa_readSum_109 (by decide) ?_
  show Ev l G d mLa_readSum (_ + _) [.ref a0, .ref a1, .int x2, .int x3, .int x4, .int x5, .int s0, .int x7] [] M bc bs Φ
  refine Ev.iinc (v := x7 + 1) dLa_readSum_111 (by decide) rfl rfl ?_
  show Ev l G d mLa_readSum (_ + _) [.ref a0, .ref a1, .int x2, .int x3, .int x4, .int x5, .int s0, .int (x7 + 1)] [] M bc bs Φ
  refine Ev.goto 38 dLa_readSum_114 (by decide) ?_
  exact h
theorem dLa_readOperand_0 : decode mLa_readOperand.2.1 0 = .ok (.aload_n 1, 1) := by decide +kernel
theorem dLa_readOperand_1 : decode mLa_readOperand.2.1 1 = .ok (.invokevirtual 109, 3) := by decide +kernel
theorem dLa_readOperand_4 : decode mLa_readOperand.2.1 4 = .ok (.bipush 40, 2) := by decide +kernel
theorem dLa_readOperand_6 : decode mLa_readOperand.2.1 6 = .ok (.if_icmp .ne 49, 3) := by decide +kernel
theorem dLa_readOperand_9 : decode mLa_readOperand.2.1 9 = .ok (.iload_n 2, 1) := by decide +kernel
theorem dLa_readOperand_10 : decode mLa_readOperand.2.1 10 = .ok (.bipush 6, 2) := by decide +kernel
theorem dLa_readOperand_12 : decode mLa_readOperand.2.1 12 = .ok (.if_icmp .lt 9, 3) := by decide +kernel
theorem dLa_readOperand_15 : decode mLa_readOperand.2.1 15 = .ok (.aload_n 1, 1) := by decide +kernel
theorem dLa_readOperand_16 : decode mLa_readOperand.2.1 16 = .ok (.iconst 3, 1) := by decide +kernel
theorem dLa_readOperand_17 : decode mLa_readOperand.2.1 17 = .ok (.invokevirtual 56, 3) := by decide +kernel
theorem dLa_readOperand_20 : decode mLa_readOperand.2.1 20 = .ok (.ireturn, 1) := by decide +kernel
theorem dLa_readOperand_21 : decode mLa_readOperand.2.1 21 = .ok (.aload_n 1, 1) := by decide +kernel
theorem dLa_readOperand_22 : decode mLa_readOperand.2.1 22 = .ok (.invokevirtual 60, 3) := by decide +kernel
theorem dLa_readOperand_25 : decode mLa_readOperand.2.1 25 = .ok (.aload_n 0, 1) := by decide +kernel
theorem dLa_readOperand_26 : decode mLa_readOperand.2.1 26 = .ok (.aload_n 1, 1) := by decide +kernel
theorem dLa_readOperand_27 : decode mLa_readOperand.2.1 27 = .ok (.bipush 43, 2) := by decide +kernel
theorem dLa_readOperand_29 : decode mLa_readOperand.2.1 29 = .ok (.bipush 45, 2) := by decide +kernel
theorem dLa_readOperand_31 : decode mLa_readOperand.2.1 31 = .ok (.iload_n 2, 1) := by decide +kernel
theorem dLa_readOperand_32 : decode mLa_readOperand.2.1 32 = .ok (.iconst 1, 1) := by decide +kernel
theorem dLa_readOperand_33 : decode mLa_readOperand.2.1 33 = .ok (.iadd, 1) := by decide +kernel
theorem dLa_readOperand_34 : decode mLa_readOperand.2.1 34 = .ok (.invokevirtual 77, 3) := by decide +kernel
theorem dLa_readOperand_37 : decode mLa_readOperand.2.1 37 = .ok (.ifCond .eq 16, 3) := by decide +kernel
theorem dLa_readOperand_40 : decode mLa_readOperand.2.1 40 = .ok (.aload_n 1, 1) := by decide +kernel
theorem dLa_readOperand_41 : decode mLa_readOperand.2.1 41 = .ok (.bipush 41, 2) := by decide +kernel
theorem dLa_readOperand_43 : decode mLa_readOperand.2.1 43 = .ok (.invokevirtual 91, 3) := by decide +kernel
theorem dLa_readOperand_46 : decode mLa_readOperand.2.1 46 = .ok (.ifCond .eq 7, 3) := by decide +kernel
theorem dLa_readOperand_49 : decode mLa_readOperand.2.1 49 = .ok (.iconst 1, 1) := by decide +kernel
theorem dLa_readOperand_50 : decode mLa_readOperand.2.1 50 = .ok (.goto 4, 3) := by decide +kernel
theorem dLa_readOperand_53 : decode mLa_readOperand.2.1 53 = .ok (.iconst 0, 1) := by decide +kernel
theorem dLa_readOperand_54 : decode mLa_readOperand.2.1 54 = .ok (.ireturn, 1) := by decide +kernel
theorem dLa_readOperand_55 : decode mLa_readOperand.2.1 55 = .ok (.aload_n 1, 1) := by decide +kernel
theorem dLa_readOperand_56 : decode mLa_readOperand.2.1 56 = .ok (.invokevirtual 47, 3) := by decide +kernel
theorem dLa_readOperand_59 : decode mLa_readOperand.2.1 59 = .ok (.getfield 51, 3) := by decide +kernel
theorem dLa_readOperand_62 : decode mLa_readOperand.2.1 62 = .ok (.istore_n 3, 1) := by decide +kernel
theorem dLa_readOperand_63 : decode mLa_readOperand.2.1 63 = .ok (.iload_n 3, 1) := by decide +kernel
theorem dLa_readOperand_64 : decode mLa_readOperand.2.1 64 = .ok (.ifCond .ge 10, 3) := by decide +kernel
theorem dLa_readOperand_67 : decode mLa_readOperand.2.1 67 = .ok (.aload_n 1, 1) := by decide +kernel
theorem dLa_readOperand_68 : decode mLa_readOperand.2.1 68 = .ok (.invokevirtual 60, 3) := by decide +kernel
theorem dLa_readOperand_71 : decode mLa_readOperand.2.1 71 = .ok (.goto 19, 3) := by decide +kernel
theorem dLa_readOperand_74 : decode mLa_readOperand.2.1 74 = .ok (.aload_n 1, 1) := by decide +kernel
theorem dLa_readOperand_75 : decode mLa_readOperand.2.1 75 = .ok (.iconst 0, 1) := by decide +kernel
theorem dLa_readOperand_76 : decode mLa_readOperand.2.1 76 = .ok (.sipush 9999, 3) := by decide +kernel
theorem dLa_readOperand_79 : decode mLa_readOperand.2.1 79 = .ok (.invokevirtual 87, 3) := by decide +kernel
theorem dLa_readOperand_82 : decode mLa_readOperand.2.1 82 = .ok (.istore_n 3, 1) := by decide +kernel
theorem dLa_readOperand_83 : decode mLa_readOperand.2.1 83 = .ok (.iload_n 3, 1) := by decide +kernel
theorem dLa_readOperand_84 : decode mLa_readOperand.2.1 84 = .ok (.iconst (-1), 1) := by decide +kernel
theorem dLa_readOperand_85 : decode mLa_readOperand.2.1 85 = .ok (.if_icmp .ne 5, 3) := by decide +kernel
theorem dLa_readOperand_88 : decode mLa_readOperand.2.1 88 = .ok (.iconst 0, 1) := by decide +kernel
theorem dLa_readOperand_89 : decode mLa_readOperand.2.1 89 = .ok (.ireturn, 1) := by decide +kernel
theorem dLa_readOperand_90 : decode mLa_readOperand.2.1 90 = .ok (.aload_n 0, 1) := by decide +kernel
theorem dLa_readOperand_91 : decode mLa_readOperand.2.1 91 = .ok (.iload_n 3, 1) := by decide +kernel
theorem dLa_readOperand_92 : decode mLa_readOperand.2.1 92 = .ok (.invokevirtual 102, 3) := by decide +kernel
theorem dLa_readOperand_95 : decode mLa_readOperand.2.1 95 = .ok (.iconst 1, 1) := by decide +kernel
theorem dLa_readOperand_96 : decode mLa_readOperand.2.1 96 = .ok (.ireturn, 1) := by decide +kernel
theorem bLa_readOperand_0 {l : Launch} {G : Gx} {d : Nat} {bc bs : Nat} {Φ : OutV → Mm → Prop} (M : Mm) (a0 : Nat) (a1 : Nat) (x2 : Int32)
    (h : ((m_sh M a1).1 = 8) ∧ CallVC l G d mLa_readOperand 4 [.ref a0, .ref a1, .int x2, .null] [] mTo_signHere [.ref a1] M bc bs Φ) :
    Ev l G d mLa_readOperand 0 [.ref a0, .ref a1, .int x2, .null] [] M bc bs Φ := by
  refine Ev.aload_n dLa_readOperand_0 rfl ?_
  have g1 := h.1
  replace h := h.2
  exact Ev.vcV (z := mTo_signHere) (ci := 8) [] [] rfl dLa_readOperand_1 oTo_signHere rfl w968 iTo_signHere sTo_signHere (by decide) rfl g1 (Nat.le_of_ble_eq_true rfl) h
theorem bLa_readOperand_4 {l : Launch} {G : Gx} {d : Nat} {bc bs : Nat} {Φ : OutV → Mm → Prop} (M : Mm) (a0 : Nat) (a1 : Nat) (x2 : Int32) (u3 : Value) (s0 : Int32)
    (h : (¬ s0 = 40 → ((m_sh M a1).1 = 8) ∧ CallVC l G d mLa_readOperand 59 [.ref a0, .ref a1, .int x2, u3] [] mTo_here [.ref a1] M bc bs Φ) ∧ (s0 = 40 → (x2 < 6 → ((m_sh M a1).1 = 8) ∧ CallVC l G d mLa_readOperand 25 [.ref a0, .ref a1, .int x2, u3] [] mTo_goOn [.ref a1] M bc bs Φ) ∧ (¬ x2 < 6 → ((m_sh M a1).1 = 8) ∧ CallVC l G d mLa_readOperand 20 [.ref a0, .ref a1, .int x2, u3] [] mTo_fail [.ref a1, .int 3] M bc bs Φ))) :
    Ev l G d mLa_readOperand 4 [.ref a0, .ref a1, .int x2, u3] [.int s0] M bc bs Φ := by
  refine Ev.bipush (v := 40) dLa_readOperand_4 (by decide) ?_
  refine Ev.icmp_ne 55 (by decide) dLa_readOperand_6 (fun c => ?_) (fun c => ?_)
  · replace h := h.1 c
    refine Ev.aload_n dLa_readOperand_55 rfl ?_
    have g1 := h.1
    replace h := h.2
    exact Ev.vcV (z := mTo_here) (ci := 8) [] [] rfl dLa_readOperand_56 oTo_here rfl w949 iTo_here sTo_here (by decide) rfl g1 (Nat.le_of_ble_eq_true rfl) h
  · replace h := h.2 c
    refine Ev.iload_n dLa_readOperand_9 rfl ?_
    refine Ev.bipush (v := 6) dLa_readOperand_10 (by decide) ?_
    refine Ev.icmp_lt 21 (by decide) dLa_readOperand_12 (fun c => ?_) (fun c => ?_)
    · replace h := h.1 c
      refine Ev.aload_n dLa_readOperand_21 rfl ?_
      have g2 := h.1
      replace h := h.2
      exact Ev.vcV (z := mTo_goOn) (ci := 8) [] [] rfl dLa_readOperand_22 oTo_goOn rfl w951 iTo_goOn sTo_goOn (by decide) rfl g2 (Nat.le_of_ble_eq_true rfl) h
    · replace h := h.2 c
      refine Ev.aload_n dLa_readOperand_15 rfl ?_
      refine Ev.iconst (v := 3) dLa_readOperand_16 (by decide) ?_
      have g3 := h.1
      replace h := h.2
      exact Ev.vcV (z := mTo_fail) (ci := 8) [.int 3] [] rfl dLa_readOperand_17 oTo_fail rfl w950 iTo_fail sTo_fail (by decide) rfl g3 (Nat.le_of_ble_eq_true rfl) h
theorem bLa_readOperand_20 {l : Launch} {G : Gx} {d : Nat} {bc bs : Nat} {Φ : OutV → Mm → Prop} (M : Mm) (a0 : Nat) (a1 : Nat) (x2 : Int32) (u3 : Value) (s0 : Int32)
    (h : (narrow .boolean (.int s0) = .int s0) ∧ Φ (.inl (some (.int s0))) M) :
    Ev l G d mLa_readOperand 20 [.ref a0, .ref a1, .int x2, u3] [.int s0] M bc bs Φ := by
  have g1 := h.1
  replace h := h.2
  exact Ev.iret dLa_readOperand_20 rfl g1 h
theorem bLa_readOperand_25 {l : Launch} {G : Gx} {d : Nat} {bc bs : Nat} {Φ : OutV → Mm → Prop} (M : Mm) (a0 : Nat) (a1 : Nat) (x2 : Int32) (u3 : Value)
    (h : ((m_sh M a0).1 = 4) ∧ CallVC l G d mLa_readOperand 37 [.ref a0, .ref a1, .int x2, u3] [] mLa_readSum [.ref a0, .ref a1, .int 43, .int 45, .int (x2 + 1)] M bc bs Φ) :
    Ev l G d mLa_readOperand 25 [.ref a0, .ref a1, .int x2, u3] [] M bc bs Φ := by
  refine Ev.aload_n dLa_readOperand_25 rfl ?_
  refine Ev.aload_n dLa_readOperand_26 rfl ?_
  refine Ev.bipush (v := 43) dLa_readOperand_27 (by decide) ?_
  refine Ev.bipush (v := 45) dLa_readOperand_29 (by decide) ?_
  refine Ev.iload_n dLa_readOperand_31 rfl ?_
  refine Ev.iconst (v := 1) dLa_readOperand_32 (by decide) ?_
  refine Ev.iadd dLa_readOperand_33 ?_
  have g1 := h.1
  replace h := h.2
  exact Ev.vcV (z := mLa_readSum) (ci := 4) [.ref a1, .int 43, .int 45, .int (x2 + 1)] [] rfl dLa_readOperand_34 oLa_readSum rfl w977 iLa_readSum sLa_readSum (by decide) rfl g1 (Nat.le_of_ble_eq_true rfl) h
theorem bLa_readOperand_37 {l : Launch} {G : Gx} {d : Nat} {bc bs : Nat} {Φ : OutV → Mm → Prop} (M : Mm) (a0 : Nat) (a1 : Nat) (x2 : Int32) (u3 : Value) (s0 : Int32)
    (h : (s0 = 0 → Φ (.inl (some (.int 0))) M) ∧ (¬ s0 = 0 → ((m_sh M a1).1 = 8) ∧ CallVC l G d mLa_readOperand 46 [.ref a0, .ref a1, .int x2, u3] [] mTo_takeSign [.ref a1, .int 41] M bc bs Φ)) :
    Ev l G d mLa_readOperand 37 [.ref a0, .ref a1, .int x2, u3] [.int s0] M bc bs Φ := by
  refine Ev.if_eq 53 (by decide) dLa_readOperand_37 (fun c => ?_) (fun c => ?_)
  · replace h := h.1 c
    refine Ev.iconst (v := 0) dLa_readOperand_53 (by decide) ?_
    exact Ev.iret dLa_readOperand_54 rfl rfl h
  · replace h := h.2 c
    refine Ev.aload_n dLa_readOperand_40 rfl ?_
    refine Ev.bipush (v := 41) dLa_readOperand_41 (by decide) ?_
    have g1 := h.1
    replace h := h.2
    exact Ev.vcV (z := mTo_takeSign) (ci := 8) [.int 41] [] rfl dLa_readOperand_43 oTo_takeSign rfl w976 iTo_takeSign sTo_takeSign (by decide) rfl g1 (Nat.le_of_ble_eq_true rfl) h
theorem bLa_readOperand_46 {l : Launch} {G : Gx} {d : Nat} {bc bs : Nat} {Φ : OutV → Mm → Prop} (M : Mm) (a0 : Nat) (a1 : Nat) (x2 : Int32) (u3 : Value) (s0 : Int32)
    (h : (s0 = 0 → Φ (.inl (some (.int 0))) M) ∧ (¬ s0 = 0 → Φ (.inl (some (.int 1))) M)) :
    Ev l G d mLa_readOperand 46 [.ref a0, .ref a1, .int x2, u3] [.int s0] M bc bs Φ := by
  refine Ev.if_eq 53 (by decide) dLa_readOperand_46 (fun c => ?_) (fun c => ?_)
  · replace h := h.1 c
    refine Ev.iconst (v := 0) dLa_readOperand_53 (by decide) ?_
    exact Ev.iret dLa_readOperand_54 rfl rfl h
  · replace h := h.2 c
    refine Ev.iconst (v := 1) dLa_readOperand_49 (by decide) ?_
    refine Ev.goto 54 dLa_readOperand_50 (by decide) ?_
    exact Ev.iret dLa_readOperand_54 rfl rfl h
theorem bLa_readOperand_59 {l : Launch} {G : Gx} {d : Nat} {bc bs : Nat} {Φ : OutV → Mm → Prop} (M : Mm) (a0 : Nat) (a1 : Nat) (x2 : Int32) (u3 : Value) (r0 : Nat)
    (h : (1 ≤ r0 ∧ r0 ≤ 23) ∧ (0 ≤ (wM r0) → ((m_sh M a1).1 = 8) ∧ CallVC l G d mLa_readOperand 82 [.ref a0, .ref a1, .int x2, .int (wM r0)] [] mTo_takeNumber [.ref a1, .int 0, .int 9999] M bc bs Φ) ∧ (¬ 0 ≤ (wM r0) → ((m_sh M a1).1 = 8) ∧ CallVC l G d mLa_readOperand 71 [.ref a0, .ref a1, .int x2, .int (wM r0)] [] mTo_goOn [.ref a1] M bc bs Φ)) :
    Ev l G d mLa_readOperand 59 [.ref a0, .ref a1, .int x2, u3] [.ref r0] M bc bs Φ := by
  have g1 := h.1
  replace h := h.2
  refine Ev.getF dLa_readOperand_59 (wM_ok _ g1) w1853 ?_
  refine Ev.istore_n dLa_readOperand_62 (by decide) ?_
  show Ev l G d mLa_readOperand (_ + _) [.ref a0, .ref a1, .int x2, .int (wM r0)] [] M bc bs Φ
  refine Ev.iload_n dLa_readOperand_63 rfl ?_
  refine Ev.if_ge 74 (by decide) dLa_readOperand_64 (fun c => ?_) (fun c => ?_)
  · replace h := h.1 c
    refine Ev.aload_n dLa_readOperand_74 rfl ?_
    refine Ev.iconst (v := 0) dLa_readOperand_75 (by decide) ?_
    refine Ev.sipush (v := 9999) dLa_readOperand_76 (by decide) ?_
    have g2 := h.1
    replace h := h.2
    exact Ev.vcV (z := mTo_takeNumber) (ci := 8) [.int 0, .int 9999] [] rfl dLa_readOperand_79 oTo_takeNumber rfl w985 iTo_takeNumber sTo_takeNumber (by decide) rfl g2 (Nat.le_of_ble_eq_true rfl) h
  · replace h := h.2 c
    refine Ev.aload_n dLa_readOperand_67 rfl ?_
    have g3 := h.1
    replace h := h.2
    exact Ev.vcV (z := mTo_goOn) (ci := 8) [] [] rfl dLa_readOperand_68 oTo_goOn rfl w951 iTo_goOn sTo_goOn (by decide) rfl g3 (Nat.le_of_ble_eq_true rfl) h
theorem bLa_readOperand_71 {l : Launch} {G : Gx} {d : Nat} {bc bs : Nat} {Φ : OutV → Mm → Prop} (M : Mm) (a0 : Nat) (a1 : Nat) (x2 : Int32) (x3 : Int32)
    (h : Ev l G d mLa_readOperand 90 [.ref a0, .ref a1, .int x2, .int x3] [] M bc bs Φ) :
    Ev l G d mLa_readOperand 71 [.ref a0, .ref a1, .int x2, .int x3] [] M bc bs Φ := by
  refine Ev.goto 90 dLa_readOperand_71 (by decide) ?_
  exact h
theorem bLa_readOperand_82 {l : Launch} {G : Gx} {d : Nat} {bc bs : Nat} {Φ : OutV → Mm → Prop} (M : Mm) (a0 : Nat) (a1 : Nat) (x2 : Int32) (x3 : Int32) (s0 : Int32)
    (h : (¬ s0 = ((-1)) → Ev l G d mLa_readOperand 90 [.ref a0, .ref a1, .int x2, .int s0] [] M bc bs Φ) ∧ (s0 = ((-1)) → Φ (.inl (some (.int 0))) M)) :
    Ev l G d mLa_readOperand 82 [.ref a0, .ref a1, .int x2, .int x3] [.int s0] M bc bs Φ := by
  refine Ev.istore_n dLa_readOperand_82 (by decide) ?_
  show Ev l G d mLa_readOperand (_ + _) [.ref a0, .ref a1, .int x2, .int s0] [] M bc bs Φ
  refine Ev.iload_n dLa_readOperand_83 rfl ?_
  refine Ev.iconst (v := (-1)) dLa_readOperand_84 (by decide) ?_
  refine Ev.icmp_ne 90 (by decide) dLa_readOperand_85 (fun c => ?_) (fun c => ?_)
  · replace h := h.1 c
    exact h
  · replace h := h.2 c
    refine Ev.iconst (v := 0) dLa_readOperand_88 (by decide) ?_
    exact Ev.iret dLa_readOperand_89 rfl rfl h
theorem bLa_readOperand_90 {l : Launch} {G : Gx} {d : Nat} {bc bs : Nat} {Φ : OutV → Mm → Prop} (M : Mm) (a0 : Nat) (a1 : Nat) (x2 : Int32) (x3 : Int32)
    (h : ((m_sh M a0).1 = 4) ∧ CallVC l G d mLa_readOperand 95 [.ref a0, .ref a1, .int x2, .int x3] [] mLa_addStep [.ref a0, .int x3] M bc bs Φ) :
    Ev l G d mLa_readOperand 90 [.ref a0, .ref a1, .int x2, .int x3] [] M bc bs Φ := by
  refine Ev.aload_n dLa_readOperand_90 rfl ?_
  refine Ev.iload_n dLa_readOperand_91 rfl ?_
  have g1 := h.1
  replace h := h.2
  exact Ev.vcV (z := mLa_addStep) (ci := 4) [.int x3] [] rfl dLa_readOperand_92 oLa_addStep rfl w972 iLa_addStep sLa_addStep (by decide) rfl g1 (Nat.le_of_ble_eq_true rfl) h
theorem bLa_readOperand_95 {l : Launch} {G : Gx} {d : Nat} {bc bs : Nat} {Φ : OutV → Mm → Prop} (M : Mm) (a0 : Nat) (a1 : Nat) (x2 : Int32) (x3 : Int32)
    (h : Φ (.inl (some (.int 1))) M) :
    Ev l G d mLa_readOperand 95 [.ref a0, .ref a1, .int x2, .int x3] [] M bc bs Φ := by
  refine Ev.iconst (v := 1) dLa_readOperand_95 (by decide) ?_
  exact Ev.iret dLa_readOperand_96 rfl rfl h
theorem dLa_stepFor_0 : decode mLa_stepFor.2.1 0 = .ok (.iload_n 0, 1) := by decide +kernel
theorem dLa_stepFor_1 : decode mLa_stepFor.2.1 1 = .ok (.lookupswitch 77 #[(42, 65), (43, 59), (45, 62), (47, 68), (60, 71), (62, 74)], 59) := by decide +kernel
theorem dLa_stepFor_60 : decode mLa_stepFor.2.1 60 = .ok (.bipush (-9), 2) := by decide +kernel
theorem dLa_stepFor_62 : decode mLa_stepFor.2.1 62 = .ok (.ireturn, 1) := by decide +kernel
theorem dLa_stepFor_63 : decode mLa_stepFor.2.1 63 = .ok (.bipush (-10), 2) := by decide +kernel
theorem dLa_stepFor_65 : decode mLa_stepFor.2.1 65 = .ok (.ireturn, 1) := by decide +kernel
theorem dLa_stepFor_66 : decode mLa_stepFor.2.1 66 = .ok (.bipush (-11), 2) := by decide +kernel
theorem dLa_stepFor_68 : decode mLa_stepFor.2.1 68 = .ok (.ireturn, 1) := by decide +kernel
theorem dLa_stepFor_69 : decode mLa_stepFor.2.1 69 = .ok (.bipush (-12), 2) := by decide +kernel
theorem dLa_stepFor_71 : decode mLa_stepFor.2.1 71 = .ok (.ireturn, 1) := by decide +kernel
theorem dLa_stepFor_72 : decode mLa_stepFor.2.1 72 = .ok (.bipush (-13), 2) := by decide +kernel
theorem dLa_stepFor_74 : decode mLa_stepFor.2.1 74 = .ok (.ireturn, 1) := by decide +kernel
theorem dLa_stepFor_75 : decode mLa_stepFor.2.1 75 = .ok (.bipush (-14), 2) := by decide +kernel
theorem dLa_stepFor_77 : decode mLa_stepFor.2.1 77 = .ok (.ireturn, 1) := by decide +kernel
theorem dLa_stepFor_78 : decode mLa_stepFor.2.1 78 = .ok (.bipush (-15), 2) := by decide +kernel
theorem dLa_stepFor_80 : decode mLa_stepFor.2.1 80 = .ok (.ireturn, 1) := by decide +kernel
theorem bLa_stepFor_0 {l : Launch} {G : Gx} {d : Nat} {bc bs : Nat} {Φ : OutV → Mm → Prop} (M : Mm) (x0 : Int32)
    (h : (x0 = 42 → Φ (.inl (some (.int ((-11))))) M) ∧ ((x0 = 43 → Φ (.inl (some (.int ((-9))))) M) ∧ ((x0 = 45 → Φ (.inl (some (.int ((-10))))) M) ∧ ((x0 = 47 → Φ (.inl (some (.int ((-12))))) M) ∧ ((x0 = 60 → Φ (.inl (some (.int ((-13))))) M) ∧ ((x0 = 62 → Φ (.inl (some (.int ((-14))))) M) ∧ (¬ x0 = 42 → ¬ x0 = 43 → ¬ x0 = 45 → ¬ x0 = 47 → ¬ x0 = 60 → ¬ x0 = 62 → Φ (.inl (some (.int ((-15))))) M))))))) :
    Ev l G d mLa_stepFor 0 [.int x0] [] M bc bs Φ := by
  refine Ev.iload_n dLa_stepFor_0 rfl ?_
  skip
  by_cases c : x0 = 42
  · refine Ev.lookup 66 dLa_stepFor_1 (by decide) (by rw [c]) (by decide) ?_
    replace h := h.1 c
    refine Ev.bipush (v := (-11)) dLa_stepFor_66 (by decide) ?_
    exact Ev.iret dLa_stepFor_68 rfl rfl h
  have c1 := c
  clear c
  replace h := h.2
  by_cases c : x0 = 43
  · refine Ev.lookup 60 dLa_stepFor_1 (by decide) (by rw [c]) (by decide) ?_
    replace h := h.1 c
    refine Ev.bipush (v := (-9)) dLa_stepFor_60 (by decide) ?_
    exact Ev.iret dLa_stepFor_62 rfl rfl h
  have c2 := c
  clear c
  replace h := h.2
  by_cases c : x0 = 45
  · refine Ev.lookup 63 dLa_stepFor_1 (by decide) (by rw [c]) (by decide) ?_
    replace h := h.1 c
    refine Ev.bipush (v := (-10)) dLa_stepFor_63 (by decide) ?_
    exact Ev.iret dLa_stepFor_65 rfl rfl h
  have c3 := c
  clear c
  replace h := h.2
  by_cases c : x0 = 47
  · refine Ev.lookup 69 dLa_stepFor_1 (by decide) (by rw [c]) (by decide) ?_
    replace h := h.1 c
    refine Ev.bipush (v := (-12)) dLa_stepFor_69 (by decide) ?_
    exact Ev.iret dLa_stepFor_71 rfl rfl h
  have c4 := c
  clear c
  replace h := h.2
  by_cases c : x0 = 60
  · refine Ev.lookup 72 dLa_stepFor_1 (by decide) (by rw [c]) (by decide) ?_
    replace h := h.1 c
    refine Ev.bipush (v := (-13)) dLa_stepFor_72 (by decide) ?_
    exact Ev.iret dLa_stepFor_74 rfl rfl h
  have c5 := c
  clear c
  replace h := h.2
  by_cases c : x0 = 62
  · refine Ev.lookup 75 dLa_stepFor_1 (by decide) (by rw [c]) (by decide) ?_
    replace h := h.1 c
    refine Ev.bipush (v := (-14)) dLa_stepFor_75 (by decide) ?_
    exact Ev.iret dLa_stepFor_77 rfl rfl h
  have c6 := c
  clear c
  replace h := h.2
  refine Ev.lookup 78 dLa_stepFor_1 (by decide) (off := 77) ?_ (by decide) ?_
  · have e : ∀ k : Int32, ¬ x0 = k → ¬ x0.toInt = k.toInt := fun k h1 h2 => h1 (Int32.toInt_inj.mp h2)
    have zc1 := e 42 c1
    rw [show ((42 : Int32)).toInt = 42 from rfl] at zc1
    have zc2 := e 43 c2
    rw [show ((43 : Int32)).toInt = 43 from rfl] at zc2
    have zc3 := e 45 c3
    rw [show ((45 : Int32)).toInt = 45 from rfl] at zc3
    have zc4 := e 47 c4
    rw [show ((47 : Int32)).toInt = 47 from rfl] at zc4
    have zc5 := e 60 c5
    rw [show ((60 : Int32)).toInt = 60 from rfl] at zc5
    have zc6 := e 62 c6
    rw [show ((62 : Int32)).toInt = 62 from rfl] at zc6
    generalize x0.toInt = z at *
    simp only [Op.lookupswitch.offset]; (repeat (rw [if_neg (by omega)]))
  · replace h := h c1 c2 c3 c4 c5 c6
    refine Ev.bipush (v := (-15)) dLa_stepFor_78 (by decide) ?_
    exact Ev.iret dLa_stepFor_80 rfl rfl h
