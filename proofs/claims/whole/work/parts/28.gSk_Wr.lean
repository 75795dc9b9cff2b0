def mSk_init : MR := (⟨"BowingRow$Strikes", "<init>", "()V"⟩, prog_9_method_1_code, 1, none)
theorem oSk_init : MOK mSk_init 0 := ⟨lwg_of 447 (by decide +kernel) (by decide +kernel), lwg_of 101 (by decide +kernel) (by decide +kernel), ⟨by decide +kernel, by decide +kernel⟩, by decide +kernel, by decide⟩
theorem iSk_init : Cond.instanceMethod mSk_init.1 ∈ lwg := lwg_of 446 (by decide +kernel) (by decide +kernel)
theorem dSk_init_0 : decode mSk_init.2.1 0 = .ok (.aload_n 0, 1) := by decide +kernel
theorem dSk_init_1 : decode mSk_init.2.1 1 = .ok (.invokespecial 3, 3) := by decide +kernel
theorem dSk_init_4 : decode mSk_init.2.1 4 = .ok (.aload_n 0, 1) := by decide +kernel
theorem dSk_init_5 : decode mSk_init.2.1 5 = .ok (.iconst 1, 1) := by decide +kernel
theorem dSk_init_6 : decode mSk_init.2.1 6 = .ok (.putfield 9, 3) := by decide +kernel
theorem dSk_init_9 : decode mSk_init.2.1 9 = .ok (.return_, 1) := by decide +kernel
theorem w448 : Cond.methodLink "BowingRow$Strikes" 3 ⟨"java/lang/Object", "<init>", "()V"⟩ ∈ lwg := lwg_of 448 (by decide +kernel) (by decide +kernel)
theorem fSk_9 : FOK "BowingRow$Strikes" 9 7 0 false := ⟨RX7, TX7, nFd 7, rfl, by decide, rfl, by decide, rfl, lwg_of 449 (by decide +kernel) (by decide +kernel)⟩
theorem bSk_init_0 {l : Launch} {G : Gx} {d : Nat} {bc bs : Nat} {Φ : OutV → Mm → Prop} (M : Mm) (a0 : Nat)
    (h : (a0 ≠ 0 ∧ 1 ≤ d) ∧ ((m_sh M a0).1 = 7) ∧ Φ (.inl none) (m_si M a0 0 1)) :
    Ev l G d mSk_init 0 [.ref a0] [] M bc bs Φ := by
  refine Ev.aload_n dSk_init_0 rfl ?_
  have g1 := h.1
  replace h := h.2
  refine Ev.objInit dSk_init_1 w448 w_oi w_oc (Nat.le_of_ble_eq_true rfl) g1.2 g1.1 ?_
  refine Ev.aload_n dSk_init_4 rfl ?_
  refine Ev.iconst (v := 1) dSk_init_5 (by decide) ?_
  have g2 := h.1
  replace h := h.2
  refine Ev.putI dSk_init_6 ⟨_, Or.inl ⟨fSk_9, (fun h => by cases h)⟩⟩ rfl ⟨rfl, rfl⟩ g2 ?_
  exact Ev.vret dSk_init_9 rfl h
def mSk_work : MR := (⟨"BowingRow$Strikes", "work", "(LBowingRow$Law;LBowingRow$People;LBowingRow$InForce;LBowingRow$Day;)V"⟩, prog_9_method_2_code, 11, none)
theorem oSk_work : MOK mSk_work 4 := ⟨lwg_of 654 (by decide +kernel) (by decide +kernel), lwg_of 101 (by decide +kernel) (by decide +kernel), ⟨by decide +kernel, by decide +kernel⟩, by decide +kernel, by decide⟩
theorem iSk_work : Cond.instanceMethod mSk_work.1 ∈ lwg := lwg_of 652 (by decide +kernel) (by decide +kernel)
theorem sSk_work : Cond.selects mSk_work.1.cls mSk_work.1 mSk_work.1 ∈ lwg := lwg_of 653 (by decide +kernel) (by decide +kernel)
theorem dSk_work_0 : decode mSk_work.2.1 0 = .ok (.aload_n 0, 1) := by decide +kernel
theorem dSk_work_1 : decode mSk_work.2.1 1 = .ok (.getfield 9, 3) := by decide +kernel
theorem dSk_work_4 : decode mSk_work.2.1 4 = .ok (.ifCond .ne 4, 3) := by decide +kernel
theorem dSk_work_7 : decode mSk_work.2.1 7 = .ok (.return_, 1) := by decide +kernel
theorem dSk_work_8 : decode mSk_work.2.1 8 = .ok (.iconst 1, 1) := by decide +kernel
theorem dSk_work_9 : decode mSk_work.2.1 9 = .ok (.aload_n 2, 1) := by decide +kernel
theorem dSk_work_10 : decode mSk_work.2.1 10 = .ok (.getfield 15, 3) := by decide +kernel
theorem dSk_work_13 : decode mSk_work.2.1 13 = .ok (.ishl, 1) := by decide +kernel
theorem dSk_work_14 : decode mSk_work.2.1 14 = .ok (.iconst 1, 1) := by decide +kernel
theorem dSk_work_15 : decode mSk_work.2.1 15 = .ok (.isub, 1) := by decide +kernel
theorem dSk_work_16 : decode mSk_work.2.1 16 = .ok (.istore 5, 2) := by decide +kernel
theorem dSk_work_18 : decode mSk_work.2.1 18 = .ok (.iconst 1, 1) := by decide +kernel
theorem dSk_work_19 : decode mSk_work.2.1 19 = .ok (.aload_n 1, 1) := by decide +kernel
theorem dSk_work_20 : decode mSk_work.2.1 20 = .ok (.getfield 21, 3) := by decide +kernel
theorem dSk_work_23 : decode mSk_work.2.1 23 = .ok (.ishl, 1) := by decide +kernel
theorem dSk_work_24 : decode mSk_work.2.1 24 = .ok (.istore 6, 2) := by decide +kernel
theorem dSk_work_26 : decode mSk_work.2.1 26 = .ok (.iconst 0, 1) := by decide +kernel
theorem dSk_work_27 : decode mSk_work.2.1 27 = .ok (.istore 7, 2) := by decide +kernel
theorem dSk_work_29 : decode mSk_work.2.1 29 = .ok (.bipush 11, 2) := by decide +kernel
theorem dSk_work_31 : decode mSk_work.2.1 31 = .ok (.istore 8, 2) := by decide +kernel
theorem dSk_work_33 : decode mSk_work.2.1 33 = .ok (.aload_n 0, 1) := by decide +kernel
theorem dSk_work_34 : decode mSk_work.2.1 34 = .ok (.iconst (-1), 1) := by decide +kernel
theorem dSk_work_35 : decode mSk_work.2.1 35 = .ok (.putfield 24, 3) := by decide +kernel
theorem dSk_work_38 : decode mSk_work.2.1 38 = .ok (.iconst 0, 1) := by decide +kernel
theorem dSk_work_39 : decode mSk_work.2.1 39 = .ok (.istore 9, 2) := by decide +kernel
theorem dSk_work_41 : decode mSk_work.2.1 41 = .ok (.iload 9, 2) := by decide +kernel
theorem dSk_work_43 : decode mSk_work.2.1 43 = .ok (.iload 6, 2) := by decide +kernel
theorem dSk_work_45 : decode mSk_work.2.1 45 = .ok (.if_icmp .ge 73, 3) := by decide +kernel
theorem dSk_work_48 : decode mSk_work.2.1 48 = .ok (.iload 9, 2) := by decide +kernel
theorem dSk_work_50 : decode mSk_work.2.1 50 = .ok (.invokestatic 27, 3) := by decide +kernel
theorem dSk_work_53 : decode mSk_work.2.1 53 = .ok (.istore 10, 2) := by decide +kernel
theorem dSk_work_55 : decode mSk_work.2.1 55 = .ok (.iload 10, 2) := by decide +kernel
theorem dSk_work_57 : decode mSk_work.2.1 57 = .ok (.iload 8, 2) := by decide +kernel
theorem dSk_work_59 : decode mSk_work.2.1 59 = .ok (.if_icmp .ge 53, 3) := by decide +kernel
theorem dSk_work_62 : decode mSk_work.2.1 62 = .ok (.aload_n 3, 1) := by decide +kernel
theorem dSk_work_63 : decode mSk_work.2.1 63 = .ok (.aload_n 1, 1) := by decide +kernel
theorem dSk_work_64 : decode mSk_work.2.1 64 = .ok (.aload_n 2, 1) := by decide +kernel
theorem dSk_work_65 : decode mSk_work.2.1 65 = .ok (.iload 9, 2) := by decide +kernel
theorem dSk_work_67 : decode mSk_work.2.1 67 = .ok (.invokevirtual 33, 3) := by decide +kernel
theorem dSk_work_70 : decode mSk_work.2.1 70 = .ok (.aload 4, 2) := by decide +kernel
theorem dSk_work_72 : decode mSk_work.2.1 72 = .ok (.aload_n 2, 1) := by decide +kernel
theorem dSk_work_73 : decode mSk_work.2.1 73 = .ok (.aload_n 3, 1) := by decide +kernel
theorem dSk_work_74 : decode mSk_work.2.1 74 = .ok (.invokevirtual 39, 3) := by decide +kernel
theorem dSk_work_77 : decode mSk_work.2.1 77 = .ok (.aload 4, 2) := by decide +kernel
theorem dSk_work_79 : decode mSk_work.2.1 79 = .ok (.invokevirtual 45, 3) := by decide +kernel
theorem dSk_work_82 : decode mSk_work.2.1 82 = .ok (.iload 7, 2) := by decide +kernel
theorem dSk_work_84 : decode mSk_work.2.1 84 = .ok (.aload 4, 2) := by decide +kernel
theorem dSk_work_86 : decode mSk_work.2.1 86 = .ok (.getfield 48, 3) := by decide +kernel
theorem dSk_work_89 : decode mSk_work.2.1 89 = .ok (.ior, 1) := by decide +kernel
theorem dSk_work_90 : decode mSk_work.2.1 90 = .ok (.istore 7, 2) := by decide +kernel
theorem dSk_work_92 : decode mSk_work.2.1 92 = .ok (.aload 4, 2) := by decide +kernel
theorem dSk_work_94 : decode mSk_work.2.1 94 = .ok (.getfield 48, 3) := by decide +kernel
theorem dSk_work_97 : decode mSk_work.2.1 97 = .ok (.iload 5, 2) := by decide +kernel
theorem dSk_work_99 : decode mSk_work.2.1 99 = .ok (.if_icmp .ne 13, 3) := by decide +kernel
theorem dSk_work_102 : decode mSk_work.2.1 102 = .ok (.iload 10, 2) := by decide +kernel
theorem dSk_work_104 : decode mSk_work.2.1 104 = .ok (.istore 8, 2) := by decide +kernel
theorem dSk_work_106 : decode mSk_work.2.1 106 = .ok (.aload_n 0, 1) := by decide +kernel
theorem dSk_work_107 : decode mSk_work.2.1 107 = .ok (.iload 9, 2) := by decide +kernel
theorem dSk_work_109 : decode mSk_work.2.1 109 = .ok (.putfield 24, 3) := by decide +kernel
theorem dSk_work_112 : decode mSk_work.2.1 112 = .ok (.iinc 9 1, 3) := by decide +kernel
theorem dSk_work_115 : decode mSk_work.2.1 115 = .ok (.goto (-74), 3) := by decide +kernel
theorem dSk_work_118 : decode mSk_work.2.1 118 = .ok (.aload_n 0, 1) := by decide +kernel
theorem dSk_work_119 : decode mSk_work.2.1 119 = .ok (.iload 5, 2) := by decide +kernel
theorem dSk_work_121 : decode mSk_work.2.1 121 = .ok (.iload 7, 2) := by decide +kernel
theorem dSk_work_123 : decode mSk_work.2.1 123 = .ok (.iconst (-1), 1) := by decide +kernel
theorem dSk_work_124 : decode mSk_work.2.1 124 = .ok (.ixor, 1) := by decide +kernel
theorem dSk_work_125 : decode mSk_work.2.1 125 = .ok (.iand, 1) := by decide +kernel
theorem dSk_work_126 : decode mSk_work.2.1 126 = .ok (.putfield 51, 3) := by decide +kernel
theorem dSk_work_129 : decode mSk_work.2.1 129 = .ok (.aload_n 0, 1) := by decide +kernel
theorem dSk_work_130 : decode mSk_work.2.1 130 = .ok (.iconst 0, 1) := by decide +kernel
theorem dSk_work_131 : decode mSk_work.2.1 131 = .ok (.putfield 9, 3) := by decide +kernel
theorem dSk_work_134 : decode mSk_work.2.1 134 = .ok (.return_, 1) := by decide +kernel
theorem fSk_15 : FOK "BowingRow$Strikes" 15 6 2 false := ⟨RX6, TX6, nFd 6, rfl, by decide, rfl, by decide, rfl, lwg_of 176 (by decide +kernel) (by decide +kernel)⟩
theorem fSk_21 : FOK "BowingRow$Strikes" 21 4 7 false := ⟨RX4, TX4, nFd 4, rfl, by decide, rfl, by decide, rfl, lwg_of 204 (by decide +kernel) (by decide +kernel)⟩
theorem fSk_24 : FOK "BowingRow$Strikes" 24 7 1 false := ⟨RX7, TX7, nFd 7, rfl, by decide, rfl, by decide, rfl, lwg_of 451 (by decide +kernel) (by decide +kernel)⟩
theorem bSk_work_0 {l : Launch} {G : Gx} {d : Nat} {bc bs : Nat} {Φ : OutV → Mm → Prop} (M : Mm) (a0 : Nat) (a1 : Nat) (a2 : Nat) (a3 : Nat) (a4 : Nat)
    (h : ((m_sh M a0).1 = 7) ∧ (¬ (m_i M a0 0) = 0 → ((m_sh M a2).1 = 6) ∧ ((m_sh M a1).1 = 4) ∧ Ev l G d mSk_work 41 [.ref a0, .ref a1, .ref a2, .ref a3, .ref a4, .int ((1 <<< ((m_i M a2 2) &&& 31)) - 1), .int (1 <<< ((m_i M a1 7) &&& 31)), .int 0, .int 11, .int 0, .null] [] (m_si M a0 1 ((-1))) bc bs Φ) ∧ ((m_i M a0 0) = 0 → Φ (.inl none) M)) :
    Ev l G d mSk_work 0 [.ref a0, .ref a1, .ref a2, .ref a3, .ref a4, .null, .null, .null, .null, .null, .null] [] M bc bs Φ := by
  refine Ev.aload_n dSk_work_0 rfl ?_
  have g1 := h.1
  replace h := h.2
  refine Ev.getI dSk_work_1 (Or.inl fSk_9) rfl g1 ?_
  refine Ev.if_ne 8 (by decide) dSk_work_4 (fun c => ?_) (fun c => ?_)
  · replace h := h.1 c
    refine Ev.iconst (v := 1) dSk_work_8 (by decide) ?_
    refine Ev.aload_n dSk_work_9 rfl ?_
    have g2 := h.1
    replace h := h.2
    refine Ev.getI dSk_work_10 (Or.inl fSk_15) rfl g2 ?_
    refine Ev.ishl dSk_work_13 ?_
    refine Ev.iconst (v := 1) dSk_work_14 (by decide) ?_
    refine Ev.isub dSk_work_15 ?_
    refine Ev.istore dSk_work_16 (by decide) ?_
    show Ev l G d mSk_work (_ + _) [.ref a0, .ref a1, .ref a2, .ref a3, .ref a4, .int ((1 <<< ((m_i M a2 2) &&& 31)) - 1), .null, .null, .null, .null, .null] [] M bc bs Φ
    refine Ev.iconst (v := 1) dSk_work_18 (by decide) ?_
    refine Ev.aload_n dSk_work_19 rfl ?_
    have g3 := h.1
    replace h := h.2
    refine Ev.getI dSk_work_20 (Or.inl fSk_21) rfl g3 ?_
    refine Ev.ishl dSk_work_23 ?_
    refine Ev.istore dSk_work_24 (by decide) ?_
    show Ev l G d mSk_work (_ + _) [.ref a0, .ref a1, .ref a2, .ref a3, .ref a4, .int ((1 <<< ((m_i M a2 2) &&& 31)) - 1), .int (1 <<< ((m_i M a1 7) &&& 31)), .null, .null, .null, .null] [] M bc bs Φ
    refine Ev.iconst (v := 0) dSk_work_26 (by decide) ?_
    refine Ev.istore dSk_work_27 (by decide) ?_
    show Ev l G d mSk_work (_ + _) [.ref a0, .ref a1, .ref a2, .ref a3, .ref a4, .int ((1 <<< ((m_i M a2 2) &&& 31)) - 1), .int (1 <<< ((m_i M a1 7) &&& 31)), .int 0, .null, .null, .null] [] M bc bs Φ
    refine Ev.bipush (v := 11) dSk_work_29 (by decide) ?_
    refine Ev.istore dSk_work_31 (by decide) ?_
    show Ev l G d mSk_work (_ + _) [.ref a0, .ref a1, .ref a2, .ref a3, .ref a4, .int ((1 <<< ((m_i M a2 2) &&& 31)) - 1), .int (1 <<< ((m_i M a1 7) &&& 31)), .int 0, .int 11, .null, .null] [] M bc bs Φ
    refine Ev.aload_n dSk_work_33 rfl ?_
    refine Ev.iconst (v := (-1)) dSk_work_34 (by decide) ?_
    refine Ev.putI dSk_work_35 ⟨_, Or.inl ⟨fSk_24, (fun h => by cases h)⟩⟩ rfl ⟨rfl, rfl⟩ g1 ?_
    refine Ev.iconst (v := 0) dSk_work_38 (by decide) ?_
    refine Ev.istore dSk_work_39 (by decide) ?_
    show Ev l G d mSk_work (_ + _) [.ref a0, .ref a1, .ref a2, .ref a3, .ref a4, .int ((1 <<< ((m_i M a2 2) &&& 31)) - 1), .int (1 <<< ((m_i M a1 7) &&& 31)), .int 0, .int 11, .int 0, .null] [] (m_si M a0 1 ((-1))) bc bs Φ
    exact h
  · replace h := h.2 c
    exact Ev.vret dSk_work_7 rfl h
theorem fSk_51 : FOK "BowingRow$Strikes" 51 7 2 false := ⟨RX7, TX7, nFd 7, rfl, by decide, rfl, by decide, rfl, lwg_of 453 (by decide +kernel) (by decide +kernel)⟩
theorem w655 : Cond.methodLink "BowingRow$Strikes" 27 ⟨"java/lang/Integer", "bitCount", "(I)I"⟩ ∈ lwg := lwg_of 655 (by decide +kernel) (by decide +kernel)
theorem bSk_work_41 {l : Launch} {G : Gx} {d : Nat} {bc bs : Nat} {Φ : OutV → Mm → Prop} (M : Mm) (a0 : Nat) (a1 : Nat) (a2 : Nat) (a3 : Nat) (a4 : Nat) (x5 : Int32) (x6 : Int32) (x7 : Int32) (x8 : Int32) (x9 : Int32) (u10 : Value)
    (h : (x6 ≤ x9 → ((m_sh M a0).1 = 7) ∧ Φ (.inl none) (m_si (m_si M a0 2 (x5 &&& (x7 ^^^ ((-1))))) a0 0 0)) ∧ (¬ x6 ≤ x9 → CallVC l G d mSk_work 53 [.ref a0, .ref a1, .ref a2, .ref a3, .ref a4, .int x5, .int x6, .int x7, .int x8, .int x9, u10] [] mjI_bitCount [.int x9] M bc bs Φ)) :
    Ev l G d mSk_work 41 [.ref a0, .ref a1, .ref a2, .ref a3, .ref a4, .int x5, .int x6, .int x7, .int x8, .int x9, u10] [] M bc bs Φ := by
  refine Ev.iload dSk_work_41 rfl ?_
  refine Ev.iload dSk_work_43 rfl ?_
  refine Ev.icmp_ge 118 (by decide) dSk_work_45 (fun c => ?_) (fun c => ?_)
  · replace h := h.1 c
    refine Ev.aload_n dSk_work_118 rfl ?_
    refine Ev.iload dSk_work_119 rfl ?_
    refine Ev.iload dSk_work_121 rfl ?_
    refine Ev.iconst (v := (-1)) dSk_work_123 (by decide) ?_
    refine Ev.ixor dSk_work_124 ?_
    refine Ev.iand dSk_work_125 ?_
    have g1 := h.1
    replace h := h.2
    refine Ev.putI dSk_work_126 ⟨_, Or.inl ⟨fSk_51, (fun h => by cases h)⟩⟩ rfl ⟨rfl, rfl⟩ g1 ?_
    refine Ev.aload_n dSk_work_129 rfl ?_
    refine Ev.iconst (v := 0) dSk_work_130 (by decide) ?_
    refine Ev.putI dSk_work_131 ⟨_, Or.inl ⟨fSk_9, (fun h => by cases h)⟩⟩ rfl ⟨rfl, rfl⟩ g1 ?_
    exact Ev.vret dSk_work_134 rfl h
  · replace h := h.2 c
    refine Ev.iload dSk_work_48 rfl ?_
    exact Ev.vcS (z := mjI_bitCount) [.int x9] [] rfl dSk_work_50 ojI_bitCount rfl w655 ijI_bitCount (Nat.le_of_ble_eq_true rfl) h
theorem w661 : Cond.methodLink "BowingRow$Strikes" 33 ⟨"BowingRow$InForce", "take", "(LBowingRow$Law;LBowingRow$People;I)V"⟩ ∈ lwg := lwg_of 661 (by decide +kernel) (by decide +kernel)
theorem bSk_work_53 {l : Launch} {G : Gx} {d : Nat} {bc bs : Nat} {Φ : OutV → Mm → Prop} (M : Mm) (a0 : Nat) (a1 : Nat) (a2 : Nat) (a3 : Nat) (a4 : Nat) (x5 : Int32) (x6 : Int32) (x7 : Int32) (x8 : Int32) (x9 : Int32) (u10 : Value) (s0 : Int32)
    (h : (x8 ≤ s0 → Ev l G d mSk_work 112 [.ref a0, .ref a1, .ref a2, .ref a3, .ref a4, .int x5, .int x6, .int x7, .int x8, .int x9, .int s0] [] M bc bs Φ) ∧ (¬ x8 ≤ s0 → ((m_sh M a3).1 = 3) ∧ CallVC l G d mSk_work 70 [.ref a0, .ref a1, .ref a2, .ref a3, .ref a4, .int x5, .int x6, .int x7, .int x8, .int x9, .int s0] [] mIf_take [.ref a3, .ref a1, .ref a2, .int x9] M bc bs Φ)) :
    Ev l G d mSk_work 53 [.ref a0, .ref a1, .ref a2, .ref a3, .ref a4, .int x5, .int x6, .int x7, .int x8, .int x9, u10] [.int s0] M bc bs Φ := by
  refine Ev.istore dSk_work_53 (by decide) ?_
  show Ev l G d mSk_work (_ + _) [.ref a0, .ref a1, .ref a2, .ref a3, .ref a4, .int x5, .int x6, .int x7, .int x8, .int x9, .int s0] [] M bc bs Φ
  refine Ev.iload dSk_work_55 rfl ?_
  refine Ev.iload dSk_work_57 rfl ?_
  refine Ev.icmp_ge 112 (by decide) dSk_work_59 (fun c => ?_) (fun c => ?_)
  · replace h := h.1 c
    exact h
  · replace h := h.2 c
    refine Ev.aload_n dSk_work_62 rfl ?_
    refine Ev.aload_n dSk_work_63 rfl ?_
    refine Ev.aload_n dSk_work_64 rfl ?_
    refine Ev.iload dSk_work_65 rfl ?_
    have g1 := h.1
    replace h := h.2
    exact Ev.vcV (z := mIf_take) (ci := 3) [.ref a1, .ref a2, .int x9] [] rfl dSk_work_67 oIf_take rfl w661 iIf_take sIf_take (by decide) rfl g1 (Nat.le_of_ble_eq_true rfl) h
theorem w668 : Cond.methodLink "BowingRow$Strikes" 39 ⟨"BowingRow$Day", "prepare", "(LBowingRow$People;LBowingRow$InForce;)V"⟩ ∈ lwg := lwg_of 668 (by decide +kernel) (by decide +kernel)
theorem bSk_work_70 {l : Launch} {G : Gx} {d : Nat} {bc bs : Nat} {Φ : OutV → Mm → Prop} (M : Mm) (a0 : Nat) (a1 : Nat) (a2 : Nat) (a3 : Nat) (a4 : Nat) (x5 : Int32) (x6 : Int32) (x7 : Int32) (x8 : Int32) (x9 : Int32) (x10 : Int32)
    (h : ((m_sh M a4).1 = 1) ∧ CallVC l G d mSk_work 77 [.ref a0, .ref a1, .ref a2, .ref a3, .ref a4, .int x5, .int x6, .int x7, .int x8, .int x9, .int x10] [] mDa_prepare [.ref a4, .ref a2, .ref a3] M bc bs Φ) :
    Ev l G d mSk_work 70 [.ref a0, .ref a1, .ref a2, .ref a3, .ref a4, .int x5, .int x6, .int x7, .int x8, .int x9, .int x10] [] M bc bs Φ := by
  refine Ev.aload dSk_work_70 rfl ?_
  refine Ev.aload_n dSk_work_72 rfl ?_
  refine Ev.aload_n dSk_work_73 rfl ?_
  have g1 := h.1
  replace h := h.2
  exact Ev.vcV (z := mDa_prepare) (ci := 1) [.ref a2, .ref a3] [] rfl dSk_work_74 oDa_prepare rfl w668 iDa_prepare sDa_prepare (by decide) rfl g1 (Nat.le_of_ble_eq_true rfl) h
theorem w669 : Cond.methodLink "BowingRow$Strikes" 45 ⟨"BowingRow$Day", "goThrough", "()V"⟩ ∈ lwg := lwg_of 669 (by decide +kernel) (by decide +kernel)
theorem bSk_work_77 {l : Launch} {G : Gx} {d : Nat} {bc bs : Nat} {Φ : OutV → Mm → Prop} (M : Mm) (a0 : Nat) (a1 : Nat) (a2 : Nat) (a3 : Nat) (a4 : Nat) (x5 : Int32) (x6 : Int32) (x7 : Int32) (x8 : Int32) (x9 : Int32) (x10 : Int32)
    (h : ((m_sh M a4).1 = 1) ∧ CallVC l G d mSk_work 82 [.ref a0, .ref a1, .ref a2, .ref a3, .ref a4, .int x5, .int x6, .int x7, .int x8, .int x9, .int x10] [] mDa_goThrough [.ref a4] M bc bs Φ) :
    Ev l G d mSk_work 77 [.ref a0, .ref a1, .ref a2, .ref a3, .ref a4, .int x5, .int x6, .int x7, .int x8, .int x9, .int x10] [] M bc bs Φ := by
  refine Ev.aload dSk_work_77 rfl ?_
  have g1 := h.1
  replace h := h.2
  exact Ev.vcV (z := mDa_goThrough) (ci := 1) [] [] rfl dSk_work_79 oDa_goThrough rfl w669 iDa_goThrough sDa_goThrough (by decide) rfl g1 (Nat.le_of_ble_eq_true rfl) h
theorem fSk_48 : FOK "BowingRow$Strikes" 48 1 13 false := ⟨RX1, TX1, nFd 1, rfl, by decide, rfl, by decide, rfl, lwg_of 370 (by decide +kernel) (by decide +kernel)⟩
theorem bSk_work_82 {l : Launch} {G : Gx} {d : Nat} {bc bs : Nat} {Φ : OutV → Mm → Prop} (M : Mm) (a0 : Nat) (a1 : Nat) (a2 : Nat) (a3 : Nat) (a4 : Nat) (x5 : Int32) (x6 : Int32) (x7 : Int32) (x8 : Int32) (x9 : Int32) (x10 : Int32)
    (h : ((m_sh M a4).1 = 1) ∧ (¬ (m_i M a4 13) = x5 → Ev l G d mSk_work 112 [.ref a0, .ref a1, .ref a2, .ref a3, .ref a4, .int x5, .int x6, .int (x7 ||| (m_i M a4 13)), .int x8, .int x9, .int x10] [] M bc bs Φ) ∧ ((m_i M a4 13) = x5 → ((m_sh M a0).1 = 7) ∧ Ev l G d mSk_work 112 [.ref a0, .ref a1, .ref a2, .ref a3, .ref a4, .int x5, .int x6, .int (x7 ||| (m_i M a4 13)), .int x10, .int x9, .int x10] [] (m_si M a0 1 x9) bc bs Φ)) :
    Ev l G d mSk_work 82 [.ref a0, .ref a1, .ref a2, .ref a3, .ref a4, .int x5, .int x6, .int x7, .int x8, .int x9, .int x10] [] M bc bs Φ := by
  refine Ev.iload dSk_work_82 rfl ?_
  refine Ev.aload dSk_work_84 rfl ?_
  have g1 := h.1
  replace h := h.2
  refine Ev.getI dSk_work_86 (Or.inl fSk_48) rfl g1 ?_
  refine Ev.ior dSk_work_89 ?_
  refine Ev.istore dSk_work_90 (by decide) ?_
  show Ev l G d mSk_work (_ + _) [.ref a0, .ref a1, .ref a2, .ref a3, .ref a4, .int x5, .int x6, .int (x7 ||| (m_i M a4 13)), .int x8, .int x9, .int x10] [] M bc bs Φ
  refine Ev.aload dSk_work_92 rfl ?_
  refine Ev.getI dSk_work_94 (Or.inl fSk_48) rfl g1 ?_
  refine Ev.iload dSk_work_97 rfl ?_
  refine Ev.icmp_ne 112 (by decide) dSk_work_99 (fun c => ?_) (fun c => ?_)
  · replace h := h.1 c
    exact h
  · replace h := h.2 c
    refine Ev.iload dSk_work_102 rfl ?_
    refine Ev.istore dSk_work_104 (by decide) ?_
    show Ev l G d mSk_work (_ + _) [.ref a0, .ref a1, .ref a2, .ref a3, .ref a4, .int x5, .int x6, .int (x7 ||| (m_i M a4 13)), .int x10, .int x9, .int x10] [] M bc bs Φ
    refine Ev.aload_n dSk_work_106 rfl ?_
    refine Ev.iload dSk_work_107 rfl ?_
    have g2 := h.1
    replace h := h.2
    refine Ev.putI dSk_work_109 ⟨_, Or.inl ⟨fSk_24, (fun h => by cases h)⟩⟩ rfl ⟨rfl, rfl⟩ g2 ?_
    exact h
theorem bSk_work_112 {l : Launch} {G : Gx} {d : Nat} {bc bs : Nat} {Φ : OutV → Mm → Prop} (M : Mm) (a0 : Nat) (a1 : Nat) (a2 : Nat) (a3 : Nat) (a4 : Nat) (x5 : Int32) (x6 : Int32) (x7 : Int32) (x8 : Int32) (x9 : Int32) (x10 : Int32)
    (h : Ev l G d mSk_work 41 [.ref a0, .ref a1, .ref a2, .ref a3, .ref a4, .int x5, .int x6, .int x7, .int x8, .int (x9 + 1), .int x10] [] M bc bs Φ) :
    Ev l G d mSk_work 112 [.ref a0, .ref a1, .ref a2, .ref a3, .ref a4, .int x5, .int x6, .int x7, .int x8, .int x9, .int x10] [] M bc bs Φ := by
  refine Ev.iinc (v := x9 + 1) dSk_work_112 (by decide) rfl rfl ?_
  show Ev l G d mSk_work (_ + _) [.ref a0, .ref a1, .ref a2, .ref a3, .ref a4, .int x5, .int x6, .int x7, .int x8, .int (x9 + 1), .int x10] [] M bc bs Φ
  refine Ev.goto 41 dSk_work_115 (by decide) ?_
  exact h
def mWr_init : MR := (⟨"BowingRow$WayRows", "<init>", "()V"⟩, prog_11_method_1_code, 1, none)
theorem oWr_init : MOK mWr_init 0 := ⟨lwg_of 417 (by decide +kernel) (by decide +kernel), lwg_of 100 (by decide +kernel) (by decide +kernel), ⟨by decide +kernel, by decide +kernel⟩, by decide +kernel, by decide⟩
theorem iWr_init : Cond.instanceMethod mWr_init.1 ∈ lwg := lwg_of 416 (by decide +kernel) (by decide +kernel)
theorem dWr_init_0 : decode mWr_init.2.1 0 = .ok (.aload_n 0, 1) := by decide +kernel
theorem dWr_init_1 : decode mWr_init.2.1 1 = .ok (.invokespecial 3, 3) := by decide +kernel
theorem dWr_init_4 : decode mWr_init.2.1 4 = .ok (.aload_n 0, 1) := by decide +kernel
theorem dWr_init_5 : decode mWr_init.2.1 5 = .ok (.iconst 0, 1) := by decide +kernel
theorem dWr_init_6 : decode mWr_init.2.1 6 = .ok (.newarray .int, 2) := by decide +kernel
theorem dWr_init_8 : decode mWr_init.2.1 8 = .ok (.putfield 9, 3) := by decide +kernel
theorem dWr_init_11 : decode mWr_init.2.1 11 = .ok (.aload_n 0, 1) := by decide +kernel
theorem dWr_init_12 : decode mWr_init.2.1 12 = .ok (.iconst 1, 1) := by decide +kernel
theorem dWr_init_13 : decode mWr_init.2.1 13 = .ok (.putfield 15, 3) := by decide +kernel
theorem dWr_init_16 : decode mWr_init.2.1 16 = .ok (.return_, 1) := by decide +kernel
theorem w418 : Cond.methodLink "BowingRow$WayRows" 3 ⟨"java/lang/Object", "<init>", "()V"⟩ ∈ lwg := lwg_of 418 (by decide +kernel) (by decide +kernel)
theorem fWr_9 : FOK "BowingRow$WayRows" 9 9 0 false := ⟨RX9, TX9, nFd 9, rfl, by decide, rfl, by decide, rfl, lwg_of 419 (by decide +kernel) (by decide +kernel)⟩
theorem bWr_init_0 {l : Launch} {G : Gx} {d : Nat} {bc bs : Nat} {Φ : OutV → Mm → Prop} (M : Mm) (a0 : Nat)
    (h : (a0 ≠ 0 ∧ 1 ≤ d) ∧ (1 ≤ bc ∧ 0 ≤ bs) ∧ ((m_sh (m_al M (20, 0)) a0).1 = 9) ∧ Ev l G d mWr_init 11 [.ref a0] [] (m_sr (m_al M (20, 0)) a0 0 (m_nx M)) (bc - 1) (bs - 0) Φ) :
    Ev l G d mWr_init 0 [.ref a0] [] M bc bs Φ := by
  refine Ev.aload_n dWr_init_0 rfl ?_
  have g1 := h.1
  replace h := h.2
  refine Ev.objInit dWr_init_1 w418 w_oi w_oc (Nat.le_of_ble_eq_true rfl) g1.2 g1.1 ?_
  refine Ev.aload_n dWr_init_4 rfl ?_
  refine Ev.iconst (v := 0) dWr_init_5 (by decide) ?_
  have g2 := h.1
  replace h := h.2
  refine Ev.newI2 0 dWr_init_6 w164 (by decide) (by decide) (by decide) g2 ?_
  have g3 := h.1
  replace h := h.2
  refine Ev.putR dWr_init_8 ⟨_, Or.inl ⟨fWr_9, (fun h => by cases h)⟩⟩ rfl (fun ad => fitR (by first | exact Or.inl ⟨_, rfl⟩ | exact Or.inr ⟨_, rfl⟩) _ ad) g3 ?_
  exact h
theorem fWr_15 : FOK "BowingRow$WayRows" 15 9 1 false := ⟨RX9, TX9, nFd 9, rfl, by decide, rfl, by decide, rfl, lwg_of 420 (by decide +kernel) (by decide +kernel)⟩
theorem bWr_init_11 {l : Launch} {G : Gx} {d : Nat} {bc bs : Nat} {Φ : OutV → Mm → Prop} (M : Mm) (a0 : Nat)
    (h : ((m_sh M a0).1 = 9) ∧ Φ (.inl none) (m_si M a0 1 1)) :
    Ev l G d mWr_init 11 [.ref a0] [] M bc bs Φ := by
  refine Ev.aload_n dWr_init_11 rfl ?_
  refine Ev.iconst (v := 1) dWr_init_12 (by decide) ?_
  have g1 := h.1
  replace h := h.2
  refine Ev.putI dWr_init_13 ⟨_, Or.inl ⟨fWr_15, (fun h => by cases h)⟩⟩ rfl ⟨rfl, rfl⟩ g1 ?_
  exact Ev.vret dWr_init_16 rfl h
def mWr_work : MR := (⟨"BowingRow$WayRows", "work", "(LBowingRow$People;LBowingRow$InForce;LBowingRow$Day;)V"⟩, prog_11_method_2_code, 7, none)
theorem oWr_work : MOK mWr_work 3 := ⟨lwg_of 1242 (by decide +kernel) (by decide +kernel), lwg_of 100 (by decide +kernel) (by decide +kernel), ⟨by decide +kernel, by decide +kernel⟩, by decide +kernel, by decide⟩
theorem iWr_work : Cond.instanceMethod mWr_work.1 ∈ lwg := lwg_of 1240 (by decide +kernel) (by decide +kernel)
theorem sWr_work : Cond.selects mWr_work.1.cls mWr_work.1 mWr_work.1 ∈ lwg := lwg_of 1241 (by decide +kernel) (by decide +kernel)
theorem dWr_work_0 : decode mWr_work.2.1 0 = .ok (.aload_n 0, 1) := by decide +kernel
theorem dWr_work_1 : decode mWr_work.2.1 1 = .ok (.getfield 15, 3) := by decide +kernel
theorem dWr_work_4 : decode mWr_work.2.1 4 = .ok (.ifCond .ne 4, 3) := by decide +kernel
theorem dWr_work_7 : decode mWr_work.2.1 7 = .ok (.return_, 1) := by decide +kernel
theorem dWr_work_8 : decode mWr_work.2.1 8 = .ok (.aload_n 1, 1) := by decide +kernel
theorem dWr_work_9 : decode mWr_work.2.1 9 = .ok (.getfield 19, 3) := by decide +kernel
theorem dWr_work_12 : decode mWr_work.2.1 12 = .ok (.istore 4, 2) := by decide +kernel
theorem dWr_work_14 : decode mWr_work.2.1 14 = .ok (.iconst 1, 1) := by decide +kernel
theorem dWr_work_15 : decode mWr_work.2.1 15 = .ok (.istore 5, 2) := by decide +kernel
theorem dWr_work_17 : decode mWr_work.2.1 17 = .ok (.iconst 0, 1) := by decide +kernel
theorem dWr_work_18 : decode mWr_work.2.1 18 = .ok (.istore 6, 2) := by decide +kernel
theorem dWr_work_20 : decode mWr_work.2.1 20 = .ok (.iload 6, 2) := by decide +kernel
theorem dWr_work_22 : decode mWr_work.2.1 22 = .ok (.iload 4, 2) := by decide +kernel
theorem dWr_work_24 : decode mWr_work.2.1 24 = .ok (.if_icmp .ge 21, 3) := by decide +kernel
theorem dWr_work_27 : decode mWr_work.2.1 27 = .ok (.iload 6, 2) := by decide +kernel
theorem dWr_work_29 : decode mWr_work.2.1 29 = .ok (.iconst 5, 1) := by decide +kernel
theorem dWr_work_30 : decode mWr_work.2.1 30 = .ok (.if_icmp .ge 15, 3) := by decide +kernel
theorem dWr_work_33 : decode mWr_work.2.1 33 = .ok (.iload 5, 2) := by decide +kernel
theorem dWr_work_35 : decode mWr_work.2.1 35 = .ok (.iconst 5, 1) := by decide +kernel
theorem dWr_work_36 : decode mWr_work.2.1 36 = .ok (.imul, 1) := by decide +kernel
theorem dWr_work_37 : decode mWr_work.2.1 37 = .ok (.istore 5, 2) := by decide +kernel
theorem dWr_work_39 : decode mWr_work.2.1 39 = .ok (.iinc 6 1, 3) := by decide +kernel
theorem dWr_work_42 : decode mWr_work.2.1 42 = .ok (.goto (-22), 3) := by decide +kernel
theorem dWr_work_45 : decode mWr_work.2.1 45 = .ok (.aload_n 0, 1) := by decide +kernel
theorem dWr_work_46 : decode mWr_work.2.1 46 = .ok (.getfield 9, 3) := by decide +kernel
theorem dWr_work_49 : decode mWr_work.2.1 49 = .ok (.arraylength, 1) := by decide +kernel
theorem dWr_work_50 : decode mWr_work.2.1 50 = .ok (.iload 5, 2) := by decide +kernel
theorem dWr_work_52 : decode mWr_work.2.1 52 = .ok (.iload 4, 2) := by decide +kernel
theorem dWr_work_54 : decode mWr_work.2.1 54 = .ok (.imul, 1) := by decide +kernel
theorem dWr_work_55 : decode mWr_work.2.1 55 = .ok (.if_icmp .ge 14, 3) := by decide +kernel
theorem dWr_work_58 : decode mWr_work.2.1 58 = .ok (.aload_n 0, 1) := by decide +kernel
theorem dWr_work_59 : decode mWr_work.2.1 59 = .ok (.iload 5, 2) := by decide +kernel
theorem dWr_work_61 : decode mWr_work.2.1 61 = .ok (.iload 4, 2) := by decide +kernel
theorem dWr_work_63 : decode mWr_work.2.1 63 = .ok (.imul, 1) := by decide +kernel
theorem dWr_work_64 : decode mWr_work.2.1 64 = .ok (.newarray .int, 2) := by decide +kernel
theorem dWr_work_66 : decode mWr_work.2.1 66 = .ok (.putfield 9, 3) := by decide +kernel
theorem dWr_work_69 : decode mWr_work.2.1 69 = .ok (.aload_n 3, 1) := by decide +kernel
theorem dWr_work_70 : decode mWr_work.2.1 70 = .ok (.aload_n 1, 1) := by decide +kernel
theorem dWr_work_71 : decode mWr_work.2.1 71 = .ok (.aload_n 2, 1) := by decide +kernel
theorem dWr_work_72 : decode mWr_work.2.1 72 = .ok (.invokevirtual 25, 3) := by decide +kernel
theorem dWr_work_75 : decode mWr_work.2.1 75 = .ok (.aload_n 0, 1) := by decide +kernel
theorem dWr_work_76 : decode mWr_work.2.1 76 = .ok (.iconst (-1), 1) := by decide +kernel
theorem dWr_work_77 : decode mWr_work.2.1 77 = .ok (.putfield 31, 3) := by decide +kernel
theorem dWr_work_80 : decode mWr_work.2.1 80 = .ok (.iconst 0, 1) := by decide +kernel
theorem dWr_work_81 : decode mWr_work.2.1 81 = .ok (.istore 6, 2) := by decide +kernel
theorem dWr_work_83 : decode mWr_work.2.1 83 = .ok (.iload 6, 2) := by decide +kernel
theorem dWr_work_85 : decode mWr_work.2.1 85 = .ok (.iload 5, 2) := by decide +kernel
theorem dWr_work_87 : decode mWr_work.2.1 87 = .ok (.if_icmp .ge 36, 3) := by decide +kernel
theorem dWr_work_90 : decode mWr_work.2.1 90 = .ok (.aload_n 3, 1) := by decide +kernel
theorem dWr_work_91 : decode mWr_work.2.1 91 = .ok (.getfield 34, 3) := by decide +kernel
theorem dWr_work_94 : decode mWr_work.2.1 94 = .ok (.iload 6, 2) := by decide +kernel
theorem dWr_work_96 : decode mWr_work.2.1 96 = .ok (.iload 4, 2) := by decide +kernel
theorem dWr_work_98 : decode mWr_work.2.1 98 = .ok (.invokestatic 37, 3) := by decide +kernel
theorem dWr_work_101 : decode mWr_work.2.1 101 = .ok (.aload_n 3, 1) := by decide +kernel
theorem dWr_work_102 : decode mWr_work.2.1 102 = .ok (.invokevirtual 41, 3) := by decide +kernel
theorem dWr_work_105 : decode mWr_work.2.1 105 = .ok (.aload_n 0, 1) := by decide +kernel
theorem dWr_work_106 : decode mWr_work.2.1 106 = .ok (.aload_n 3, 1) := by decide +kernel
theorem dWr_work_107 : decode mWr_work.2.1 107 = .ok (.getfield 44, 3) := by decide +kernel
theorem dWr_work_110 : decode mWr_work.2.1 110 = .ok (.iload 6, 2) := by decide +kernel
theorem dWr_work_112 : decode mWr_work.2.1 112 = .ok (.iload 4, 2) := by decide +kernel
theorem dWr_work_114 : decode mWr_work.2.1 114 = .ok (.invokevirtual 47, 3) := by decide +kernel
theorem dWr_work_117 : decode mWr_work.2.1 117 = .ok (.iinc 6 1, 3) := by decide +kernel
theorem dWr_work_120 : decode mWr_work.2.1 120 = .ok (.goto (-37), 3) := by decide +kernel
theorem dWr_work_123 : decode mWr_work.2.1 123 = .ok (.aload_n 0, 1) := by decide +kernel
theorem dWr_work_124 : decode mWr_work.2.1 124 = .ok (.iload 5, 2) := by decide +kernel
theorem dWr_work_126 : decode mWr_work.2.1 126 = .ok (.iload 4, 2) := by decide +kernel
theorem dWr_work_128 : decode mWr_work.2.1 128 = .ok (.invokevirtual 50, 3) := by decide +kernel
theorem dWr_work_131 : decode mWr_work.2.1 131 = .ok (.aload_n 0, 1) := by decide +kernel
theorem dWr_work_132 : decode mWr_work.2.1 132 = .ok (.iconst 0, 1) := by decide +kernel
theorem dWr_work_133 : decode mWr_work.2.1 133 = .ok (.putfield 15, 3) := by decide +kernel
theorem dWr_work_136 : decode mWr_work.2.1 136 = .ok (.return_, 1) := by decide +kernel
theorem fWr_19 : FOK "BowingRow$WayRows" 19 6 2 false := ⟨RX6, TX6, nFd 6, rfl, by decide, rfl, by decide, rfl, lwg_of 175 (by decide +kernel) (by decide +kernel)⟩
theorem bWr_work_0 {l : Launch} {G : Gx} {d : Nat} {bc bs : Nat} {Φ : OutV → Mm → Prop} (M : Mm) (a0 : Nat) (a1 : Nat) (a2 : Nat) (a3 : Nat)
    (h : ((m_sh M a0).1 = 9) ∧ (¬ (m_i M a0 1) = 0 → ((m_sh M a1).1 = 6) ∧ Ev l G d mWr_work 20 [.ref a0, .ref a1, .ref a2, .ref a3, .int (m_i M a1 2), .int 1, .int 0] [] M bc bs Φ) ∧ ((m_i M a0 1) = 0 → Φ (.inl none) M)) :
    Ev l G d mWr_work 0 [.ref a0, .ref a1, .ref a2, .ref a3, .null, .null, .null] [] M bc bs Φ := by
  refine Ev.aload_n dWr_work_0 rfl ?_
  have g1 := h.1
  replace h := h.2
  refine Ev.getI dWr_work_1 (Or.inl fWr_15) rfl g1 ?_
  refine Ev.if_ne 8 (by decide) dWr_work_4 (fun c => ?_) (fun c => ?_)
  · replace h := h.1 c
    refine Ev.aload_n dWr_work_8 rfl ?_
    have g2 := h.1
    replace h := h.2
    refine Ev.getI dWr_work_9 (Or.inl fWr_19) rfl g2 ?_
    refine Ev.istore dWr_work_12 (by decide) ?_
    show Ev l G d mWr_work (_ + _) [.ref a0, .ref a1, .ref a2, .ref a3, .int (m_i M a1 2), .null, .null] [] M bc bs Φ
    refine Ev.iconst (v := 1) dWr_work_14 (by decide) ?_
    refine Ev.istore dWr_work_15 (by decide) ?_
    show Ev l G d mWr_work (_ + _) [.ref a0, .ref a1, .ref a2, .ref a3, .int (m_i M a1 2), .int 1, .null] [] M bc bs Φ
    refine Ev.iconst (v := 0) dWr_work_17 (by decide) ?_
    refine Ev.istore dWr_work_18 (by decide) ?_
    show Ev l G d mWr_work (_ + _) [.ref a0, .ref a1, .ref a2, .ref a3, .int (m_i M a1 2), .int 1, .int 0] [] M bc bs Φ
    exact h
  · replace h := h.2 c
    exact Ev.vret dWr_work_7 rfl h
theorem bWr_work_20 {l : Launch} {G : Gx} {d : Nat} {bc bs : Nat} {Φ : OutV → Mm → Prop} (M : Mm) (a0 : Nat) (a1 : Nat) (a2 : Nat) (a3 : Nat) (x4 : Int32) (x5 : Int32) (x6 : Int32)
    (h : (x4 ≤ x6 → Ev l G d mWr_work 45 [.ref a0, .ref a1, .ref a2, .ref a3, .int x4, .int x5, .int x6] [] M bc bs Φ) ∧ (¬ x4 ≤ x6 → (5 ≤ x6 → Ev l G d mWr_work 45 [.ref a0, .ref a1, .ref a2, .ref a3, .int x4, .int x5, .int x6] [] M bc bs Φ) ∧ (¬ 5 ≤ x6 → Ev l G d mWr_work 20 [.ref a0, .ref a1, .ref a2, .ref a3, .int x4, .int (x5 * 5), .int (x6 + 1)] [] M bc bs Φ))) :
    Ev l G d mWr_work 20 [.ref a0, .ref a1, .ref a2, .ref a3, .int x4, .int x5, .int x6] [] M bc bs Φ := by
  refine Ev.iload dWr_work_20 rfl ?_
  refine Ev.iload dWr_work_22 rfl ?_
  refine Ev.icmp_ge 45 (by decide) dWr_work_24 (fun c => ?_) (fun c => ?_)
  · replace h := h.1 c
    exact h
  · replace h := h.2 c
    refine Ev.iload dWr_work_27 rfl ?_
    refine Ev.iconst (v := 5) dWr_work_29 (by decide) ?_
    refine Ev.icmp_ge 45 (by decide) dWr_work_30 (fun c => ?_) (fun c => ?_)
    · replace h := h.1 c
      exact h
    · replace h := h.2 c
      refine Ev.iload dWr_work_33 rfl ?_
      refine Ev.iconst (v := 5) dWr_work_35 (by decide) ?_
      refine Ev.imul dWr_work_36 ?_
      refine Ev.istore dWr_work_37 (by decide) ?_
      show Ev l G d mWr_work (_ + _) [.ref a0, .ref a1, .ref a2, .ref a3, .int x4, .int (x5 * 5), .int x6] [] M bc bs Φ
      refine Ev.iinc (v := x6 + 1) dWr_work_39 (by decide) rfl rfl ?_
      show Ev l G d mWr_work (_ + _) [.ref a0, .ref a1, .ref a2, .ref a3, .int x4, .int (x5 * 5), .int (x6 + 1)] [] M bc bs Φ
      refine Ev.goto 20 dWr_work_42 (by decide) ?_
      exact h
theorem bWr_work_45 {l : Launch} {G : Gx} {d : Nat} {bc bs : Nat} {Φ : OutV → Mm → Prop} (M : Mm) (a0 : Nat) (a1 : Nat) (a2 : Nat) (a3 : Nat) (x4 : Int32) (x5 : Int32) (x6 : Int32)
    (h : ((m_sh M a0).1 = 9) ∧ ((m_sh M (m_r M a0 0)).1 = 20) ∧ ((x5 * x4) ≤ (Int32.ofNat (m_sh M (m_r M a0 0)).2) → Ev l G d mWr_work 69 [.ref a0, .ref a1, .ref a2, .ref a3, .int x4, .int x5, .int x6] [] M bc bs Φ) ∧ (¬ (x5 * x4) ≤ (Int32.ofNat (m_sh M (m_r M a0 0)).2) → (¬ (x5 * x4) < 0 ∧ (x5 * x4).toNatClampNeg * 4 ≤ 536870912) ∧ (1 ≤ bc ∧ (x5 * x4).toNatClampNeg ≤ bs) ∧ ((m_sh (m_al M (20, (x5 * x4).toNatClampNeg)) a0).1 = 9) ∧ Ev l G d mWr_work 69 [.ref a0, .ref a1, .ref a2, .ref a3, .int x4, .int x5, .int x6] [] (m_sr (m_al M (20, (x5 * x4).toNatClampNeg)) a0 0 (m_nx M)) (bc - 1) (bs - ((x5 * x4).toNatClampNeg)) Φ)) :
    Ev l G d mWr_work 45 [.ref a0, .ref a1, .ref a2, .ref a3, .int x4, .int x5, .int x6] [] M bc bs Φ := by
  refine Ev.aload_n dWr_work_45 rfl ?_
  have g1 := h.1
  replace h := h.2
  refine Ev.getR dWr_work_46 (Or.inl fWr_9) rfl g1 ?_
  have g2 := h.1
  replace h := h.2
  refine Ev.alen2 20 (by decide) dWr_work_49 g2 ?_
  refine Ev.iload dWr_work_50 rfl ?_
  refine Ev.iload dWr_work_52 rfl ?_
  refine Ev.imul dWr_work_54 ?_
  refine Ev.icmp_ge 69 (by decide) dWr_work_55 (fun c => ?_) (fun c => ?_)
  · replace h := h.1 c
    exact h
  · replace h := h.2 c
    refine Ev.aload_n dWr_work_58 rfl ?_
    refine Ev.iload dWr_work_59 rfl ?_
    refine Ev.iload dWr_work_61 rfl ?_
    refine Ev.imul dWr_work_63 ?_
    have g3 := h.1
    replace h := h.2
    have g4 := h.1
    replace h := h.2
    refine Ev.newI2 ((x5 * x4).toNatClampNeg) dWr_work_64 w164 g3.1 rfl g3.2 g4 ?_
    have g5 := h.1
    replace h := h.2
    refine Ev.putR dWr_work_66 ⟨_, Or.inl ⟨fWr_9, (fun h => by cases h)⟩⟩ rfl (fun ad => fitR (by first | exact Or.inl ⟨_, rfl⟩ | exact Or.inr ⟨_, rfl⟩) _ ad) g5 ?_
    exact h
theorem w1243 : Cond.methodLink "BowingRow$WayRows" 25 ⟨"BowingRow$Day", "prepare", "(LBowingRow$People;LBowingRow$InForce;)V"⟩ ∈ lwg := lwg_of 1243 (by decide +kernel) (by decide +kernel)
theorem bWr_work_69 {l : Launch} {G : Gx} {d : Nat} {bc bs : Nat} {Φ : OutV → Mm → Prop} (M : Mm) (a0 : Nat) (a1 : Nat) (a2 : Nat) (a3 : Nat) (x4 : Int32) (x5 : Int32) (x6 : Int32)
    (h : ((m_sh M a3).1 = 1) ∧ CallVC l G d mWr_work 75 [.ref a0, .ref a1, .ref a2, .ref a3, .int x4, .int x5, .int x6] [] mDa_prepare [.ref a3, .ref a1, .ref a2] M bc bs Φ) :
    Ev l G d mWr_work 69 [.ref a0, .ref a1, .ref a2, .ref a3, .int x4, .int x5, .int x6] [] M bc bs Φ := by
  refine Ev.aload_n dWr_work_69 rfl ?_
  refine Ev.aload_n dWr_work_70 rfl ?_
  refine Ev.aload_n dWr_work_71 rfl ?_
  have g1 := h.1
  replace h := h.2
  exact Ev.vcV (z := mDa_prepare) (ci := 1) [.ref a1, .ref a2] [] rfl dWr_work_72 oDa_prepare rfl w1243 iDa_prepare sDa_prepare (by decide) rfl g1 (Nat.le_of_ble_eq_true rfl) h
theorem fWr_31 : FOK "BowingRow$WayRows" 31 9 4 false := ⟨RX9, TX9, nFd 9, rfl, by decide, rfl, by decide, rfl, lwg_of 426 (by decide +kernel) (by decide +kernel)⟩
theorem bWr_work_75 {l : Launch} {G : Gx} {d : Nat} {bc bs : Nat} {Φ : OutV → Mm → Prop} (M : Mm) (a0 : Nat) (a1 : Nat) (a2 : Nat) (a3 : Nat) (x4 : Int32) (x5 : Int32) (x6 : Int32)
    (h : ((m_sh M a0).1 = 9) ∧ Ev l G d mWr_work 83 [.ref a0, .ref a1, .ref a2, .ref a3, .int x4, .int x5, .int 0] [] (m_si M a0 4 ((-1))) bc bs Φ) :
    Ev l G d mWr_work 75 [.ref a0, .ref a1, .ref a2, .ref a3, .int x4, .int x5, .int x6] [] M bc bs Φ := by
  refine Ev.aload_n dWr_work_75 rfl ?_
  refine Ev.iconst (v := (-1)) dWr_work_76 (by decide) ?_
  have g1 := h.1
  replace h := h.2
  refine Ev.putI dWr_work_77 ⟨_, Or.inl ⟨fWr_31, (fun h => by cases h)⟩⟩ rfl ⟨rfl, rfl⟩ g1 ?_
  refine Ev.iconst (v := 0) dWr_work_80 (by decide) ?_
  refine Ev.istore dWr_work_81 (by decide) ?_
  show Ev l G d mWr_work (_ + _) [.ref a0, .ref a1, .ref a2, .ref a3, .int x4, .int x5, .int 0] [] (m_si M a0 4 ((-1))) bc bs Φ
  exact h
def mWr_findRests : MR := (⟨"BowingRow$WayRows", "findRests", "(II)V"⟩, prog_11_method_5_code, 4, none)
theorem oWr_findRests : MOK mWr_findRests 2 := ⟨lwg_of 1256 (by decide +kernel) (by decide +kernel), lwg_of 100 (by decide +kernel) (by decide +kernel), ⟨by decide +kernel, by decide +kernel⟩, by decide +kernel, by decide⟩
theorem iWr_findRests : Cond.instanceMethod mWr_findRests.1 ∈ lwg := lwg_of 1255 (by decide +kernel) (by decide +kernel)
theorem sWr_findRests : Cond.selects mWr_findRests.1.cls mWr_findRests.1 mWr_findRests.1 ∈ lwg := lwg_of 36 (by decide +kernel) (by decide +kernel)
theorem w1253 : Cond.methodLink "BowingRow$WayRows" 50 ⟨"BowingRow$WayRows", "findRests", "(II)V"⟩ ∈ lwg := lwg_of 1253 (by decide +kernel) (by decide +kernel)
theorem fWr_34 : FOK "BowingRow$WayRows" 34 1 2 true := ⟨RX1, TX1, nFd 1, rfl, by decide, rfl, by decide, rfl, lwg_of 349 (by decide +kernel) (by decide +kernel)⟩
def mWr_setWays : MR := (⟨"BowingRow$WayRows", "setWays", "([III)V"⟩, prog_11_method_3_code, 5, none)
theorem oWr_setWays : MOK mWr_setWays 3 := ⟨lwg_of 1246 (by decide +kernel) (by decide +kernel), lwg_of 100 (by decide +kernel) (by decide +kernel), ⟨by decide +kernel, by decide +kernel⟩, by decide +kernel, by decide⟩
theorem iWr_setWays : Cond.static mWr_setWays.1 ∈ lwg := lwg_of 1245 (by decide +kernel) (by decide +kernel)
theorem w1244 : Cond.methodLink "BowingRow$WayRows" 37 ⟨"BowingRow$WayRows", "setWays", "([III)V"⟩ ∈ lwg := lwg_of 1244 (by decide +kernel) (by decide +kernel)
theorem bWr_work_83 {l : Launch} {G : Gx} {d : Nat} {bc bs : Nat} {Φ : OutV → Mm → Prop} (M : Mm) (a0 : Nat) (a1 : Nat) (a2 : Nat) (a3 : Nat) (x4 : Int32) (x5 : Int32) (x6 : Int32)
    (h : (x5 ≤ x6 → ((m_sh M a0).1 = 9) ∧ CallVC l G d mWr_work 131 [.ref a0, .ref a1, .ref a2, .ref a3, .int x4, .int x5, .int x6] [] mWr_findRests [.ref a0, .int x5, .int x4] M bc bs Φ) ∧ (¬ x5 ≤ x6 → ((m_sh M a3).1 = 1) ∧ CallVC l G d mWr_work 101 [.ref a0, .ref a1, .ref a2, .ref a3, .int x4, .int x5, .int x6] [] mWr_setWays [.ref (m_r M a3 2), .int x6, .int x4] M bc bs Φ)) :
    Ev l G d mWr_work 83 [.ref a0, .ref a1, .ref a2, .ref a3, .int x4, .int x5, .int x6] [] M bc bs Φ := by
  refine Ev.iload dWr_work_83 rfl ?_
  refine Ev.iload dWr_work_85 rfl ?_
  refine Ev.icmp_ge 123 (by decide) dWr_work_87 (fun c => ?_) (fun c => ?_)
  · replace h := h.1 c
    refine Ev.aload_n dWr_work_123 rfl ?_
    refine Ev.iload dWr_work_124 rfl ?_
    refine Ev.iload dWr_work_126 rfl ?_
    have g1 := h.1
    replace h := h.2
    exact Ev.vcV (z := mWr_findRests) (ci := 9) [.int x5, .int x4] [] rfl dWr_work_128 oWr_findRests rfl w1253 iWr_findRests sWr_findRests (by decide) rfl g1 (Nat.le_of_ble_eq_true rfl) h
  · replace h := h.2 c
    refine Ev.aload_n dWr_work_90 rfl ?_
    have g2 := h.1
    replace h := h.2
    refine Ev.getR dWr_work_91 (Or.inl fWr_34) rfl g2 ?_
    refine Ev.iload dWr_work_94 rfl ?_
    refine Ev.iload dWr_work_96 rfl ?_
    exact Ev.vcS (z := mWr_setWays) [.ref (m_r M a3 2), .int x6, .int x4] [] rfl dWr_work_98 oWr_setWays rfl w1244 iWr_setWays (Nat.le_of_ble_eq_true rfl) h
theorem w1247 : Cond.methodLink "BowingRow$WayRows" 41 ⟨"BowingRow$Day", "goThrough", "()V"⟩ ∈ lwg := lwg_of 1247 (by decide +kernel) (by decide +kernel)
theorem bWr_work_101 {l : Launch} {G : Gx} {d : Nat} {bc bs : Nat} {Φ : OutV → Mm → Prop} (M : Mm) (a0 : Nat) (a1 : Nat) (a2 : Nat) (a3 : Nat) (x4 : Int32) (x5 : Int32) (x6 : Int32)
    (h : ((m_sh M a3).1 = 1) ∧ CallVC l G d mWr_work 105 [.ref a0, .ref a1, .ref a2, .ref a3, .int x4, .int x5, .int x6] [] mDa_goThrough [.ref a3] M bc bs Φ) :
    Ev l G d mWr_work 101 [.ref a0, .ref a1, .ref a2, .ref a3, .int x4, .int x5, .int x6] [] M bc bs Φ := by
  refine Ev.aload_n dWr_work_101 rfl ?_
  have g1 := h.1
  replace h := h.2
  exact Ev.vcV (z := mDa_goThrough) (ci := 1) [] [] rfl dWr_work_102 oDa_goThrough rfl w1247 iDa_goThrough sDa_goThrough (by decide) rfl g1 (Nat.le_of_ble_eq_true rfl) h
theorem fWr_44 : FOK "BowingRow$WayRows" 44 1 11 true := ⟨RX1, TX1, nFd 1, rfl, by decide, rfl, by decide, rfl, lwg_of 366 (by decide +kernel) (by decide +kernel)⟩
def mWr_keepEnds : MR := (⟨"BowingRow$WayRows", "keepEnds", "([III)V"⟩, prog_11_method_4_code, 7, none)
theorem oWr_keepEnds : MOK mWr_keepEnds 3 := ⟨lwg_of 1251 (by decide +kernel) (by decide +kernel), lwg_of 100 (by decide +kernel) (by decide +kernel), ⟨by decide +kernel, by decide +kernel⟩, by decide +kernel, by decide⟩
theorem iWr_keepEnds : Cond.instanceMethod mWr_keepEnds.1 ∈ lwg := lwg_of 1250 (by decide +kernel) (by decide +kernel)
theorem sWr_keepEnds : Cond.selects mWr_keepEnds.1.cls mWr_keepEnds.1 mWr_keepEnds.1 ∈ lwg := lwg_of 35 (by decide +kernel) (by decide +kernel)
theorem w1248 : Cond.methodLink "BowingRow$WayRows" 47 ⟨"BowingRow$WayRows", "keepEnds", "([III)V"⟩ ∈ lwg := lwg_of 1248 (by decide +kernel) (by decide +kernel)
theorem bWr_work_105 {l : Launch} {G : Gx} {d : Nat} {bc bs : Nat} {Φ : OutV → Mm → Prop} (M : Mm) (a0 : Nat) (a1 : Nat) (a2 : Nat) (a3 : Nat) (x4 : Int32) (x5 : Int32) (x6 : Int32)
    (h : ((m_sh M a3).1 = 1) ∧ ((m_sh M a0).1 = 9) ∧ CallVC l G d mWr_work 117 [.ref a0, .ref a1, .ref a2, .ref a3, .int x4, .int x5, .int x6] [] mWr_keepEnds [.ref a0, .ref (m_r M a3 11), .int x6, .int x4] M bc bs Φ) :
    Ev l G d mWr_work 105 [.ref a0, .ref a1, .ref a2, .ref a3, .int x4, .int x5, .int x6] [] M bc bs Φ := by
  refine Ev.aload_n dWr_work_105 rfl ?_
  refine Ev.aload_n dWr_work_106 rfl ?_
  have g1 := h.1
  replace h := h.2
  refine Ev.getR dWr_work_107 (Or.inl fWr_44) rfl g1 ?_
  refine Ev.iload dWr_work_110 rfl ?_
  refine Ev.iload dWr_work_112 rfl ?_
  have g2 := h.1
  replace h := h.2
  exact Ev.vcV (z := mWr_keepEnds) (ci := 9) [.ref (m_r M a3 11), .int x6, .int x4] [] rfl dWr_work_114 oWr_keepEnds rfl w1248 iWr_keepEnds sWr_keepEnds (by decide) rfl g2 (Nat.le_of_ble_eq_true rfl) h
theorem bWr_work_117 {l : Launch} {G : Gx} {d : Nat} {bc bs : Nat} {Φ : OutV → Mm → Prop} (M : Mm) (a0 : Nat) (a1 : Nat) (a2 : Nat) (a3 : Nat) (x4 : Int32) (x5 : Int32) (x6 : Int32)
    (h : Ev l G d mWr_work 83 [.ref a0, .ref a1, .ref a2, .ref a3, .int x4, .int x5, .int (x6 + 1)] [] M bc bs Φ) :
    Ev l G d mWr_work 117 [.ref a0, .ref a1, .ref a2, .ref a3, .int x4, .int x5, .int x6] [] M bc bs Φ := by
  refine Ev.iinc (v := x6 + 1) dWr_work_117 (by decide) rfl rfl ?_
  show Ev l G d mWr_work (_ + _) [.ref a0, .ref a1, .ref a2, .ref a3, .int x4, .int x5, .int (x6 + 1)] [] M bc bs Φ
  refine Ev.goto 83 dWr_work_120 (by decide) ?_
  exact h
theorem bWr_work_131 {l : Launch} {G : Gx} {d : Nat} {bc bs : Nat} {Φ : OutV → Mm → Prop} (M : Mm) (a0 : Nat) (a1 : Nat) (a2 : Nat) (a3 : Nat) (x4 : Int32) (x5 : Int32) (x6 : Int32)
    (h : ((m_sh M a0).1 = 9) ∧ Φ (.inl none) (m_si M a0 1 0)) :
    Ev l G d mWr_work 131 [.ref a0, .ref a1, .ref a2, .ref a3, .int x4, .int x5, .int x6] [] M bc bs Φ := by
  refine Ev.aload_n dWr_work_131 rfl ?_
  refine Ev.iconst (v := 0) dWr_work_132 (by decide) ?_
  have g1 := h.1
  replace h := h.2
  refine Ev.putI dWr_work_133 ⟨_, Or.inl ⟨fWr_15, (fun h => by cases h)⟩⟩ rfl ⟨rfl, rfl⟩ g1 ?_
  exact Ev.vret dWr_work_136 rfl h
theorem dWr_setWays_0 : decode mWr_setWays.2.1 0 = .ok (.iload_n 1, 1) := by decide +kernel
theorem dWr_setWays_1 : decode mWr_setWays.2.1 1 = .ok (.istore_n 3, 1) := by decide +kernel
theorem dWr_setWays_2 : decode mWr_setWays.2.1 2 = .ok (.iload_n 2, 1) := by decide +kernel
theorem dWr_setWays_3 : decode mWr_setWays.2.1 3 = .ok (.iconst 1, 1) := by decide +kernel
theorem dWr_setWays_4 : decode mWr_setWays.2.1 4 = .ok (.isub, 1) := by decide +kernel
theorem dWr_setWays_5 : decode mWr_setWays.2.1 5 = .ok (.istore 4, 2) := by decide +kernel
theorem dWr_setWays_7 : decode mWr_setWays.2.1 7 = .ok (.iload 4, 2) := by decide +kernel
theorem dWr_setWays_9 : decode mWr_setWays.2.1 9 = .ok (.ifCond .lt 20, 3) := by decide +kernel
theorem dWr_setWays_12 : decode mWr_setWays.2.1 12 = .ok (.aload_n 0, 1) := by decide +kernel
theorem dWr_setWays_13 : decode mWr_setWays.2.1 13 = .ok (.iload 4, 2) := by decide +kernel
theorem dWr_setWays_15 : decode mWr_setWays.2.1 15 = .ok (.iload_n 3, 1) := by decide +kernel
theorem dWr_setWays_16 : decode mWr_setWays.2.1 16 = .ok (.iconst 5, 1) := by decide +kernel
theorem dWr_setWays_17 : decode mWr_setWays.2.1 17 = .ok (.irem, 1) := by decide +kernel
theorem dWr_setWays_18 : decode mWr_setWays.2.1 18 = .ok (.iastore, 1) := by decide +kernel
theorem dWr_setWays_19 : decode mWr_setWays.2.1 19 = .ok (.iload_n 3, 1) := by decide +kernel
theorem dWr_setWays_20 : decode mWr_setWays.2.1 20 = .ok (.iconst 5, 1) := by decide +kernel
theorem dWr_setWays_21 : decode mWr_setWays.2.1 21 = .ok (.idiv, 1) := by decide +kernel
theorem dWr_setWays_22 : decode mWr_setWays.2.1 22 = .ok (.istore_n 3, 1) := by decide +kernel
theorem dWr_setWays_23 : decode mWr_setWays.2.1 23 = .ok (.iinc 4 (-1), 3) := by decide +kernel
theorem dWr_setWays_26 : decode mWr_setWays.2.1 26 = .ok (.goto (-19), 3) := by decide +kernel
theorem dWr_setWays_29 : decode mWr_setWays.2.1 29 = .ok (.return_, 1) := by decide +kernel
theorem bWr_setWays_0 {l : Launch} {G : Gx} {d : Nat} {bc bs : Nat} {Φ : OutV → Mm → Prop} (M : Mm) (a0 : Nat) (x1 : Int32) (x2 : Int32)
    (h : Ev l G d mWr_setWays 7 [.ref a0, .int x1, .int x2, .int x1, .int (x2 - 1)] [] M bc bs Φ) :
    Ev l G d mWr_setWays 0 [.ref a0, .int x1, .int x2, .null, .null] [] M bc bs Φ := by
  refine Ev.iload_n dWr_setWays_0 rfl ?_
  refine Ev.istore_n dWr_setWays_1 (by decide) ?_
  show Ev l G d mWr_setWays (_ + _) [.ref a0, .int x1, .int x2, .int x1, .null] [] M bc bs Φ
  refine Ev.iload_n dWr_setWays_2 rfl ?_
  refine Ev.iconst (v := 1) dWr_setWays_3 (by decide) ?_
  refine Ev.isub dWr_setWays_4 ?_
  refine Ev.istore dWr_setWays_5 (by decide) ?_
  show Ev l G d mWr_setWays (_ + _) [.ref a0, .int x1, .int x2, .int x1, .int (x2 - 1)] [] M bc bs Φ
  exact h
theorem bWr_setWays_7 {l : Launch} {G : Gx} {d : Nat} {bc bs : Nat} {Φ : OutV → Mm → Prop} (M : Mm) (a0 : Nat) (x1 : Int32) (x2 : Int32) (x3 : Int32) (x4 : Int32)
    (h : (x4 < 0 → Φ (.inl none) M) ∧ (¬ x4 < 0 → ((m_sh M a0).1 = 20) ∧ (vp_in x4 (m_sh M a0).2) ∧ Ev l G d mWr_setWays 7 [.ref a0, .int x1, .int x2, .int (x3 / 5), .int (x4 + (-1))] [] (m_si M a0 x4.toNatClampNeg (x3 - x3 / 5 * 5)) bc bs Φ)) :
    Ev l G d mWr_setWays 7 [.ref a0, .int x1, .int x2, .int x3, .int x4] [] M bc bs Φ := by
  refine Ev.iload dWr_setWays_7 rfl ?_
  refine Ev.if_lt 29 (by decide) dWr_setWays_9 (fun c => ?_) (fun c => ?_)
  · replace h := h.1 c
    exact Ev.vret dWr_setWays_29 rfl h
  · replace h := h.2 c
    refine Ev.aload_n dWr_setWays_12 rfl ?_
    refine Ev.iload dWr_setWays_13 rfl ?_
    refine Ev.iload_n dWr_setWays_15 rfl ?_
    refine Ev.iconst (v := 5) dWr_setWays_16 (by decide) ?_
    refine Ev.irem dWr_setWays_17 (by decide) ?_
    have g1 := h.1
    replace h := h.2
    have g2 := h.1
    replace h := h.2
    refine Ev.iast2 dWr_setWays_18 g1 g2 ?_
    refine Ev.iload_n dWr_setWays_19 rfl ?_
    refine Ev.iconst (v := 5) dWr_setWays_20 (by decide) ?_
    refine Ev.idiv dWr_setWays_21 (by decide) ?_
    refine Ev.istore_n dWr_setWays_22 (by decide) ?_
    show Ev l G d mWr_setWays (_ + _) [.ref a0, .int x1, .int x2, .int (x3 / 5), .int x4] [] (m_si M a0 x4.toNatClampNeg (x3 - x3 / 5 * 5)) bc bs Φ
    refine Ev.iinc (v := x4 + (-1)) dWr_setWays_23 (by decide) rfl rfl ?_
    show Ev l G d mWr_setWays (_ + _) [.ref a0, .int x1, .int x2, .int (x3 / 5), .int (x4 + (-1))] [] (m_si M a0 x4.toNatClampNeg (x3 - x3 / 5 * 5)) bc bs Φ
    refine Ev.goto 7 dWr_setWays_26 (by decide) ?_
    exact h
theorem dWr_keepEnds_0 : decode mWr_keepEnds.2.1 0 = .ok (.iconst 0, 1) := by decide +kernel
theorem dWr_keepEnds_1 : decode mWr_keepEnds.2.1 1 = .ok (.istore 4, 2) := by decide +kernel
theorem dWr_keepEnds_3 : decode mWr_keepEnds.2.1 3 = .ok (.iconst 0, 1) := by decide +kernel
theorem dWr_keepEnds_4 : decode mWr_keepEnds.2.1 4 = .ok (.istore 5, 2) := by decide +kernel
theorem dWr_keepEnds_6 : decode mWr_keepEnds.2.1 6 = .ok (.iload 5, 2) := by decide +kernel
theorem dWr_keepEnds_8 : decode mWr_keepEnds.2.1 8 = .ok (.iload_n 3, 1) := by decide +kernel
theorem dWr_keepEnds_9 : decode mWr_keepEnds.2.1 9 = .ok (.if_icmp .ge 38, 3) := by decide +kernel
theorem dWr_keepEnds_12 : decode mWr_keepEnds.2.1 12 = .ok (.aload_n 1, 1) := by decide +kernel
theorem dWr_keepEnds_13 : decode mWr_keepEnds.2.1 13 = .ok (.iload 5, 2) := by decide +kernel
theorem dWr_keepEnds_15 : decode mWr_keepEnds.2.1 15 = .ok (.iaload, 1) := by decide +kernel
theorem dWr_keepEnds_16 : decode mWr_keepEnds.2.1 16 = .ok (.invokestatic 54, 3) := by decide +kernel
theorem dWr_keepEnds_19 : decode mWr_keepEnds.2.1 19 = .ok (.istore 6, 2) := by decide +kernel
theorem dWr_keepEnds_21 : decode mWr_keepEnds.2.1 21 = .ok (.aload_n 0, 1) := by decide +kernel
theorem dWr_keepEnds_22 : decode mWr_keepEnds.2.1 22 = .ok (.getfield 9, 3) := by decide +kernel
theorem dWr_keepEnds_25 : decode mWr_keepEnds.2.1 25 = .ok (.iload_n 2, 1) := by decide +kernel
theorem dWr_keepEnds_26 : decode mWr_keepEnds.2.1 26 = .ok (.iload_n 3, 1) := by decide +kernel
theorem dWr_keepEnds_27 : decode mWr_keepEnds.2.1 27 = .ok (.imul, 1) := by decide +kernel
theorem dWr_keepEnds_28 : decode mWr_keepEnds.2.1 28 = .ok (.iload 5, 2) := by decide +kernel
theorem dWr_keepEnds_30 : decode mWr_keepEnds.2.1 30 = .ok (.iadd, 1) := by decide +kernel
theorem dWr_keepEnds_31 : decode mWr_keepEnds.2.1 31 = .ok (.iload 6, 2) := by decide +kernel
theorem dWr_keepEnds_33 : decode mWr_keepEnds.2.1 33 = .ok (.iastore, 1) := by decide +kernel
theorem dWr_keepEnds_34 : decode mWr_keepEnds.2.1 34 = .ok (.iload 4, 2) := by decide +kernel
theorem dWr_keepEnds_36 : decode mWr_keepEnds.2.1 36 = .ok (.iload 6, 2) := by decide +kernel
theorem dWr_keepEnds_38 : decode mWr_keepEnds.2.1 38 = .ok (.iadd, 1) := by decide +kernel
theorem dWr_keepEnds_39 : decode mWr_keepEnds.2.1 39 = .ok (.istore 4, 2) := by decide +kernel
theorem dWr_keepEnds_41 : decode mWr_keepEnds.2.1 41 = .ok (.iinc 5 1, 3) := by decide +kernel
theorem dWr_keepEnds_44 : decode mWr_keepEnds.2.1 44 = .ok (.goto (-38), 3) := by decide +kernel
theorem dWr_keepEnds_47 : decode mWr_keepEnds.2.1 47 = .ok (.aload_n 0, 1) := by decide +kernel
theorem dWr_keepEnds_48 : decode mWr_keepEnds.2.1 48 = .ok (.getfield 31, 3) := by decide +kernel
theorem dWr_keepEnds_51 : decode mWr_keepEnds.2.1 51 = .ok (.iconst (-1), 1) := by decide +kernel
theorem dWr_keepEnds_52 : decode mWr_keepEnds.2.1 52 = .ok (.if_icmp .eq 12, 3) := by decide +kernel
theorem dWr_keepEnds_55 : decode mWr_keepEnds.2.1 55 = .ok (.iload 4, 2) := by decide +kernel
theorem dWr_keepEnds_57 : decode mWr_keepEnds.2.1 57 = .ok (.aload_n 0, 1) := by decide +kernel
theorem dWr_keepEnds_58 : decode mWr_keepEnds.2.1 58 = .ok (.getfield 58, 3) := by decide +kernel
theorem dWr_keepEnds_61 : decode mWr_keepEnds.2.1 61 = .ok (.if_icmp .ge 14, 3) := by decide +kernel
theorem dWr_keepEnds_64 : decode mWr_keepEnds.2.1 64 = .ok (.aload_n 0, 1) := by decide +kernel
theorem dWr_keepEnds_65 : decode mWr_keepEnds.2.1 65 = .ok (.iload_n 2, 1) := by decide +kernel
theorem dWr_keepEnds_66 : decode mWr_keepEnds.2.1 66 = .ok (.putfield 31, 3) := by decide +kernel
theorem dWr_keepEnds_69 : decode mWr_keepEnds.2.1 69 = .ok (.aload_n 0, 1) := by decide +kernel
theorem dWr_keepEnds_70 : decode mWr_keepEnds.2.1 70 = .ok (.iload 4, 2) := by decide +kernel
theorem dWr_keepEnds_72 : decode mWr_keepEnds.2.1 72 = .ok (.putfield 58, 3) := by decide +kernel
theorem dWr_keepEnds_75 : decode mWr_keepEnds.2.1 75 = .ok (.return_, 1) := by decide +kernel
theorem bWr_keepEnds_0 {l : Launch} {G : Gx} {d : Nat} {bc bs : Nat} {Φ : OutV → Mm → Prop} (M : Mm) (a0 : Nat) (a1 : Nat) (x2 : Int32) (x3 : Int32)
    (h : Ev l G d mWr_keepEnds 6 [.ref a0, .ref a1, .int x2, .int x3, .int 0, .int 0, .null] [] M bc bs Φ) :
    Ev l G d mWr_keepEnds 0 [.ref a0, .ref a1, .int x2, .int x3, .null, .null, .null] [] M bc bs Φ := by
  refine Ev.iconst (v := 0) dWr_keepEnds_0 (by decide) ?_
  refine Ev.istore dWr_keepEnds_1 (by decide) ?_
  show Ev l G d mWr_keepEnds (_ + _) [.ref a0, .ref a1, .int x2, .int x3, .int 0, .null, .null] [] M bc bs Φ
  refine Ev.iconst (v := 0) dWr_keepEnds_3 (by decide) ?_
  refine Ev.istore dWr_keepEnds_4 (by decide) ?_
  show Ev l G d mWr_keepEnds (_ + _) [.ref a0, .ref a1, .int x2, .int x3, .int 0, .int 0, .null] [] M bc bs Φ
  exact h
theorem fWr_58 : FOK "BowingRow$WayRows" 58 9 5 false := ⟨RX9, TX9, nFd 9, rfl, by decide, rfl, by decide, rfl, lwg_of 428 (by decide +kernel) (by decide +kernel)⟩
def mBo_late : MR := (⟨"BowingRow", "late", "(I)I"⟩, prog_1_method_46_code, 1, (Option.some .int))
theorem oBo_late : MOK mBo_late 1 := ⟨lwg_of 1203 (by decide +kernel) (by decide +kernel), lwg_of 91 (by decide +kernel) (by decide +kernel), ⟨by decide +kernel, by decide +kernel⟩, by decide +kernel, by decide⟩
theorem iBo_late : Cond.static mBo_late.1 ∈ lwg := lwg_of 1202 (by decide +kernel) (by decide +kernel)
theorem w1252 : Cond.methodLinkNest "BowingRow$WayRows" 54 ⟨"BowingRow", "late", "(I)I"⟩ "BowingRow" ∈ lwx := lwx_of 1252 (by decide +kernel) (by decide +kernel)
theorem bWr_keepEnds_6 {l : Launch} {G : Gx} {d : Nat} {bc bs : Nat} {Φ : OutV → Mm → Prop} (M : Mm) (a0 : Nat) (a1 : Nat) (x2 : Int32) (x3 : Int32) (x4 : Int32) (x5 : Int32) (u6 : Value)
    (h : (x3 ≤ x5 → ((m_sh M a0).1 = 9) ∧ ((m_i M a0 4) = ((-1)) → Ev l G d mWr_keepEnds 64 [.ref a0, .ref a1, .int x2, .int x3, .int x4, .int x5, u6] [] M bc bs Φ) ∧ (¬ (m_i M a0 4) = ((-1)) → ((m_i M a0 5) ≤ x4 → Φ (.inl none) M) ∧ (¬ (m_i M a0 5) ≤ x4 → Ev l G d mWr_keepEnds 64 [.ref a0, .ref a1, .int x2, .int x3, .int x4, .int x5, u6] [] M bc bs Φ))) ∧ (¬ x3 ≤ x5 → ((m_sh M a1).1 = 20) ∧ (vp_in x5 (m_sh M a1).2) ∧ CallVN l G d mWr_keepEnds 19 [.ref a0, .ref a1, .int x2, .int x3, .int x4, .int x5, u6] [] mBo_late [.int (m_i M a1 x5.toNatClampNeg)] M bc bs Φ)) :
    Ev l G d mWr_keepEnds 6 [.ref a0, .ref a1, .int x2, .int x3, .int x4, .int x5, u6] [] M bc bs Φ := by
  refine Ev.iload dWr_keepEnds_6 rfl ?_
  refine Ev.iload_n dWr_keepEnds_8 rfl ?_
  refine Ev.icmp_ge 47 (by decide) dWr_keepEnds_9 (fun c => ?_) (fun c => ?_)
  · replace h := h.1 c
    refine Ev.aload_n dWr_keepEnds_47 rfl ?_
    have g1 := h.1
    replace h := h.2
    refine Ev.getI dWr_keepEnds_48 (Or.inl fWr_31) rfl g1 ?_
    refine Ev.iconst (v := (-1)) dWr_keepEnds_51 (by decide) ?_
    refine Ev.icmp_eq 64 (by decide) dWr_keepEnds_52 (fun c => ?_) (fun c => ?_)
    · replace h := h.1 c
      exact h
    · replace h := h.2 c
      refine Ev.iload dWr_keepEnds_55 rfl ?_
      refine Ev.aload_n dWr_keepEnds_57 rfl ?_
      refine Ev.getI dWr_keepEnds_58 (Or.inl fWr_58) rfl g1 ?_
      refine Ev.icmp_ge 75 (by decide) dWr_keepEnds_61 (fun c => ?_) (fun c => ?_)
      · replace h := h.1 c
        exact Ev.vret dWr_keepEnds_75 rfl h
      · replace h := h.2 c
        exact h
  · replace h := h.2 c
    refine Ev.aload_n dWr_keepEnds_12 rfl ?_
    refine Ev.iload dWr_keepEnds_13 rfl ?_
    have g2 := h.1
    replace h := h.2
    have g3 := h.1
    replace h := h.2
    refine Ev.iald2 dWr_keepEnds_15 g2 g3 ?_
    exact Ev.vcSN (z := mBo_late) [.int (m_i M a1 x5.toNatClampNeg)] [] rfl dWr_keepEnds_16 oBo_late rfl w1252 iBo_late (Nat.le_of_ble_eq_true rfl) h
theorem bWr_keepEnds_19 {l : Launch} {G : Gx} {d : Nat} {bc bs : Nat} {Φ : OutV → Mm → Prop} (M : Mm) (a0 : Nat) (a1 : Nat) (x2 : Int32) (x3 : Int32) (x4 : Int32) (x5 : Int32) (u6 : Value) (s0 : Int32)
    (h : ((m_sh M a0).1 = 9) ∧ ((m_sh M (m_r M a0 0)).1 = 20) ∧ (vp_in ((x2 * x3) + x5) (m_sh M (m_r M a0 0)).2) ∧ Ev l G d mWr_keepEnds 6 [.ref a0, .ref a1, .int x2, .int x3, .int (x4 + s0), .int (x5 + 1), .int s0] [] (m_si M (m_r M a0 0) ((x2 * x3) + x5).toNatClampNeg s0) bc bs Φ) :
    Ev l G d mWr_keepEnds 19 [.ref a0, .ref a1, .int x2, .int x3, .int x4, .int x5, u6] [.int s0] M bc bs Φ := by
  refine Ev.istore dWr_keepEnds_19 (by decide) ?_
  show Ev l G d mWr_keepEnds (_ + _) [.ref a0, .ref a1, .int x2, .int x3, .int x4, .int x5, .int s0] [] M bc bs Φ
  refine Ev.aload_n dWr_keepEnds_21 rfl ?_
  have g1 := h.1
  replace h := h.2
  refine Ev.getR dWr_keepEnds_22 (Or.inl fWr_9) rfl g1 ?_
  refine Ev.iload_n dWr_keepEnds_25 rfl ?_
  refine Ev.iload_n dWr_keepEnds_26 rfl ?_
  refine Ev.imul dWr_keepEnds_27 ?_
  refine Ev.iload dWr_keepEnds_28 rfl ?_
  refine Ev.iadd dWr_keepEnds_30 ?_
  refine Ev.iload dWr_keepEnds_31 rfl ?_
  have g2 := h.1
  replace h := h.2
  have g3 := h.1
  replace h := h.2
  refine Ev.iast2 dWr_keepEnds_33 g2 g3 ?_
  refine Ev.iload dWr_keepEnds_34 rfl ?_
  refine Ev.iload dWr_keepEnds_36 rfl ?_
  refine Ev.iadd dWr_keepEnds_38 ?_
  refine Ev.istore dWr_keepEnds_39 (by decide) ?_
  show Ev l G d mWr_keepEnds (_ + _) [.ref a0, .ref a1, .int x2, .int x3, .int (x4 + s0), .int x5, .int s0] [] (m_si M (m_r M a0 0) ((x2 * x3) + x5).toNatClampNeg s0) bc bs Φ
  refine Ev.iinc (v := x5 + 1) dWr_keepEnds_41 (by decide) rfl rfl ?_
  show Ev l G d mWr_keepEnds (_ + _) [.ref a0, .ref a1, .int x2, .int x3, .int (x4 + s0), .int (x5 + 1), .int s0] [] (m_si M (m_r M a0 0) ((x2 * x3) + x5).toNatClampNeg s0) bc bs Φ
  refine Ev.goto 6 dWr_keepEnds_44 (by decide) ?_
  exact h
theorem bWr_keepEnds_64 {l : Launch} {G : Gx} {d : Nat} {bc bs : Nat} {Φ : OutV → Mm → Prop} (M : Mm) (a0 : Nat) (a1 : Nat) (x2 : Int32) (x3 : Int32) (x4 : Int32) (x5 : Int32) (u6 : Value)
    (h : ((m_sh M a0).1 = 9) ∧ Φ (.inl none) (m_si (m_si M a0 4 x2) a0 5 x4)) :
    Ev l G d mWr_keepEnds 64 [.ref a0, .ref a1, .int x2, .int x3, .int x4, .int x5, u6] [] M bc bs Φ := by
  refine Ev.aload_n dWr_keepEnds_64 rfl ?_
  refine Ev.iload_n dWr_keepEnds_65 rfl ?_
  have g1 := h.1
  replace h := h.2
  refine Ev.putI dWr_keepEnds_66 ⟨_, Or.inl ⟨fWr_31, (fun h => by cases h)⟩⟩ rfl ⟨rfl, rfl⟩ g1 ?_
  refine Ev.aload_n dWr_keepEnds_69 rfl ?_
  refine Ev.iload dWr_keepEnds_70 rfl ?_
  refine Ev.putI dWr_keepEnds_72 ⟨_, Or.inl ⟨fWr_58, (fun h => by cases h)⟩⟩ rfl ⟨rfl, rfl⟩ g1 ?_
  exact Ev.vret dWr_keepEnds_75 rfl h
theorem dWr_findRests_0 : decode mWr_findRests.2.1 0 = .ok (.aload_n 0, 1) := by decide +kernel
theorem dWr_findRests_1 : decode mWr_findRests.2.1 1 = .ok (.iconst 0, 1) := by decide +kernel
theorem dWr_findRests_2 : decode mWr_findRests.2.1 2 = .ok (.putfield 61, 3) := by decide +kernel
theorem dWr_findRests_5 : decode mWr_findRests.2.1 5 = .ok (.aload_n 0, 1) := by decide +kernel
theorem dWr_findRests_6 : decode mWr_findRests.2.1 6 = .ok (.iconst (-1), 1) := by decide +kernel
theorem dWr_findRests_7 : decode mWr_findRests.2.1 7 = .ok (.putfield 64, 3) := by decide +kernel
theorem dWr_findRests_10 : decode mWr_findRests.2.1 10 = .ok (.iconst 0, 1) := by decide +kernel
theorem dWr_findRests_11 : decode mWr_findRests.2.1 11 = .ok (.istore_n 3, 1) := by decide +kernel
theorem dWr_findRests_12 : decode mWr_findRests.2.1 12 = .ok (.iload_n 3, 1) := by decide +kernel
theorem dWr_findRests_13 : decode mWr_findRests.2.1 13 = .ok (.iload_n 1, 1) := by decide +kernel
theorem dWr_findRests_14 : decode mWr_findRests.2.1 14 = .ok (.if_icmp .ge 48, 3) := by decide +kernel
theorem dWr_findRests_17 : decode mWr_findRests.2.1 17 = .ok (.aload_n 0, 1) := by decide +kernel
theorem dWr_findRests_18 : decode mWr_findRests.2.1 18 = .ok (.iload_n 3, 1) := by decide +kernel
theorem dWr_findRests_19 : decode mWr_findRests.2.1 19 = .ok (.iload_n 2, 1) := by decide +kernel
theorem dWr_findRests_20 : decode mWr_findRests.2.1 20 = .ok (.invokevirtual 67, 3) := by decide +kernel
theorem dWr_findRests_23 : decode mWr_findRests.2.1 23 = .ok (.ifCond .eq 33, 3) := by decide +kernel
theorem dWr_findRests_26 : decode mWr_findRests.2.1 26 = .ok (.aload_n 0, 1) := by decide +kernel
theorem dWr_findRests_27 : decode mWr_findRests.2.1 27 = .ok (.dup, 1) := by decide +kernel
theorem dWr_findRests_28 : decode mWr_findRests.2.1 28 = .ok (.getfield 61, 3) := by decide +kernel
theorem dWr_findRests_31 : decode mWr_findRests.2.1 31 = .ok (.iconst 1, 1) := by decide +kernel
theorem dWr_findRests_32 : decode mWr_findRests.2.1 32 = .ok (.iadd, 1) := by decide +kernel
theorem dWr_findRests_33 : decode mWr_findRests.2.1 33 = .ok (.putfield 61, 3) := by decide +kernel
theorem dWr_findRests_36 : decode mWr_findRests.2.1 36 = .ok (.aload_n 0, 1) := by decide +kernel
theorem dWr_findRests_37 : decode mWr_findRests.2.1 37 = .ok (.aload_n 0, 1) := by decide +kernel
theorem dWr_findRests_38 : decode mWr_findRests.2.1 38 = .ok (.getfield 64, 3) := by decide +kernel
theorem dWr_findRests_41 : decode mWr_findRests.2.1 41 = .ok (.iconst (-1), 1) := by decide +kernel
theorem dWr_findRests_42 : decode mWr_findRests.2.1 42 = .ok (.if_icmp .ne 7, 3) := by decide +kernel
theorem dWr_findRests_45 : decode mWr_findRests.2.1 45 = .ok (.iload_n 3, 1) := by decide +kernel
theorem dWr_findRests_46 : decode mWr_findRests.2.1 46 = .ok (.goto 7, 3) := by decide +kernel
theorem dWr_findRests_49 : decode mWr_findRests.2.1 49 = .ok (.aload_n 0, 1) := by decide +kernel
theorem dWr_findRests_50 : decode mWr_findRests.2.1 50 = .ok (.getfield 64, 3) := by decide +kernel
theorem dWr_findRests_53 : decode mWr_findRests.2.1 53 = .ok (.putfield 64, 3) := by decide +kernel
theorem dWr_findRests_56 : decode mWr_findRests.2.1 56 = .ok (.iinc 3 1, 3) := by decide +kernel
theorem dWr_findRests_59 : decode mWr_findRests.2.1 59 = .ok (.goto (-47), 3) := by decide +kernel
theorem dWr_findRests_62 : decode mWr_findRests.2.1 62 = .ok (.return_, 1) := by decide +kernel
theorem fWr_61 : FOK "BowingRow$WayRows" 61 9 2 false := ⟨RX9, TX9, nFd 9, rfl, by decide, rfl, by decide, rfl, lwg_of 422 (by decide +kernel) (by decide +kernel)⟩
theorem fWr_64 : FOK "BowingRow$WayRows" 64 9 3 false := ⟨RX9, TX9, nFd 9, rfl, by decide, rfl, by decide, rfl, lwg_of 424 (by decide +kernel) (by decide +kernel)⟩
theorem bWr_findRests_0 {l : Launch} {G : Gx} {d : Nat} {bc bs : Nat} {Φ : OutV → Mm → Prop} (M : Mm) (a0 : Nat) (x1 : Int32) (x2 : Int32)
    (h : ((m_sh M a0).1 = 9) ∧ Ev l G d mWr_findRests 10 [.ref a0, .int x1, .int x2, .null] [] (m_si (m_si M a0 2 0) a0 3 ((-1))) bc bs Φ) :
    Ev l G d mWr_findRests 0 [.ref a0, .int x1, .int x2, .null] [] M bc bs Φ := by
  refine Ev.aload_n dWr_findRests_0 rfl ?_
  refine Ev.iconst (v := 0) dWr_findRests_1 (by decide) ?_
  have g1 := h.1
  replace h := h.2
  refine Ev.putI dWr_findRests_2 ⟨_, Or.inl ⟨fWr_61, (fun h => by cases h)⟩⟩ rfl ⟨rfl, rfl⟩ g1 ?_
  refine Ev.aload_n dWr_findRests_5 rfl ?_
  refine Ev.iconst (v := (-1)) dWr_findRests_6 (by decide) ?_
  refine Ev.putI dWr_findRests_7 ⟨_, Or.inl ⟨fWr_64, (fun h => by cases h)⟩⟩ rfl ⟨rfl, rfl⟩ g1 ?_
  exact h
theorem bWr_findRests_10 {l : Launch} {G : Gx} {d : Nat} {bc bs : Nat} {Φ : OutV → Mm → Prop} (M : Mm) (a0 : Nat) (x1 : Int32) (x2 : Int32) (u3 : Value)
    (h : Ev l G d mWr_findRests 12 [.ref a0, .int x1, .int x2, .int 0] [] M bc bs Φ) :
    Ev l G d mWr_findRests 10 [.ref a0, .int x1, .int x2, u3] [] M bc bs Φ := by
  refine Ev.iconst (v := 0) dWr_findRests_10 (by decide) ?_
  refine Ev.istore_n dWr_findRests_11 (by decide) ?_
  show Ev l G d mWr_findRests (_ + _) [.ref a0, .int x1, .int x2, .int 0] [] M bc bs Φ
  exact h
def mWr_isRest : MR := (⟨"BowingRow$WayRows", "isRest", "(II)Z"⟩, prog_11_method_6_code, 8, (Option.some .boolean))
theorem oWr_isRest : MOK mWr_isRest 2 := ⟨lwg_of 1260 (by decide +kernel) (by decide +kernel), lwg_of 100 (by decide +kernel) (by decide +kernel), ⟨by decide +kernel, by decide +kernel⟩, by decide +kernel, by decide⟩
theorem iWr_isRest : Cond.instanceMethod mWr_isRest.1 ∈ lwg := lwg_of 1259 (by decide +kernel) (by decide +kernel)
theorem sWr_isRest : Cond.selects mWr_isRest.1.cls mWr_isRest.1 mWr_isRest.1 ∈ lwg := lwg_of 37 (by decide +kernel) (by decide +kernel)
theorem w1257 : Cond.methodLink "BowingRow$WayRows" 67 ⟨"BowingRow$WayRows", "isRest", "(II)Z"⟩ ∈ lwg := lwg_of 1257 (by decide +kernel) (by decide +kernel)
theorem bWr_findRests_12 {l : Launch} {G : Gx} {d : Nat} {bc bs : Nat} {Φ : OutV → Mm → Prop} (M : Mm) (a0 : Nat) (x1 : Int32) (x2 : Int32) (x3 : Int32)
    (h : (x1 ≤ x3 → Φ (.inl none) M) ∧ (¬ x1 ≤ x3 → ((m_sh M a0).1 = 9) ∧ CallVC l G d mWr_findRests 23 [.ref a0, .int x1, .int x2, .int x3] [] mWr_isRest [.ref a0, .int x3, .int x2] M bc bs Φ)) :
    Ev l G d mWr_findRests 12 [.ref a0, .int x1, .int x2, .int x3] [] M bc bs Φ := by
  refine Ev.iload_n dWr_findRests_12 rfl ?_
  refine Ev.iload_n dWr_findRests_13 rfl ?_
  refine Ev.icmp_ge 62 (by decide) dWr_findRests_14 (fun c => ?_) (fun c => ?_)
  · replace h := h.1 c
    exact Ev.vret dWr_findRests_62 rfl h
  · replace h := h.2 c
    refine Ev.aload_n dWr_findRests_17 rfl ?_
    refine Ev.iload_n dWr_findRests_18 rfl ?_
    refine Ev.iload_n dWr_findRests_19 rfl ?_
    have g1 := h.1
    replace h := h.2
    exact Ev.vcV (z := mWr_isRest) (ci := 9) [.int x3, .int x2] [] rfl dWr_findRests_20 oWr_isRest rfl w1257 iWr_isRest sWr_isRest (by decide) rfl g1 (Nat.le_of_ble_eq_true rfl) h
theorem bWr_findRests_23 {l : Launch} {G : Gx} {d : Nat} {bc bs : Nat} {Φ : OutV → Mm → Prop} (M : Mm) (a0 : Nat) (x1 : Int32) (x2 : Int32) (x3 : Int32) (s0 : Int32)
    (h : (s0 = 0 → Ev l G d mWr_findRests 56 [.ref a0, .int x1, .int x2, .int x3] [] M bc bs Φ) ∧ (¬ s0 = 0 → ((m_sh M a0).1 = 9) ∧ (¬ (m_i (m_si M a0 2 ((m_i M a0 2) + 1)) a0 3) = ((-1)) → Ev l G d mWr_findRests 56 [.ref a0, .int x1, .int x2, .int x3] [] (m_si (m_si M a0 2 ((m_i M a0 2) + 1)) a0 3 (m_i (m_si M a0 2 ((m_i M a0 2) + 1)) a0 3)) bc bs Φ) ∧ ((m_i (m_si M a0 2 ((m_i M a0 2) + 1)) a0 3) = ((-1)) → Ev l G d mWr_findRests 56 [.ref a0, .int x1, .int x2, .int x3] [] (m_si (m_si M a0 2 ((m_i M a0 2) + 1)) a0 3 x3) bc bs Φ))) :
    Ev l G d mWr_findRests 23 [.ref a0, .int x1, .int x2, .int x3] [.int s0] M bc bs Φ := by
  refine Ev.if_eq 56 (by decide) dWr_findRests_23 (fun c => ?_) (fun c => ?_)
  · replace h := h.1 c
    exact h
  · replace h := h.2 c
    refine Ev.aload_n dWr_findRests_26 rfl ?_
    refine Ev.dup dWr_findRests_27 rfl ?_
    have g1 := h.1
    replace h := h.2
    refine Ev.getI dWr_findRests_28 (Or.inl fWr_61) rfl g1 ?_
    refine Ev.iconst (v := 1) dWr_findRests_31 (by decide) ?_
    refine Ev.iadd dWr_findRests_32 ?_
    refine Ev.putI dWr_findRests_33 ⟨_, Or.inl ⟨fWr_61, (fun h => by cases h)⟩⟩ rfl ⟨rfl, rfl⟩ g1 ?_
    refine Ev.aload_n dWr_findRests_36 rfl ?_
    refine Ev.aload_n dWr_findRests_37 rfl ?_
    refine Ev.getI dWr_findRests_38 (Or.inl fWr_64) rfl g1 ?_
    refine Ev.iconst (v := (-1)) dWr_findRests_41 (by decide) ?_
    refine Ev.icmp_ne 49 (by decide) dWr_findRests_42 (fun c => ?_) (fun c => ?_)
    · replace h := h.1 c
      refine Ev.aload_n dWr_findRests_49 rfl ?_
      refine Ev.getI dWr_findRests_50 (Or.inl fWr_64) rfl g1 ?_
      refine Ev.putI dWr_findRests_53 ⟨_, Or.inl ⟨fWr_64, (fun h => by cases h)⟩⟩ rfl ⟨rfl, rfl⟩ g1 ?_
      exact h
    · replace h := h.2 c
      refine Ev.iload_n dWr_findRests_45 rfl ?_
      refine Ev.goto 53 dWr_findRests_46 (by decide) ?_
      refine Ev.putI dWr_findRests_53 ⟨_, Or.inl ⟨fWr_64, (fun h => by cases h)⟩⟩ rfl ⟨rfl, rfl⟩ g1 ?_
      exact h
theorem bWr_findRests_56 {l : Launch} {G : Gx} {d : Nat} {bc bs : Nat} {Φ : OutV → Mm → Prop} (M : Mm) (a0 : Nat) (x1 : Int32) (x2 : Int32) (x3 : Int32)
    (h : Ev l G d mWr_findRests 12 [.ref a0, .int x1, .int x2, .int (x3 + 1)] [] M bc bs Φ) :
    Ev l G d mWr_findRests 56 [.ref a0, .int x1, .int x2, .int x3] [] M bc bs Φ := by
  refine Ev.iinc (v := x3 + 1) dWr_findRests_56 (by decide) rfl rfl ?_
  show Ev l G d mWr_findRests (_ + _) [.ref a0, .int x1, .int x2, .int (x3 + 1)] [] M bc bs Φ
  refine Ev.goto 12 dWr_findRests_59 (by decide) ?_
  exact h
theorem dWr_isRest_0 : decode mWr_isRest.2.1 0 = .ok (.iload_n 1, 1) := by decide +kernel
theorem dWr_isRest_1 : decode mWr_isRest.2.1 1 = .ok (.istore_n 3, 1) := by decide +kernel
theorem dWr_isRest_2 : decode mWr_isRest.2.1 2 = .ok (.iconst 1, 1) := by decide +kernel
theorem dWr_isRest_3 : decode mWr_isRest.2.1 3 = .ok (.istore 4, 2) := by decide +kernel
theorem dWr_isRest_5 : decode mWr_isRest.2.1 5 = .ok (.iload_n 2, 1) := by decide +kernel
theorem dWr_isRest_6 : decode mWr_isRest.2.1 6 = .ok (.iconst 1, 1) := by decide +kernel
theorem dWr_isRest_7 : decode mWr_isRest.2.1 7 = .ok (.isub, 1) := by decide +kernel
theorem dWr_isRest_8 : decode mWr_isRest.2.1 8 = .ok (.istore 5, 2) := by decide +kernel
theorem dWr_isRest_10 : decode mWr_isRest.2.1 10 = .ok (.iload 5, 2) := by decide +kernel
theorem dWr_isRest_12 : decode mWr_isRest.2.1 12 = .ok (.ifCond .lt 78, 3) := by decide +kernel
theorem dWr_isRest_15 : decode mWr_isRest.2.1 15 = .ok (.iload_n 1, 1) := by decide +kernel
theorem dWr_isRest_16 : decode mWr_isRest.2.1 16 = .ok (.iload_n 3, 1) := by decide +kernel
theorem dWr_isRest_17 : decode mWr_isRest.2.1 17 = .ok (.iconst 5, 1) := by decide +kernel
theorem dWr_isRest_18 : decode mWr_isRest.2.1 18 = .ok (.irem, 1) := by decide +kernel
theorem dWr_isRest_19 : decode mWr_isRest.2.1 19 = .ok (.iload 4, 2) := by decide +kernel
theorem dWr_isRest_21 : decode mWr_isRest.2.1 21 = .ok (.imul, 1) := by decide +kernel
theorem dWr_isRest_22 : decode mWr_isRest.2.1 22 = .ok (.isub, 1) := by decide +kernel
theorem dWr_isRest_23 : decode mWr_isRest.2.1 23 = .ok (.istore 6, 2) := by decide +kernel
theorem dWr_isRest_25 : decode mWr_isRest.2.1 25 = .ok (.iconst 0, 1) := by decide +kernel
theorem dWr_isRest_26 : decode mWr_isRest.2.1 26 = .ok (.istore 7, 2) := by decide +kernel
theorem dWr_isRest_28 : decode mWr_isRest.2.1 28 = .ok (.iload 7, 2) := by decide +kernel
theorem dWr_isRest_30 : decode mWr_isRest.2.1 30 = .ok (.iconst 5, 1) := by decide +kernel
theorem dWr_isRest_31 : decode mWr_isRest.2.1 31 = .ok (.if_icmp .ge 43, 3) := by decide +kernel
theorem dWr_isRest_34 : decode mWr_isRest.2.1 34 = .ok (.aload_n 0, 1) := by decide +kernel
theorem dWr_isRest_35 : decode mWr_isRest.2.1 35 = .ok (.getfield 9, 3) := by decide +kernel
theorem dWr_isRest_38 : decode mWr_isRest.2.1 38 = .ok (.iload 6, 2) := by decide +kernel
theorem dWr_isRest_40 : decode mWr_isRest.2.1 40 = .ok (.iload 7, 2) := by decide +kernel
theorem dWr_isRest_42 : decode mWr_isRest.2.1 42 = .ok (.iload 4, 2) := by decide +kernel
theorem dWr_isRest_44 : decode mWr_isRest.2.1 44 = .ok (.imul, 1) := by decide +kernel
theorem dWr_isRest_45 : decode mWr_isRest.2.1 45 = .ok (.iadd, 1) := by decide +kernel
theorem dWr_isRest_46 : decode mWr_isRest.2.1 46 = .ok (.iload_n 2, 1) := by decide +kernel
theorem dWr_isRest_47 : decode mWr_isRest.2.1 47 = .ok (.imul, 1) := by decide +kernel
theorem dWr_isRest_48 : decode mWr_isRest.2.1 48 = .ok (.iload 5, 2) := by decide +kernel
theorem dWr_isRest_50 : decode mWr_isRest.2.1 50 = .ok (.iadd, 1) := by decide +kernel
theorem dWr_isRest_51 : decode mWr_isRest.2.1 51 = .ok (.iaload, 1) := by decide +kernel
theorem dWr_isRest_52 : decode mWr_isRest.2.1 52 = .ok (.aload_n 0, 1) := by decide +kernel
theorem dWr_isRest_53 : decode mWr_isRest.2.1 53 = .ok (.getfield 9, 3) := by decide +kernel
theorem dWr_isRest_56 : decode mWr_isRest.2.1 56 = .ok (.iload_n 1, 1) := by decide +kernel
theorem dWr_isRest_57 : decode mWr_isRest.2.1 57 = .ok (.iload_n 2, 1) := by decide +kernel
theorem dWr_isRest_58 : decode mWr_isRest.2.1 58 = .ok (.imul, 1) := by decide +kernel
theorem dWr_isRest_59 : decode mWr_isRest.2.1 59 = .ok (.iload 5, 2) := by decide +kernel
theorem dWr_isRest_61 : decode mWr_isRest.2.1 61 = .ok (.iadd, 1) := by decide +kernel
theorem dWr_isRest_62 : decode mWr_isRest.2.1 62 = .ok (.iaload, 1) := by decide +kernel
theorem dWr_isRest_63 : decode mWr_isRest.2.1 63 = .ok (.if_icmp .ge 5, 3) := by decide +kernel
theorem dWr_isRest_66 : decode mWr_isRest.2.1 66 = .ok (.iconst 0, 1) := by decide +kernel
theorem dWr_isRest_67 : decode mWr_isRest.2.1 67 = .ok (.ireturn, 1) := by decide +kernel
theorem dWr_isRest_68 : decode mWr_isRest.2.1 68 = .ok (.iinc 7 1, 3) := by decide +kernel
theorem dWr_isRest_71 : decode mWr_isRest.2.1 71 = .ok (.goto (-43), 3) := by decide +kernel
theorem dWr_isRest_74 : decode mWr_isRest.2.1 74 = .ok (.iload_n 3, 1) := by decide +kernel
theorem dWr_isRest_75 : decode mWr_isRest.2.1 75 = .ok (.iconst 5, 1) := by decide +kernel
theorem dWr_isRest_76 : decode mWr_isRest.2.1 76 = .ok (.idiv, 1) := by decide +kernel
theorem dWr_isRest_77 : decode mWr_isRest.2.1 77 = .ok (.istore_n 3, 1) := by decide +kernel
theorem dWr_isRest_78 : decode mWr_isRest.2.1 78 = .ok (.iload 4, 2) := by decide +kernel
theorem dWr_isRest_80 : decode mWr_isRest.2.1 80 = .ok (.iconst 5, 1) := by decide +kernel
theorem dWr_isRest_81 : decode mWr_isRest.2.1 81 = .ok (.imul, 1) := by decide +kernel
theorem dWr_isRest_82 : decode mWr_isRest.2.1 82 = .ok (.istore 4, 2) := by decide +kernel
theorem dWr_isRest_84 : decode mWr_isRest.2.1 84 = .ok (.iinc 5 (-1), 3) := by decide +kernel
theorem dWr_isRest_87 : decode mWr_isRest.2.1 87 = .ok (.goto (-77), 3) := by decide +kernel
theorem dWr_isRest_90 : decode mWr_isRest.2.1 90 = .ok (.iconst 1, 1) := by decide +kernel
theorem dWr_isRest_91 : decode mWr_isRest.2.1 91 = .ok (.ireturn, 1) := by decide +kernel
theorem bWr_isRest_0 {l : Launch} {G : Gx} {d : Nat} {bc bs : Nat} {Φ : OutV → Mm → Prop} (M : Mm) (a0 : Nat) (x1 : Int32) (x2 : Int32)
    (h : Ev l G d mWr_isRest 10 [.ref a0, .int x1, .int x2, .int x1, .int 1, .int (x2 - 1), .null, .null] [] M bc bs Φ) :
    Ev l G d mWr_isRest 0 [.ref a0, .int x1, .int x2, .null, .null, .null, .null, .null] [] M bc bs Φ := by
  refine Ev.iload_n dWr_isRest_0 rfl ?_
  refine Ev.istore_n dWr_isRest_1 (by decide) ?_
  show Ev l G d mWr_isRest (_ + _) [.ref a0, .int x1, .int x2, .int x1, .null, .null, .null, .null] [] M bc bs Φ
  refine Ev.iconst (v := 1) dWr_isRest_2 (by decide) ?_
  refine Ev.istore dWr_isRest_3 (by decide) ?_
  show Ev l G d mWr_isRest (_ + _) [.ref a0, .int x1, .int x2, .int x1, .int 1, .null, .null, .null] [] M bc bs Φ
  refine Ev.iload_n dWr_isRest_5 rfl ?_
  refine Ev.iconst (v := 1) dWr_isRest_6 (by decide) ?_
  refine Ev.isub dWr_isRest_7 ?_
  refine Ev.istore dWr_isRest_8 (by decide) ?_
  show Ev l G d mWr_isRest (_ + _) [.ref a0, .int x1, .int x2, .int x1, .int 1, .int (x2 - 1), .null, .null] [] M bc bs Φ
  exact h
theorem bWr_isRest_10 {l : Launch} {G : Gx} {d : Nat} {bc bs : Nat} {Φ : OutV → Mm → Prop} (M : Mm) (a0 : Nat) (x1 : Int32) (x2 : Int32) (x3 : Int32) (x4 : Int32) (x5 : Int32) (u6 : Value) (u7 : Value)
    (h : (x5 < 0 → Φ (.inl (some (.int 1))) M) ∧ (¬ x5 < 0 → Ev l G d mWr_isRest 28 [.ref a0, .int x1, .int x2, .int x3, .int x4, .int x5, .int (x1 - ((x3 - x3 / 5 * 5) * x4)), .int 0] [] M bc bs Φ)) :
    Ev l G d mWr_isRest 10 [.ref a0, .int x1, .int x2, .int x3, .int x4, .int x5, u6, u7] [] M bc bs Φ := by
  refine Ev.iload dWr_isRest_10 rfl ?_
  refine Ev.if_lt 90 (by decide) dWr_isRest_12 (fun c => ?_) (fun c => ?_)
  · replace h := h.1 c
    refine Ev.iconst (v := 1) dWr_isRest_90 (by decide) ?_
    exact Ev.iret dWr_isRest_91 rfl rfl h
  · replace h := h.2 c
    refine Ev.iload_n dWr_isRest_15 rfl ?_
    refine Ev.iload_n dWr_isRest_16 rfl ?_
    refine Ev.iconst (v := 5) dWr_isRest_17 (by decide) ?_
    refine Ev.irem dWr_isRest_18 (by decide) ?_
    refine Ev.iload dWr_isRest_19 rfl ?_
    refine Ev.imul dWr_isRest_21 ?_
    refine Ev.isub dWr_isRest_22 ?_
    refine Ev.istore dWr_isRest_23 (by decide) ?_
    show Ev l G d mWr_isRest (_ + _) [.ref a0, .int x1, .int x2, .int x3, .int x4, .int x5, .int (x1 - ((x3 - x3 / 5 * 5) * x4)), u7] [] M bc bs Φ
    refine Ev.iconst (v := 0) dWr_isRest_25 (by decide) ?_
    refine Ev.istore dWr_isRest_26 (by decide) ?_
    show Ev l G d mWr_isRest (_ + _) [.ref a0, .int x1, .int x2, .int x3, .int x4, .int x5, .int (x1 - ((x3 - x3 / 5 * 5) * x4)), .int 0] [] M bc bs Φ
    exact h
theorem bWr_isRest_28 {l : Launch} {G : Gx} {d : Nat} {bc bs : Nat} {Φ : OutV → Mm → Prop} (M : Mm) (a0 : Nat) (x1 : Int32) (x2 : Int32) (x3 : Int32) (x4 : Int32) (x5 : Int32) (x6 : Int32) (x7 : Int32)
    (h : (5 ≤ x7 → Ev l G d mWr_isRest 10 [.ref a0, .int x1, .int x2, .int (x3 / 5), .int (x4 * 5), .int (x5 + (-1)), .int x6, .int x7] [] M bc bs Φ) ∧ (¬ 5 ≤ x7 → ((m_sh M a0).1 = 9) ∧ ((m_sh M (m_r M a0 0)).1 = 20) ∧ (vp_in (((x6 + (x7 * x4)) * x2) + x5) (m_sh M (m_r M a0 0)).2) ∧ (vp_in ((x1 * x2) + x5) (m_sh M (m_r M a0 0)).2) ∧ ((m_i M (m_r M a0 0) ((x1 * x2) + x5).toNatClampNeg) ≤ (m_i M (m_r M a0 0) (((x6 + (x7 * x4)) * x2) + x5).toNatClampNeg) → Ev l G d mWr_isRest 28 [.ref a0, .int x1, .int x2, .int x3, .int x4, .int x5, .int x6, .int (x7 + 1)] [] M bc bs Φ) ∧ (¬ (m_i M (m_r M a0 0) ((x1 * x2) + x5).toNatClampNeg) ≤ (m_i M (m_r M a0 0) (((x6 + (x7 * x4)) * x2) + x5).toNatClampNeg) → Φ (.inl (some (.int 0))) M))) :
    Ev l G d mWr_isRest 28 [.ref a0, .int x1, .int x2, .int x3, .int x4, .int x5, .int x6, .int x7] [] M bc bs Φ := by
  refine Ev.iload dWr_isRest_28 rfl ?_
  refine Ev.iconst (v := 5) dWr_isRest_30 (by decide) ?_
  refine Ev.icmp_ge 74 (by decide) dWr_isRest_31 (fun c => ?_) (fun c => ?_)
  · replace h := h.1 c
    refine Ev.iload_n dWr_isRest_74 rfl ?_
    refine Ev.iconst (v := 5) dWr_isRest_75 (by decide) ?_
    refine Ev.idiv dWr_isRest_76 (by decide) ?_
    refine Ev.istore_n dWr_isRest_77 (by decide) ?_
    show Ev l G d mWr_isRest (_ + _) [.ref a0, .int x1, .int x2, .int (x3 / 5), .int x4, .int x5, .int x6, .int x7] [] M bc bs Φ
    refine Ev.iload dWr_isRest_78 rfl ?_
    refine Ev.iconst (v := 5) dWr_isRest_80 (by decide) ?_
    refine Ev.imul dWr_isRest_81 ?_
    refine Ev.istore dWr_isRest_82 (by decide) ?_
    show Ev l G d mWr_isRest (_ + _) [.ref a0, .int x1, .int x2, .int (x3 / 5), .int (x4 * 5), .int x5, .int x6, .int x7] [] M bc bs Φ
    refine Ev.iinc (v := x5 + (-1)) dWr_isRest_84 (by decide) rfl rfl ?_
    show Ev l G d mWr_isRest (_ + _) [.ref a0, .int x1, .int x2, .int (x3 / 5), .int (x4 * 5), .int (x5 + (-1)), .int x6, .int x7] [] M bc bs Φ
    refine Ev.goto 10 dWr_isRest_87 (by decide) ?_
    exact h
  · replace h := h.2 c
    refine Ev.aload_n dWr_isRest_34 rfl ?_
    have g1 := h.1
    replace h := h.2
    refine Ev.getR dWr_isRest_35 (Or.inl fWr_9) rfl g1 ?_
    refine Ev.iload dWr_isRest_38 rfl ?_
    refine Ev.iload dWr_isRest_40 rfl ?_
    refine Ev.iload dWr_isRest_42 rfl ?_
    refine Ev.imul dWr_isRest_44 ?_
    refine Ev.iadd dWr_isRest_45 ?_
    refine Ev.iload_n dWr_isRest_46 rfl ?_
    refine Ev.imul dWr_isRest_47 ?_
    refine Ev.iload dWr_isRest_48 rfl ?_
    refine Ev.iadd dWr_isRest_50 ?_
    have g2 := h.1
    replace h := h.2
    have g3 := h.1
    replace h := h.2
    refine Ev.iald2 dWr_isRest_51 g2 g3 ?_
    refine Ev.aload_n dWr_isRest_52 rfl ?_
    refine Ev.getR dWr_isRest_53 (Or.inl fWr_9) rfl g1 ?_
    refine Ev.iload_n dWr_isRest_56 rfl ?_
    refine Ev.iload_n dWr_isRest_57 rfl ?_
    refine Ev.imul dWr_isRest_58 ?_
    refine Ev.iload dWr_isRest_59 rfl ?_
    refine Ev.iadd dWr_isRest_61 ?_
    have g4 := h.1
    replace h := h.2
    refine Ev.iald2 dWr_isRest_62 g2 g4 ?_
    refine Ev.icmp_ge 68 (by decide) dWr_isRest_63 (fun c => ?_) (fun c => ?_)
    · replace h := h.1 c
      refine Ev.iinc (v := x7 + 1) dWr_isRest_68 (by decide) rfl rfl ?_
      show Ev l G d mWr_isRest (_ + _) [.ref a0, .int x1, .int x2, .int x3, .int x4, .int x5, .int x6, .int (x7 + 1)] [] M bc bs Φ
      refine Ev.goto 28 dWr_isRest_71 (by decide) ?_
      exact h
    · replace h := h.2 c
      refine Ev.iconst (v := 0) dWr_isRest_66 (by decide) ?_
      exact Ev.iret dWr_isRest_67 rfl rfl h
