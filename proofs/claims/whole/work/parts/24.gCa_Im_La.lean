def mCa_init : MR := (⟨"BowingRow$Call", "<init>", "()V"⟩, prog_2_method_1_code, 1, none)
theorem oCa_init : MOK mCa_init 0 := ⟨lwg_of 304 (by decide +kernel) (by decide +kernel), lwg_of 99 (by decide +kernel) (by decide +kernel), ⟨by decide +kernel, by decide +kernel⟩, by decide +kernel, by decide⟩
theorem iCa_init : Cond.instanceMethod mCa_init.1 ∈ lwg := lwg_of 303 (by decide +kernel) (by decide +kernel)
theorem dCa_init_0 : decode mCa_init.2.1 0 = .ok (.aload_n 0, 1) := by decide +kernel
theorem dCa_init_1 : decode mCa_init.2.1 1 = .ok (.invokespecial 3, 3) := by decide +kernel
theorem dCa_init_4 : decode mCa_init.2.1 4 = .ok (.aload_n 0, 1) := by decide +kernel
theorem dCa_init_5 : decode mCa_init.2.1 5 = .ok (.bipush 8, 2) := by decide +kernel
theorem dCa_init_7 : decode mCa_init.2.1 7 = .ok (.newarray .int, 2) := by decide +kernel
theorem dCa_init_9 : decode mCa_init.2.1 9 = .ok (.putfield 9, 3) := by decide +kernel
theorem dCa_init_12 : decode mCa_init.2.1 12 = .ok (.return_, 1) := by decide +kernel
theorem w305 : Cond.methodLink "BowingRow$Call" 3 ⟨"java/lang/Object", "<init>", "()V"⟩ ∈ lwg := lwg_of 305 (by decide +kernel) (by decide +kernel)
theorem fCa_9 : FOK "BowingRow$Call" 9 0 0 true := ⟨RX0, TX0, nFd 0, rfl, by decide, rfl, by decide, rfl, lwg_of 306 (by decide +kernel) (by decide +kernel)⟩
theorem bCa_init_0 {l : Launch} {G : Gx} {d : Nat} {bc bs : Nat} {Φ : OutV → Mm → Prop} (M : Mm) (a0 : Nat)
    (h : (a0 ≠ 0 ∧ 1 ≤ d) ∧ (1 ≤ bc ∧ 8 ≤ bs) ∧ ((m_sh (m_al M (20, 8)) a0).1 = 0) ∧ Φ (.inl none) (m_sr (m_al M (20, 8)) a0 0 (m_nx M))) :
    Ev l G d mCa_init 0 [.ref a0] [] M bc bs Φ := by
  refine Ev.aload_n dCa_init_0 rfl ?_
  have g1 := h.1
  replace h := h.2
  refine Ev.objInit dCa_init_1 w305 w_oi w_oc (Nat.le_of_ble_eq_true rfl) g1.2 g1.1 ?_
  refine Ev.aload_n dCa_init_4 rfl ?_
  refine Ev.bipush (v := 8) dCa_init_5 (by decide) ?_
  have g2 := h.1
  replace h := h.2
  refine Ev.newI2 8 dCa_init_7 w164 (by decide) (by decide) (by decide) g2 ?_
  have g3 := h.1
  replace h := h.2
  refine Ev.putR dCa_init_9 ⟨_, Or.inl ⟨fCa_9, (fun _ => ⟨rfl, fun r hr => by cases hr; rfl⟩)⟩⟩ rfl (fun ad => fitR (by first | exact Or.inl ⟨_, rfl⟩ | exact Or.inr ⟨_, rfl⟩) _ ad) g3 ?_
  exact Ev.vret dCa_init_12 rfl h
def mCa_gather : MR := (⟨"BowingRow$Call", "gather", "(LBowingRow$People;II)V"⟩, prog_2_method_2_code, 7, none)
theorem oCa_gather : MOK mCa_gather 3 := ⟨lwg_of 581 (by decide +kernel) (by decide +kernel), lwg_of 99 (by decide +kernel) (by decide +kernel), ⟨by decide +kernel, by decide +kernel⟩, by decide +kernel, by decide⟩
theorem iCa_gather : Cond.instanceMethod mCa_gather.1 ∈ lwg := lwg_of 579 (by decide +kernel) (by decide +kernel)
theorem sCa_gather : Cond.selects mCa_gather.1.cls mCa_gather.1 mCa_gather.1 ∈ lwg := lwg_of 580 (by decide +kernel) (by decide +kernel)
theorem dCa_gather_0 : decode mCa_gather.2.1 0 = .ok (.aload_n 0, 1) := by decide +kernel
theorem dCa_gather_1 : decode mCa_gather.2.1 1 = .ok (.iload_n 2, 1) := by decide +kernel
theorem dCa_gather_2 : decode mCa_gather.2.1 2 = .ok (.putfield 15, 3) := by decide +kernel
theorem dCa_gather_5 : decode mCa_gather.2.1 5 = .ok (.aload_n 0, 1) := by decide +kernel
theorem dCa_gather_6 : decode mCa_gather.2.1 6 = .ok (.iconst 0, 1) := by decide +kernel
theorem dCa_gather_7 : decode mCa_gather.2.1 7 = .ok (.putfield 19, 3) := by decide +kernel
theorem dCa_gather_10 : decode mCa_gather.2.1 10 = .ok (.aload_n 0, 1) := by decide +kernel
theorem dCa_gather_11 : decode mCa_gather.2.1 11 = .ok (.iconst 0, 1) := by decide +kernel
theorem dCa_gather_12 : decode mCa_gather.2.1 12 = .ok (.putfield 22, 3) := by decide +kernel
theorem dCa_gather_15 : decode mCa_gather.2.1 15 = .ok (.aload_n 0, 1) := by decide +kernel
theorem dCa_gather_16 : decode mCa_gather.2.1 16 = .ok (.iconst 0, 1) := by decide +kernel
theorem dCa_gather_17 : decode mCa_gather.2.1 17 = .ok (.putfield 25, 3) := by decide +kernel
theorem dCa_gather_20 : decode mCa_gather.2.1 20 = .ok (.aload_n 0, 1) := by decide +kernel
theorem dCa_gather_21 : decode mCa_gather.2.1 21 = .ok (.iconst (-1), 1) := by decide +kernel
theorem dCa_gather_22 : decode mCa_gather.2.1 22 = .ok (.putfield 28, 3) := by decide +kernel
theorem dCa_gather_25 : decode mCa_gather.2.1 25 = .ok (.aload_n 0, 1) := by decide +kernel
theorem dCa_gather_26 : decode mCa_gather.2.1 26 = .ok (.iconst (-1), 1) := by decide +kernel
theorem dCa_gather_27 : decode mCa_gather.2.1 27 = .ok (.putfield 31, 3) := by decide +kernel
theorem dCa_gather_30 : decode mCa_gather.2.1 30 = .ok (.aload_n 0, 1) := by decide +kernel
theorem dCa_gather_31 : decode mCa_gather.2.1 31 = .ok (.iconst 0, 1) := by decide +kernel
theorem dCa_gather_32 : decode mCa_gather.2.1 32 = .ok (.putfield 34, 3) := by decide +kernel
theorem dCa_gather_35 : decode mCa_gather.2.1 35 = .ok (.iconst 0, 1) := by decide +kernel
theorem dCa_gather_36 : decode mCa_gather.2.1 36 = .ok (.istore 4, 2) := by decide +kernel
theorem dCa_gather_38 : decode mCa_gather.2.1 38 = .ok (.iload 4, 2) := by decide +kernel
theorem dCa_gather_40 : decode mCa_gather.2.1 40 = .ok (.aload_n 1, 1) := by decide +kernel
theorem dCa_gather_41 : decode mCa_gather.2.1 41 = .ok (.getfield 38, 3) := by decide +kernel
theorem dCa_gather_44 : decode mCa_gather.2.1 44 = .ok (.if_icmp .ge 89, 3) := by decide +kernel
theorem dCa_gather_47 : decode mCa_gather.2.1 47 = .ok (.aload_n 1, 1) := by decide +kernel
theorem dCa_gather_48 : decode mCa_gather.2.1 48 = .ok (.getfield 43, 3) := by decide +kernel
theorem dCa_gather_51 : decode mCa_gather.2.1 51 = .ok (.iload 4, 2) := by decide +kernel
theorem dCa_gather_53 : decode mCa_gather.2.1 53 = .ok (.iaload, 1) := by decide +kernel
theorem dCa_gather_54 : decode mCa_gather.2.1 54 = .ok (.istore 5, 2) := by decide +kernel
theorem dCa_gather_56 : decode mCa_gather.2.1 56 = .ok (.iload_n 2, 1) := by decide +kernel
theorem dCa_gather_57 : decode mCa_gather.2.1 57 = .ok (.aload_n 1, 1) := by decide +kernel
theorem dCa_gather_58 : decode mCa_gather.2.1 58 = .ok (.iload 5, 2) := by decide +kernel
theorem dCa_gather_60 : decode mCa_gather.2.1 60 = .ok (.iconst 0, 1) := by decide +kernel
theorem dCa_gather_61 : decode mCa_gather.2.1 61 = .ok (.invokevirtual 46, 3) := by decide +kernel
theorem dCa_gather_64 : decode mCa_gather.2.1 64 = .ok (.isub, 1) := by decide +kernel
theorem dCa_gather_65 : decode mCa_gather.2.1 65 = .ok (.istore 6, 2) := by decide +kernel
theorem dCa_gather_67 : decode mCa_gather.2.1 67 = .ok (.iload_n 3, 1) := by decide +kernel
theorem dCa_gather_68 : decode mCa_gather.2.1 68 = .ok (.iload 5, 2) := by decide +kernel
theorem dCa_gather_70 : decode mCa_gather.2.1 70 = .ok (.ishr, 1) := by decide +kernel
theorem dCa_gather_71 : decode mCa_gather.2.1 71 = .ok (.iconst 1, 1) := by decide +kernel
theorem dCa_gather_72 : decode mCa_gather.2.1 72 = .ok (.iand, 1) := by decide +kernel
theorem dCa_gather_73 : decode mCa_gather.2.1 73 = .ok (.ifCond .ne 54, 3) := by decide +kernel
theorem dCa_gather_76 : decode mCa_gather.2.1 76 = .ok (.iload 6, 2) := by decide +kernel
theorem dCa_gather_78 : decode mCa_gather.2.1 78 = .ok (.ifCond .lt 49, 3) := by decide +kernel
theorem dCa_gather_81 : decode mCa_gather.2.1 81 = .ok (.iload 6, 2) := by decide +kernel
theorem dCa_gather_83 : decode mCa_gather.2.1 83 = .ok (.aload_n 1, 1) := by decide +kernel
theorem dCa_gather_84 : decode mCa_gather.2.1 84 = .ok (.iload 5, 2) := by decide +kernel
theorem dCa_gather_86 : decode mCa_gather.2.1 86 = .ok (.iconst 4, 1) := by decide +kernel
theorem dCa_gather_87 : decode mCa_gather.2.1 87 = .ok (.invokevirtual 46, 3) := by decide +kernel
theorem dCa_gather_90 : decode mCa_gather.2.1 90 = .ok (.if_icmp .gt 37, 3) := by decide +kernel
theorem dCa_gather_93 : decode mCa_gather.2.1 93 = .ok (.aload_n 0, 1) := by decide +kernel
theorem dCa_gather_94 : decode mCa_gather.2.1 94 = .ok (.getfield 9, 3) := by decide +kernel
theorem dCa_gather_97 : decode mCa_gather.2.1 97 = .ok (.aload_n 0, 1) := by decide +kernel
theorem dCa_gather_98 : decode mCa_gather.2.1 98 = .ok (.getfield 19, 3) := by decide +kernel
theorem dCa_gather_101 : decode mCa_gather.2.1 101 = .ok (.iload 5, 2) := by decide +kernel
theorem dCa_gather_103 : decode mCa_gather.2.1 103 = .ok (.iastore, 1) := by decide +kernel
theorem dCa_gather_104 : decode mCa_gather.2.1 104 = .ok (.aload_n 0, 1) := by decide +kernel
theorem dCa_gather_105 : decode mCa_gather.2.1 105 = .ok (.dup, 1) := by decide +kernel
theorem dCa_gather_106 : decode mCa_gather.2.1 106 = .ok (.getfield 19, 3) := by decide +kernel
theorem dCa_gather_109 : decode mCa_gather.2.1 109 = .ok (.iconst 1, 1) := by decide +kernel
theorem dCa_gather_110 : decode mCa_gather.2.1 110 = .ok (.iadd, 1) := by decide +kernel
theorem dCa_gather_111 : decode mCa_gather.2.1 111 = .ok (.putfield 19, 3) := by decide +kernel
theorem dCa_gather_114 : decode mCa_gather.2.1 114 = .ok (.aload_n 0, 1) := by decide +kernel
theorem dCa_gather_115 : decode mCa_gather.2.1 115 = .ok (.dup, 1) := by decide +kernel
theorem dCa_gather_116 : decode mCa_gather.2.1 116 = .ok (.getfield 22, 3) := by decide +kernel
theorem dCa_gather_119 : decode mCa_gather.2.1 119 = .ok (.iconst 1, 1) := by decide +kernel
theorem dCa_gather_120 : decode mCa_gather.2.1 120 = .ok (.iload 5, 2) := by decide +kernel
theorem dCa_gather_122 : decode mCa_gather.2.1 122 = .ok (.ishl, 1) := by decide +kernel
theorem dCa_gather_123 : decode mCa_gather.2.1 123 = .ok (.ior, 1) := by decide +kernel
theorem dCa_gather_124 : decode mCa_gather.2.1 124 = .ok (.putfield 22, 3) := by decide +kernel
theorem dCa_gather_127 : decode mCa_gather.2.1 127 = .ok (.iinc 4 1, 3) := by decide +kernel
theorem dCa_gather_130 : decode mCa_gather.2.1 130 = .ok (.goto (-92), 3) := by decide +kernel
theorem dCa_gather_133 : decode mCa_gather.2.1 133 = .ok (.return_, 1) := by decide +kernel
theorem fCa_15 : FOK "BowingRow$Call" 15 0 3 false := ⟨RX0, TX0, nFd 0, rfl, by decide, rfl, by decide, rfl, lwg_of 314 (by decide +kernel) (by decide +kernel)⟩
theorem fCa_19 : FOK "BowingRow$Call" 19 0 1 false := ⟨RX0, TX0, nFd 0, rfl, by decide, rfl, by decide, rfl, lwg_of 309 (by decide +kernel) (by decide +kernel)⟩
theorem bCa_gather_0 {l : Launch} {G : Gx} {d : Nat} {bc bs : Nat} {Φ : OutV → Mm → Prop} (M : Mm) (a0 : Nat) (a1 : Nat) (x2 : Int32) (x3 : Int32)
    (h : ((m_sh M a0).1 = 0) ∧ Ev l G d mCa_gather 10 [.ref a0, .ref a1, .int x2, .int x3, .null, .null, .null] [] (m_si (m_si M a0 3 x2) a0 1 0) bc bs Φ) :
    Ev l G d mCa_gather 0 [.ref a0, .ref a1, .int x2, .int x3, .null, .null, .null] [] M bc bs Φ := by
  refine Ev.aload_n dCa_gather_0 rfl ?_
  refine Ev.iload_n dCa_gather_1 rfl ?_
  have g1 := h.1
  replace h := h.2
  refine Ev.putI dCa_gather_2 ⟨_, Or.inl ⟨fCa_15, (fun h => by cases h)⟩⟩ rfl ⟨rfl, rfl⟩ g1 ?_
  refine Ev.aload_n dCa_gather_5 rfl ?_
  refine Ev.iconst (v := 0) dCa_gather_6 (by decide) ?_
  refine Ev.putI dCa_gather_7 ⟨_, Or.inl ⟨fCa_19, (fun h => by cases h)⟩⟩ rfl ⟨rfl, rfl⟩ g1 ?_
  exact h
theorem fCa_22 : FOK "BowingRow$Call" 22 0 2 false := ⟨RX0, TX0, nFd 0, rfl, by decide, rfl, by decide, rfl, lwg_of 312 (by decide +kernel) (by decide +kernel)⟩
theorem fCa_25 : FOK "BowingRow$Call" 25 0 4 false := ⟨RX0, TX0, nFd 0, rfl, by decide, rfl, by decide, rfl, lwg_of 317 (by decide +kernel) (by decide +kernel)⟩
theorem bCa_gather_10 {l : Launch} {G : Gx} {d : Nat} {bc bs : Nat} {Φ : OutV → Mm → Prop} (M : Mm) (a0 : Nat) (a1 : Nat) (x2 : Int32) (x3 : Int32) (u4 : Value) (u5 : Value) (u6 : Value)
    (h : ((m_sh M a0).1 = 0) ∧ Ev l G d mCa_gather 20 [.ref a0, .ref a1, .int x2, .int x3, u4, u5, u6] [] (m_si (m_si M a0 2 0) a0 4 0) bc bs Φ) :
    Ev l G d mCa_gather 10 [.ref a0, .ref a1, .int x2, .int x3, u4, u5, u6] [] M bc bs Φ := by
  refine Ev.aload_n dCa_gather_10 rfl ?_
  refine Ev.iconst (v := 0) dCa_gather_11 (by decide) ?_
  have g1 := h.1
  replace h := h.2
  refine Ev.putI dCa_gather_12 ⟨_, Or.inl ⟨fCa_22, (fun h => by cases h)⟩⟩ rfl ⟨rfl, rfl⟩ g1 ?_
  refine Ev.aload_n dCa_gather_15 rfl ?_
  refine Ev.iconst (v := 0) dCa_gather_16 (by decide) ?_
  refine Ev.putI dCa_gather_17 ⟨_, Or.inl ⟨fCa_25, (fun h => by cases h)⟩⟩ rfl ⟨rfl, rfl⟩ g1 ?_
  exact h
theorem fCa_28 : FOK "BowingRow$Call" 28 0 5 false := ⟨RX0, TX0, nFd 0, rfl, by decide, rfl, by decide, rfl, lwg_of 320 (by decide +kernel) (by decide +kernel)⟩
theorem fCa_31 : FOK "BowingRow$Call" 31 0 6 false := ⟨RX0, TX0, nFd 0, rfl, by decide, rfl, by decide, rfl, lwg_of 323 (by decide +kernel) (by decide +kernel)⟩
theorem bCa_gather_20 {l : Launch} {G : Gx} {d : Nat} {bc bs : Nat} {Φ : OutV → Mm → Prop} (M : Mm) (a0 : Nat) (a1 : Nat) (x2 : Int32) (x3 : Int32) (u4 : Value) (u5 : Value) (u6 : Value)
    (h : ((m_sh M a0).1 = 0) ∧ Ev l G d mCa_gather 30 [.ref a0, .ref a1, .int x2, .int x3, u4, u5, u6] [] (m_si (m_si M a0 5 ((-1))) a0 6 ((-1))) bc bs Φ) :
    Ev l G d mCa_gather 20 [.ref a0, .ref a1, .int x2, .int x3, u4, u5, u6] [] M bc bs Φ := by
  refine Ev.aload_n dCa_gather_20 rfl ?_
  refine Ev.iconst (v := (-1)) dCa_gather_21 (by decide) ?_
  have g1 := h.1
  replace h := h.2
  refine Ev.putI dCa_gather_22 ⟨_, Or.inl ⟨fCa_28, (fun h => by cases h)⟩⟩ rfl ⟨rfl, rfl⟩ g1 ?_
  refine Ev.aload_n dCa_gather_25 rfl ?_
  refine Ev.iconst (v := (-1)) dCa_gather_26 (by decide) ?_
  refine Ev.putI dCa_gather_27 ⟨_, Or.inl ⟨fCa_31, (fun h => by cases h)⟩⟩ rfl ⟨rfl, rfl⟩ g1 ?_
  exact h
theorem fCa_34 : FOK "BowingRow$Call" 34 0 7 false := ⟨RX0, TX0, nFd 0, rfl, by decide, rfl, by decide, rfl, lwg_of 326 (by decide +kernel) (by decide +kernel)⟩
theorem bCa_gather_30 {l : Launch} {G : Gx} {d : Nat} {bc bs : Nat} {Φ : OutV → Mm → Prop} (M : Mm) (a0 : Nat) (a1 : Nat) (x2 : Int32) (x3 : Int32) (u4 : Value) (u5 : Value) (u6 : Value)
    (h : ((m_sh M a0).1 = 0) ∧ Ev l G d mCa_gather 38 [.ref a0, .ref a1, .int x2, .int x3, .int 0, u5, u6] [] (m_si M a0 7 0) bc bs Φ) :
    Ev l G d mCa_gather 30 [.ref a0, .ref a1, .int x2, .int x3, u4, u5, u6] [] M bc bs Φ := by
  refine Ev.aload_n dCa_gather_30 rfl ?_
  refine Ev.iconst (v := 0) dCa_gather_31 (by decide) ?_
  have g1 := h.1
  replace h := h.2
  refine Ev.putI dCa_gather_32 ⟨_, Or.inl ⟨fCa_34, (fun h => by cases h)⟩⟩ rfl ⟨rfl, rfl⟩ g1 ?_
  refine Ev.iconst (v := 0) dCa_gather_35 (by decide) ?_
  refine Ev.istore dCa_gather_36 (by decide) ?_
  show Ev l G d mCa_gather (_ + _) [.ref a0, .ref a1, .int x2, .int x3, .int 0, u5, u6] [] (m_si M a0 7 0) bc bs Φ
  exact h
theorem fCa_38 : FOK "BowingRow$Call" 38 6 2 false := ⟨RX6, TX6, nFd 6, rfl, by decide, rfl, by decide, rfl, lwg_of 178 (by decide +kernel) (by decide +kernel)⟩
theorem fCa_43 : FON "BowingRow$Call" 43 6 1 true := ⟨RX6, TX6, nFd 6, "BowingRow", rfl, by decide, rfl, by decide, rfl, lwx_of 173 (by decide +kernel) (by decide +kernel)⟩
theorem w582 : Cond.methodLink "BowingRow$Call" 46 ⟨"BowingRow$People", "fact", "(II)I"⟩ ∈ lwg := lwg_of 582 (by decide +kernel) (by decide +kernel)
theorem bCa_gather_38 {l : Launch} {G : Gx} {d : Nat} {bc bs : Nat} {Φ : OutV → Mm → Prop} (M : Mm) (a0 : Nat) (a1 : Nat) (x2 : Int32) (x3 : Int32) (x4 : Int32) (u5 : Value) (u6 : Value)
    (h : ((m_sh M a1).1 = 6) ∧ ((m_i M a1 2) ≤ x4 → Φ (.inl none) M) ∧ (¬ (m_i M a1 2) ≤ x4 → ((m_sh M (m_r M a1 1)).1 = 20) ∧ (vp_in x4 (m_sh M (m_r M a1 1)).2) ∧ CallVC l G d mCa_gather 64 [.ref a0, .ref a1, .int x2, .int x3, .int x4, .int (m_i M (m_r M a1 1) x4.toNatClampNeg), u6] [.int x2] mPe_fact [.ref a1, .int (m_i M (m_r M a1 1) x4.toNatClampNeg), .int 0] M bc bs Φ)) :
    Ev l G d mCa_gather 38 [.ref a0, .ref a1, .int x2, .int x3, .int x4, u5, u6] [] M bc bs Φ := by
  refine Ev.iload dCa_gather_38 rfl ?_
  refine Ev.aload_n dCa_gather_40 rfl ?_
  have g1 := h.1
  replace h := h.2
  refine Ev.getI dCa_gather_41 (Or.inl fCa_38) rfl g1 ?_
  refine Ev.icmp_ge 133 (by decide) dCa_gather_44 (fun c => ?_) (fun c => ?_)
  · replace h := h.1 c
    exact Ev.vret dCa_gather_133 rfl h
  · replace h := h.2 c
    refine Ev.aload_n dCa_gather_47 rfl ?_
    refine Ev.getR dCa_gather_48 (Or.inr fCa_43) rfl g1 ?_
    refine Ev.iload dCa_gather_51 rfl ?_
    have g2 := h.1
    replace h := h.2
    have g3 := h.1
    replace h := h.2
    refine Ev.iald2 dCa_gather_53 g2 g3 ?_
    refine Ev.istore dCa_gather_54 (by decide) ?_
    show Ev l G d mCa_gather (_ + _) [.ref a0, .ref a1, .int x2, .int x3, .int x4, .int (m_i M (m_r M a1 1) x4.toNatClampNeg), u6] [] M bc bs Φ
    refine Ev.iload_n dCa_gather_56 rfl ?_
    refine Ev.aload_n dCa_gather_57 rfl ?_
    refine Ev.iload dCa_gather_58 rfl ?_
    refine Ev.iconst (v := 0) dCa_gather_60 (by decide) ?_
    exact Ev.vcV (z := mPe_fact) (ci := 6) [.int (m_i M (m_r M a1 1) x4.toNatClampNeg), .int 0] [.int x2] rfl dCa_gather_61 oPe_fact rfl w582 iPe_fact sPe_fact (by decide) rfl g1 (Nat.le_of_ble_eq_true rfl) h
theorem bCa_gather_64 {l : Launch} {G : Gx} {d : Nat} {bc bs : Nat} {Φ : OutV → Mm → Prop} (M : Mm) (a0 : Nat) (a1 : Nat) (x2 : Int32) (x3 : Int32) (x4 : Int32) (x5 : Int32) (u6 : Value) (s0 : Int32) (s1 : Int32)
    (h : (¬ ((x3 >>> (x5 &&& 31)) &&& 1) = 0 → Ev l G d mCa_gather 127 [.ref a0, .ref a1, .int x2, .int x3, .int x4, .int x5, .int (s0 - s1)] [] M bc bs Φ) ∧ (((x3 >>> (x5 &&& 31)) &&& 1) = 0 → ((s0 - s1) < 0 → Ev l G d mCa_gather 127 [.ref a0, .ref a1, .int x2, .int x3, .int x4, .int x5, .int (s0 - s1)] [] M bc bs Φ) ∧ (¬ (s0 - s1) < 0 → ((m_sh M a1).1 = 6) ∧ CallVC l G d mCa_gather 90 [.ref a0, .ref a1, .int x2, .int x3, .int x4, .int x5, .int (s0 - s1)] [.int (s0 - s1)] mPe_fact [.ref a1, .int x5, .int 4] M bc bs Φ))) :
    Ev l G d mCa_gather 64 [.ref a0, .ref a1, .int x2, .int x3, .int x4, .int x5, u6] [.int s1, .int s0] M bc bs Φ := by
  refine Ev.isub dCa_gather_64 ?_
  refine Ev.istore dCa_gather_65 (by decide) ?_
  show Ev l G d mCa_gather (_ + _) [.ref a0, .ref a1, .int x2, .int x3, .int x4, .int x5, .int (s0 - s1)] [] M bc bs Φ
  refine Ev.iload_n dCa_gather_67 rfl ?_
  refine Ev.iload dCa_gather_68 rfl ?_
  refine Ev.ishr dCa_gather_70 ?_
  refine Ev.iconst (v := 1) dCa_gather_71 (by decide) ?_
  refine Ev.iand dCa_gather_72 ?_
  refine Ev.if_ne 127 (by decide) dCa_gather_73 (fun c => ?_) (fun c => ?_)
  · replace h := h.1 c
    exact h
  · replace h := h.2 c
    refine Ev.iload dCa_gather_76 rfl ?_
    refine Ev.if_lt 127 (by decide) dCa_gather_78 (fun c => ?_) (fun c => ?_)
    · replace h := h.1 c
      exact h
    · replace h := h.2 c
      refine Ev.iload dCa_gather_81 rfl ?_
      refine Ev.aload_n dCa_gather_83 rfl ?_
      refine Ev.iload dCa_gather_84 rfl ?_
      refine Ev.iconst (v := 4) dCa_gather_86 (by decide) ?_
      have g1 := h.1
      replace h := h.2
      exact Ev.vcV (z := mPe_fact) (ci := 6) [.int x5, .int 4] [.int (s0 - s1)] rfl dCa_gather_87 oPe_fact rfl w582 iPe_fact sPe_fact (by decide) rfl g1 (Nat.le_of_ble_eq_true rfl) h
theorem bCa_gather_90 {l : Launch} {G : Gx} {d : Nat} {bc bs : Nat} {Φ : OutV → Mm → Prop} (M : Mm) (a0 : Nat) (a1 : Nat) (x2 : Int32) (x3 : Int32) (x4 : Int32) (x5 : Int32) (x6 : Int32) (s0 : Int32) (s1 : Int32)
    (h : (s1 < s0 → Ev l G d mCa_gather 127 [.ref a0, .ref a1, .int x2, .int x3, .int x4, .int x5, .int x6] [] M bc bs Φ) ∧ (¬ s1 < s0 → ((m_sh M a0).1 = 0) ∧ ((m_sh M (m_r M a0 0)).1 = 20) ∧ (vp_in (m_i M a0 1) (m_sh M (m_r M a0 0)).2) ∧ Ev l G d mCa_gather 114 [.ref a0, .ref a1, .int x2, .int x3, .int x4, .int x5, .int x6] [] (m_si (m_si M (m_r M a0 0) (m_i M a0 1).toNatClampNeg x5) a0 1 ((m_i (m_si M (m_r M a0 0) (m_i M a0 1).toNatClampNeg x5) a0 1) + 1)) bc bs Φ)) :
    Ev l G d mCa_gather 90 [.ref a0, .ref a1, .int x2, .int x3, .int x4, .int x5, .int x6] [.int s1, .int s0] M bc bs Φ := by
  refine Ev.icmp_gt 127 (by decide) dCa_gather_90 (fun c => ?_) (fun c => ?_)
  · replace h := h.1 c
    exact h
  · replace h := h.2 c
    refine Ev.aload_n dCa_gather_93 rfl ?_
    have g1 := h.1
    replace h := h.2
    refine Ev.getR dCa_gather_94 (Or.inl fCa_9) rfl g1 ?_
    refine Ev.aload_n dCa_gather_97 rfl ?_
    refine Ev.getI dCa_gather_98 (Or.inl fCa_19) rfl g1 ?_
    refine Ev.iload dCa_gather_101 rfl ?_
    have g2 := h.1
    replace h := h.2
    have g3 := h.1
    replace h := h.2
    refine Ev.iast2 dCa_gather_103 g2 g3 ?_
    refine Ev.aload_n dCa_gather_104 rfl ?_
    refine Ev.dup dCa_gather_105 rfl ?_
    refine Ev.getI dCa_gather_106 (Or.inl fCa_19) rfl g1 ?_
    refine Ev.iconst (v := 1) dCa_gather_109 (by decide) ?_
    refine Ev.iadd dCa_gather_110 ?_
    refine Ev.putI dCa_gather_111 ⟨_, Or.inl ⟨fCa_19, (fun h => by cases h)⟩⟩ rfl ⟨rfl, rfl⟩ g1 ?_
    exact h
theorem bCa_gather_114 {l : Launch} {G : Gx} {d : Nat} {bc bs : Nat} {Φ : OutV → Mm → Prop} (M : Mm) (a0 : Nat) (a1 : Nat) (x2 : Int32) (x3 : Int32) (x4 : Int32) (x5 : Int32) (x6 : Int32)
    (h : ((m_sh M a0).1 = 0) ∧ Ev l G d mCa_gather 127 [.ref a0, .ref a1, .int x2, .int x3, .int x4, .int x5, .int x6] [] (m_si M a0 2 ((m_i M a0 2) ||| (1 <<< (x5 &&& 31)))) bc bs Φ) :
    Ev l G d mCa_gather 114 [.ref a0, .ref a1, .int x2, .int x3, .int x4, .int x5, .int x6] [] M bc bs Φ := by
  refine Ev.aload_n dCa_gather_114 rfl ?_
  refine Ev.dup dCa_gather_115 rfl ?_
  have g1 := h.1
  replace h := h.2
  refine Ev.getI dCa_gather_116 (Or.inl fCa_22) rfl g1 ?_
  refine Ev.iconst (v := 1) dCa_gather_119 (by decide) ?_
  refine Ev.iload dCa_gather_120 rfl ?_
  refine Ev.ishl dCa_gather_122 ?_
  refine Ev.ior dCa_gather_123 ?_
  refine Ev.putI dCa_gather_124 ⟨_, Or.inl ⟨fCa_22, (fun h => by cases h)⟩⟩ rfl ⟨rfl, rfl⟩ g1 ?_
  exact h
theorem bCa_gather_127 {l : Launch} {G : Gx} {d : Nat} {bc bs : Nat} {Φ : OutV → Mm → Prop} (M : Mm) (a0 : Nat) (a1 : Nat) (x2 : Int32) (x3 : Int32) (x4 : Int32) (x5 : Int32) (x6 : Int32)
    (h : Ev l G d mCa_gather 38 [.ref a0, .ref a1, .int x2, .int x3, .int (x4 + 1), .int x5, .int x6] [] M bc bs Φ) :
    Ev l G d mCa_gather 127 [.ref a0, .ref a1, .int x2, .int x3, .int x4, .int x5, .int x6] [] M bc bs Φ := by
  refine Ev.iinc (v := x4 + 1) dCa_gather_127 (by decide) rfl rfl ?_
  show Ev l G d mCa_gather (_ + _) [.ref a0, .ref a1, .int x2, .int x3, .int (x4 + 1), .int x5, .int x6] [] M bc bs Φ
  refine Ev.goto 38 dCa_gather_130 (by decide) ?_
  exact h
def mCa_dueOne : MR := (⟨"BowingRow$Call", "dueOne", "([II)I"⟩, prog_2_method_3_code, 6, (Option.some .int))
theorem oCa_dueOne : MOK mCa_dueOne 2 := ⟨lwg_of 596 (by decide +kernel) (by decide +kernel), lwg_of 99 (by decide +kernel) (by decide +kernel), ⟨by decide +kernel, by decide +kernel⟩, by decide +kernel, by decide⟩
theorem iCa_dueOne : Cond.instanceMethod mCa_dueOne.1 ∈ lwg := lwg_of 594 (by decide +kernel) (by decide +kernel)
theorem sCa_dueOne : Cond.selects mCa_dueOne.1.cls mCa_dueOne.1 mCa_dueOne.1 ∈ lwg := lwg_of 595 (by decide +kernel) (by decide +kernel)
theorem dCa_dueOne_0 : decode mCa_dueOne.2.1 0 = .ok (.iconst (-1), 1) := by decide +kernel
theorem dCa_dueOne_1 : decode mCa_dueOne.2.1 1 = .ok (.istore_n 3, 1) := by decide +kernel
theorem dCa_dueOne_2 : decode mCa_dueOne.2.1 2 = .ok (.iconst 0, 1) := by decide +kernel
theorem dCa_dueOne_3 : decode mCa_dueOne.2.1 3 = .ok (.istore 4, 2) := by decide +kernel
theorem dCa_dueOne_5 : decode mCa_dueOne.2.1 5 = .ok (.iload 4, 2) := by decide +kernel
theorem dCa_dueOne_7 : decode mCa_dueOne.2.1 7 = .ok (.aload_n 0, 1) := by decide +kernel
theorem dCa_dueOne_8 : decode mCa_dueOne.2.1 8 = .ok (.getfield 19, 3) := by decide +kernel
theorem dCa_dueOne_11 : decode mCa_dueOne.2.1 11 = .ok (.if_icmp .ge 47, 3) := by decide +kernel
theorem dCa_dueOne_14 : decode mCa_dueOne.2.1 14 = .ok (.aload_n 1, 1) := by decide +kernel
theorem dCa_dueOne_15 : decode mCa_dueOne.2.1 15 = .ok (.aload_n 0, 1) := by decide +kernel
theorem dCa_dueOne_16 : decode mCa_dueOne.2.1 16 = .ok (.getfield 9, 3) := by decide +kernel
theorem dCa_dueOne_19 : decode mCa_dueOne.2.1 19 = .ok (.iload 4, 2) := by decide +kernel
theorem dCa_dueOne_21 : decode mCa_dueOne.2.1 21 = .ok (.iaload, 1) := by decide +kernel
theorem dCa_dueOne_22 : decode mCa_dueOne.2.1 22 = .ok (.iaload, 1) := by decide +kernel
theorem dCa_dueOne_23 : decode mCa_dueOne.2.1 23 = .ok (.istore 5, 2) := by decide +kernel
theorem dCa_dueOne_25 : decode mCa_dueOne.2.1 25 = .ok (.iload 5, 2) := by decide +kernel
theorem dCa_dueOne_27 : decode mCa_dueOne.2.1 27 = .ok (.iload_n 2, 1) := by decide +kernel
theorem dCa_dueOne_28 : decode mCa_dueOne.2.1 28 = .ok (.if_icmp .lt 24, 3) := by decide +kernel
theorem dCa_dueOne_31 : decode mCa_dueOne.2.1 31 = .ok (.iload_n 3, 1) := by decide +kernel
theorem dCa_dueOne_32 : decode mCa_dueOne.2.1 32 = .ok (.iconst (-1), 1) := by decide +kernel
theorem dCa_dueOne_33 : decode mCa_dueOne.2.1 33 = .ok (.if_icmp .eq 11, 3) := by decide +kernel
theorem dCa_dueOne_36 : decode mCa_dueOne.2.1 36 = .ok (.iload 5, 2) := by decide +kernel
theorem dCa_dueOne_38 : decode mCa_dueOne.2.1 38 = .ok (.aload_n 1, 1) := by decide +kernel
theorem dCa_dueOne_39 : decode mCa_dueOne.2.1 39 = .ok (.iload_n 3, 1) := by decide +kernel
theorem dCa_dueOne_40 : decode mCa_dueOne.2.1 40 = .ok (.iaload, 1) := by decide +kernel
theorem dCa_dueOne_41 : decode mCa_dueOne.2.1 41 = .ok (.if_icmp .le 11, 3) := by decide +kernel
theorem dCa_dueOne_44 : decode mCa_dueOne.2.1 44 = .ok (.aload_n 0, 1) := by decide +kernel
theorem dCa_dueOne_45 : decode mCa_dueOne.2.1 45 = .ok (.getfield 9, 3) := by decide +kernel
theorem dCa_dueOne_48 : decode mCa_dueOne.2.1 48 = .ok (.iload 4, 2) := by decide +kernel
theorem dCa_dueOne_50 : decode mCa_dueOne.2.1 50 = .ok (.iaload, 1) := by decide +kernel
theorem dCa_dueOne_51 : decode mCa_dueOne.2.1 51 = .ok (.istore_n 3, 1) := by decide +kernel
theorem dCa_dueOne_52 : decode mCa_dueOne.2.1 52 = .ok (.iinc 4 1, 3) := by decide +kernel
theorem dCa_dueOne_55 : decode mCa_dueOne.2.1 55 = .ok (.goto (-50), 3) := by decide +kernel
theorem dCa_dueOne_58 : decode mCa_dueOne.2.1 58 = .ok (.iload_n 3, 1) := by decide +kernel
theorem dCa_dueOne_59 : decode mCa_dueOne.2.1 59 = .ok (.ireturn, 1) := by decide +kernel
theorem bCa_dueOne_0 {l : Launch} {G : Gx} {d : Nat} {bc bs : Nat} {Φ : OutV → Mm → Prop} (M : Mm) (a0 : Nat) (a1 : Nat) (x2 : Int32)
    (h : Ev l G d mCa_dueOne 5 [.ref a0, .ref a1, .int x2, .int ((-1)), .int 0, .null] [] M bc bs Φ) :
    Ev l G d mCa_dueOne 0 [.ref a0, .ref a1, .int x2, .null, .null, .null] [] M bc bs Φ := by
  refine Ev.iconst (v := (-1)) dCa_dueOne_0 (by decide) ?_
  refine Ev.istore_n dCa_dueOne_1 (by decide) ?_
  show Ev l G d mCa_dueOne (_ + _) [.ref a0, .ref a1, .int x2, .int ((-1)), .null, .null] [] M bc bs Φ
  refine Ev.iconst (v := 0) dCa_dueOne_2 (by decide) ?_
  refine Ev.istore dCa_dueOne_3 (by decide) ?_
  show Ev l G d mCa_dueOne (_ + _) [.ref a0, .ref a1, .int x2, .int ((-1)), .int 0, .null] [] M bc bs Φ
  exact h
theorem bCa_dueOne_5 {l : Launch} {G : Gx} {d : Nat} {bc bs : Nat} {Φ : OutV → Mm → Prop} (M : Mm) (a0 : Nat) (a1 : Nat) (x2 : Int32) (x3 : Int32) (x4 : Int32) (u5 : Value)
    (h : ((m_sh M a0).1 = 0) ∧ ((m_i M a0 1) ≤ x4 → Φ (.inl (some (.int x3))) M) ∧ (¬ (m_i M a0 1) ≤ x4 → ((m_sh M (m_r M a0 0)).1 = 20) ∧ (vp_in x4 (m_sh M (m_r M a0 0)).2) ∧ ((m_sh M a1).1 = 20) ∧ (vp_in (m_i M (m_r M a0 0) x4.toNatClampNeg) (m_sh M a1).2) ∧ ((m_i M a1 (m_i M (m_r M a0 0) x4.toNatClampNeg).toNatClampNeg) < x2 → Ev l G d mCa_dueOne 52 [.ref a0, .ref a1, .int x2, .int x3, .int x4, .int (m_i M a1 (m_i M (m_r M a0 0) x4.toNatClampNeg).toNatClampNeg)] [] M bc bs Φ) ∧ (¬ (m_i M a1 (m_i M (m_r M a0 0) x4.toNatClampNeg).toNatClampNeg) < x2 → (x3 = ((-1)) → Ev l G d mCa_dueOne 44 [.ref a0, .ref a1, .int x2, .int x3, .int x4, .int (m_i M a1 (m_i M (m_r M a0 0) x4.toNatClampNeg).toNatClampNeg)] [] M bc bs Φ) ∧ (¬ x3 = ((-1)) → (vp_in x3 (m_sh M a1).2) ∧ ((m_i M a1 (m_i M (m_r M a0 0) x4.toNatClampNeg).toNatClampNeg) ≤ (m_i M a1 x3.toNatClampNeg) → Ev l G d mCa_dueOne 52 [.ref a0, .ref a1, .int x2, .int x3, .int x4, .int (m_i M a1 (m_i M (m_r M a0 0) x4.toNatClampNeg).toNatClampNeg)] [] M bc bs Φ) ∧ (¬ (m_i M a1 (m_i M (m_r M a0 0) x4.toNatClampNeg).toNatClampNeg) ≤ (m_i M a1 x3.toNatClampNeg) → Ev l G d mCa_dueOne 44 [.ref a0, .ref a1, .int x2, .int x3, .int x4, .int (m_i M a1 (m_i M (m_r M a0 0) x4.toNatClampNeg).toNatClampNeg)] [] M bc bs Φ))))) :
    Ev l G d mCa_dueOne 5 [.ref a0, .ref a1, .int x2, .int x3, .int x4, u5] [] M bc bs Φ := by
  refine Ev.iload dCa_dueOne_5 rfl ?_
  refine Ev.aload_n dCa_dueOne_7 rfl ?_
  have g1 := h.1
  replace h := h.2
  refine Ev.getI dCa_dueOne_8 (Or.inl fCa_19) rfl g1 ?_
  refine Ev.icmp_ge 58 (by decide) dCa_dueOne_11 (fun c => ?_) (fun c => ?_)
  · replace h := h.1 c
    refine Ev.iload_n dCa_dueOne_58 rfl ?_
    exact Ev.iret dCa_dueOne_59 rfl rfl h
  · replace h := h.2 c
    refine Ev.aload_n dCa_dueOne_14 rfl ?_
    refine Ev.aload_n dCa_dueOne_15 rfl ?_
    refine Ev.getR dCa_dueOne_16 (Or.inl fCa_9) rfl g1 ?_
    refine Ev.iload dCa_dueOne_19 rfl ?_
    have g2 := h.1
    replace h := h.2
    have g3 := h.1
    replace h := h.2
    refine Ev.iald2 dCa_dueOne_21 g2 g3 ?_
    have g4 := h.1
    replace h := h.2
    have g5 := h.1
    replace h := h.2
    refine Ev.iald2 dCa_dueOne_22 g4 g5 ?_
    refine Ev.istore dCa_dueOne_23 (by decide) ?_
    show Ev l G d mCa_dueOne (_ + _) [.ref a0, .ref a1, .int x2, .int x3, .int x4, .int (m_i M a1 (m_i M (m_r M a0 0) x4.toNatClampNeg).toNatClampNeg)] [] M bc bs Φ
    refine Ev.iload dCa_dueOne_25 rfl ?_
    refine Ev.iload_n dCa_dueOne_27 rfl ?_
    refine Ev.icmp_lt 52 (by decide) dCa_dueOne_28 (fun c => ?_) (fun c => ?_)
    · replace h := h.1 c
      exact h
    · replace h := h.2 c
      refine Ev.iload_n dCa_dueOne_31 rfl ?_
      refine Ev.iconst (v := (-1)) dCa_dueOne_32 (by decide) ?_
      refine Ev.icmp_eq 44 (by decide) dCa_dueOne_33 (fun c => ?_) (fun c => ?_)
      · replace h := h.1 c
        exact h
      · replace h := h.2 c
        refine Ev.iload dCa_dueOne_36 rfl ?_
        refine Ev.aload_n dCa_dueOne_38 rfl ?_
        refine Ev.iload_n dCa_dueOne_39 rfl ?_
        have g6 := h.1
        replace h := h.2
        refine Ev.iald2 dCa_dueOne_40 g4 g6 ?_
        refine Ev.icmp_le 52 (by decide) dCa_dueOne_41 (fun c => ?_) (fun c => ?_)
        · replace h := h.1 c
          exact h
        · replace h := h.2 c
          exact h
theorem bCa_dueOne_44 {l : Launch} {G : Gx} {d : Nat} {bc bs : Nat} {Φ : OutV → Mm → Prop} (M : Mm) (a0 : Nat) (a1 : Nat) (x2 : Int32) (x3 : Int32) (x4 : Int32) (x5 : Int32)
    (h : ((m_sh M a0).1 = 0) ∧ ((m_sh M (m_r M a0 0)).1 = 20) ∧ (vp_in x4 (m_sh M (m_r M a0 0)).2) ∧ Ev l G d mCa_dueOne 52 [.ref a0, .ref a1, .int x2, .int (m_i M (m_r M a0 0) x4.toNatClampNeg), .int x4, .int x5] [] M bc bs Φ) :
    Ev l G d mCa_dueOne 44 [.ref a0, .ref a1, .int x2, .int x3, .int x4, .int x5] [] M bc bs Φ := by
  refine Ev.aload_n dCa_dueOne_44 rfl ?_
  have g1 := h.1
  replace h := h.2
  refine Ev.getR dCa_dueOne_45 (Or.inl fCa_9) rfl g1 ?_
  refine Ev.iload dCa_dueOne_48 rfl ?_
  have g2 := h.1
  replace h := h.2
  have g3 := h.1
  replace h := h.2
  refine Ev.iald2 dCa_dueOne_50 g2 g3 ?_
  refine Ev.istore_n dCa_dueOne_51 (by decide) ?_
  show Ev l G d mCa_dueOne (_ + _) [.ref a0, .ref a1, .int x2, .int (m_i M (m_r M a0 0) x4.toNatClampNeg), .int x4, .int x5] [] M bc bs Φ
  exact h
theorem bCa_dueOne_52 {l : Launch} {G : Gx} {d : Nat} {bc bs : Nat} {Φ : OutV → Mm → Prop} (M : Mm) (a0 : Nat) (a1 : Nat) (x2 : Int32) (x3 : Int32) (x4 : Int32) (x5 : Int32)
    (h : Ev l G d mCa_dueOne 5 [.ref a0, .ref a1, .int x2, .int x3, .int (x4 + 1), .int x5] [] M bc bs Φ) :
    Ev l G d mCa_dueOne 52 [.ref a0, .ref a1, .int x2, .int x3, .int x4, .int x5] [] M bc bs Φ := by
  refine Ev.iinc (v := x4 + 1) dCa_dueOne_52 (by decide) rfl rfl ?_
  show Ev l G d mCa_dueOne (_ + _) [.ref a0, .ref a1, .int x2, .int x3, .int (x4 + 1), .int x5] [] M bc bs Φ
  refine Ev.goto 5 dCa_dueOne_55 (by decide) ?_
  exact h
def mIm_init : MR := (⟨"BowingRow$Image", "<init>", "()V"⟩, prog_4_method_1_code, 1, none)
theorem oIm_init : MOK mIm_init 0 := ⟨lwg_of 467 (by decide +kernel) (by decide +kernel), lwg_of 102 (by decide +kernel) (by decide +kernel), ⟨by decide +kernel, by decide +kernel⟩, by decide +kernel, by decide⟩
theorem iIm_init : Cond.instanceMethod mIm_init.1 ∈ lwg := lwg_of 466 (by decide +kernel) (by decide +kernel)
theorem dIm_init_0 : decode mIm_init.2.1 0 = .ok (.aload_n 0, 1) := by decide +kernel
theorem dIm_init_1 : decode mIm_init.2.1 1 = .ok (.invokespecial 3, 3) := by decide +kernel
theorem dIm_init_4 : decode mIm_init.2.1 4 = .ok (.aload_n 0, 1) := by decide +kernel
theorem dIm_init_5 : decode mIm_init.2.1 5 = .ok (.bipush 8, 2) := by decide +kernel
theorem dIm_init_7 : decode mIm_init.2.1 7 = .ok (.newarray .int, 2) := by decide +kernel
theorem dIm_init_9 : decode mIm_init.2.1 9 = .ok (.putfield 9, 3) := by decide +kernel
theorem dIm_init_12 : decode mIm_init.2.1 12 = .ok (.aload_n 0, 1) := by decide +kernel
theorem dIm_init_13 : decode mIm_init.2.1 13 = .ok (.bipush 8, 2) := by decide +kernel
theorem dIm_init_15 : decode mIm_init.2.1 15 = .ok (.newarray .int, 2) := by decide +kernel
theorem dIm_init_17 : decode mIm_init.2.1 17 = .ok (.putfield 15, 3) := by decide +kernel
theorem dIm_init_20 : decode mIm_init.2.1 20 = .ok (.aload_n 0, 1) := by decide +kernel
theorem dIm_init_21 : decode mIm_init.2.1 21 = .ok (.bipush 8, 2) := by decide +kernel
theorem dIm_init_23 : decode mIm_init.2.1 23 = .ok (.newarray .int, 2) := by decide +kernel
theorem dIm_init_25 : decode mIm_init.2.1 25 = .ok (.putfield 18, 3) := by decide +kernel
theorem dIm_init_28 : decode mIm_init.2.1 28 = .ok (.return_, 1) := by decide +kernel
theorem w468 : Cond.methodLink "BowingRow$Image" 3 ⟨"java/lang/Object", "<init>", "()V"⟩ ∈ lwg := lwg_of 468 (by decide +kernel) (by decide +kernel)
theorem fIm_9 : FOK "BowingRow$Image" 9 2 0 true := ⟨RX2, TX2, nFd 2, rfl, by decide, rfl, by decide, rfl, lwg_of 469 (by decide +kernel) (by decide +kernel)⟩
theorem bIm_init_0 {l : Launch} {G : Gx} {d : Nat} {bc bs : Nat} {Φ : OutV → Mm → Prop} (M : Mm) (a0 : Nat)
    (h : (a0 ≠ 0 ∧ 1 ≤ d) ∧ (1 ≤ bc ∧ 8 ≤ bs) ∧ ((m_sh (m_al M (20, 8)) a0).1 = 2) ∧ Ev l G d mIm_init 12 [.ref a0] [] (m_sr (m_al M (20, 8)) a0 0 (m_nx M)) (bc - 1) (bs - 8) Φ) :
    Ev l G d mIm_init 0 [.ref a0] [] M bc bs Φ := by
  refine Ev.aload_n dIm_init_0 rfl ?_
  have g1 := h.1
  replace h := h.2
  refine Ev.objInit dIm_init_1 w468 w_oi w_oc (Nat.le_of_ble_eq_true rfl) g1.2 g1.1 ?_
  refine Ev.aload_n dIm_init_4 rfl ?_
  refine Ev.bipush (v := 8) dIm_init_5 (by decide) ?_
  have g2 := h.1
  replace h := h.2
  refine Ev.newI2 8 dIm_init_7 w164 (by decide) (by decide) (by decide) g2 ?_
  have g3 := h.1
  replace h := h.2
  refine Ev.putR dIm_init_9 ⟨_, Or.inl ⟨fIm_9, (fun _ => ⟨rfl, fun r hr => by cases hr; rfl⟩)⟩⟩ rfl (fun ad => fitR (by first | exact Or.inl ⟨_, rfl⟩ | exact Or.inr ⟨_, rfl⟩) _ ad) g3 ?_
  exact h
theorem fIm_15 : FOK "BowingRow$Image" 15 2 1 true := ⟨RX2, TX2, nFd 2, rfl, by decide, rfl, by decide, rfl, lwg_of 470 (by decide +kernel) (by decide +kernel)⟩
theorem bIm_init_12 {l : Launch} {G : Gx} {d : Nat} {bc bs : Nat} {Φ : OutV → Mm → Prop} (M : Mm) (a0 : Nat)
    (h : (1 ≤ bc ∧ 8 ≤ bs) ∧ ((m_sh (m_al M (20, 8)) a0).1 = 2) ∧ Ev l G d mIm_init 20 [.ref a0] [] (m_sr (m_al M (20, 8)) a0 1 (m_nx M)) (bc - 1) (bs - 8) Φ) :
    Ev l G d mIm_init 12 [.ref a0] [] M bc bs Φ := by
  refine Ev.aload_n dIm_init_12 rfl ?_
  refine Ev.bipush (v := 8) dIm_init_13 (by decide) ?_
  have g1 := h.1
  replace h := h.2
  refine Ev.newI2 8 dIm_init_15 w164 (by decide) (by decide) (by decide) g1 ?_
  have g2 := h.1
  replace h := h.2
  refine Ev.putR dIm_init_17 ⟨_, Or.inl ⟨fIm_15, (fun _ => ⟨rfl, fun r hr => by cases hr; rfl⟩)⟩⟩ rfl (fun ad => fitR (by first | exact Or.inl ⟨_, rfl⟩ | exact Or.inr ⟨_, rfl⟩) _ ad) g2 ?_
  exact h
theorem fIm_18 : FOK "BowingRow$Image" 18 2 2 true := ⟨RX2, TX2, nFd 2, rfl, by decide, rfl, by decide, rfl, lwg_of 471 (by decide +kernel) (by decide +kernel)⟩
theorem bIm_init_20 {l : Launch} {G : Gx} {d : Nat} {bc bs : Nat} {Φ : OutV → Mm → Prop} (M : Mm) (a0 : Nat)
    (h : (1 ≤ bc ∧ 8 ≤ bs) ∧ ((m_sh (m_al M (20, 8)) a0).1 = 2) ∧ Ev l G d mIm_init 28 [.ref a0] [] (m_sr (m_al M (20, 8)) a0 2 (m_nx M)) (bc - 1) (bs - 8) Φ) :
    Ev l G d mIm_init 20 [.ref a0] [] M bc bs Φ := by
  refine Ev.aload_n dIm_init_20 rfl ?_
  refine Ev.bipush (v := 8) dIm_init_21 (by decide) ?_
  have g1 := h.1
  replace h := h.2
  refine Ev.newI2 8 dIm_init_23 w164 (by decide) (by decide) (by decide) g1 ?_
  have g2 := h.1
  replace h := h.2
  refine Ev.putR dIm_init_25 ⟨_, Or.inl ⟨fIm_18, (fun _ => ⟨rfl, fun r hr => by cases hr; rfl⟩)⟩⟩ rfl (fun ad => fitR (by first | exact Or.inl ⟨_, rfl⟩ | exact Or.inr ⟨_, rfl⟩) _ ad) g2 ?_
  exact h
theorem bIm_init_28 {l : Launch} {G : Gx} {d : Nat} {bc bs : Nat} {Φ : OutV → Mm → Prop} (M : Mm) (a0 : Nat)
    (h : Φ (.inl none) M) :
    Ev l G d mIm_init 28 [.ref a0] [] M bc bs Φ := by
  exact Ev.vret dIm_init_28 rfl h
def mIm_take : MR := (⟨"BowingRow$Image", "take", "(LBowingRow$People;[II)V"⟩, prog_4_method_2_code, 5, none)
theorem oIm_take : MOK mIm_take 3 := ⟨lwg_of 677 (by decide +kernel) (by decide +kernel), lwg_of 102 (by decide +kernel) (by decide +kernel), ⟨by decide +kernel, by decide +kernel⟩, by decide +kernel, by decide⟩
theorem iIm_take : Cond.instanceMethod mIm_take.1 ∈ lwg := lwg_of 675 (by decide +kernel) (by decide +kernel)
theorem sIm_take : Cond.selects mIm_take.1.cls mIm_take.1 mIm_take.1 ∈ lwg := lwg_of 676 (by decide +kernel) (by decide +kernel)
theorem dIm_take_0 : decode mIm_take.2.1 0 = .ok (.iconst 0, 1) := by decide +kernel
theorem dIm_take_1 : decode mIm_take.2.1 1 = .ok (.istore 4, 2) := by decide +kernel
theorem dIm_take_3 : decode mIm_take.2.1 3 = .ok (.iload 4, 2) := by decide +kernel
theorem dIm_take_5 : decode mIm_take.2.1 5 = .ok (.aload_n 1, 1) := by decide +kernel
theorem dIm_take_6 : decode mIm_take.2.1 6 = .ok (.getfield 21, 3) := by decide +kernel
theorem dIm_take_9 : decode mIm_take.2.1 9 = .ok (.if_icmp .ge 38, 3) := by decide +kernel
theorem dIm_take_12 : decode mIm_take.2.1 12 = .ok (.aload_n 0, 1) := by decide +kernel
theorem dIm_take_13 : decode mIm_take.2.1 13 = .ok (.getfield 9, 3) := by decide +kernel
theorem dIm_take_16 : decode mIm_take.2.1 16 = .ok (.iload 4, 2) := by decide +kernel
theorem dIm_take_18 : decode mIm_take.2.1 18 = .ok (.aload_n 1, 1) := by decide +kernel
theorem dIm_take_19 : decode mIm_take.2.1 19 = .ok (.iload 4, 2) := by decide +kernel
theorem dIm_take_21 : decode mIm_take.2.1 21 = .ok (.iconst 5, 1) := by decide +kernel
theorem dIm_take_22 : decode mIm_take.2.1 22 = .ok (.invokevirtual 27, 3) := by decide +kernel
theorem dIm_take_25 : decode mIm_take.2.1 25 = .ok (.iastore, 1) := by decide +kernel
theorem dIm_take_26 : decode mIm_take.2.1 26 = .ok (.aload_n 0, 1) := by decide +kernel
theorem dIm_take_27 : decode mIm_take.2.1 27 = .ok (.getfield 15, 3) := by decide +kernel
theorem dIm_take_30 : decode mIm_take.2.1 30 = .ok (.iload 4, 2) := by decide +kernel
theorem dIm_take_32 : decode mIm_take.2.1 32 = .ok (.aload_n 1, 1) := by decide +kernel
theorem dIm_take_33 : decode mIm_take.2.1 33 = .ok (.iload 4, 2) := by decide +kernel
theorem dIm_take_35 : decode mIm_take.2.1 35 = .ok (.bipush 6, 2) := by decide +kernel
theorem dIm_take_37 : decode mIm_take.2.1 37 = .ok (.invokevirtual 27, 3) := by decide +kernel
theorem dIm_take_40 : decode mIm_take.2.1 40 = .ok (.iastore, 1) := by decide +kernel
theorem dIm_take_41 : decode mIm_take.2.1 41 = .ok (.iinc 4 1, 3) := by decide +kernel
theorem dIm_take_44 : decode mIm_take.2.1 44 = .ok (.goto (-41), 3) := by decide +kernel
theorem dIm_take_47 : decode mIm_take.2.1 47 = .ok (.aload_n 2, 1) := by decide +kernel
theorem dIm_take_48 : decode mIm_take.2.1 48 = .ok (.iconst 0, 1) := by decide +kernel
theorem dIm_take_49 : decode mIm_take.2.1 49 = .ok (.aload_n 0, 1) := by decide +kernel
theorem dIm_take_50 : decode mIm_take.2.1 50 = .ok (.getfield 18, 3) := by decide +kernel
theorem dIm_take_53 : decode mIm_take.2.1 53 = .ok (.iconst 0, 1) := by decide +kernel
theorem dIm_take_54 : decode mIm_take.2.1 54 = .ok (.bipush 8, 2) := by decide +kernel
theorem dIm_take_56 : decode mIm_take.2.1 56 = .ok (.invokestatic 31, 3) := by decide +kernel
theorem dIm_take_59 : decode mIm_take.2.1 59 = .ok (.aload_n 0, 1) := by decide +kernel
theorem dIm_take_60 : decode mIm_take.2.1 60 = .ok (.iload_n 3, 1) := by decide +kernel
theorem dIm_take_61 : decode mIm_take.2.1 61 = .ok (.putfield 37, 3) := by decide +kernel
theorem dIm_take_64 : decode mIm_take.2.1 64 = .ok (.return_, 1) := by decide +kernel
theorem bIm_take_0 {l : Launch} {G : Gx} {d : Nat} {bc bs : Nat} {Φ : OutV → Mm → Prop} (M : Mm) (a0 : Nat) (a1 : Nat) (a2 : Nat) (x3 : Int32)
    (h : Ev l G d mIm_take 3 [.ref a0, .ref a1, .ref a2, .int x3, .int 0] [] M bc bs Φ) :
    Ev l G d mIm_take 0 [.ref a0, .ref a1, .ref a2, .int x3, .null] [] M bc bs Φ := by
  refine Ev.iconst (v := 0) dIm_take_0 (by decide) ?_
  refine Ev.istore dIm_take_1 (by decide) ?_
  show Ev l G d mIm_take (_ + _) [.ref a0, .ref a1, .ref a2, .int x3, .int 0] [] M bc bs Φ
  exact h
theorem fIm_21 : FOK "BowingRow$Image" 21 6 2 false := ⟨RX6, TX6, nFd 6, rfl, by decide, rfl, by decide, rfl, lwg_of 174 (by decide +kernel) (by decide +kernel)⟩
theorem w679 : Cond.methodLink "BowingRow$Image" 31 ⟨"java/lang/System", "arraycopy", "(Ljava/lang/Object;ILjava/lang/Object;II)V"⟩ ∈ lwg := lwg_of 679 (by decide +kernel) (by decide +kernel)
theorem w681 : Cond.native ⟨"java/lang/System", "arraycopy", "(Ljava/lang/Object;ILjava/lang/Object;II)V"⟩ ∈ lwg := lwg_of 681 (by decide +kernel) (by decide +kernel)
theorem w680 : Cond.static ⟨"java/lang/System", "arraycopy", "(Ljava/lang/Object;ILjava/lang/Object;II)V"⟩ ∈ lwg := lwg_of 680 (by decide +kernel) (by decide +kernel)
theorem w119 : Cond.initialized "java/lang/System" ∈ lwg := lwg_of 119 (by decide +kernel) (by decide +kernel)
theorem fIm_37 : FOK "BowingRow$Image" 37 2 3 false := ⟨RX2, TX2, nFd 2, rfl, by decide, rfl, by decide, rfl, lwg_of 472 (by decide +kernel) (by decide +kernel)⟩
theorem w678 : Cond.methodLink "BowingRow$Image" 27 ⟨"BowingRow$People", "fact", "(II)I"⟩ ∈ lwg := lwg_of 678 (by decide +kernel) (by decide +kernel)
theorem bIm_take_3 {l : Launch} {G : Gx} {d : Nat} {bc bs : Nat} {Φ : OutV → Mm → Prop} (M : Mm) (a0 : Nat) (a1 : Nat) (a2 : Nat) (x3 : Int32) (x4 : Int32)
    (h : ((m_sh M a1).1 = 6) ∧ ((m_i M a1 2) ≤ x4 → ((m_sh M a0).1 = 2) ∧ ((m_sh M a2).1 = 20) ∧ ((m_sh M (m_r M a0 2)).1 = 20) ∧ ((¬ (0 : Int32) < 0 ∧ ¬ (0 : Int32) < 0 ∧ ¬ (8 : Int32) < 0) ∧ (0 : Int32).toNatClampNeg + (8 : Int32).toNatClampNeg ≤ (m_sh M a2).2 ∧ (0 : Int32).toNatClampNeg + (8 : Int32).toNatClampNeg ≤ (m_sh M (m_r M a0 2)).2 ∧ 1 ≤ d) ∧ Φ (.inl none) (m_si (m_cpy M a2 (m_r M a0 2) (0 : Int32).toNatClampNeg (0 : Int32).toNatClampNeg (8 : Int32).toNatClampNeg) a0 3 x3)) ∧ (¬ (m_i M a1 2) ≤ x4 → ((m_sh M a0).1 = 2) ∧ CallVC l G d mIm_take 25 [.ref a0, .ref a1, .ref a2, .int x3, .int x4] [.int x4, .ref (m_r M a0 0)] mPe_fact [.ref a1, .int x4, .int 5] M bc bs Φ)) :
    Ev l G d mIm_take 3 [.ref a0, .ref a1, .ref a2, .int x3, .int x4] [] M bc bs Φ := by
  refine Ev.iload dIm_take_3 rfl ?_
  refine Ev.aload_n dIm_take_5 rfl ?_
  have g1 := h.1
  replace h := h.2
  refine Ev.getI dIm_take_6 (Or.inl fIm_21) rfl g1 ?_
  refine Ev.icmp_ge 47 (by decide) dIm_take_9 (fun c => ?_) (fun c => ?_)
  · replace h := h.1 c
    refine Ev.aload_n dIm_take_47 rfl ?_
    refine Ev.iconst (v := 0) dIm_take_48 (by decide) ?_
    refine Ev.aload_n dIm_take_49 rfl ?_
    have g2 := h.1
    replace h := h.2
    refine Ev.getR dIm_take_50 (Or.inl fIm_18) rfl g2 ?_
    refine Ev.iconst (v := 0) dIm_take_53 (by decide) ?_
    refine Ev.bipush (v := 8) dIm_take_54 (by decide) ?_
    have g3 := h.1
    replace h := h.2
    have g4 := h.1
    replace h := h.2
    have g5 := h.1
    replace h := h.2
    refine Ev.copyI2 dIm_take_56 w679 w681 w680 w119 (Nat.le_of_ble_eq_true rfl) g3 g4 g5 ?_
    refine Ev.aload_n dIm_take_59 rfl ?_
    refine Ev.iload_n dIm_take_60 rfl ?_
    refine Ev.putI dIm_take_61 ⟨_, Or.inl ⟨fIm_37, (fun h => by cases h)⟩⟩ rfl ⟨rfl, rfl⟩ g2 ?_
    exact Ev.vret dIm_take_64 rfl h
  · replace h := h.2 c
    refine Ev.aload_n dIm_take_12 rfl ?_
    have g6 := h.1
    replace h := h.2
    refine Ev.getR dIm_take_13 (Or.inl fIm_9) rfl g6 ?_
    refine Ev.iload dIm_take_16 rfl ?_
    refine Ev.aload_n dIm_take_18 rfl ?_
    refine Ev.iload dIm_take_19 rfl ?_
    refine Ev.iconst (v := 5) dIm_take_21 (by decide) ?_
    exact Ev.vcV (z := mPe_fact) (ci := 6) [.int x4, .int 5] [.int x4, .ref (m_r M a0 0)] rfl dIm_take_22 oPe_fact rfl w678 iPe_fact sPe_fact (by decide) rfl g1 (Nat.le_of_ble_eq_true rfl) h
theorem bIm_take_25 {l : Launch} {G : Gx} {d : Nat} {bc bs : Nat} {Φ : OutV → Mm → Prop} (M : Mm) (a0 : Nat) (a1 : Nat) (a2 : Nat) (x3 : Int32) (x4 : Int32) (r0 : Nat) (s1 : Int32) (s2 : Int32)
    (h : ((m_sh M r0).1 = 20) ∧ (vp_in s1 (m_sh M r0).2) ∧ ((m_sh M a0).1 = 2) ∧ ((m_sh M a1).1 = 6) ∧ CallVC l G d mIm_take 40 [.ref a0, .ref a1, .ref a2, .int x3, .int x4] [.int x4, .ref (m_r M a0 1)] mPe_fact [.ref a1, .int x4, .int 6] (m_si M r0 s1.toNatClampNeg s2) bc bs Φ) :
    Ev l G d mIm_take 25 [.ref a0, .ref a1, .ref a2, .int x3, .int x4] [.int s2, .int s1, .ref r0] M bc bs Φ := by
  have g1 := h.1
  replace h := h.2
  have g2 := h.1
  replace h := h.2
  refine Ev.iast2 dIm_take_25 g1 g2 ?_
  refine Ev.aload_n dIm_take_26 rfl ?_
  have g3 := h.1
  replace h := h.2
  refine Ev.getR dIm_take_27 (Or.inl fIm_15) rfl g3 ?_
  refine Ev.iload dIm_take_30 rfl ?_
  refine Ev.aload_n dIm_take_32 rfl ?_
  refine Ev.iload dIm_take_33 rfl ?_
  refine Ev.bipush (v := 6) dIm_take_35 (by decide) ?_
  have g4 := h.1
  replace h := h.2
  exact Ev.vcV (z := mPe_fact) (ci := 6) [.int x4, .int 6] [.int x4, .ref (m_r M a0 1)] rfl dIm_take_37 oPe_fact rfl w678 iPe_fact sPe_fact (by decide) rfl g4 (Nat.le_of_ble_eq_true rfl) h
theorem bIm_take_40 {l : Launch} {G : Gx} {d : Nat} {bc bs : Nat} {Φ : OutV → Mm → Prop} (M : Mm) (a0 : Nat) (a1 : Nat) (a2 : Nat) (x3 : Int32) (x4 : Int32) (r0 : Nat) (s1 : Int32) (s2 : Int32)
    (h : ((m_sh M r0).1 = 20) ∧ (vp_in s1 (m_sh M r0).2) ∧ Ev l G d mIm_take 3 [.ref a0, .ref a1, .ref a2, .int x3, .int (x4 + 1)] [] (m_si M r0 s1.toNatClampNeg s2) bc bs Φ) :
    Ev l G d mIm_take 40 [.ref a0, .ref a1, .ref a2, .int x3, .int x4] [.int s2, .int s1, .ref r0] M bc bs Φ := by
  have g1 := h.1
  replace h := h.2
  have g2 := h.1
  replace h := h.2
  refine Ev.iast2 dIm_take_40 g1 g2 ?_
  refine Ev.iinc (v := x4 + 1) dIm_take_41 (by decide) rfl rfl ?_
  show Ev l G d mIm_take (_ + _) [.ref a0, .ref a1, .ref a2, .int x3, .int (x4 + 1)] [] (m_si M r0 s1.toNatClampNeg s2) bc bs Φ
  refine Ev.goto 3 dIm_take_44 (by decide) ?_
  exact h
def mIm_putBack : MR := (⟨"BowingRow$Image", "putBack", "(LBowingRow$People;[I)I"⟩, prog_4_method_3_code, 4, (Option.some .int))
theorem oIm_putBack : MOK mIm_putBack 2 := ⟨lwg_of 689 (by decide +kernel) (by decide +kernel), lwg_of 102 (by decide +kernel) (by decide +kernel), ⟨by decide +kernel, by decide +kernel⟩, by decide +kernel, by decide⟩
theorem iIm_putBack : Cond.instanceMethod mIm_putBack.1 ∈ lwg := lwg_of 687 (by decide +kernel) (by decide +kernel)
theorem sIm_putBack : Cond.selects mIm_putBack.1.cls mIm_putBack.1 mIm_putBack.1 ∈ lwg := lwg_of 688 (by decide +kernel) (by decide +kernel)
theorem dIm_putBack_0 : decode mIm_putBack.2.1 0 = .ok (.iconst 0, 1) := by decide +kernel
theorem dIm_putBack_1 : decode mIm_putBack.2.1 1 = .ok (.istore_n 3, 1) := by decide +kernel
theorem dIm_putBack_2 : decode mIm_putBack.2.1 2 = .ok (.iload_n 3, 1) := by decide +kernel
theorem dIm_putBack_3 : decode mIm_putBack.2.1 3 = .ok (.aload_n 1, 1) := by decide +kernel
theorem dIm_putBack_4 : decode mIm_putBack.2.1 4 = .ok (.getfield 21, 3) := by decide +kernel
theorem dIm_putBack_7 : decode mIm_putBack.2.1 7 = .ok (.if_icmp .ge 34, 3) := by decide +kernel
theorem dIm_putBack_10 : decode mIm_putBack.2.1 10 = .ok (.aload_n 1, 1) := by decide +kernel
theorem dIm_putBack_11 : decode mIm_putBack.2.1 11 = .ok (.iload_n 3, 1) := by decide +kernel
theorem dIm_putBack_12 : decode mIm_putBack.2.1 12 = .ok (.iconst 5, 1) := by decide +kernel
theorem dIm_putBack_13 : decode mIm_putBack.2.1 13 = .ok (.aload_n 0, 1) := by decide +kernel
theorem dIm_putBack_14 : decode mIm_putBack.2.1 14 = .ok (.getfield 9, 3) := by decide +kernel
theorem dIm_putBack_17 : decode mIm_putBack.2.1 17 = .ok (.iload_n 3, 1) := by decide +kernel
theorem dIm_putBack_18 : decode mIm_putBack.2.1 18 = .ok (.iaload, 1) := by decide +kernel
theorem dIm_putBack_19 : decode mIm_putBack.2.1 19 = .ok (.invokevirtual 40, 3) := by decide +kernel
theorem dIm_putBack_22 : decode mIm_putBack.2.1 22 = .ok (.aload_n 1, 1) := by decide +kernel
theorem dIm_putBack_23 : decode mIm_putBack.2.1 23 = .ok (.iload_n 3, 1) := by decide +kernel
theorem dIm_putBack_24 : decode mIm_putBack.2.1 24 = .ok (.bipush 6, 2) := by decide +kernel
theorem dIm_putBack_26 : decode mIm_putBack.2.1 26 = .ok (.aload_n 0, 1) := by decide +kernel
theorem dIm_putBack_27 : decode mIm_putBack.2.1 27 = .ok (.getfield 15, 3) := by decide +kernel
theorem dIm_putBack_30 : decode mIm_putBack.2.1 30 = .ok (.iload_n 3, 1) := by decide +kernel
theorem dIm_putBack_31 : decode mIm_putBack.2.1 31 = .ok (.iaload, 1) := by decide +kernel
theorem dIm_putBack_32 : decode mIm_putBack.2.1 32 = .ok (.invokevirtual 40, 3) := by decide +kernel
theorem dIm_putBack_35 : decode mIm_putBack.2.1 35 = .ok (.iinc 3 1, 3) := by decide +kernel
theorem dIm_putBack_38 : decode mIm_putBack.2.1 38 = .ok (.goto (-36), 3) := by decide +kernel
theorem dIm_putBack_41 : decode mIm_putBack.2.1 41 = .ok (.aload_n 0, 1) := by decide +kernel
theorem dIm_putBack_42 : decode mIm_putBack.2.1 42 = .ok (.getfield 18, 3) := by decide +kernel
theorem dIm_putBack_45 : decode mIm_putBack.2.1 45 = .ok (.iconst 0, 1) := by decide +kernel
theorem dIm_putBack_46 : decode mIm_putBack.2.1 46 = .ok (.aload_n 2, 1) := by decide +kernel
theorem dIm_putBack_47 : decode mIm_putBack.2.1 47 = .ok (.iconst 0, 1) := by decide +kernel
theorem dIm_putBack_48 : decode mIm_putBack.2.1 48 = .ok (.bipush 8, 2) := by decide +kernel
theorem dIm_putBack_50 : decode mIm_putBack.2.1 50 = .ok (.invokestatic 31, 3) := by decide +kernel
theorem dIm_putBack_53 : decode mIm_putBack.2.1 53 = .ok (.aload_n 0, 1) := by decide +kernel
theorem dIm_putBack_54 : decode mIm_putBack.2.1 54 = .ok (.getfield 37, 3) := by decide +kernel
theorem dIm_putBack_57 : decode mIm_putBack.2.1 57 = .ok (.ireturn, 1) := by decide +kernel
theorem bIm_putBack_0 {l : Launch} {G : Gx} {d : Nat} {bc bs : Nat} {Φ : OutV → Mm → Prop} (M : Mm) (a0 : Nat) (a1 : Nat) (a2 : Nat)
    (h : Ev l G d mIm_putBack 2 [.ref a0, .ref a1, .ref a2, .int 0] [] M bc bs Φ) :
    Ev l G d mIm_putBack 0 [.ref a0, .ref a1, .ref a2, .null] [] M bc bs Φ := by
  refine Ev.iconst (v := 0) dIm_putBack_0 (by decide) ?_
  refine Ev.istore_n dIm_putBack_1 (by decide) ?_
  show Ev l G d mIm_putBack (_ + _) [.ref a0, .ref a1, .ref a2, .int 0] [] M bc bs Φ
  exact h
theorem w690 : Cond.methodLink "BowingRow$Image" 40 ⟨"BowingRow$People", "setFact", "(III)V"⟩ ∈ lwg := lwg_of 690 (by decide +kernel) (by decide +kernel)
theorem bIm_putBack_2 {l : Launch} {G : Gx} {d : Nat} {bc bs : Nat} {Φ : OutV → Mm → Prop} (M : Mm) (a0 : Nat) (a1 : Nat) (a2 : Nat) (x3 : Int32)
    (h : ((m_sh M a1).1 = 6) ∧ ((m_i M a1 2) ≤ x3 → ((m_sh M a0).1 = 2) ∧ ((m_sh M (m_r M a0 2)).1 = 20) ∧ ((m_sh M a2).1 = 20) ∧ ((¬ (0 : Int32) < 0 ∧ ¬ (0 : Int32) < 0 ∧ ¬ (8 : Int32) < 0) ∧ (0 : Int32).toNatClampNeg + (8 : Int32).toNatClampNeg ≤ (m_sh M (m_r M a0 2)).2 ∧ (0 : Int32).toNatClampNeg + (8 : Int32).toNatClampNeg ≤ (m_sh M a2).2 ∧ 1 ≤ d) ∧ Φ (.inl (some (.int (m_i (m_cpy M (m_r M a0 2) a2 (0 : Int32).toNatClampNeg (0 : Int32).toNatClampNeg (8 : Int32).toNatClampNeg) a0 3)))) (m_cpy M (m_r M a0 2) a2 (0 : Int32).toNatClampNeg (0 : Int32).toNatClampNeg (8 : Int32).toNatClampNeg)) ∧ (¬ (m_i M a1 2) ≤ x3 → ((m_sh M a0).1 = 2) ∧ ((m_sh M (m_r M a0 0)).1 = 20) ∧ (vp_in x3 (m_sh M (m_r M a0 0)).2) ∧ CallVC l G d mIm_putBack 22 [.ref a0, .ref a1, .ref a2, .int x3] [] mPe_setFact [.ref a1, .int x3, .int 5, .int (m_i M (m_r M a0 0) x3.toNatClampNeg)] M bc bs Φ)) :
    Ev l G d mIm_putBack 2 [.ref a0, .ref a1, .ref a2, .int x3] [] M bc bs Φ := by
  refine Ev.iload_n dIm_putBack_2 rfl ?_
  refine Ev.aload_n dIm_putBack_3 rfl ?_
  have g1 := h.1
  replace h := h.2
  refine Ev.getI dIm_putBack_4 (Or.inl fIm_21) rfl g1 ?_
  refine Ev.icmp_ge 41 (by decide) dIm_putBack_7 (fun c => ?_) (fun c => ?_)
  · replace h := h.1 c
    refine Ev.aload_n dIm_putBack_41 rfl ?_
    have g2 := h.1
    replace h := h.2
    refine Ev.getR dIm_putBack_42 (Or.inl fIm_18) rfl g2 ?_
    refine Ev.iconst (v := 0) dIm_putBack_45 (by decide) ?_
    refine Ev.aload_n dIm_putBack_46 rfl ?_
    refine Ev.iconst (v := 0) dIm_putBack_47 (by decide) ?_
    refine Ev.bipush (v := 8) dIm_putBack_48 (by decide) ?_
    have g3 := h.1
    replace h := h.2
    have g4 := h.1
    replace h := h.2
    have g5 := h.1
    replace h := h.2
    refine Ev.copyI2 dIm_putBack_50 w679 w681 w680 w119 (Nat.le_of_ble_eq_true rfl) g3 g4 g5 ?_
    refine Ev.aload_n dIm_putBack_53 rfl ?_
    refine Ev.getI dIm_putBack_54 (Or.inl fIm_37) rfl g2 ?_
    exact Ev.iret dIm_putBack_57 rfl rfl h
  · replace h := h.2 c
    refine Ev.aload_n dIm_putBack_10 rfl ?_
    refine Ev.iload_n dIm_putBack_11 rfl ?_
    refine Ev.iconst (v := 5) dIm_putBack_12 (by decide) ?_
    refine Ev.aload_n dIm_putBack_13 rfl ?_
    have g6 := h.1
    replace h := h.2
    refine Ev.getR dIm_putBack_14 (Or.inl fIm_9) rfl g6 ?_
    refine Ev.iload_n dIm_putBack_17 rfl ?_
    have g7 := h.1
    replace h := h.2
    have g8 := h.1
    replace h := h.2
    refine Ev.iald2 dIm_putBack_18 g7 g8 ?_
    exact Ev.vcV (z := mPe_setFact) (ci := 6) [.int x3, .int 5, .int (m_i M (m_r M a0 0) x3.toNatClampNeg)] [] rfl dIm_putBack_19 oPe_setFact rfl w690 iPe_setFact sPe_setFact (by decide) rfl g1 (Nat.le_of_ble_eq_true rfl) h
theorem bIm_putBack_22 {l : Launch} {G : Gx} {d : Nat} {bc bs : Nat} {Φ : OutV → Mm → Prop} (M : Mm) (a0 : Nat) (a1 : Nat) (a2 : Nat) (x3 : Int32)
    (h : ((m_sh M a0).1 = 2) ∧ ((m_sh M (m_r M a0 1)).1 = 20) ∧ (vp_in x3 (m_sh M (m_r M a0 1)).2) ∧ ((m_sh M a1).1 = 6) ∧ CallVC l G d mIm_putBack 35 [.ref a0, .ref a1, .ref a2, .int x3] [] mPe_setFact [.ref a1, .int x3, .int 6, .int (m_i M (m_r M a0 1) x3.toNatClampNeg)] M bc bs Φ) :
    Ev l G d mIm_putBack 22 [.ref a0, .ref a1, .ref a2, .int x3] [] M bc bs Φ := by
  refine Ev.aload_n dIm_putBack_22 rfl ?_
  refine Ev.iload_n dIm_putBack_23 rfl ?_
  refine Ev.bipush (v := 6) dIm_putBack_24 (by decide) ?_
  refine Ev.aload_n dIm_putBack_26 rfl ?_
  have g1 := h.1
  replace h := h.2
  refine Ev.getR dIm_putBack_27 (Or.inl fIm_15) rfl g1 ?_
  refine Ev.iload_n dIm_putBack_30 rfl ?_
  have g2 := h.1
  replace h := h.2
  have g3 := h.1
  replace h := h.2
  refine Ev.iald2 dIm_putBack_31 g2 g3 ?_
  have g4 := h.1
  replace h := h.2
  exact Ev.vcV (z := mPe_setFact) (ci := 6) [.int x3, .int 6, .int (m_i M (m_r M a0 1) x3.toNatClampNeg)] [] rfl dIm_putBack_32 oPe_setFact rfl w690 iPe_setFact sPe_setFact (by decide) rfl g4 (Nat.le_of_ble_eq_true rfl) h
theorem bIm_putBack_35 {l : Launch} {G : Gx} {d : Nat} {bc bs : Nat} {Φ : OutV → Mm → Prop} (M : Mm) (a0 : Nat) (a1 : Nat) (a2 : Nat) (x3 : Int32)
    (h : Ev l G d mIm_putBack 2 [.ref a0, .ref a1, .ref a2, .int (x3 + 1)] [] M bc bs Φ) :
    Ev l G d mIm_putBack 35 [.ref a0, .ref a1, .ref a2, .int x3] [] M bc bs Φ := by
  refine Ev.iinc (v := x3 + 1) dIm_putBack_35 (by decide) rfl rfl ?_
  show Ev l G d mIm_putBack (_ + _) [.ref a0, .ref a1, .ref a2, .int (x3 + 1)] [] M bc bs Φ
  refine Ev.goto 2 dIm_putBack_38 (by decide) ?_
  exact h
def mLa_init : MR := (⟨"BowingRow$Law", "<init>", "()V"⟩, prog_6_method_1_code, 1, none)
theorem oLa_init : MOK mLa_init 0 := ⟨lwg_of 192 (by decide +kernel) (by decide +kernel), lwg_of 94 (by decide +kernel) (by decide +kernel), ⟨by decide +kernel, by decide +kernel⟩, by decide +kernel, by decide⟩
theorem iLa_init : Cond.instanceMethod mLa_init.1 ∈ lwg := lwg_of 191 (by decide +kernel) (by decide +kernel)
theorem dLa_init_0 : decode mLa_init.2.1 0 = .ok (.aload_n 0, 1) := by decide +kernel
theorem dLa_init_1 : decode mLa_init.2.1 1 = .ok (.invokespecial 3, 3) := by decide +kernel
theorem dLa_init_4 : decode mLa_init.2.1 4 = .ok (.aload_n 0, 1) := by decide +kernel
theorem dLa_init_5 : decode mLa_init.2.1 5 = .ok (.bipush 10, 2) := by decide +kernel
theorem dLa_init_7 : decode mLa_init.2.1 7 = .ok (.newarray .int, 2) := by decide +kernel
theorem dLa_init_9 : decode mLa_init.2.1 9 = .ok (.putfield 9, 3) := by decide +kernel
theorem dLa_init_12 : decode mLa_init.2.1 12 = .ok (.aload_n 0, 1) := by decide +kernel
theorem dLa_init_13 : decode mLa_init.2.1 13 = .ok (.bipush 10, 2) := by decide +kernel
theorem dLa_init_15 : decode mLa_init.2.1 15 = .ok (.newarray .int, 2) := by decide +kernel
theorem dLa_init_17 : decode mLa_init.2.1 17 = .ok (.putfield 15, 3) := by decide +kernel
theorem dLa_init_20 : decode mLa_init.2.1 20 = .ok (.aload_n 0, 1) := by decide +kernel
theorem dLa_init_21 : decode mLa_init.2.1 21 = .ok (.bipush 10, 2) := by decide +kernel
theorem dLa_init_23 : decode mLa_init.2.1 23 = .ok (.newarray .int, 2) := by decide +kernel
theorem dLa_init_25 : decode mLa_init.2.1 25 = .ok (.putfield 18, 3) := by decide +kernel
theorem dLa_init_28 : decode mLa_init.2.1 28 = .ok (.aload_n 0, 1) := by decide +kernel
theorem dLa_init_29 : decode mLa_init.2.1 29 = .ok (.bipush 10, 2) := by decide +kernel
theorem dLa_init_31 : decode mLa_init.2.1 31 = .ok (.newarray .int, 2) := by decide +kernel
theorem dLa_init_33 : decode mLa_init.2.1 33 = .ok (.putfield 21, 3) := by decide +kernel
theorem dLa_init_36 : decode mLa_init.2.1 36 = .ok (.aload_n 0, 1) := by decide +kernel
theorem dLa_init_37 : decode mLa_init.2.1 37 = .ok (.sipush 500, 3) := by decide +kernel
theorem dLa_init_40 : decode mLa_init.2.1 40 = .ok (.newarray .int, 2) := by decide +kernel
theorem dLa_init_42 : decode mLa_init.2.1 42 = .ok (.putfield 24, 3) := by decide +kernel
theorem dLa_init_45 : decode mLa_init.2.1 45 = .ok (.aload_n 0, 1) := by decide +kernel
theorem dLa_init_46 : decode mLa_init.2.1 46 = .ok (.bipush 64, 2) := by decide +kernel
theorem dLa_init_48 : decode mLa_init.2.1 48 = .ok (.newarray .int, 2) := by decide +kernel
theorem dLa_init_50 : decode mLa_init.2.1 50 = .ok (.putfield 27, 3) := by decide +kernel
theorem dLa_init_53 : decode mLa_init.2.1 53 = .ok (.return_, 1) := by decide +kernel
theorem w193 : Cond.methodLink "BowingRow$Law" 3 ⟨"java/lang/Object", "<init>", "()V"⟩ ∈ lwg := lwg_of 193 (by decide +kernel) (by decide +kernel)
theorem fLa_9 : FOK "BowingRow$Law" 9 4 0 true := ⟨RX4, TX4, nFd 4, rfl, by decide, rfl, by decide, rfl, lwg_of 194 (by decide +kernel) (by decide +kernel)⟩
theorem bLa_init_0 {l : Launch} {G : Gx} {d : Nat} {bc bs : Nat} {Φ : OutV → Mm → Prop} (M : Mm) (a0 : Nat)
    (h : (a0 ≠ 0 ∧ 1 ≤ d) ∧ (1 ≤ bc ∧ 10 ≤ bs) ∧ ((m_sh (m_al M (20, 10)) a0).1 = 4) ∧ Ev l G d mLa_init 12 [.ref a0] [] (m_sr (m_al M (20, 10)) a0 0 (m_nx M)) (bc - 1) (bs - 10) Φ) :
    Ev l G d mLa_init 0 [.ref a0] [] M bc bs Φ := by
  refine Ev.aload_n dLa_init_0 rfl ?_
  have g1 := h.1
  replace h := h.2
  refine Ev.objInit dLa_init_1 w193 w_oi w_oc (Nat.le_of_ble_eq_true rfl) g1.2 g1.1 ?_
  refine Ev.aload_n dLa_init_4 rfl ?_
  refine Ev.bipush (v := 10) dLa_init_5 (by decide) ?_
  have g2 := h.1
  replace h := h.2
  refine Ev.newI2 10 dLa_init_7 w164 (by decide) (by decide) (by decide) g2 ?_
  have g3 := h.1
  replace h := h.2
  refine Ev.putR dLa_init_9 ⟨_, Or.inl ⟨fLa_9, (fun _ => ⟨rfl, fun r hr => by cases hr; rfl⟩)⟩⟩ rfl (fun ad => fitR (by first | exact Or.inl ⟨_, rfl⟩ | exact Or.inr ⟨_, rfl⟩) _ ad) g3 ?_
  exact h
theorem fLa_15 : FOK "BowingRow$Law" 15 4 1 true := ⟨RX4, TX4, nFd 4, rfl, by decide, rfl, by decide, rfl, lwg_of 196 (by decide +kernel) (by decide +kernel)⟩
theorem bLa_init_12 {l : Launch} {G : Gx} {d : Nat} {bc bs : Nat} {Φ : OutV → Mm → Prop} (M : Mm) (a0 : Nat)
    (h : (1 ≤ bc ∧ 10 ≤ bs) ∧ ((m_sh (m_al M (20, 10)) a0).1 = 4) ∧ Ev l G d mLa_init 20 [.ref a0] [] (m_sr (m_al M (20, 10)) a0 1 (m_nx M)) (bc - 1) (bs - 10) Φ) :
    Ev l G d mLa_init 12 [.ref a0] [] M bc bs Φ := by
  refine Ev.aload_n dLa_init_12 rfl ?_
  refine Ev.bipush (v := 10) dLa_init_13 (by decide) ?_
  have g1 := h.1
  replace h := h.2
  refine Ev.newI2 10 dLa_init_15 w164 (by decide) (by decide) (by decide) g1 ?_
  have g2 := h.1
  replace h := h.2
  refine Ev.putR dLa_init_17 ⟨_, Or.inl ⟨fLa_15, (fun _ => ⟨rfl, fun r hr => by cases hr; rfl⟩)⟩⟩ rfl (fun ad => fitR (by first | exact Or.inl ⟨_, rfl⟩ | exact Or.inr ⟨_, rfl⟩) _ ad) g2 ?_
  exact h
theorem fLa_18 : FOK "BowingRow$Law" 18 4 2 true := ⟨RX4, TX4, nFd 4, rfl, by decide, rfl, by decide, rfl, lwg_of 198 (by decide +kernel) (by decide +kernel)⟩
theorem bLa_init_20 {l : Launch} {G : Gx} {d : Nat} {bc bs : Nat} {Φ : OutV → Mm → Prop} (M : Mm) (a0 : Nat)
    (h : (1 ≤ bc ∧ 10 ≤ bs) ∧ ((m_sh (m_al M (20, 10)) a0).1 = 4) ∧ Ev l G d mLa_init 28 [.ref a0] [] (m_sr (m_al M (20, 10)) a0 2 (m_nx M)) (bc - 1) (bs - 10) Φ) :
    Ev l G d mLa_init 20 [.ref a0] [] M bc bs Φ := by
  refine Ev.aload_n dLa_init_20 rfl ?_
  refine Ev.bipush (v := 10) dLa_init_21 (by decide) ?_
  have g1 := h.1
  replace h := h.2
  refine Ev.newI2 10 dLa_init_23 w164 (by decide) (by decide) (by decide) g1 ?_
  have g2 := h.1
  replace h := h.2
  refine Ev.putR dLa_init_25 ⟨_, Or.inl ⟨fLa_18, (fun _ => ⟨rfl, fun r hr => by cases hr; rfl⟩)⟩⟩ rfl (fun ad => fitR (by first | exact Or.inl ⟨_, rfl⟩ | exact Or.inr ⟨_, rfl⟩) _ ad) g2 ?_
  exact h
theorem fLa_21 : FOK "BowingRow$Law" 21 4 3 true := ⟨RX4, TX4, nFd 4, rfl, by decide, rfl, by decide, rfl, lwg_of 199 (by decide +kernel) (by decide +kernel)⟩
theorem bLa_init_28 {l : Launch} {G : Gx} {d : Nat} {bc bs : Nat} {Φ : OutV → Mm → Prop} (M : Mm) (a0 : Nat)
    (h : (1 ≤ bc ∧ 10 ≤ bs) ∧ ((m_sh (m_al M (20, 10)) a0).1 = 4) ∧ Ev l G d mLa_init 36 [.ref a0] [] (m_sr (m_al M (20, 10)) a0 3 (m_nx M)) (bc - 1) (bs - 10) Φ) :
    Ev l G d mLa_init 28 [.ref a0] [] M bc bs Φ := by
  refine Ev.aload_n dLa_init_28 rfl ?_
  refine Ev.bipush (v := 10) dLa_init_29 (by decide) ?_
  have g1 := h.1
  replace h := h.2
  refine Ev.newI2 10 dLa_init_31 w164 (by decide) (by decide) (by decide) g1 ?_
  have g2 := h.1
  replace h := h.2
  refine Ev.putR dLa_init_33 ⟨_, Or.inl ⟨fLa_21, (fun _ => ⟨rfl, fun r hr => by cases hr; rfl⟩)⟩⟩ rfl (fun ad => fitR (by first | exact Or.inl ⟨_, rfl⟩ | exact Or.inr ⟨_, rfl⟩) _ ad) g2 ?_
  exact h
theorem fLa_24 : FOK "BowingRow$Law" 24 4 4 true := ⟨RX4, TX4, nFd 4, rfl, by decide, rfl, by decide, rfl, lwg_of 200 (by decide +kernel) (by decide +kernel)⟩
theorem bLa_init_36 {l : Launch} {G : Gx} {d : Nat} {bc bs : Nat} {Φ : OutV → Mm → Prop} (M : Mm) (a0 : Nat)
    (h : (1 ≤ bc ∧ 500 ≤ bs) ∧ ((m_sh (m_al M (20, 500)) a0).1 = 4) ∧ Ev l G d mLa_init 45 [.ref a0] [] (m_sr (m_al M (20, 500)) a0 4 (m_nx M)) (bc - 1) (bs - 500) Φ) :
    Ev l G d mLa_init 36 [.ref a0] [] M bc bs Φ := by
  refine Ev.aload_n dLa_init_36 rfl ?_
  refine Ev.sipush (v := 500) dLa_init_37 (by decide) ?_
  have g1 := h.1
  replace h := h.2
  refine Ev.newI2 500 dLa_init_40 w164 (by decide) (by decide) (by decide) g1 ?_
  have g2 := h.1
  replace h := h.2
  refine Ev.putR dLa_init_42 ⟨_, Or.inl ⟨fLa_24, (fun _ => ⟨rfl, fun r hr => by cases hr; rfl⟩)⟩⟩ rfl (fun ad => fitR (by first | exact Or.inl ⟨_, rfl⟩ | exact Or.inr ⟨_, rfl⟩) _ ad) g2 ?_
  exact h
theorem fLa_27 : FOK "BowingRow$Law" 27 4 5 true := ⟨RX4, TX4, nFd 4, rfl, by decide, rfl, by decide, rfl, lwg_of 201 (by decide +kernel) (by decide +kernel)⟩
theorem bLa_init_45 {l : Launch} {G : Gx} {d : Nat} {bc bs : Nat} {Φ : OutV → Mm → Prop} (M : Mm) (a0 : Nat)
    (h : (1 ≤ bc ∧ 64 ≤ bs) ∧ ((m_sh (m_al M (20, 64)) a0).1 = 4) ∧ Ev l G d mLa_init 53 [.ref a0] [] (m_sr (m_al M (20, 64)) a0 5 (m_nx M)) (bc - 1) (bs - 64) Φ) :
    Ev l G d mLa_init 45 [.ref a0] [] M bc bs Φ := by
  refine Ev.aload_n dLa_init_45 rfl ?_
  refine Ev.bipush (v := 64) dLa_init_46 (by decide) ?_
  have g1 := h.1
  replace h := h.2
  refine Ev.newI2 64 dLa_init_48 w164 (by decide) (by decide) (by decide) g1 ?_
  have g2 := h.1
  replace h := h.2
  refine Ev.putR dLa_init_50 ⟨_, Or.inl ⟨fLa_27, (fun _ => ⟨rfl, fun r hr => by cases hr; rfl⟩)⟩⟩ rfl (fun ad => fitR (by first | exact Or.inl ⟨_, rfl⟩ | exact Or.inr ⟨_, rfl⟩) _ ad) g2 ?_
  exact h
theorem bLa_init_53 {l : Launch} {G : Gx} {d : Nat} {bc bs : Nat} {Φ : OutV → Mm → Prop} (M : Mm) (a0 : Nat)
    (h : Φ (.inl none) M) :
    Ev l G d mLa_init 53 [.ref a0] [] M bc bs Φ := by
  exact Ev.vret dLa_init_53 rfl h
def mLa_valueOf : MR := (⟨"BowingRow$Law", "valueOf", "(ILBowingRow$People;III)I"⟩, prog_6_method_10_code, 9, (Option.some .int))
theorem oLa_valueOf : MOK mLa_valueOf 5 := ⟨lwg_of 612 (by decide +kernel) (by decide +kernel), lwg_of 94 (by decide +kernel) (by decide +kernel), ⟨by decide +kernel, by decide +kernel⟩, by decide +kernel, by decide⟩
theorem iLa_valueOf : Cond.instanceMethod mLa_valueOf.1 ∈ lwg := lwg_of 610 (by decide +kernel) (by decide +kernel)
theorem sLa_valueOf : Cond.selects mLa_valueOf.1.cls mLa_valueOf.1 mLa_valueOf.1 ∈ lwg := lwg_of 611 (by decide +kernel) (by decide +kernel)
theorem dLa_valueOf_0 : decode mLa_valueOf.2.1 0 = .ok (.iconst 0, 1) := by decide +kernel
theorem dLa_valueOf_1 : decode mLa_valueOf.2.1 1 = .ok (.istore 6, 2) := by decide +kernel
theorem dLa_valueOf_3 : decode mLa_valueOf.2.1 3 = .ok (.aload_n 0, 1) := by decide +kernel
theorem dLa_valueOf_4 : decode mLa_valueOf.2.1 4 = .ok (.getfield 18, 3) := by decide +kernel
theorem dLa_valueOf_7 : decode mLa_valueOf.2.1 7 = .ok (.iload_n 1, 1) := by decide +kernel
theorem dLa_valueOf_8 : decode mLa_valueOf.2.1 8 = .ok (.iaload, 1) := by decide +kernel
theorem dLa_valueOf_9 : decode mLa_valueOf.2.1 9 = .ok (.istore 7, 2) := by decide +kernel
theorem dLa_valueOf_11 : decode mLa_valueOf.2.1 11 = .ok (.iload 7, 2) := by decide +kernel
theorem dLa_valueOf_13 : decode mLa_valueOf.2.1 13 = .ok (.aload_n 0, 1) := by decide +kernel
theorem dLa_valueOf_14 : decode mLa_valueOf.2.1 14 = .ok (.getfield 21, 3) := by decide +kernel
theorem dLa_valueOf_17 : decode mLa_valueOf.2.1 17 = .ok (.iload_n 1, 1) := by decide +kernel
theorem dLa_valueOf_18 : decode mLa_valueOf.2.1 18 = .ok (.iaload, 1) := by decide +kernel
theorem dLa_valueOf_19 : decode mLa_valueOf.2.1 19 = .ok (.if_icmp .ge 194, 3) := by decide +kernel
theorem dLa_valueOf_22 : decode mLa_valueOf.2.1 22 = .ok (.aload_n 0, 1) := by decide +kernel
theorem dLa_valueOf_23 : decode mLa_valueOf.2.1 23 = .ok (.getfield 24, 3) := by decide +kernel
theorem dLa_valueOf_26 : decode mLa_valueOf.2.1 26 = .ok (.iload 7, 2) := by decide +kernel
theorem dLa_valueOf_28 : decode mLa_valueOf.2.1 28 = .ok (.iaload, 1) := by decide +kernel
theorem dLa_valueOf_29 : decode mLa_valueOf.2.1 29 = .ok (.istore 8, 2) := by decide +kernel
theorem dLa_valueOf_31 : decode mLa_valueOf.2.1 31 = .ok (.iload 8, 2) := by decide +kernel
theorem dLa_valueOf_33 : decode mLa_valueOf.2.1 33 = .ok (.bipush (-7), 2) := by decide +kernel
theorem dLa_valueOf_35 : decode mLa_valueOf.2.1 35 = .ok (.if_icmp .lt 93, 3) := by decide +kernel
theorem dLa_valueOf_38 : decode mLa_valueOf.2.1 38 = .ok (.iload 6, 2) := by decide +kernel
theorem dLa_valueOf_40 : decode mLa_valueOf.2.1 40 = .ok (.aload_n 0, 1) := by decide +kernel
theorem dLa_valueOf_41 : decode mLa_valueOf.2.1 41 = .ok (.getfield 27, 3) := by decide +kernel
theorem dLa_valueOf_44 : decode mLa_valueOf.2.1 44 = .ok (.arraylength, 1) := by decide +kernel
theorem dLa_valueOf_45 : decode mLa_valueOf.2.1 45 = .ok (.if_icmp .lt 5, 3) := by decide +kernel
theorem dLa_valueOf_48 : decode mLa_valueOf.2.1 48 = .ok (.iconst 0, 1) := by decide +kernel
theorem dLa_valueOf_49 : decode mLa_valueOf.2.1 49 = .ok (.ireturn, 1) := by decide +kernel
theorem dLa_valueOf_50 : decode mLa_valueOf.2.1 50 = .ok (.iload 8, 2) := by decide +kernel
theorem dLa_valueOf_52 : decode mLa_valueOf.2.1 52 = .ok (.ifCond .lt 15, 3) := by decide +kernel
theorem dLa_valueOf_55 : decode mLa_valueOf.2.1 55 = .ok (.aload_n 0, 1) := by decide +kernel
theorem dLa_valueOf_56 : decode mLa_valueOf.2.1 56 = .ok (.getfield 27, 3) := by decide +kernel
theorem dLa_valueOf_59 : decode mLa_valueOf.2.1 59 = .ok (.iload 6, 2) := by decide +kernel
theorem dLa_valueOf_61 : decode mLa_valueOf.2.1 61 = .ok (.iload 8, 2) := by decide +kernel
theorem dLa_valueOf_63 : decode mLa_valueOf.2.1 63 = .ok (.iastore, 1) := by decide +kernel
theorem dLa_valueOf_64 : decode mLa_valueOf.2.1 64 = .ok (.goto 58, 3) := by decide +kernel
theorem dLa_valueOf_67 : decode mLa_valueOf.2.1 67 = .ok (.iload 8, 2) := by decide +kernel
theorem dLa_valueOf_69 : decode mLa_valueOf.2.1 69 = .ok (.bipush (-7), 2) := by decide +kernel
theorem dLa_valueOf_71 : decode mLa_valueOf.2.1 71 = .ok (.if_icmp .ne 15, 3) := by decide +kernel
theorem dLa_valueOf_74 : decode mLa_valueOf.2.1 74 = .ok (.aload_n 0, 1) := by decide +kernel
theorem dLa_valueOf_75 : decode mLa_valueOf.2.1 75 = .ok (.getfield 27, 3) := by decide +kernel
theorem dLa_valueOf_78 : decode mLa_valueOf.2.1 78 = .ok (.iload 6, 2) := by decide +kernel
theorem dLa_valueOf_80 : decode mLa_valueOf.2.1 80 = .ok (.iload 5, 2) := by decide +kernel
theorem dLa_valueOf_82 : decode mLa_valueOf.2.1 82 = .ok (.iastore, 1) := by decide +kernel
theorem dLa_valueOf_83 : decode mLa_valueOf.2.1 83 = .ok (.goto 39, 3) := by decide +kernel
theorem dLa_valueOf_86 : decode mLa_valueOf.2.1 86 = .ok (.aload_n 0, 1) := by decide +kernel
theorem dLa_valueOf_87 : decode mLa_valueOf.2.1 87 = .ok (.getfield 27, 3) := by decide +kernel
theorem dLa_valueOf_90 : decode mLa_valueOf.2.1 90 = .ok (.iload 6, 2) := by decide +kernel
theorem dLa_valueOf_92 : decode mLa_valueOf.2.1 92 = .ok (.iload 8, 2) := by decide +kernel
theorem dLa_valueOf_94 : decode mLa_valueOf.2.1 94 = .ok (.bipush (-3), 2) := by decide +kernel
theorem dLa_valueOf_96 : decode mLa_valueOf.2.1 96 = .ok (.if_icmp .lt 14, 3) := by decide +kernel
theorem dLa_valueOf_99 : decode mLa_valueOf.2.1 99 = .ok (.aload_n 2, 1) := by decide +kernel
theorem dLa_valueOf_100 : decode mLa_valueOf.2.1 100 = .ok (.iload_n 3, 1) := by decide +kernel
theorem dLa_valueOf_101 : decode mLa_valueOf.2.1 101 = .ok (.iload 8, 2) := by decide +kernel
theorem dLa_valueOf_103 : decode mLa_valueOf.2.1 103 = .ok (.ineg, 1) := by decide +kernel
theorem dLa_valueOf_104 : decode mLa_valueOf.2.1 104 = .ok (.invokevirtual 120, 3) := by decide +kernel
theorem dLa_valueOf_107 : decode mLa_valueOf.2.1 107 = .ok (.goto 14, 3) := by decide +kernel
theorem dLa_valueOf_110 : decode mLa_valueOf.2.1 110 = .ok (.aload_n 2, 1) := by decide +kernel
theorem dLa_valueOf_111 : decode mLa_valueOf.2.1 111 = .ok (.iload 4, 2) := by decide +kernel
theorem dLa_valueOf_113 : decode mLa_valueOf.2.1 113 = .ok (.bipush (-3), 2) := by decide +kernel
theorem dLa_valueOf_115 : decode mLa_valueOf.2.1 115 = .ok (.iload 8, 2) := by decide +kernel
theorem dLa_valueOf_117 : decode mLa_valueOf.2.1 117 = .ok (.isub, 1) := by decide +kernel
theorem dLa_valueOf_118 : decode mLa_valueOf.2.1 118 = .ok (.invokevirtual 120, 3) := by decide +kernel
theorem dLa_valueOf_121 : decode mLa_valueOf.2.1 121 = .ok (.iastore, 1) := by decide +kernel
theorem dLa_valueOf_122 : decode mLa_valueOf.2.1 122 = .ok (.iinc 6 1, 3) := by decide +kernel
theorem dLa_valueOf_125 : decode mLa_valueOf.2.1 125 = .ok (.goto 82, 3) := by decide +kernel
theorem dLa_valueOf_128 : decode mLa_valueOf.2.1 128 = .ok (.iload 8, 2) := by decide +kernel
theorem dLa_valueOf_130 : decode mLa_valueOf.2.1 130 = .ok (.bipush (-8), 2) := by decide +kernel
theorem dLa_valueOf_132 : decode mLa_valueOf.2.1 132 = .ok (.if_icmp .ne 34, 3) := by decide +kernel
theorem dLa_valueOf_135 : decode mLa_valueOf.2.1 135 = .ok (.iload 6, 2) := by decide +kernel
theorem dLa_valueOf_137 : decode mLa_valueOf.2.1 137 = .ok (.iconst 1, 1) := by decide +kernel
theorem dLa_valueOf_138 : decode mLa_valueOf.2.1 138 = .ok (.if_icmp .ge 5, 3) := by decide +kernel
theorem dLa_valueOf_141 : decode mLa_valueOf.2.1 141 = .ok (.iconst 0, 1) := by decide +kernel
theorem dLa_valueOf_142 : decode mLa_valueOf.2.1 142 = .ok (.ireturn, 1) := by decide +kernel
theorem dLa_valueOf_143 : decode mLa_valueOf.2.1 143 = .ok (.aload_n 0, 1) := by decide +kernel
theorem dLa_valueOf_144 : decode mLa_valueOf.2.1 144 = .ok (.getfield 27, 3) := by decide +kernel
theorem dLa_valueOf_147 : decode mLa_valueOf.2.1 147 = .ok (.iload 6, 2) := by decide +kernel
theorem dLa_valueOf_149 : decode mLa_valueOf.2.1 149 = .ok (.iconst 1, 1) := by decide +kernel
theorem dLa_valueOf_150 : decode mLa_valueOf.2.1 150 = .ok (.isub, 1) := by decide +kernel
theorem dLa_valueOf_151 : decode mLa_valueOf.2.1 151 = .ok (.iconst 1, 1) := by decide +kernel
theorem dLa_valueOf_152 : decode mLa_valueOf.2.1 152 = .ok (.aload_n 0, 1) := by decide +kernel
theorem dLa_valueOf_153 : decode mLa_valueOf.2.1 153 = .ok (.getfield 27, 3) := by decide +kernel
theorem dLa_valueOf_156 : decode mLa_valueOf.2.1 156 = .ok (.iload 6, 2) := by decide +kernel
theorem dLa_valueOf_158 : decode mLa_valueOf.2.1 158 = .ok (.iconst 1, 1) := by decide +kernel
theorem dLa_valueOf_159 : decode mLa_valueOf.2.1 159 = .ok (.isub, 1) := by decide +kernel
theorem dLa_valueOf_160 : decode mLa_valueOf.2.1 160 = .ok (.iaload, 1) := by decide +kernel
theorem dLa_valueOf_161 : decode mLa_valueOf.2.1 161 = .ok (.isub, 1) := by decide +kernel
theorem dLa_valueOf_162 : decode mLa_valueOf.2.1 162 = .ok (.iastore, 1) := by decide +kernel
theorem dLa_valueOf_163 : decode mLa_valueOf.2.1 163 = .ok (.goto 44, 3) := by decide +kernel
theorem dLa_valueOf_166 : decode mLa_valueOf.2.1 166 = .ok (.iload 6, 2) := by decide +kernel
theorem dLa_valueOf_168 : decode mLa_valueOf.2.1 168 = .ok (.iconst 2, 1) := by decide +kernel
theorem dLa_valueOf_169 : decode mLa_valueOf.2.1 169 = .ok (.if_icmp .ge 5, 3) := by decide +kernel
theorem dLa_valueOf_172 : decode mLa_valueOf.2.1 172 = .ok (.iconst 0, 1) := by decide +kernel
theorem dLa_valueOf_173 : decode mLa_valueOf.2.1 173 = .ok (.ireturn, 1) := by decide +kernel
theorem dLa_valueOf_174 : decode mLa_valueOf.2.1 174 = .ok (.iinc 6 (-1), 3) := by decide +kernel
theorem dLa_valueOf_177 : decode mLa_valueOf.2.1 177 = .ok (.aload_n 0, 1) := by decide +kernel
theorem dLa_valueOf_178 : decode mLa_valueOf.2.1 178 = .ok (.getfield 27, 3) := by decide +kernel
theorem dLa_valueOf_181 : decode mLa_valueOf.2.1 181 = .ok (.iload 6, 2) := by decide +kernel
theorem dLa_valueOf_183 : decode mLa_valueOf.2.1 183 = .ok (.iconst 1, 1) := by decide +kernel
theorem dLa_valueOf_184 : decode mLa_valueOf.2.1 184 = .ok (.isub, 1) := by decide +kernel
theorem dLa_valueOf_185 : decode mLa_valueOf.2.1 185 = .ok (.iload 8, 2) := by decide +kernel
theorem dLa_valueOf_187 : decode mLa_valueOf.2.1 187 = .ok (.aload_n 0, 1) := by decide +kernel
theorem dLa_valueOf_188 : decode mLa_valueOf.2.1 188 = .ok (.getfield 27, 3) := by decide +kernel
theorem dLa_valueOf_191 : decode mLa_valueOf.2.1 191 = .ok (.iload 6, 2) := by decide +kernel
theorem dLa_valueOf_193 : decode mLa_valueOf.2.1 193 = .ok (.iconst 1, 1) := by decide +kernel
theorem dLa_valueOf_194 : decode mLa_valueOf.2.1 194 = .ok (.isub, 1) := by decide +kernel
theorem dLa_valueOf_195 : decode mLa_valueOf.2.1 195 = .ok (.iaload, 1) := by decide +kernel
theorem dLa_valueOf_196 : decode mLa_valueOf.2.1 196 = .ok (.aload_n 0, 1) := by decide +kernel
theorem dLa_valueOf_197 : decode mLa_valueOf.2.1 197 = .ok (.getfield 27, 3) := by decide +kernel
theorem dLa_valueOf_200 : decode mLa_valueOf.2.1 200 = .ok (.iload 6, 2) := by decide +kernel
theorem dLa_valueOf_202 : decode mLa_valueOf.2.1 202 = .ok (.iaload, 1) := by decide +kernel
theorem dLa_valueOf_203 : decode mLa_valueOf.2.1 203 = .ok (.invokestatic 125, 3) := by decide +kernel
theorem dLa_valueOf_206 : decode mLa_valueOf.2.1 206 = .ok (.iastore, 1) := by decide +kernel
theorem dLa_valueOf_207 : decode mLa_valueOf.2.1 207 = .ok (.iinc 7 1, 3) := by decide +kernel
theorem dLa_valueOf_210 : decode mLa_valueOf.2.1 210 = .ok (.goto (-199), 3) := by decide +kernel
theorem dLa_valueOf_213 : decode mLa_valueOf.2.1 213 = .ok (.iload 6, 2) := by decide +kernel
theorem dLa_valueOf_215 : decode mLa_valueOf.2.1 215 = .ok (.ifCond .le 12, 3) := by decide +kernel
theorem dLa_valueOf_218 : decode mLa_valueOf.2.1 218 = .ok (.aload_n 0, 1) := by decide +kernel
theorem dLa_valueOf_219 : decode mLa_valueOf.2.1 219 = .ok (.getfield 27, 3) := by decide +kernel
theorem dLa_valueOf_222 : decode mLa_valueOf.2.1 222 = .ok (.iconst 0, 1) := by decide +kernel
theorem dLa_valueOf_223 : decode mLa_valueOf.2.1 223 = .ok (.iaload, 1) := by decide +kernel
theorem dLa_valueOf_224 : decode mLa_valueOf.2.1 224 = .ok (.goto 4, 3) := by decide +kernel
theorem dLa_valueOf_227 : decode mLa_valueOf.2.1 227 = .ok (.iconst 0, 1) := by decide +kernel
theorem dLa_valueOf_228 : decode mLa_valueOf.2.1 228 = .ok (.ireturn, 1) := by decide +kernel
theorem bLa_valueOf_0 {l : Launch} {G : Gx} {d : Nat} {bc bs : Nat} {Φ : OutV → Mm → Prop} (M : Mm) (a0 : Nat) (x1 : Int32) (a2 : Nat) (x3 : Int32) (x4 : Int32) (x5 : Int32)
    (h : ((m_sh M a0).1 = 4) ∧ ((m_sh M (m_r M a0 2)).1 = 20) ∧ (vp_in x1 (m_sh M (m_r M a0 2)).2) ∧ Ev l G d mLa_valueOf 11 [.ref a0, .int x1, .ref a2, .int x3, .int x4, .int x5, .int 0, .int (m_i M (m_r M a0 2) x1.toNatClampNeg), .null] [] M bc bs Φ) :
    Ev l G d mLa_valueOf 0 [.ref a0, .int x1, .ref a2, .int x3, .int x4, .int x5, .null, .null, .null] [] M bc bs Φ := by
  refine Ev.iconst (v := 0) dLa_valueOf_0 (by decide) ?_
  refine Ev.istore dLa_valueOf_1 (by decide) ?_
  show Ev l G d mLa_valueOf (_ + _) [.ref a0, .int x1, .ref a2, .int x3, .int x4, .int x5, .int 0, .null, .null] [] M bc bs Φ
  refine Ev.aload_n dLa_valueOf_3 rfl ?_
  have g1 := h.1
  replace h := h.2
  refine Ev.getR dLa_valueOf_4 (Or.inl fLa_18) rfl g1 ?_
  refine Ev.iload_n dLa_valueOf_7 rfl ?_
  have g2 := h.1
  replace h := h.2
  have g3 := h.1
  replace h := h.2
  refine Ev.iald2 dLa_valueOf_8 g2 g3 ?_
  refine Ev.istore dLa_valueOf_9 (by decide) ?_
  show Ev l G d mLa_valueOf (_ + _) [.ref a0, .int x1, .ref a2, .int x3, .int x4, .int x5, .int 0, .int (m_i M (m_r M a0 2) x1.toNatClampNeg), .null] [] M bc bs Φ
  exact h
def mLa_joined : MR := (⟨"BowingRow$Law", "joined", "(III)I"⟩, prog_6_method_11_code, 3, (Option.some .int))
theorem oLa_joined : MOK mLa_joined 3 := ⟨lwg_of 616 (by decide +kernel) (by decide +kernel), lwg_of 94 (by decide +kernel) (by decide +kernel), ⟨by decide +kernel, by decide +kernel⟩, by decide +kernel, by decide⟩
theorem iLa_joined : Cond.static mLa_joined.1 ∈ lwg := lwg_of 615 (by decide +kernel) (by decide +kernel)
theorem w614 : Cond.methodLink "BowingRow$Law" 125 ⟨"BowingRow$Law", "joined", "(III)I"⟩ ∈ lwg := lwg_of 614 (by decide +kernel) (by decide +kernel)
theorem w613 : Cond.methodLink "BowingRow$Law" 120 ⟨"BowingRow$People", "fact", "(II)I"⟩ ∈ lwg := lwg_of 613 (by decide +kernel) (by decide +kernel)
theorem bLa_valueOf_11 {l : Launch} {G : Gx} {d : Nat} {bc bs : Nat} {Φ : OutV → Mm → Prop} (M : Mm) (a0 : Nat) (x1 : Int32) (a2 : Nat) (x3 : Int32) (x4 : Int32) (x5 : Int32) (x6 : Int32) (x7 : Int32) (u8 : Value)
    (h : ((m_sh M a0).1 = 4) ∧ ((m_sh M (m_r M a0 3)).1 = 20) ∧ (vp_in x1 (m_sh M (m_r M a0 3)).2) ∧ ((m_i M (m_r M a0 3) x1.toNatClampNeg) ≤ x7 → (x6 ≤ 0 → Φ (.inl (some (.int 0))) M) ∧ (¬ x6 ≤ 0 → ((m_sh M (m_r M a0 5)).1 = 20) ∧ (vp_in 0 (m_sh M (m_r M a0 5)).2) ∧ Φ (.inl (some (.int (m_i M (m_r M a0 5) (0 : Int32).toNatClampNeg)))) M)) ∧ (¬ (m_i M (m_r M a0 3) x1.toNatClampNeg) ≤ x7 → ((m_sh M (m_r M a0 4)).1 = 20) ∧ (vp_in x7 (m_sh M (m_r M a0 4)).2) ∧ ((m_i M (m_r M a0 4) x7.toNatClampNeg) < ((-7)) → (¬ (m_i M (m_r M a0 4) x7.toNatClampNeg) = ((-8)) → (2 ≤ x6 → ((m_sh M (m_r M a0 5)).1 = 20) ∧ (vp_in ((x6 + (-1)) - 1) (m_sh M (m_r M a0 5)).2) ∧ (vp_in (x6 + (-1)) (m_sh M (m_r M a0 5)).2) ∧ CallVC l G d mLa_valueOf 206 [.ref a0, .int x1, .ref a2, .int x3, .int x4, .int x5, .int (x6 + (-1)), .int x7, .int (m_i M (m_r M a0 4) x7.toNatClampNeg)] [.int ((x6 + (-1)) - 1), .ref (m_r M a0 5)] mLa_joined [.int (m_i M (m_r M a0 4) x7.toNatClampNeg), .int (m_i M (m_r M a0 5) ((x6 + (-1)) - 1).toNatClampNeg), .int (m_i M (m_r M a0 5) (x6 + (-1)).toNatClampNeg)] M bc bs Φ) ∧ (¬ 2 ≤ x6 → Φ (.inl (some (.int 0))) M)) ∧ ((m_i M (m_r M a0 4) x7.toNatClampNeg) = ((-8)) → (1 ≤ x6 → ((m_sh M (m_r M a0 5)).1 = 20) ∧ (vp_in (x6 - 1) (m_sh M (m_r M a0 5)).2) ∧ Ev l G d mLa_valueOf 207 [.ref a0, .int x1, .ref a2, .int x3, .int x4, .int x5, .int x6, .int x7, .int (m_i M (m_r M a0 4) x7.toNatClampNeg)] [] (m_si M (m_r M a0 5) (x6 - 1).toNatClampNeg (1 - (m_i M (m_r M a0 5) (x6 - 1).toNatClampNeg))) bc bs Φ) ∧ (¬ 1 ≤ x6 → Φ (.inl (some (.int 0))) M))) ∧ (¬ (m_i M (m_r M a0 4) x7.toNatClampNeg) < ((-7)) → ((m_sh M (m_r M a0 5)).1 = 20) ∧ (x6 < (Int32.ofNat (m_sh M (m_r M a0 5)).2) → ((m_i M (m_r M a0 4) x7.toNatClampNeg) < 0 → (¬ (m_i M (m_r M a0 4) x7.toNatClampNeg) = ((-7)) → ((m_i M (m_r M a0 4) x7.toNatClampNeg) < ((-3)) → ((m_sh M a2).1 = 6) ∧ CallVC l G d mLa_valueOf 121 [.ref a0, .int x1, .ref a2, .int x3, .int x4, .int x5, .int x6, .int x7, .int (m_i M (m_r M a0 4) x7.toNatClampNeg)] [.int x6, .ref (m_r M a0 5)] mPe_fact [.ref a2, .int x4, .int (((-3)) - (m_i M (m_r M a0 4) x7.toNatClampNeg))] M bc bs Φ) ∧ (¬ (m_i M (m_r M a0 4) x7.toNatClampNeg) < ((-3)) → ((m_sh M a2).1 = 6) ∧ CallVC l G d mLa_valueOf 107 [.ref a0, .int x1, .ref a2, .int x3, .int x4, .int x5, .int x6, .int x7, .int (m_i M (m_r M a0 4) x7.toNatClampNeg)] [.int x6, .ref (m_r M a0 5)] mPe_fact [.ref a2, .int x3, .int (-(m_i M (m_r M a0 4) x7.toNatClampNeg))] M bc bs Φ)) ∧ ((m_i M (m_r M a0 4) x7.toNatClampNeg) = ((-7)) → (vp_in x6 (m_sh M (m_r M a0 5)).2) ∧ Ev l G d mLa_valueOf 122 [.ref a0, .int x1, .ref a2, .int x3, .int x4, .int x5, .int x6, .int x7, .int (m_i M (m_r M a0 4) x7.toNatClampNeg)] [] (m_si M (m_r M a0 5) x6.toNatClampNeg x5) bc bs Φ)) ∧ (¬ (m_i M (m_r M a0 4) x7.toNatClampNeg) < 0 → (vp_in x6 (m_sh M (m_r M a0 5)).2) ∧ Ev l G d mLa_valueOf 122 [.ref a0, .int x1, .ref a2, .int x3, .int x4, .int x5, .int x6, .int x7, .int (m_i M (m_r M a0 4) x7.toNatClampNeg)] [] (m_si M (m_r M a0 5) x6.toNatClampNeg (m_i M (m_r M a0 4) x7.toNatClampNeg)) bc bs Φ)) ∧ (¬ x6 < (Int32.ofNat (m_sh M (m_r M a0 5)).2) → Φ (.inl (some (.int 0))) M)))) :
    Ev l G d mLa_valueOf 11 [.ref a0, .int x1, .ref a2, .int x3, .int x4, .int x5, .int x6, .int x7, u8] [] M bc bs Φ := by
  refine Ev.iload dLa_valueOf_11 rfl ?_
  refine Ev.aload_n dLa_valueOf_13 rfl ?_
  have g1 := h.1
  replace h := h.2
  refine Ev.getR dLa_valueOf_14 (Or.inl fLa_21) rfl g1 ?_
  refine Ev.iload_n dLa_valueOf_17 rfl ?_
  have g2 := h.1
  replace h := h.2
  have g3 := h.1
  replace h := h.2
  refine Ev.iald2 dLa_valueOf_18 g2 g3 ?_
  refine Ev.icmp_ge 213 (by decide) dLa_valueOf_19 (fun c => ?_) (fun c => ?_)
  · replace h := h.1 c
    refine Ev.iload dLa_valueOf_213 rfl ?_
    refine Ev.if_le 227 (by decide) dLa_valueOf_215 (fun c => ?_) (fun c => ?_)
    · replace h := h.1 c
      refine Ev.iconst (v := 0) dLa_valueOf_227 (by decide) ?_
      exact Ev.iret dLa_valueOf_228 rfl rfl h
    · replace h := h.2 c
      refine Ev.aload_n dLa_valueOf_218 rfl ?_
      refine Ev.getR dLa_valueOf_219 (Or.inl fLa_27) rfl g1 ?_
      refine Ev.iconst (v := 0) dLa_valueOf_222 (by decide) ?_
      have g4 := h.1
      replace h := h.2
      have g5 := h.1
      replace h := h.2
      refine Ev.iald2 dLa_valueOf_223 g4 g5 ?_
      refine Ev.goto 228 dLa_valueOf_224 (by decide) ?_
      exact Ev.iret dLa_valueOf_228 rfl rfl h
  · replace h := h.2 c
    refine Ev.aload_n dLa_valueOf_22 rfl ?_
    refine Ev.getR dLa_valueOf_23 (Or.inl fLa_24) rfl g1 ?_
    refine Ev.iload dLa_valueOf_26 rfl ?_
    have g6 := h.1
    replace h := h.2
    have g7 := h.1
    replace h := h.2
    refine Ev.iald2 dLa_valueOf_28 g6 g7 ?_
    refine Ev.istore dLa_valueOf_29 (by decide) ?_
    show Ev l G d mLa_valueOf (_ + _) [.ref a0, .int x1, .ref a2, .int x3, .int x4, .int x5, .int x6, .int x7, .int (m_i M (m_r M a0 4) x7.toNatClampNeg)] [] M bc bs Φ
    refine Ev.iload dLa_valueOf_31 rfl ?_
    refine Ev.bipush (v := (-7)) dLa_valueOf_33 (by decide) ?_
    refine Ev.icmp_lt 128 (by decide) dLa_valueOf_35 (fun c => ?_) (fun c => ?_)
    · replace h := h.1 c
      refine Ev.iload dLa_valueOf_128 rfl ?_
      refine Ev.bipush (v := (-8)) dLa_valueOf_130 (by decide) ?_
      refine Ev.icmp_ne 166 (by decide) dLa_valueOf_132 (fun c => ?_) (fun c => ?_)
      · replace h := h.1 c
        refine Ev.iload dLa_valueOf_166 rfl ?_
        refine Ev.iconst (v := 2) dLa_valueOf_168 (by decide) ?_
        refine Ev.icmp_ge 174 (by decide) dLa_valueOf_169 (fun c => ?_) (fun c => ?_)
        · replace h := h.1 c
          refine Ev.iinc (v := x6 + (-1)) dLa_valueOf_174 (by decide) rfl rfl ?_
          show Ev l G d mLa_valueOf (_ + _) [.ref a0, .int x1, .ref a2, .int x3, .int x4, .int x5, .int (x6 + (-1)), .int x7, .int (m_i M (m_r M a0 4) x7.toNatClampNeg)] [] M bc bs Φ
          refine Ev.aload_n dLa_valueOf_177 rfl ?_
          refine Ev.getR dLa_valueOf_178 (Or.inl fLa_27) rfl g1 ?_
          refine Ev.iload dLa_valueOf_181 rfl ?_
          refine Ev.iconst (v := 1) dLa_valueOf_183 (by decide) ?_
          refine Ev.isub dLa_valueOf_184 ?_
          refine Ev.iload dLa_valueOf_185 rfl ?_
          refine Ev.aload_n dLa_valueOf_187 rfl ?_
          refine Ev.getR dLa_valueOf_188 (Or.inl fLa_27) rfl g1 ?_
          refine Ev.iload dLa_valueOf_191 rfl ?_
          refine Ev.iconst (v := 1) dLa_valueOf_193 (by decide) ?_
          refine Ev.isub dLa_valueOf_194 ?_
          have g8 := h.1
          replace h := h.2
          have g9 := h.1
          replace h := h.2
          refine Ev.iald2 dLa_valueOf_195 g8 g9 ?_
          refine Ev.aload_n dLa_valueOf_196 rfl ?_
          refine Ev.getR dLa_valueOf_197 (Or.inl fLa_27) rfl g1 ?_
          refine Ev.iload dLa_valueOf_200 rfl ?_
          have g10 := h.1
          replace h := h.2
          refine Ev.iald2 dLa_valueOf_202 g8 g10 ?_
          exact Ev.vcS (z := mLa_joined) [.int (m_i M (m_r M a0 4) x7.toNatClampNeg), .int (m_i M (m_r M a0 5) ((x6 + (-1)) - 1).toNatClampNeg), .int (m_i M (m_r M a0 5) (x6 + (-1)).toNatClampNeg)] [.int ((x6 + (-1)) - 1), .ref (m_r M a0 5)] rfl dLa_valueOf_203 oLa_joined rfl w614 iLa_joined (Nat.le_of_ble_eq_true rfl) h
        · replace h := h.2 c
          refine Ev.iconst (v := 0) dLa_valueOf_172 (by decide) ?_
          exact Ev.iret dLa_valueOf_173 rfl rfl h
      · replace h := h.2 c
        refine Ev.iload dLa_valueOf_135 rfl ?_
        refine Ev.iconst (v := 1) dLa_valueOf_137 (by decide) ?_
        refine Ev.icmp_ge 143 (by decide) dLa_valueOf_138 (fun c => ?_) (fun c => ?_)
        · replace h := h.1 c
          refine Ev.aload_n dLa_valueOf_143 rfl ?_
          refine Ev.getR dLa_valueOf_144 (Or.inl fLa_27) rfl g1 ?_
          refine Ev.iload dLa_valueOf_147 rfl ?_
          refine Ev.iconst (v := 1) dLa_valueOf_149 (by decide) ?_
          refine Ev.isub dLa_valueOf_150 ?_
          refine Ev.iconst (v := 1) dLa_valueOf_151 (by decide) ?_
          refine Ev.aload_n dLa_valueOf_152 rfl ?_
          refine Ev.getR dLa_valueOf_153 (Or.inl fLa_27) rfl g1 ?_
          refine Ev.iload dLa_valueOf_156 rfl ?_
          refine Ev.iconst (v := 1) dLa_valueOf_158 (by decide) ?_
          refine Ev.isub dLa_valueOf_159 ?_
          have g11 := h.1
          replace h := h.2
          have g12 := h.1
          replace h := h.2
          refine Ev.iald2 dLa_valueOf_160 g11 g12 ?_
          refine Ev.isub dLa_valueOf_161 ?_
          refine Ev.iast2 dLa_valueOf_162 g11 g12 ?_
          refine Ev.goto 207 dLa_valueOf_163 (by decide) ?_
          exact h
        · replace h := h.2 c
          refine Ev.iconst (v := 0) dLa_valueOf_141 (by decide) ?_
          exact Ev.iret dLa_valueOf_142 rfl rfl h
    · replace h := h.2 c
      refine Ev.iload dLa_valueOf_38 rfl ?_
      refine Ev.aload_n dLa_valueOf_40 rfl ?_
      refine Ev.getR dLa_valueOf_41 (Or.inl fLa_27) rfl g1 ?_
      have g13 := h.1
      replace h := h.2
      refine Ev.alen2 20 (by decide) dLa_valueOf_44 g13 ?_
      refine Ev.icmp_lt 50 (by decide) dLa_valueOf_45 (fun c => ?_) (fun c => ?_)
      · replace h := h.1 c
        refine Ev.iload dLa_valueOf_50 rfl ?_
        refine Ev.if_lt 67 (by decide) dLa_valueOf_52 (fun c => ?_) (fun c => ?_)
        · replace h := h.1 c
          refine Ev.iload dLa_valueOf_67 rfl ?_
          refine Ev.bipush (v := (-7)) dLa_valueOf_69 (by decide) ?_
          refine Ev.icmp_ne 86 (by decide) dLa_valueOf_71 (fun c => ?_) (fun c => ?_)
          · replace h := h.1 c
            refine Ev.aload_n dLa_valueOf_86 rfl ?_
            refine Ev.getR dLa_valueOf_87 (Or.inl fLa_27) rfl g1 ?_
            refine Ev.iload dLa_valueOf_90 rfl ?_
            refine Ev.iload dLa_valueOf_92 rfl ?_
            refine Ev.bipush (v := (-3)) dLa_valueOf_94 (by decide) ?_
            refine Ev.icmp_lt 110 (by decide) dLa_valueOf_96 (fun c => ?_) (fun c => ?_)
            · replace h := h.1 c
              refine Ev.aload_n dLa_valueOf_110 rfl ?_
              refine Ev.iload dLa_valueOf_111 rfl ?_
              refine Ev.bipush (v := (-3)) dLa_valueOf_113 (by decide) ?_
              refine Ev.iload dLa_valueOf_115 rfl ?_
              refine Ev.isub dLa_valueOf_117 ?_
              have g14 := h.1
              replace h := h.2
              exact Ev.vcV (z := mPe_fact) (ci := 6) [.int x4, .int (((-3)) - (m_i M (m_r M a0 4) x7.toNatClampNeg))] [.int x6, .ref (m_r M a0 5)] rfl dLa_valueOf_118 oPe_fact rfl w613 iPe_fact sPe_fact (by decide) rfl g14 (Nat.le_of_ble_eq_true rfl) h
            · replace h := h.2 c
              refine Ev.aload_n dLa_valueOf_99 rfl ?_
              refine Ev.iload_n dLa_valueOf_100 rfl ?_
              refine Ev.iload dLa_valueOf_101 rfl ?_
              refine Ev.ineg dLa_valueOf_103 ?_
              have g15 := h.1
              replace h := h.2
              exact Ev.vcV (z := mPe_fact) (ci := 6) [.int x3, .int (-(m_i M (m_r M a0 4) x7.toNatClampNeg))] [.int x6, .ref (m_r M a0 5)] rfl dLa_valueOf_104 oPe_fact rfl w613 iPe_fact sPe_fact (by decide) rfl g15 (Nat.le_of_ble_eq_true rfl) h
          · replace h := h.2 c
            refine Ev.aload_n dLa_valueOf_74 rfl ?_
            refine Ev.getR dLa_valueOf_75 (Or.inl fLa_27) rfl g1 ?_
            refine Ev.iload dLa_valueOf_78 rfl ?_
            refine Ev.iload dLa_valueOf_80 rfl ?_
            have g16 := h.1
            replace h := h.2
            refine Ev.iast2 dLa_valueOf_82 g13 g16 ?_
            refine Ev.goto 122 dLa_valueOf_83 (by decide) ?_
            exact h
        · replace h := h.2 c
          refine Ev.aload_n dLa_valueOf_55 rfl ?_
          refine Ev.getR dLa_valueOf_56 (Or.inl fLa_27) rfl g1 ?_
          refine Ev.iload dLa_valueOf_59 rfl ?_
          refine Ev.iload dLa_valueOf_61 rfl ?_
          have g17 := h.1
          replace h := h.2
          refine Ev.iast2 dLa_valueOf_63 g13 g17 ?_
          refine Ev.goto 122 dLa_valueOf_64 (by decide) ?_
          exact h
      · replace h := h.2 c
        refine Ev.iconst (v := 0) dLa_valueOf_48 (by decide) ?_
        exact Ev.iret dLa_valueOf_49 rfl rfl h
theorem bLa_valueOf_107 {l : Launch} {G : Gx} {d : Nat} {bc bs : Nat} {Φ : OutV → Mm → Prop} (M : Mm) (a0 : Nat) (x1 : Int32) (a2 : Nat) (x3 : Int32) (x4 : Int32) (x5 : Int32) (x6 : Int32) (x7 : Int32) (x8 : Int32) (r0 : Nat) (s1 : Int32) (s2 : Int32)
    (h : Ev l G d mLa_valueOf 121 [.ref a0, .int x1, .ref a2, .int x3, .int x4, .int x5, .int x6, .int x7, .int x8] [.int s2, .int s1, .ref r0] M bc bs Φ) :
    Ev l G d mLa_valueOf 107 [.ref a0, .int x1, .ref a2, .int x3, .int x4, .int x5, .int x6, .int x7, .int x8] [.int s2, .int s1, .ref r0] M bc bs Φ := by
  refine Ev.goto 121 dLa_valueOf_107 (by decide) ?_
  exact h
theorem bLa_valueOf_121 {l : Launch} {G : Gx} {d : Nat} {bc bs : Nat} {Φ : OutV → Mm → Prop} (M : Mm) (a0 : Nat) (x1 : Int32) (a2 : Nat) (x3 : Int32) (x4 : Int32) (x5 : Int32) (x6 : Int32) (x7 : Int32) (x8 : Int32) (r0 : Nat) (s1 : Int32) (s2 : Int32)
    (h : ((m_sh M r0).1 = 20) ∧ (vp_in s1 (m_sh M r0).2) ∧ Ev l G d mLa_valueOf 122 [.ref a0, .int x1, .ref a2, .int x3, .int x4, .int x5, .int x6, .int x7, .int x8] [] (m_si M r0 s1.toNatClampNeg s2) bc bs Φ) :
    Ev l G d mLa_valueOf 121 [.ref a0, .int x1, .ref a2, .int x3, .int x4, .int x5, .int x6, .int x7, .int x8] [.int s2, .int s1, .ref r0] M bc bs Φ := by
  have g1 := h.1
  replace h := h.2
  have g2 := h.1
  replace h := h.2
  refine Ev.iast2 dLa_valueOf_121 g1 g2 ?_
  exact h
theorem bLa_valueOf_122 {l : Launch} {G : Gx} {d : Nat} {bc bs : Nat} {Φ : OutV → Mm → Prop} (M : Mm) (a0 : Nat) (x1 : Int32) (a2 : Nat) (x3 : Int32) (x4 : Int32) (x5 : Int32) (x6 : Int32) (x7 : Int32) (x8 : Int32)
    (h : Ev l G d mLa_valueOf 207 [.ref a0, .int x1, .ref a2, .int x3, .int x4, .int x5, .int (x6 + 1), .int x7, .int x8] [] M bc bs Φ) :
    Ev l G d mLa_valueOf 122 [.ref a0, .int x1, .ref a2, .int x3, .int x4, .int x5, .int x6, .int x7, .int x8] [] M bc bs Φ := by
  refine Ev.iinc (v := x6 + 1) dLa_valueOf_122 (by decide) rfl rfl ?_
  show Ev l G d mLa_valueOf (_ + _) [.ref a0, .int x1, .ref a2, .int x3, .int x4, .int x5, .int (x6 + 1), .int x7, .int x8] [] M bc bs Φ
  refine Ev.goto 207 dLa_valueOf_125 (by decide) ?_
  exact h
theorem bLa_valueOf_206 {l : Launch} {G : Gx} {d : Nat} {bc bs : Nat} {Φ : OutV → Mm → Prop} (M : Mm) (a0 : Nat) (x1 : Int32) (a2 : Nat) (x3 : Int32) (x4 : Int32) (x5 : Int32) (x6 : Int32) (x7 : Int32) (x8 : Int32) (r0 : Nat) (s1 : Int32) (s2 : Int32)
    (h : ((m_sh M r0).1 = 20) ∧ (vp_in s1 (m_sh M r0).2) ∧ Ev l G d mLa_valueOf 207 [.ref a0, .int x1, .ref a2, .int x3, .int x4, .int x5, .int x6, .int x7, .int x8] [] (m_si M r0 s1.toNatClampNeg s2) bc bs Φ) :
    Ev l G d mLa_valueOf 206 [.ref a0, .int x1, .ref a2, .int x3, .int x4, .int x5, .int x6, .int x7, .int x8] [.int s2, .int s1, .ref r0] M bc bs Φ := by
  have g1 := h.1
  replace h := h.2
  have g2 := h.1
  replace h := h.2
  refine Ev.iast2 dLa_valueOf_206 g1 g2 ?_
  exact h
theorem bLa_valueOf_207 {l : Launch} {G : Gx} {d : Nat} {bc bs : Nat} {Φ : OutV → Mm → Prop} (M : Mm) (a0 : Nat) (x1 : Int32) (a2 : Nat) (x3 : Int32) (x4 : Int32) (x5 : Int32) (x6 : Int32) (x7 : Int32) (x8 : Int32)
    (h : Ev l G d mLa_valueOf 11 [.ref a0, .int x1, .ref a2, .int x3, .int x4, .int x5, .int x6, .int (x7 + 1), .int x8] [] M bc bs Φ) :
    Ev l G d mLa_valueOf 207 [.ref a0, .int x1, .ref a2, .int x3, .int x4, .int x5, .int x6, .int x7, .int x8] [] M bc bs Φ := by
  refine Ev.iinc (v := x7 + 1) dLa_valueOf_207 (by decide) rfl rfl ?_
  show Ev l G d mLa_valueOf (_ + _) [.ref a0, .int x1, .ref a2, .int x3, .int x4, .int x5, .int x6, .int (x7 + 1), .int x8] [] M bc bs Φ
  refine Ev.goto 11 dLa_valueOf_210 (by decide) ?_
  exact h
theorem dLa_joined_0 : decode mLa_joined.2.1 0 = .ok (.iload_n 0, 1) := by decide +kernel
theorem dLa_joined_1 : decode mLa_joined.2.1 1 = .ok (.tableswitch 108 (-16) (-9) #[104, 93, 82, 71, 59, 55, 51, 47], 47) := by decide +kernel
theorem dLa_joined_48 : decode mLa_joined.2.1 48 = .ok (.iload_n 1, 1) := by decide +kernel
theorem dLa_joined_49 : decode mLa_joined.2.1 49 = .ok (.iload_n 2, 1) := by decide +kernel
theorem dLa_joined_50 : decode mLa_joined.2.1 50 = .ok (.iadd, 1) := by decide +kernel
theorem dLa_joined_51 : decode mLa_joined.2.1 51 = .ok (.ireturn, 1) := by decide +kernel
theorem dLa_joined_52 : decode mLa_joined.2.1 52 = .ok (.iload_n 1, 1) := by decide +kernel
theorem dLa_joined_53 : decode mLa_joined.2.1 53 = .ok (.iload_n 2, 1) := by decide +kernel
theorem dLa_joined_54 : decode mLa_joined.2.1 54 = .ok (.isub, 1) := by decide +kernel
theorem dLa_joined_55 : decode mLa_joined.2.1 55 = .ok (.ireturn, 1) := by decide +kernel
theorem dLa_joined_56 : decode mLa_joined.2.1 56 = .ok (.iload_n 1, 1) := by decide +kernel
theorem dLa_joined_57 : decode mLa_joined.2.1 57 = .ok (.iload_n 2, 1) := by decide +kernel
theorem dLa_joined_58 : decode mLa_joined.2.1 58 = .ok (.imul, 1) := by decide +kernel
theorem dLa_joined_59 : decode mLa_joined.2.1 59 = .ok (.ireturn, 1) := by decide +kernel
theorem dLa_joined_60 : decode mLa_joined.2.1 60 = .ok (.iload_n 2, 1) := by decide +kernel
theorem dLa_joined_61 : decode mLa_joined.2.1 61 = .ok (.ifCond .ne 7, 3) := by decide +kernel
theorem dLa_joined_64 : decode mLa_joined.2.1 64 = .ok (.iconst 0, 1) := by decide +kernel
theorem dLa_joined_65 : decode mLa_joined.2.1 65 = .ok (.goto 6, 3) := by decide +kernel
theorem dLa_joined_68 : decode mLa_joined.2.1 68 = .ok (.iload_n 1, 1) := by decide +kernel
theorem dLa_joined_69 : decode mLa_joined.2.1 69 = .ok (.iload_n 2, 1) := by decide +kernel
theorem dLa_joined_70 : decode mLa_joined.2.1 70 = .ok (.idiv, 1) := by decide +kernel
theorem dLa_joined_71 : decode mLa_joined.2.1 71 = .ok (.ireturn, 1) := by decide +kernel
theorem dLa_joined_72 : decode mLa_joined.2.1 72 = .ok (.iload_n 1, 1) := by decide +kernel
theorem dLa_joined_73 : decode mLa_joined.2.1 73 = .ok (.iload_n 2, 1) := by decide +kernel
theorem dLa_joined_74 : decode mLa_joined.2.1 74 = .ok (.if_icmp .ge 7, 3) := by decide +kernel
theorem dLa_joined_77 : decode mLa_joined.2.1 77 = .ok (.iconst 1, 1) := by decide +kernel
theorem dLa_joined_78 : decode mLa_joined.2.1 78 = .ok (.goto 4, 3) := by decide +kernel
theorem dLa_joined_81 : decode mLa_joined.2.1 81 = .ok (.iconst 0, 1) := by decide +kernel
theorem dLa_joined_82 : decode mLa_joined.2.1 82 = .ok (.ireturn, 1) := by decide +kernel
theorem dLa_joined_83 : decode mLa_joined.2.1 83 = .ok (.iload_n 1, 1) := by decide +kernel
theorem dLa_joined_84 : decode mLa_joined.2.1 84 = .ok (.iload_n 2, 1) := by decide +kernel
theorem dLa_joined_85 : decode mLa_joined.2.1 85 = .ok (.if_icmp .le 7, 3) := by decide +kernel
theorem dLa_joined_88 : decode mLa_joined.2.1 88 = .ok (.iconst 1, 1) := by decide +kernel
theorem dLa_joined_89 : decode mLa_joined.2.1 89 = .ok (.goto 4, 3) := by decide +kernel
theorem dLa_joined_92 : decode mLa_joined.2.1 92 = .ok (.iconst 0, 1) := by decide +kernel
theorem dLa_joined_93 : decode mLa_joined.2.1 93 = .ok (.ireturn, 1) := by decide +kernel
theorem dLa_joined_94 : decode mLa_joined.2.1 94 = .ok (.iload_n 1, 1) := by decide +kernel
theorem dLa_joined_95 : decode mLa_joined.2.1 95 = .ok (.iload_n 2, 1) := by decide +kernel
theorem dLa_joined_96 : decode mLa_joined.2.1 96 = .ok (.if_icmp .ne 7, 3) := by decide +kernel
theorem dLa_joined_99 : decode mLa_joined.2.1 99 = .ok (.iconst 1, 1) := by decide +kernel
theorem dLa_joined_100 : decode mLa_joined.2.1 100 = .ok (.goto 4, 3) := by decide +kernel
theorem dLa_joined_103 : decode mLa_joined.2.1 103 = .ok (.iconst 0, 1) := by decide +kernel
theorem dLa_joined_104 : decode mLa_joined.2.1 104 = .ok (.ireturn, 1) := by decide +kernel
theorem dLa_joined_105 : decode mLa_joined.2.1 105 = .ok (.iload_n 1, 1) := by decide +kernel
theorem dLa_joined_106 : decode mLa_joined.2.1 106 = .ok (.iload_n 2, 1) := by decide +kernel
theorem dLa_joined_107 : decode mLa_joined.2.1 107 = .ok (.iand, 1) := by decide +kernel
theorem dLa_joined_108 : decode mLa_joined.2.1 108 = .ok (.ireturn, 1) := by decide +kernel
theorem dLa_joined_109 : decode mLa_joined.2.1 109 = .ok (.iload_n 1, 1) := by decide +kernel
theorem dLa_joined_110 : decode mLa_joined.2.1 110 = .ok (.iload_n 2, 1) := by decide +kernel
theorem dLa_joined_111 : decode mLa_joined.2.1 111 = .ok (.ior, 1) := by decide +kernel
theorem dLa_joined_112 : decode mLa_joined.2.1 112 = .ok (.ireturn, 1) := by decide +kernel
theorem bLa_joined_0 {l : Launch} {G : Gx} {d : Nat} {bc bs : Nat} {Φ : OutV → Mm → Prop} (M : Mm) (x0 : Int32) (x1 : Int32) (x2 : Int32)
    (h : (x0 = (-16) → Φ (.inl (some (.int (x1 &&& x2)))) M) ∧ ((x0 = (-15) → (¬ x1 = x2 → Φ (.inl (some (.int 0))) M) ∧ (x1 = x2 → Φ (.inl (some (.int 1))) M)) ∧ ((x0 = (-14) → (x1 ≤ x2 → Φ (.inl (some (.int 0))) M) ∧ (¬ x1 ≤ x2 → Φ (.inl (some (.int 1))) M)) ∧ ((x0 = (-13) → (x2 ≤ x1 → Φ (.inl (some (.int 0))) M) ∧ (¬ x2 ≤ x1 → Φ (.inl (some (.int 1))) M)) ∧ ((x0 = (-12) → (¬ x2 = 0 → (¬ x2 = 0) ∧ Φ (.inl (some (.int (x1 / x2)))) M) ∧ (x2 = 0 → Φ (.inl (some (.int 0))) M)) ∧ ((x0 = (-11) → Φ (.inl (some (.int (x1 * x2)))) M) ∧ ((x0 = (-10) → Φ (.inl (some (.int (x1 - x2)))) M) ∧ ((x0 = (-9) → Φ (.inl (some (.int (x1 + x2)))) M) ∧ (¬ x0 = (-16) → ¬ x0 = (-15) → ¬ x0 = (-14) → ¬ x0 = (-13) → ¬ x0 = (-12) → ¬ x0 = (-11) → ¬ x0 = (-10) → ¬ x0 = (-9) → Φ (.inl (some (.int (x1 ||| x2)))) M))))))))) :
    Ev l G d mLa_joined 0 [.int x0, .int x1, .int x2] [] M bc bs Φ := by
  refine Ev.iload_n dLa_joined_0 rfl ?_
  skip
  by_cases c : x0 = (-16)
  · refine Ev.tblAt 105 dLa_joined_1 (by rw [c]; decide) (by rw [c]; decide) (by rw [c]; rfl) (by decide) ?_
    replace h := h.1 c
    refine Ev.iload_n dLa_joined_105 rfl ?_
    refine Ev.iload_n dLa_joined_106 rfl ?_
    refine Ev.iand dLa_joined_107 ?_
    exact Ev.iret dLa_joined_108 rfl rfl h
  have c1 := c
  clear c
  replace h := h.2
  by_cases c : x0 = (-15)
  · refine Ev.tblAt 94 dLa_joined_1 (by rw [c]; decide) (by rw [c]; decide) (by rw [c]; rfl) (by decide) ?_
    replace h := h.1 c
    refine Ev.iload_n dLa_joined_94 rfl ?_
    refine Ev.iload_n dLa_joined_95 rfl ?_
    refine Ev.icmp_ne 103 (by decide) dLa_joined_96 (fun c => ?_) (fun c => ?_)
    · replace h := h.1 c
      refine Ev.iconst (v := 0) dLa_joined_103 (by decide) ?_
      exact Ev.iret dLa_joined_104 rfl rfl h
    · replace h := h.2 c
      refine Ev.iconst (v := 1) dLa_joined_99 (by decide) ?_
      refine Ev.goto 104 dLa_joined_100 (by decide) ?_
      exact Ev.iret dLa_joined_104 rfl rfl h
  have c2 := c
  clear c
  replace h := h.2
  by_cases c : x0 = (-14)
  · refine Ev.tblAt 83 dLa_joined_1 (by rw [c]; decide) (by rw [c]; decide) (by rw [c]; rfl) (by decide) ?_
    replace h := h.1 c
    refine Ev.iload_n dLa_joined_83 rfl ?_
    refine Ev.iload_n dLa_joined_84 rfl ?_
    refine Ev.icmp_le 92 (by decide) dLa_joined_85 (fun c => ?_) (fun c => ?_)
    · replace h := h.1 c
      refine Ev.iconst (v := 0) dLa_joined_92 (by decide) ?_
      exact Ev.iret dLa_joined_93 rfl rfl h
    · replace h := h.2 c
      refine Ev.iconst (v := 1) dLa_joined_88 (by decide) ?_
      refine Ev.goto 93 dLa_joined_89 (by decide) ?_
      exact Ev.iret dLa_joined_93 rfl rfl h
  have c3 := c
  clear c
  replace h := h.2
  by_cases c : x0 = (-13)
  · refine Ev.tblAt 72 dLa_joined_1 (by rw [c]; decide) (by rw [c]; decide) (by rw [c]; rfl) (by decide) ?_
    replace h := h.1 c
    refine Ev.iload_n dLa_joined_72 rfl ?_
    refine Ev.iload_n dLa_joined_73 rfl ?_
    refine Ev.icmp_ge 81 (by decide) dLa_joined_74 (fun c => ?_) (fun c => ?_)
    · replace h := h.1 c
      refine Ev.iconst (v := 0) dLa_joined_81 (by decide) ?_
      exact Ev.iret dLa_joined_82 rfl rfl h
    · replace h := h.2 c
      refine Ev.iconst (v := 1) dLa_joined_77 (by decide) ?_
      refine Ev.goto 82 dLa_joined_78 (by decide) ?_
      exact Ev.iret dLa_joined_82 rfl rfl h
  have c4 := c
  clear c
  replace h := h.2
  by_cases c : x0 = (-12)
  · refine Ev.tblAt 60 dLa_joined_1 (by rw [c]; decide) (by rw [c]; decide) (by rw [c]; rfl) (by decide) ?_
    replace h := h.1 c
    refine Ev.iload_n dLa_joined_60 rfl ?_
    refine Ev.if_ne 68 (by decide) dLa_joined_61 (fun c => ?_) (fun c => ?_)
    · replace h := h.1 c
      refine Ev.iload_n dLa_joined_68 rfl ?_
      refine Ev.iload_n dLa_joined_69 rfl ?_
      have g5 := h.1
      replace h := h.2
      refine Ev.idiv dLa_joined_70 g5 ?_
      exact Ev.iret dLa_joined_71 rfl rfl h
    · replace h := h.2 c
      refine Ev.iconst (v := 0) dLa_joined_64 (by decide) ?_
      refine Ev.goto 71 dLa_joined_65 (by decide) ?_
      exact Ev.iret dLa_joined_71 rfl rfl h
  have c6 := c
  clear c
  replace h := h.2
  by_cases c : x0 = (-11)
  · refine Ev.tblAt 56 dLa_joined_1 (by rw [c]; decide) (by rw [c]; decide) (by rw [c]; rfl) (by decide) ?_
    replace h := h.1 c
    refine Ev.iload_n dLa_joined_56 rfl ?_
    refine Ev.iload_n dLa_joined_57 rfl ?_
    refine Ev.imul dLa_joined_58 ?_
    exact Ev.iret dLa_joined_59 rfl rfl h
  have c7 := c
  clear c
  replace h := h.2
  by_cases c : x0 = (-10)
  · refine Ev.tblAt 52 dLa_joined_1 (by rw [c]; decide) (by rw [c]; decide) (by rw [c]; rfl) (by decide) ?_
    replace h := h.1 c
    refine Ev.iload_n dLa_joined_52 rfl ?_
    refine Ev.iload_n dLa_joined_53 rfl ?_
    refine Ev.isub dLa_joined_54 ?_
    exact Ev.iret dLa_joined_55 rfl rfl h
  have c8 := c
  clear c
  replace h := h.2
  by_cases c : x0 = (-9)
  · refine Ev.tblAt 48 dLa_joined_1 (by rw [c]; decide) (by rw [c]; decide) (by rw [c]; rfl) (by decide) ?_
    replace h := h.1 c
    refine Ev.iload_n dLa_joined_48 rfl ?_
    refine Ev.iload_n dLa_joined_49 rfl ?_
    refine Ev.iadd dLa_joined_50 ?_
    exact Ev.iret dLa_joined_51 rfl rfl h
  have c9 := c
  clear c
  replace h := h.2
  refine Ev.tblOut 109 dLa_joined_1 ?_ (by decide) ?_
  · have e : ∀ k : Int32, ¬ x0 = k → ¬ x0.toInt = k.toInt := fun k h1 h2 => h1 (Int32.toInt_inj.mp h2)
    have := e (-16) c1
    rw [show (((-16) : Int32)).toInt = -16 from rfl] at this
    have := e (-15) c2
    rw [show (((-15) : Int32)).toInt = -15 from rfl] at this
    have := e (-14) c3
    rw [show (((-14) : Int32)).toInt = -14 from rfl] at this
    have := e (-13) c4
    rw [show (((-13) : Int32)).toInt = -13 from rfl] at this
    have := e (-12) c6
    rw [show (((-12) : Int32)).toInt = -12 from rfl] at this
    have := e (-11) c7
    rw [show (((-11) : Int32)).toInt = -11 from rfl] at this
    have := e (-10) c8
    rw [show (((-10) : Int32)).toInt = -10 from rfl] at this
    have := e (-9) c9
    rw [show (((-9) : Int32)).toInt = -9 from rfl] at this
    omega
  · replace h := h c1 c2 c3 c4 c6 c7 c8 c9
    refine Ev.iload_n dLa_joined_109 rfl ?_
    refine Ev.iload_n dLa_joined_110 rfl ?_
    refine Ev.ior dLa_joined_111 ?_
    exact Ev.iret dLa_joined_112 rfl rfl h
def mLa_readRules : MR := (⟨"BowingRow$Law", "readRules", "(LBowingRow$Tokens;)Z"⟩, prog_6_method_2_code, 3, (Option.some .boolean))
theorem oLa_readRules : MOK mLa_readRules 1 := ⟨lwg_of 943 (by decide +kernel) (by decide +kernel), lwg_of 94 (by decide +kernel) (by decide +kernel), ⟨by decide +kernel, by decide +kernel⟩, by decide +kernel, by decide⟩
theorem iLa_readRules : Cond.instanceMethod mLa_readRules.1 ∈ lwg := lwg_of 941 (by decide +kernel) (by decide +kernel)
theorem sLa_readRules : Cond.selects mLa_readRules.1.cls mLa_readRules.1 mLa_readRules.1 ∈ lwg := lwg_of 942 (by decide +kernel) (by decide +kernel)
theorem dLa_readRules_0 : decode mLa_readRules.2.1 0 = .ok (.aload_n 0, 1) := by decide +kernel
theorem dLa_readRules_1 : decode mLa_readRules.2.1 1 = .ok (.iconst 0, 1) := by decide +kernel
theorem dLa_readRules_2 : decode mLa_readRules.2.1 2 = .ok (.putfield 30, 3) := by decide +kernel
theorem dLa_readRules_5 : decode mLa_readRules.2.1 5 = .ok (.aload_n 0, 1) := by decide +kernel
theorem dLa_readRules_6 : decode mLa_readRules.2.1 6 = .ok (.iconst 0, 1) := by decide +kernel
theorem dLa_readRules_7 : decode mLa_readRules.2.1 7 = .ok (.putfield 34, 3) := by decide +kernel
theorem dLa_readRules_10 : decode mLa_readRules.2.1 10 = .ok (.iconst 0, 1) := by decide +kernel
theorem dLa_readRules_11 : decode mLa_readRules.2.1 11 = .ok (.istore_n 2, 1) := by decide +kernel
theorem dLa_readRules_12 : decode mLa_readRules.2.1 12 = .ok (.iload_n 2, 1) := by decide +kernel
theorem dLa_readRules_13 : decode mLa_readRules.2.1 13 = .ok (.bipush 10, 2) := by decide +kernel
theorem dLa_readRules_15 : decode mLa_readRules.2.1 15 = .ok (.if_icmp .gt 26, 3) := by decide +kernel
theorem dLa_readRules_18 : decode mLa_readRules.2.1 18 = .ok (.aload_n 1, 1) := by decide +kernel
theorem dLa_readRules_19 : decode mLa_readRules.2.1 19 = .ok (.invokevirtual 37, 3) := by decide +kernel
theorem dLa_readRules_22 : decode mLa_readRules.2.1 22 = .ok (.ifCond .ne 19, 3) := by decide +kernel
theorem dLa_readRules_25 : decode mLa_readRules.2.1 25 = .ok (.aload_n 0, 1) := by decide +kernel
theorem dLa_readRules_26 : decode mLa_readRules.2.1 26 = .ok (.aload_n 1, 1) := by decide +kernel
theorem dLa_readRules_27 : decode mLa_readRules.2.1 27 = .ok (.invokevirtual 43, 3) := by decide +kernel
theorem dLa_readRules_30 : decode mLa_readRules.2.1 30 = .ok (.ifCond .ne 5, 3) := by decide +kernel
theorem dLa_readRules_33 : decode mLa_readRules.2.1 33 = .ok (.iconst 0, 1) := by decide +kernel
theorem dLa_readRules_34 : decode mLa_readRules.2.1 34 = .ok (.ireturn, 1) := by decide +kernel
theorem dLa_readRules_35 : decode mLa_readRules.2.1 35 = .ok (.iinc 2 1, 3) := by decide +kernel
theorem dLa_readRules_38 : decode mLa_readRules.2.1 38 = .ok (.goto (-26), 3) := by decide +kernel
theorem dLa_readRules_41 : decode mLa_readRules.2.1 41 = .ok (.iconst 1, 1) := by decide +kernel
theorem dLa_readRules_42 : decode mLa_readRules.2.1 42 = .ok (.ireturn, 1) := by decide +kernel
theorem fLa_30 : FOK "BowingRow$Law" 30 4 7 false := ⟨RX4, TX4, nFd 4, rfl, by decide, rfl, by decide, rfl, lwg_of 203 (by decide +kernel) (by decide +kernel)⟩
theorem fLa_34 : FOK "BowingRow$Law" 34 4 6 false := ⟨RX4, TX4, nFd 4, rfl, by decide, rfl, by decide, rfl, lwg_of 202 (by decide +kernel) (by decide +kernel)⟩
theorem bLa_readRules_0 {l : Launch} {G : Gx} {d : Nat} {bc bs : Nat} {Φ : OutV → Mm → Prop} (M : Mm) (a0 : Nat) (a1 : Nat)
    (h : ((m_sh M a0).1 = 4) ∧ Ev l G d mLa_readRules 10 [.ref a0, .ref a1, .null] [] (m_si (m_si M a0 7 0) a0 6 0) bc bs Φ) :
    Ev l G d mLa_readRules 0 [.ref a0, .ref a1, .null] [] M bc bs Φ := by
  refine Ev.aload_n dLa_readRules_0 rfl ?_
  refine Ev.iconst (v := 0) dLa_readRules_1 (by decide) ?_
  have g1 := h.1
  replace h := h.2
  refine Ev.putI dLa_readRules_2 ⟨_, Or.inl ⟨fLa_30, (fun h => by cases h)⟩⟩ rfl ⟨rfl, rfl⟩ g1 ?_
  refine Ev.aload_n dLa_readRules_5 rfl ?_
  refine Ev.iconst (v := 0) dLa_readRules_6 (by decide) ?_
  refine Ev.putI dLa_readRules_7 ⟨_, Or.inl ⟨fLa_34, (fun h => by cases h)⟩⟩ rfl ⟨rfl, rfl⟩ g1 ?_
  exact h
theorem bLa_readRules_10 {l : Launch} {G : Gx} {d : Nat} {bc bs : Nat} {Φ : OutV → Mm → Prop} (M : Mm) (a0 : Nat) (a1 : Nat) (u2 : Value)
    (h : Ev l G d mLa_readRules 12 [.ref a0, .ref a1, .int 0] [] M bc bs Φ) :
    Ev l G d mLa_readRules 10 [.ref a0, .ref a1, u2] [] M bc bs Φ := by
  refine Ev.iconst (v := 0) dLa_readRules_10 (by decide) ?_
  refine Ev.istore_n dLa_readRules_11 (by decide) ?_
  show Ev l G d mLa_readRules (_ + _) [.ref a0, .ref a1, .int 0] [] M bc bs Φ
  exact h
theorem w944 : Cond.methodLink "BowingRow$Law" 37 ⟨"BowingRow$Tokens", "atEnd", "()Z"⟩ ∈ lwg := lwg_of 944 (by decide +kernel) (by decide +kernel)
theorem bLa_readRules_12 {l : Launch} {G : Gx} {d : Nat} {bc bs : Nat} {Φ : OutV → Mm → Prop} (M : Mm) (a0 : Nat) (a1 : Nat) (x2 : Int32)
    (h : (10 < x2 → Φ (.inl (some (.int 1))) M) ∧ (¬ 10 < x2 → ((m_sh M a1).1 = 8) ∧ CallVC l G d mLa_readRules 22 [.ref a0, .ref a1, .int x2] [] mTo_atEnd [.ref a1] M bc bs Φ)) :
    Ev l G d mLa_readRules 12 [.ref a0, .ref a1, .int x2] [] M bc bs Φ := by
  refine Ev.iload_n dLa_readRules_12 rfl ?_
  refine Ev.bipush (v := 10) dLa_readRules_13 (by decide) ?_
  refine Ev.icmp_gt 41 (by decide) dLa_readRules_15 (fun c => ?_) (fun c => ?_)
  · replace h := h.1 c
    refine Ev.iconst (v := 1) dLa_readRules_41 (by decide) ?_
    exact Ev.iret dLa_readRules_42 rfl rfl h
  · replace h := h.2 c
    refine Ev.aload_n dLa_readRules_18 rfl ?_
    have g1 := h.1
    replace h := h.2
    exact Ev.vcV (z := mTo_atEnd) (ci := 8) [] [] rfl dLa_readRules_19 oTo_atEnd rfl w944 iTo_atEnd sTo_atEnd (by decide) rfl g1 (Nat.le_of_ble_eq_true rfl) h
def mLa_readRule : MR := (⟨"BowingRow$Law", "readRule", "(LBowingRow$Tokens;)Z"⟩, prog_6_method_3_code, 4, (Option.some .boolean))
theorem oLa_readRule : MOK mLa_readRule 1 := ⟨lwg_of 948 (by decide +kernel) (by decide +kernel), lwg_of 94 (by decide +kernel) (by decide +kernel), ⟨by decide +kernel, by decide +kernel⟩, by decide +kernel, by decide⟩
theorem iLa_readRule : Cond.instanceMethod mLa_readRule.1 ∈ lwg := lwg_of 947 (by decide +kernel) (by decide +kernel)
theorem sLa_readRule : Cond.selects mLa_readRule.1.cls mLa_readRule.1 mLa_readRule.1 ∈ lwg := lwg_of 22 (by decide +kernel) (by decide +kernel)
theorem w945 : Cond.methodLink "BowingRow$Law" 43 ⟨"BowingRow$Law", "readRule", "(LBowingRow$Tokens;)Z"⟩ ∈ lwg := lwg_of 945 (by decide +kernel) (by decide +kernel)
theorem bLa_readRules_22 {l : Launch} {G : Gx} {d : Nat} {bc bs : Nat} {Φ : OutV → Mm → Prop} (M : Mm) (a0 : Nat) (a1 : Nat) (x2 : Int32) (s0 : Int32)
    (h : (¬ s0 = 0 → Φ (.inl (some (.int 1))) M) ∧ (s0 = 0 → ((m_sh M a0).1 = 4) ∧ CallVC l G d mLa_readRules 30 [.ref a0, .ref a1, .int x2] [] mLa_readRule [.ref a0, .ref a1] M bc bs Φ)) :
    Ev l G d mLa_readRules 22 [.ref a0, .ref a1, .int x2] [.int s0] M bc bs Φ := by
  refine Ev.if_ne 41 (by decide) dLa_readRules_22 (fun c => ?_) (fun c => ?_)
  · replace h := h.1 c
    refine Ev.iconst (v := 1) dLa_readRules_41 (by decide) ?_
    exact Ev.iret dLa_readRules_42 rfl rfl h
  · replace h := h.2 c
    refine Ev.aload_n dLa_readRules_25 rfl ?_
    refine Ev.aload_n dLa_readRules_26 rfl ?_
    have g1 := h.1
    replace h := h.2
    exact Ev.vcV (z := mLa_readRule) (ci := 4) [.ref a1] [] rfl dLa_readRules_27 oLa_readRule rfl w945 iLa_readRule sLa_readRule (by decide) rfl g1 (Nat.le_of_ble_eq_true rfl) h
theorem bLa_readRules_30 {l : Launch} {G : Gx} {d : Nat} {bc bs : Nat} {Φ : OutV → Mm → Prop} (M : Mm) (a0 : Nat) (a1 : Nat) (x2 : Int32) (s0 : Int32)
    (h : (¬ s0 = 0 → Ev l G d mLa_readRules 12 [.ref a0, .ref a1, .int (x2 + 1)] [] M bc bs Φ) ∧ (s0 = 0 → Φ (.inl (some (.int 0))) M)) :
    Ev l G d mLa_readRules 30 [.ref a0, .ref a1, .int x2] [.int s0] M bc bs Φ := by
  refine Ev.if_ne 35 (by decide) dLa_readRules_30 (fun c => ?_) (fun c => ?_)
  · replace h := h.1 c
    refine Ev.iinc (v := x2 + 1) dLa_readRules_35 (by decide) rfl rfl ?_
    show Ev l G d mLa_readRules (_ + _) [.ref a0, .ref a1, .int (x2 + 1)] [] M bc bs Φ
    refine Ev.goto 12 dLa_readRules_38 (by decide) ?_
    exact h
  · replace h := h.2 c
    refine Ev.iconst (v := 0) dLa_readRules_33 (by decide) ?_
    exact Ev.iret dLa_readRules_34 rfl rfl h
theorem dLa_readRule_0 : decode mLa_readRule.2.1 0 = .ok (.aload_n 1, 1) := by decide +kernel
theorem dLa_readRule_1 : decode mLa_readRule.2.1 1 = .ok (.invokevirtual 47, 3) := by decide +kernel
theorem dLa_readRule_4 : decode mLa_readRule.2.1 4 = .ok (.astore_n 2, 1) := by decide +kernel
theorem dLa_readRule_5 : decode mLa_readRule.2.1 5 = .ok (.aload_n 2, 1) := by decide +kernel
theorem dLa_readRule_6 : decode mLa_readRule.2.1 6 = .ok (.getfield 51, 3) := by decide +kernel
theorem dLa_readRule_9 : decode mLa_readRule.2.1 9 = .ok (.ifCond .gt 9, 3) := by decide +kernel
theorem dLa_readRule_12 : decode mLa_readRule.2.1 12 = .ok (.aload_n 1, 1) := by decide +kernel
theorem dLa_readRule_13 : decode mLa_readRule.2.1 13 = .ok (.iconst 1, 1) := by decide +kernel
theorem dLa_readRule_14 : decode mLa_readRule.2.1 14 = .ok (.invokevirtual 56, 3) := by decide +kernel
theorem dLa_readRule_17 : decode mLa_readRule.2.1 17 = .ok (.ireturn, 1) := by decide +kernel
theorem dLa_readRule_18 : decode mLa_readRule.2.1 18 = .ok (.aload_n 0, 1) := by decide +kernel
theorem dLa_readRule_19 : decode mLa_readRule.2.1 19 = .ok (.getfield 30, 3) := by decide +kernel
theorem dLa_readRule_22 : decode mLa_readRule.2.1 22 = .ok (.bipush 10, 2) := by decide +kernel
theorem dLa_readRule_24 : decode mLa_readRule.2.1 24 = .ok (.if_icmp .lt 9, 3) := by decide +kernel
theorem dLa_readRule_27 : decode mLa_readRule.2.1 27 = .ok (.aload_n 1, 1) := by decide +kernel
theorem dLa_readRule_28 : decode mLa_readRule.2.1 28 = .ok (.iconst 3, 1) := by decide +kernel
theorem dLa_readRule_29 : decode mLa_readRule.2.1 29 = .ok (.invokevirtual 56, 3) := by decide +kernel
theorem dLa_readRule_32 : decode mLa_readRule.2.1 32 = .ok (.ireturn, 1) := by decide +kernel
theorem dLa_readRule_33 : decode mLa_readRule.2.1 33 = .ok (.aload_n 1, 1) := by decide +kernel
theorem dLa_readRule_34 : decode mLa_readRule.2.1 34 = .ok (.invokevirtual 60, 3) := by decide +kernel
theorem dLa_readRule_37 : decode mLa_readRule.2.1 37 = .ok (.aload_n 0, 1) := by decide +kernel
theorem dLa_readRule_38 : decode mLa_readRule.2.1 38 = .ok (.getfield 9, 3) := by decide +kernel
theorem dLa_readRule_41 : decode mLa_readRule.2.1 41 = .ok (.aload_n 0, 1) := by decide +kernel
theorem dLa_readRule_42 : decode mLa_readRule.2.1 42 = .ok (.getfield 30, 3) := by decide +kernel
theorem dLa_readRule_45 : decode mLa_readRule.2.1 45 = .ok (.aload_n 2, 1) := by decide +kernel
theorem dLa_readRule_46 : decode mLa_readRule.2.1 46 = .ok (.getfield 51, 3) := by decide +kernel
theorem dLa_readRule_49 : decode mLa_readRule.2.1 49 = .ok (.iastore, 1) := by decide +kernel
theorem dLa_readRule_50 : decode mLa_readRule.2.1 50 = .ok (.aload_n 0, 1) := by decide +kernel
theorem dLa_readRule_51 : decode mLa_readRule.2.1 51 = .ok (.getfield 18, 3) := by decide +kernel
theorem dLa_readRule_54 : decode mLa_readRule.2.1 54 = .ok (.aload_n 0, 1) := by decide +kernel
theorem dLa_readRule_55 : decode mLa_readRule.2.1 55 = .ok (.getfield 30, 3) := by decide +kernel
theorem dLa_readRule_58 : decode mLa_readRule.2.1 58 = .ok (.aload_n 0, 1) := by decide +kernel
theorem dLa_readRule_59 : decode mLa_readRule.2.1 59 = .ok (.getfield 34, 3) := by decide +kernel
theorem dLa_readRule_62 : decode mLa_readRule.2.1 62 = .ok (.iastore, 1) := by decide +kernel
theorem dLa_readRule_63 : decode mLa_readRule.2.1 63 = .ok (.aload_n 2, 1) := by decide +kernel
theorem dLa_readRule_64 : decode mLa_readRule.2.1 64 = .ok (.getstatic 63, 3) := by decide +kernel
theorem dLa_readRule_67 : decode mLa_readRule.2.1 67 = .ok (.if_acmp .ne 16, 3) := by decide +kernel
theorem dLa_readRule_70 : decode mLa_readRule.2.1 70 = .ok (.aload_n 0, 1) := by decide +kernel
theorem dLa_readRule_71 : decode mLa_readRule.2.1 71 = .ok (.aload_n 1, 1) := by decide +kernel
theorem dLa_readRule_72 : decode mLa_readRule.2.1 72 = .ok (.getstatic 67, 3) := by decide +kernel
theorem dLa_readRule_75 : decode mLa_readRule.2.1 75 = .ok (.iconst 0, 1) := by decide +kernel
theorem dLa_readRule_76 : decode mLa_readRule.2.1 76 = .ok (.invokevirtual 70, 3) := by decide +kernel
theorem dLa_readRule_79 : decode mLa_readRule.2.1 79 = .ok (.istore_n 3, 1) := by decide +kernel
theorem dLa_readRule_80 : decode mLa_readRule.2.1 80 = .ok (.goto 64, 3) := by decide +kernel
theorem dLa_readRule_83 : decode mLa_readRule.2.1 83 = .ok (.aload_n 2, 1) := by decide +kernel
theorem dLa_readRule_84 : decode mLa_readRule.2.1 84 = .ok (.getstatic 74, 3) := by decide +kernel
theorem dLa_readRule_87 : decode mLa_readRule.2.1 87 = .ok (.if_acmp .ne 17, 3) := by decide +kernel
theorem dLa_readRule_90 : decode mLa_readRule.2.1 90 = .ok (.aload_n 0, 1) := by decide +kernel
theorem dLa_readRule_91 : decode mLa_readRule.2.1 91 = .ok (.aload_n 1, 1) := by decide +kernel
theorem dLa_readRule_92 : decode mLa_readRule.2.1 92 = .ok (.bipush 43, 2) := by decide +kernel
theorem dLa_readRule_94 : decode mLa_readRule.2.1 94 = .ok (.bipush 45, 2) := by decide +kernel
theorem dLa_readRule_96 : decode mLa_readRule.2.1 96 = .ok (.iconst 0, 1) := by decide +kernel
theorem dLa_readRule_97 : decode mLa_readRule.2.1 97 = .ok (.invokevirtual 77, 3) := by decide +kernel
theorem dLa_readRule_100 : decode mLa_readRule.2.1 100 = .ok (.istore_n 3, 1) := by decide +kernel
theorem dLa_readRule_101 : decode mLa_readRule.2.1 101 = .ok (.goto 43, 3) := by decide +kernel
theorem dLa_readRule_104 : decode mLa_readRule.2.1 104 = .ok (.aload_n 0, 1) := by decide +kernel
theorem dLa_readRule_105 : decode mLa_readRule.2.1 105 = .ok (.getfield 15, 3) := by decide +kernel
theorem dLa_readRule_108 : decode mLa_readRule.2.1 108 = .ok (.aload_n 0, 1) := by decide +kernel
theorem dLa_readRule_109 : decode mLa_readRule.2.1 109 = .ok (.getfield 30, 3) := by decide +kernel
theorem dLa_readRule_112 : decode mLa_readRule.2.1 112 = .ok (.aload_n 1, 1) := by decide +kernel
theorem dLa_readRule_113 : decode mLa_readRule.2.1 113 = .ok (.aload_n 2, 1) := by decide +kernel
theorem dLa_readRule_114 : decode mLa_readRule.2.1 114 = .ok (.getfield 81, 3) := by decide +kernel
theorem dLa_readRule_117 : decode mLa_readRule.2.1 117 = .ok (.aload_n 2, 1) := by decide +kernel
theorem dLa_readRule_118 : decode mLa_readRule.2.1 118 = .ok (.getfield 84, 3) := by decide +kernel
theorem dLa_readRule_121 : decode mLa_readRule.2.1 121 = .ok (.invokevirtual 87, 3) := by decide +kernel
theorem dLa_readRule_124 : decode mLa_readRule.2.1 124 = .ok (.iastore, 1) := by decide +kernel
theorem dLa_readRule_125 : decode mLa_readRule.2.1 125 = .ok (.aload_n 0, 1) := by decide +kernel
theorem dLa_readRule_126 : decode mLa_readRule.2.1 126 = .ok (.getfield 15, 3) := by decide +kernel
theorem dLa_readRule_129 : decode mLa_readRule.2.1 129 = .ok (.aload_n 0, 1) := by decide +kernel
theorem dLa_readRule_130 : decode mLa_readRule.2.1 130 = .ok (.getfield 30, 3) := by decide +kernel
theorem dLa_readRule_133 : decode mLa_readRule.2.1 133 = .ok (.iaload, 1) := by decide +kernel
theorem dLa_readRule_134 : decode mLa_readRule.2.1 134 = .ok (.iconst (-1), 1) := by decide +kernel
theorem dLa_readRule_135 : decode mLa_readRule.2.1 135 = .ok (.if_icmp .eq 7, 3) := by decide +kernel
theorem dLa_readRule_138 : decode mLa_readRule.2.1 138 = .ok (.iconst 1, 1) := by decide +kernel
theorem dLa_readRule_139 : decode mLa_readRule.2.1 139 = .ok (.goto 4, 3) := by decide +kernel
theorem dLa_readRule_142 : decode mLa_readRule.2.1 142 = .ok (.iconst 0, 1) := by decide +kernel
theorem dLa_readRule_143 : decode mLa_readRule.2.1 143 = .ok (.istore_n 3, 1) := by decide +kernel
theorem dLa_readRule_144 : decode mLa_readRule.2.1 144 = .ok (.aload_n 0, 1) := by decide +kernel
theorem dLa_readRule_145 : decode mLa_readRule.2.1 145 = .ok (.getfield 21, 3) := by decide +kernel
theorem dLa_readRule_148 : decode mLa_readRule.2.1 148 = .ok (.aload_n 0, 1) := by decide +kernel
theorem dLa_readRule_149 : decode mLa_readRule.2.1 149 = .ok (.getfield 30, 3) := by decide +kernel
theorem dLa_readRule_152 : decode mLa_readRule.2.1 152 = .ok (.aload_n 0, 1) := by decide +kernel
theorem dLa_readRule_153 : decode mLa_readRule.2.1 153 = .ok (.getfield 34, 3) := by decide +kernel
theorem dLa_readRule_156 : decode mLa_readRule.2.1 156 = .ok (.iastore, 1) := by decide +kernel
theorem dLa_readRule_157 : decode mLa_readRule.2.1 157 = .ok (.aload_n 0, 1) := by decide +kernel
theorem dLa_readRule_158 : decode mLa_readRule.2.1 158 = .ok (.dup, 1) := by decide +kernel
theorem dLa_readRule_159 : decode mLa_readRule.2.1 159 = .ok (.getfield 30, 3) := by decide +kernel
theorem dLa_readRule_162 : decode mLa_readRule.2.1 162 = .ok (.iconst 1, 1) := by decide +kernel
theorem dLa_readRule_163 : decode mLa_readRule.2.1 163 = .ok (.iadd, 1) := by decide +kernel
theorem dLa_readRule_164 : decode mLa_readRule.2.1 164 = .ok (.putfield 30, 3) := by decide +kernel
theorem dLa_readRule_167 : decode mLa_readRule.2.1 167 = .ok (.iload_n 3, 1) := by decide +kernel
theorem dLa_readRule_168 : decode mLa_readRule.2.1 168 = .ok (.ifCond .eq 16, 3) := by decide +kernel
theorem dLa_readRule_171 : decode mLa_readRule.2.1 171 = .ok (.aload_n 1, 1) := by decide +kernel
theorem dLa_readRule_172 : decode mLa_readRule.2.1 172 = .ok (.bipush 59, 2) := by decide +kernel
theorem dLa_readRule_174 : decode mLa_readRule.2.1 174 = .ok (.invokevirtual 91, 3) := by decide +kernel
theorem dLa_readRule_177 : decode mLa_readRule.2.1 177 = .ok (.ifCond .eq 7, 3) := by decide +kernel
theorem dLa_readRule_180 : decode mLa_readRule.2.1 180 = .ok (.iconst 1, 1) := by decide +kernel
theorem dLa_readRule_181 : decode mLa_readRule.2.1 181 = .ok (.goto 4, 3) := by decide +kernel
theorem dLa_readRule_184 : decode mLa_readRule.2.1 184 = .ok (.iconst 0, 1) := by decide +kernel
theorem dLa_readRule_185 : decode mLa_readRule.2.1 185 = .ok (.ireturn, 1) := by decide +kernel
theorem w949 : Cond.methodLink "BowingRow$Law" 47 ⟨"BowingRow$Tokens", "here", "()LBowingRow$Word;"⟩ ∈ lwg := lwg_of 949 (by decide +kernel) (by decide +kernel)
theorem bLa_readRule_0 {l : Launch} {G : Gx} {d : Nat} {bc bs : Nat} {Φ : OutV → Mm → Prop} (M : Mm) (a0 : Nat) (a1 : Nat)
    (h : ((m_sh M a1).1 = 8) ∧ CallVC l G d mLa_readRule 4 [.ref a0, .ref a1, .null, .null] [] mTo_here [.ref a1] M bc bs Φ) :
    Ev l G d mLa_readRule 0 [.ref a0, .ref a1, .null, .null] [] M bc bs Φ := by
  refine Ev.aload_n dLa_readRule_0 rfl ?_
  have g1 := h.1
  replace h := h.2
  exact Ev.vcV (z := mTo_here) (ci := 8) [] [] rfl dLa_readRule_1 oTo_here rfl w949 iTo_here sTo_here (by decide) rfl g1 (Nat.le_of_ble_eq_true rfl) h
theorem w1853 : Cond.fieldLink "BowingRow$Law" 51 "BowingRow$Word" "meaning" "I" ∈ lwg := lwg_of 1853 (by decide +kernel) (by decide +kernel)
theorem w951 : Cond.methodLink "BowingRow$Law" 60 ⟨"BowingRow$Tokens", "goOn", "()V"⟩ ∈ lwg := lwg_of 951 (by decide +kernel) (by decide +kernel)
theorem w950 : Cond.methodLink "BowingRow$Law" 56 ⟨"BowingRow$Tokens", "fail", "(I)Z"⟩ ∈ lwg := lwg_of 950 (by decide +kernel) (by decide +kernel)
theorem bLa_readRule_4 {l : Launch} {G : Gx} {d : Nat} {bc bs : Nat} {Φ : OutV → Mm → Prop} (M : Mm) (a0 : Nat) (a1 : Nat) (u2 : Value) (u3 : Value) (r0 : Nat)
    (h : (1 ≤ r0 ∧ r0 ≤ 23) ∧ (0 < (wM r0) → ((m_sh M a0).1 = 4) ∧ ((m_i M a0 7) < 10 → ((m_sh M a1).1 = 8) ∧ CallVC l G d mLa_readRule 37 [.ref a0, .ref a1, .ref r0, u3] [] mTo_goOn [.ref a1] M bc bs Φ) ∧ (¬ (m_i M a0 7) < 10 → ((m_sh M a1).1 = 8) ∧ CallVC l G d mLa_readRule 32 [.ref a0, .ref a1, .ref r0, u3] [] mTo_fail [.ref a1, .int 3] M bc bs Φ)) ∧ (¬ 0 < (wM r0) → ((m_sh M a1).1 = 8) ∧ CallVC l G d mLa_readRule 17 [.ref a0, .ref a1, .ref r0, u3] [] mTo_fail [.ref a1, .int 1] M bc bs Φ)) :
    Ev l G d mLa_readRule 4 [.ref a0, .ref a1, u2, u3] [.ref r0] M bc bs Φ := by
  refine Ev.astore_n dLa_readRule_4 (by decide) ?_
  show Ev l G d mLa_readRule (_ + _) [.ref a0, .ref a1, .ref r0, u3] [] M bc bs Φ
  refine Ev.aload_n dLa_readRule_5 rfl ?_
  have g1 := h.1
  replace h := h.2
  refine Ev.getF dLa_readRule_6 (wM_ok _ g1) w1853 ?_
  refine Ev.if_gt 18 (by decide) dLa_readRule_9 (fun c => ?_) (fun c => ?_)
  · replace h := h.1 c
    refine Ev.aload_n dLa_readRule_18 rfl ?_
    have g2 := h.1
    replace h := h.2
    refine Ev.getI dLa_readRule_19 (Or.inl fLa_30) rfl g2 ?_
    refine Ev.bipush (v := 10) dLa_readRule_22 (by decide) ?_
    refine Ev.icmp_lt 33 (by decide) dLa_readRule_24 (fun c => ?_) (fun c => ?_)
    · replace h := h.1 c
      refine Ev.aload_n dLa_readRule_33 rfl ?_
      have g3 := h.1
      replace h := h.2
      exact Ev.vcV (z := mTo_goOn) (ci := 8) [] [] rfl dLa_readRule_34 oTo_goOn rfl w951 iTo_goOn sTo_goOn (by decide) rfl g3 (Nat.le_of_ble_eq_true rfl) h
    · replace h := h.2 c
      refine Ev.aload_n dLa_readRule_27 rfl ?_
      refine Ev.iconst (v := 3) dLa_readRule_28 (by decide) ?_
      have g4 := h.1
      replace h := h.2
      exact Ev.vcV (z := mTo_fail) (ci := 8) [.int 3] [] rfl dLa_readRule_29 oTo_fail rfl w950 iTo_fail sTo_fail (by decide) rfl g4 (Nat.le_of_ble_eq_true rfl) h
  · replace h := h.2 c
    refine Ev.aload_n dLa_readRule_12 rfl ?_
    refine Ev.iconst (v := 1) dLa_readRule_13 (by decide) ?_
    have g5 := h.1
    replace h := h.2
    exact Ev.vcV (z := mTo_fail) (ci := 8) [.int 1] [] rfl dLa_readRule_14 oTo_fail rfl w950 iTo_fail sTo_fail (by decide) rfl g5 (Nat.le_of_ble_eq_true rfl) h
theorem bLa_readRule_17 {l : Launch} {G : Gx} {d : Nat} {bc bs : Nat} {Φ : OutV → Mm → Prop} (M : Mm) (a0 : Nat) (a1 : Nat) (a2 : Nat) (u3 : Value) (s0 : Int32)
    (h : (narrow .boolean (.int s0) = .int s0) ∧ Φ (.inl (some (.int s0))) M) :
    Ev l G d mLa_readRule 17 [.ref a0, .ref a1, .ref a2, u3] [.int s0] M bc bs Φ := by
  have g1 := h.1
  replace h := h.2
  exact Ev.iret dLa_readRule_17 rfl g1 h
theorem bLa_readRule_32 {l : Launch} {G : Gx} {d : Nat} {bc bs : Nat} {Φ : OutV → Mm → Prop} (M : Mm) (a0 : Nat) (a1 : Nat) (a2 : Nat) (u3 : Value) (s0 : Int32)
    (h : (narrow .boolean (.int s0) = .int s0) ∧ Φ (.inl (some (.int s0))) M) :
    Ev l G d mLa_readRule 32 [.ref a0, .ref a1, .ref a2, u3] [.int s0] M bc bs Φ := by
  have g1 := h.1
  replace h := h.2
  exact Ev.iret dLa_readRule_32 rfl g1 h
theorem bLa_readRule_37 {l : Launch} {G : Gx} {d : Nat} {bc bs : Nat} {Φ : OutV → Mm → Prop} (M : Mm) (a0 : Nat) (a1 : Nat) (a2 : Nat) (u3 : Value)
    (h : ((m_sh M a0).1 = 4) ∧ (1 ≤ a2 ∧ a2 ≤ 23) ∧ ((m_sh M (m_r M a0 0)).1 = 20) ∧ (vp_in (m_i M a0 7) (m_sh M (m_r M a0 0)).2) ∧ ((m_sh M (m_r M a0 2)).1 = 20) ∧ (vp_in (m_i (m_si M (m_r M a0 0) (m_i M a0 7).toNatClampNeg (wM a2)) a0 7) (m_sh M (m_r M a0 2)).2) ∧ Ev l G d mLa_readRule 63 [.ref a0, .ref a1, .ref a2, u3] [] (m_si (m_si M (m_r M a0 0) (m_i M a0 7).toNatClampNeg (wM a2)) (m_r M a0 2) (m_i (m_si M (m_r M a0 0) (m_i M a0 7).toNatClampNeg (wM a2)) a0 7).toNatClampNeg (m_i (m_si M (m_r M a0 0) (m_i M a0 7).toNatClampNeg (wM a2)) a0 6)) bc bs Φ) :
    Ev l G d mLa_readRule 37 [.ref a0, .ref a1, .ref a2, u3] [] M bc bs Φ := by
  refine Ev.aload_n dLa_readRule_37 rfl ?_
  have g1 := h.1
  replace h := h.2
  refine Ev.getR dLa_readRule_38 (Or.inl fLa_9) rfl g1 ?_
  refine Ev.aload_n dLa_readRule_41 rfl ?_
  refine Ev.getI dLa_readRule_42 (Or.inl fLa_30) rfl g1 ?_
  refine Ev.aload_n dLa_readRule_45 rfl ?_
  have g2 := h.1
  replace h := h.2
  refine Ev.getF dLa_readRule_46 (wM_ok _ g2) w1853 ?_
  have g3 := h.1
  replace h := h.2
  have g4 := h.1
  replace h := h.2
  refine Ev.iast2 dLa_readRule_49 g3 g4 ?_
  refine Ev.aload_n dLa_readRule_50 rfl ?_
  refine Ev.getR dLa_readRule_51 (Or.inl fLa_18) rfl g1 ?_
  refine Ev.aload_n dLa_readRule_54 rfl ?_
  refine Ev.getI dLa_readRule_55 (Or.inl fLa_30) rfl g1 ?_
  refine Ev.aload_n dLa_readRule_58 rfl ?_
  refine Ev.getI dLa_readRule_59 (Or.inl fLa_34) rfl g1 ?_
  have g5 := h.1
  replace h := h.2
  have g6 := h.1
  replace h := h.2
  refine Ev.iast2 dLa_readRule_62 g5 g6 ?_
  exact h
theorem w952 : Cond.fieldLink "BowingRow$Law" 63 "BowingRow$Word" "MUST" "LBowingRow$Word;" ∈ lwg := lwg_of 952 (by decide +kernel) (by decide +kernel)
theorem w989 : Cond.fieldLink "BowingRow$Law" 74 "BowingRow$Word" "WORTH" "LBowingRow$Word;" ∈ lwg := lwg_of 989 (by decide +kernel) (by decide +kernel)
theorem w1854 : Cond.fieldLink "BowingRow$Law" 81 "BowingRow$Word" "least" "I" ∈ lwg := lwg_of 1854 (by decide +kernel) (by decide +kernel)
theorem w1855 : Cond.fieldLink "BowingRow$Law" 84 "BowingRow$Word" "most" "I" ∈ lwg := lwg_of 1855 (by decide +kernel) (by decide +kernel)
theorem w985 : Cond.methodLink "BowingRow$Law" 87 ⟨"BowingRow$Tokens", "takeNumber", "(II)I"⟩ ∈ lwg := lwg_of 985 (by decide +kernel) (by decide +kernel)
def mLa_readSum : MR := (⟨"BowingRow$Law", "readSum", "(LBowingRow$Tokens;CCI)Z"⟩, prog_6_method_7_code, 8, (Option.some .boolean))
theorem oLa_readSum : MOK mLa_readSum 4 := ⟨lwg_of 980 (by decide +kernel) (by decide +kernel), lwg_of 94 (by decide +kernel) (by decide +kernel), ⟨by decide +kernel, by decide +kernel⟩, by decide +kernel, by decide⟩
theorem iLa_readSum : Cond.instanceMethod mLa_readSum.1 ∈ lwg := lwg_of 979 (by decide +kernel) (by decide +kernel)
theorem sLa_readSum : Cond.selects mLa_readSum.1.cls mLa_readSum.1 mLa_readSum.1 ∈ lwg := lwg_of 26 (by decide +kernel) (by decide +kernel)
theorem w977 : Cond.methodLink "BowingRow$Law" 77 ⟨"BowingRow$Law", "readSum", "(LBowingRow$Tokens;CCI)Z"⟩ ∈ lwg := lwg_of 977 (by decide +kernel) (by decide +kernel)
theorem w954 : Cond.fieldLink "BowingRow$Law" 67 "BowingRow$Word" "OR" "LBowingRow$Word;" ∈ lwg := lwg_of 954 (by decide +kernel) (by decide +kernel)
def mLa_readJoined : MR := (⟨"BowingRow$Law", "readJoined", "(LBowingRow$Tokens;LBowingRow$Word;I)Z"⟩, prog_6_method_5_code, 6, (Option.some .boolean))
theorem oLa_readJoined : MOK mLa_readJoined 3 := ⟨lwg_of 959 (by decide +kernel) (by decide +kernel), lwg_of 94 (by decide +kernel) (by decide +kernel), ⟨by decide +kernel, by decide +kernel⟩, by decide +kernel, by decide⟩
theorem iLa_readJoined : Cond.instanceMethod mLa_readJoined.1 ∈ lwg := lwg_of 958 (by decide +kernel) (by decide +kernel)
theorem sLa_readJoined : Cond.selects mLa_readJoined.1.cls mLa_readJoined.1 mLa_readJoined.1 ∈ lwg := lwg_of 23 (by decide +kernel) (by decide +kernel)
theorem w956 : Cond.methodLink "BowingRow$Law" 70 ⟨"BowingRow$Law", "readJoined", "(LBowingRow$Tokens;LBowingRow$Word;I)Z"⟩ ∈ lwg := lwg_of 956 (by decide +kernel) (by decide +kernel)
theorem bLa_readRule_63 {l : Launch} {G : Gx} {d : Nat} {bc bs : Nat} {Φ : OutV → Mm → Prop} (M : Mm) (a0 : Nat) (a1 : Nat) (a2 : Nat) (u3 : Value)
    (h : (1 ≤ a2 ∧ a2 ≤ 23) ∧ (¬ a2 = 13 → (¬ a2 = 12 → ((m_sh M a0).1 = 4) ∧ ((m_sh M a1).1 = 8) ∧ CallVC l G d mLa_readRule 124 [.ref a0, .ref a1, .ref a2, u3] [.int (m_i M a0 7), .ref (m_r M a0 1)] mTo_takeNumber [.ref a1, .int (wLo a2), .int (wHi a2)] M bc bs Φ) ∧ (a2 = 12 → ((m_sh M a0).1 = 4) ∧ CallVC l G d mLa_readRule 100 [.ref a0, .ref a1, .ref a2, u3] [] mLa_readSum [.ref a0, .ref a1, .int 43, .int 45, .int 0] M bc bs Φ)) ∧ (a2 = 13 → ((m_sh M a0).1 = 4) ∧ CallVC l G d mLa_readRule 79 [.ref a0, .ref a1, .ref a2, u3] [] mLa_readJoined [.ref a0, .ref a1, .ref 14, .int 0] M bc bs Φ)) :
    Ev l G d mLa_readRule 63 [.ref a0, .ref a1, .ref a2, u3] [] M bc bs Φ := by
  refine Ev.aload_n dLa_readRule_63 rfl ?_
  refine Ev.gets (C := "BowingRow$Word") (n := "MUST") (ds := "LBowingRow$Word;") (v := .ref 13) dLa_readRule_64 (by decide +kernel) (Or.inl w952) ?_
  have g1 := h.1
  replace h := h.2
  refine Ev.acmp_ne 83 (by decide) dLa_readRule_67 g1 (by decide) (fun c => ?_) (fun c => ?_)
  · replace h := h.1 c
    refine Ev.aload_n dLa_readRule_83 rfl ?_
    refine Ev.gets (C := "BowingRow$Word") (n := "WORTH") (ds := "LBowingRow$Word;") (v := .ref 12) dLa_readRule_84 (by decide +kernel) (Or.inl w989) ?_
    refine Ev.acmp_ne 104 (by decide) dLa_readRule_87 g1 (by decide) (fun c => ?_) (fun c => ?_)
    · replace h := h.1 c
      refine Ev.aload_n dLa_readRule_104 rfl ?_
      have g2 := h.1
      replace h := h.2
      refine Ev.getR dLa_readRule_105 (Or.inl fLa_15) rfl g2 ?_
      refine Ev.aload_n dLa_readRule_108 rfl ?_
      refine Ev.getI dLa_readRule_109 (Or.inl fLa_30) rfl g2 ?_
      refine Ev.aload_n dLa_readRule_112 rfl ?_
      refine Ev.aload_n dLa_readRule_113 rfl ?_
      refine Ev.getF dLa_readRule_114 (wLo_ok _ g1) w1854 ?_
      refine Ev.aload_n dLa_readRule_117 rfl ?_
      refine Ev.getF dLa_readRule_118 (wHi_ok _ g1) w1855 ?_
      have g3 := h.1
      replace h := h.2
      exact Ev.vcV (z := mTo_takeNumber) (ci := 8) [.int (wLo a2), .int (wHi a2)] [.int (m_i M a0 7), .ref (m_r M a0 1)] rfl dLa_readRule_121 oTo_takeNumber rfl w985 iTo_takeNumber sTo_takeNumber (by decide) rfl g3 (Nat.le_of_ble_eq_true rfl) h
    · replace h := h.2 c
      refine Ev.aload_n dLa_readRule_90 rfl ?_
      refine Ev.aload_n dLa_readRule_91 rfl ?_
      refine Ev.bipush (v := 43) dLa_readRule_92 (by decide) ?_
      refine Ev.bipush (v := 45) dLa_readRule_94 (by decide) ?_
      refine Ev.iconst (v := 0) dLa_readRule_96 (by decide) ?_
      have g4 := h.1
      replace h := h.2
      exact Ev.vcV (z := mLa_readSum) (ci := 4) [.ref a1, .int 43, .int 45, .int 0] [] rfl dLa_readRule_97 oLa_readSum rfl w977 iLa_readSum sLa_readSum (by decide) rfl g4 (Nat.le_of_ble_eq_true rfl) h
  · replace h := h.2 c
    refine Ev.aload_n dLa_readRule_70 rfl ?_
    refine Ev.aload_n dLa_readRule_71 rfl ?_
    refine Ev.gets (C := "BowingRow$Word") (n := "OR") (ds := "LBowingRow$Word;") (v := .ref 14) dLa_readRule_72 (by decide +kernel) (Or.inl w954) ?_
    refine Ev.iconst (v := 0) dLa_readRule_75 (by decide) ?_
    have g5 := h.1
    replace h := h.2
    exact Ev.vcV (z := mLa_readJoined) (ci := 4) [.ref a1, .ref 14, .int 0] [] rfl dLa_readRule_76 oLa_readJoined rfl w956 iLa_readJoined sLa_readJoined (by decide) rfl g5 (Nat.le_of_ble_eq_true rfl) h
theorem bLa_readRule_79 {l : Launch} {G : Gx} {d : Nat} {bc bs : Nat} {Φ : OutV → Mm → Prop} (M : Mm) (a0 : Nat) (a1 : Nat) (a2 : Nat) (u3 : Value) (s0 : Int32)
    (h : Ev l G d mLa_readRule 144 [.ref a0, .ref a1, .ref a2, .int s0] [] M bc bs Φ) :
    Ev l G d mLa_readRule 79 [.ref a0, .ref a1, .ref a2, u3] [.int s0] M bc bs Φ := by
  refine Ev.istore_n dLa_readRule_79 (by decide) ?_
  show Ev l G d mLa_readRule (_ + _) [.ref a0, .ref a1, .ref a2, .int s0] [] M bc bs Φ
  refine Ev.goto 144 dLa_readRule_80 (by decide) ?_
  exact h
theorem bLa_readRule_100 {l : Launch} {G : Gx} {d : Nat} {bc bs : Nat} {Φ : OutV → Mm → Prop} (M : Mm) (a0 : Nat) (a1 : Nat) (a2 : Nat) (u3 : Value) (s0 : Int32)
    (h : Ev l G d mLa_readRule 144 [.ref a0, .ref a1, .ref a2, .int s0] [] M bc bs Φ) :
    Ev l G d mLa_readRule 100 [.ref a0, .ref a1, .ref a2, u3] [.int s0] M bc bs Φ := by
  refine Ev.istore_n dLa_readRule_100 (by decide) ?_
  show Ev l G d mLa_readRule (_ + _) [.ref a0, .ref a1, .ref a2, .int s0] [] M bc bs Φ
  refine Ev.goto 144 dLa_readRule_101 (by decide) ?_
  exact h
theorem bLa_readRule_124 {l : Launch} {G : Gx} {d : Nat} {bc bs : Nat} {Φ : OutV → Mm → Prop} (M : Mm) (a0 : Nat) (a1 : Nat) (a2 : Nat) (u3 : Value) (r0 : Nat) (s1 : Int32) (s2 : Int32)
    (h : ((m_sh M r0).1 = 20) ∧ (vp_in s1 (m_sh M r0).2) ∧ ((m_sh M a0).1 = 4) ∧ ((m_sh M (m_r M a0 1)).1 = 20) ∧ (vp_in (m_i (m_si M r0 s1.toNatClampNeg s2) a0 7) (m_sh M (m_r M a0 1)).2) ∧ ((m_i (m_si M r0 s1.toNatClampNeg s2) (m_r M a0 1) (m_i (m_si M r0 s1.toNatClampNeg s2) a0 7).toNatClampNeg) = ((-1)) → Ev l G d mLa_readRule 144 [.ref a0, .ref a1, .ref a2, .int 0] [] (m_si M r0 s1.toNatClampNeg s2) bc bs Φ) ∧ (¬ (m_i (m_si M r0 s1.toNatClampNeg s2) (m_r M a0 1) (m_i (m_si M r0 s1.toNatClampNeg s2) a0 7).toNatClampNeg) = ((-1)) → Ev l G d mLa_readRule 144 [.ref a0, .ref a1, .ref a2, .int 1] [] (m_si M r0 s1.toNatClampNeg s2) bc bs Φ)) :
    Ev l G d mLa_readRule 124 [.ref a0, .ref a1, .ref a2, u3] [.int s2, .int s1, .ref r0] M bc bs Φ := by
  have g1 := h.1
  replace h := h.2
  have g2 := h.1
  replace h := h.2
  refine Ev.iast2 dLa_readRule_124 g1 g2 ?_
  refine Ev.aload_n dLa_readRule_125 rfl ?_
  have g3 := h.1
  replace h := h.2
  refine Ev.getR dLa_readRule_126 (Or.inl fLa_15) rfl g3 ?_
  refine Ev.aload_n dLa_readRule_129 rfl ?_
  refine Ev.getI dLa_readRule_130 (Or.inl fLa_30) rfl g3 ?_
  have g4 := h.1
  replace h := h.2
  have g5 := h.1
  replace h := h.2
  refine Ev.iald2 dLa_readRule_133 g4 g5 ?_
  refine Ev.iconst (v := (-1)) dLa_readRule_134 (by decide) ?_
  refine Ev.icmp_eq 142 (by decide) dLa_readRule_135 (fun c => ?_) (fun c => ?_)
  · replace h := h.1 c
    refine Ev.iconst (v := 0) dLa_readRule_142 (by decide) ?_
    refine Ev.istore_n dLa_readRule_143 (by decide) ?_
    show Ev l G d mLa_readRule (_ + _) [.ref a0, .ref a1, .ref a2, .int 0] [] (m_si M r0 s1.toNatClampNeg s2) bc bs Φ
    exact h
  · replace h := h.2 c
    refine Ev.iconst (v := 1) dLa_readRule_138 (by decide) ?_
    refine Ev.goto 143 dLa_readRule_139 (by decide) ?_
    refine Ev.istore_n dLa_readRule_143 (by decide) ?_
    show Ev l G d mLa_readRule (_ + _) [.ref a0, .ref a1, .ref a2, .int 1] [] (m_si M r0 s1.toNatClampNeg s2) bc bs Φ
    exact h
theorem bLa_readRule_144 {l : Launch} {G : Gx} {d : Nat} {bc bs : Nat} {Φ : OutV → Mm → Prop} (M : Mm) (a0 : Nat) (a1 : Nat) (a2 : Nat) (x3 : Int32)
    (h : ((m_sh M a0).1 = 4) ∧ ((m_sh M (m_r M a0 3)).1 = 20) ∧ (vp_in (m_i M a0 7) (m_sh M (m_r M a0 3)).2) ∧ Ev l G d mLa_readRule 167 [.ref a0, .ref a1, .ref a2, .int x3] [] (m_si (m_si M (m_r M a0 3) (m_i M a0 7).toNatClampNeg (m_i M a0 6)) a0 7 ((m_i (m_si M (m_r M a0 3) (m_i M a0 7).toNatClampNeg (m_i M a0 6)) a0 7) + 1)) bc bs Φ) :
    Ev l G d mLa_readRule 144 [.ref a0, .ref a1, .ref a2, .int x3] [] M bc bs Φ := by
  refine Ev.aload_n dLa_readRule_144 rfl ?_
  have g1 := h.1
  replace h := h.2
  refine Ev.getR dLa_readRule_145 (Or.inl fLa_21) rfl g1 ?_
  refine Ev.aload_n dLa_readRule_148 rfl ?_
  refine Ev.getI dLa_readRule_149 (Or.inl fLa_30) rfl g1 ?_
  refine Ev.aload_n dLa_readRule_152 rfl ?_
  refine Ev.getI dLa_readRule_153 (Or.inl fLa_34) rfl g1 ?_
  have g2 := h.1
  replace h := h.2
  have g3 := h.1
  replace h := h.2
  refine Ev.iast2 dLa_readRule_156 g2 g3 ?_
  refine Ev.aload_n dLa_readRule_157 rfl ?_
  refine Ev.dup dLa_readRule_158 rfl ?_
  refine Ev.getI dLa_readRule_159 (Or.inl fLa_30) rfl g1 ?_
  refine Ev.iconst (v := 1) dLa_readRule_162 (by decide) ?_
  refine Ev.iadd dLa_readRule_163 ?_
  refine Ev.putI dLa_readRule_164 ⟨_, Or.inl ⟨fLa_30, (fun h => by cases h)⟩⟩ rfl ⟨rfl, rfl⟩ g1 ?_
  exact h
theorem w976 : Cond.methodLink "BowingRow$Law" 91 ⟨"BowingRow$Tokens", "takeSign", "(C)Z"⟩ ∈ lwg := lwg_of 976 (by decide +kernel) (by decide +kernel)
theorem bLa_readRule_167 {l : Launch} {G : Gx} {d : Nat} {bc bs : Nat} {Φ : OutV → Mm → Prop} (M : Mm) (a0 : Nat) (a1 : Nat) (a2 : Nat) (x3 : Int32)
    (h : (x3 = 0 → Φ (.inl (some (.int 0))) M) ∧ (¬ x3 = 0 → ((m_sh M a1).1 = 8) ∧ CallVC l G d mLa_readRule 177 [.ref a0, .ref a1, .ref a2, .int x3] [] mTo_takeSign [.ref a1, .int 59] M bc bs Φ)) :
    Ev l G d mLa_readRule 167 [.ref a0, .ref a1, .ref a2, .int x3] [] M bc bs Φ := by
  refine Ev.iload_n dLa_readRule_167 rfl ?_
  refine Ev.if_eq 184 (by decide) dLa_readRule_168 (fun c => ?_) (fun c => ?_)
  · replace h := h.1 c
    refine Ev.iconst (v := 0) dLa_readRule_184 (by decide) ?_
    exact Ev.iret dLa_readRule_185 rfl rfl h
  · replace h := h.2 c
    refine Ev.aload_n dLa_readRule_171 rfl ?_
    refine Ev.bipush (v := 59) dLa_readRule_172 (by decide) ?_
    have g1 := h.1
    replace h := h.2
    exact Ev.vcV (z := mTo_takeSign) (ci := 8) [.int 59] [] rfl dLa_readRule_174 oTo_takeSign rfl w976 iTo_takeSign sTo_takeSign (by decide) rfl g1 (Nat.le_of_ble_eq_true rfl) h
theorem bLa_readRule_177 {l : Launch} {G : Gx} {d : Nat} {bc bs : Nat} {Φ : OutV → Mm → Prop} (M : Mm) (a0 : Nat) (a1 : Nat) (a2 : Nat) (x3 : Int32) (s0 : Int32)
    (h : (s0 = 0 → Φ (.inl (some (.int 0))) M) ∧ (¬ s0 = 0 → Φ (.inl (some (.int 1))) M)) :
    Ev l G d mLa_readRule 177 [.ref a0, .ref a1, .ref a2, .int x3] [.int s0] M bc bs Φ := by
  refine Ev.if_eq 184 (by decide) dLa_readRule_177 (fun c => ?_) (fun c => ?_)
  · replace h := h.1 c
    refine Ev.iconst (v := 0) dLa_readRule_184 (by decide) ?_
    exact Ev.iret dLa_readRule_185 rfl rfl h
  · replace h := h.2 c
    refine Ev.iconst (v := 1) dLa_readRule_180 (by decide) ?_
    refine Ev.goto 185 dLa_readRule_181 (by decide) ?_
    exact Ev.iret dLa_readRule_185 rfl rfl h
theorem dLa_readJoined_0 : decode mLa_readJoined.2.1 0 = .ok (.aload_n 2, 1) := by decide +kernel
theorem dLa_readJoined_1 : decode mLa_readJoined.2.1 1 = .ok (.getstatic 67, 3) := by decide +kernel
theorem dLa_readJoined_4 : decode mLa_readJoined.2.1 4 = .ok (.if_acmp .ne 15, 3) := by decide +kernel
theorem dLa_readJoined_7 : decode mLa_readJoined.2.1 7 = .ok (.aload_n 0, 1) := by decide +kernel
theorem dLa_readJoined_8 : decode mLa_readJoined.2.1 8 = .ok (.aload_n 1, 1) := by decide +kernel
theorem dLa_readJoined_9 : decode mLa_readJoined.2.1 9 = .ok (.getstatic 95, 3) := by decide +kernel
theorem dLa_readJoined_12 : decode mLa_readJoined.2.1 12 = .ok (.iload_n 3, 1) := by decide +kernel
theorem dLa_readJoined_13 : decode mLa_readJoined.2.1 13 = .ok (.invokevirtual 70, 3) := by decide +kernel
theorem dLa_readJoined_16 : decode mLa_readJoined.2.1 16 = .ok (.goto 9, 3) := by decide +kernel
theorem dLa_readJoined_19 : decode mLa_readJoined.2.1 19 = .ok (.aload_n 0, 1) := by decide +kernel
theorem dLa_readJoined_20 : decode mLa_readJoined.2.1 20 = .ok (.aload_n 1, 1) := by decide +kernel
theorem dLa_readJoined_21 : decode mLa_readJoined.2.1 21 = .ok (.iload_n 3, 1) := by decide +kernel
theorem dLa_readJoined_22 : decode mLa_readJoined.2.1 22 = .ok (.invokevirtual 98, 3) := by decide +kernel
theorem dLa_readJoined_25 : decode mLa_readJoined.2.1 25 = .ok (.istore 4, 2) := by decide +kernel
theorem dLa_readJoined_27 : decode mLa_readJoined.2.1 27 = .ok (.iconst 0, 1) := by decide +kernel
theorem dLa_readJoined_28 : decode mLa_readJoined.2.1 28 = .ok (.istore 5, 2) := by decide +kernel
theorem dLa_readJoined_30 : decode mLa_readJoined.2.1 30 = .ok (.iload 5, 2) := by decide +kernel
theorem dLa_readJoined_32 : decode mLa_readJoined.2.1 32 = .ok (.sipush 500, 3) := by decide +kernel
theorem dLa_readJoined_35 : decode mLa_readJoined.2.1 35 = .ok (.if_icmp .ge 71, 3) := by decide +kernel
theorem dLa_readJoined_38 : decode mLa_readJoined.2.1 38 = .ok (.iload 4, 2) := by decide +kernel
theorem dLa_readJoined_40 : decode mLa_readJoined.2.1 40 = .ok (.ifCond .eq 66, 3) := by decide +kernel
theorem dLa_readJoined_43 : decode mLa_readJoined.2.1 43 = .ok (.aload_n 1, 1) := by decide +kernel
theorem dLa_readJoined_44 : decode mLa_readJoined.2.1 44 = .ok (.invokevirtual 47, 3) := by decide +kernel
theorem dLa_readJoined_47 : decode mLa_readJoined.2.1 47 = .ok (.aload_n 2, 1) := by decide +kernel
theorem dLa_readJoined_48 : decode mLa_readJoined.2.1 48 = .ok (.if_acmp .ne 58, 3) := by decide +kernel
theorem dLa_readJoined_51 : decode mLa_readJoined.2.1 51 = .ok (.aload_n 1, 1) := by decide +kernel
theorem dLa_readJoined_52 : decode mLa_readJoined.2.1 52 = .ok (.invokevirtual 60, 3) := by decide +kernel
theorem dLa_readJoined_55 : decode mLa_readJoined.2.1 55 = .ok (.aload_n 2, 1) := by decide +kernel
theorem dLa_readJoined_56 : decode mLa_readJoined.2.1 56 = .ok (.getstatic 67, 3) := by decide +kernel
theorem dLa_readJoined_59 : decode mLa_readJoined.2.1 59 = .ok (.if_acmp .ne 15, 3) := by decide +kernel
theorem dLa_readJoined_62 : decode mLa_readJoined.2.1 62 = .ok (.aload_n 0, 1) := by decide +kernel
theorem dLa_readJoined_63 : decode mLa_readJoined.2.1 63 = .ok (.aload_n 1, 1) := by decide +kernel
theorem dLa_readJoined_64 : decode mLa_readJoined.2.1 64 = .ok (.getstatic 95, 3) := by decide +kernel
theorem dLa_readJoined_67 : decode mLa_readJoined.2.1 67 = .ok (.iload_n 3, 1) := by decide +kernel
theorem dLa_readJoined_68 : decode mLa_readJoined.2.1 68 = .ok (.invokevirtual 70, 3) := by decide +kernel
theorem dLa_readJoined_71 : decode mLa_readJoined.2.1 71 = .ok (.goto 9, 3) := by decide +kernel
theorem dLa_readJoined_74 : decode mLa_readJoined.2.1 74 = .ok (.aload_n 0, 1) := by decide +kernel
theorem dLa_readJoined_75 : decode mLa_readJoined.2.1 75 = .ok (.aload_n 1, 1) := by decide +kernel
theorem dLa_readJoined_76 : decode mLa_readJoined.2.1 76 = .ok (.iload_n 3, 1) := by decide +kernel
theorem dLa_readJoined_77 : decode mLa_readJoined.2.1 77 = .ok (.invokevirtual 98, 3) := by decide +kernel
theorem dLa_readJoined_80 : decode mLa_readJoined.2.1 80 = .ok (.istore 4, 2) := by decide +kernel
theorem dLa_readJoined_82 : decode mLa_readJoined.2.1 82 = .ok (.aload_n 0, 1) := by decide +kernel
theorem dLa_readJoined_83 : decode mLa_readJoined.2.1 83 = .ok (.aload_n 2, 1) := by decide +kernel
theorem dLa_readJoined_84 : decode mLa_readJoined.2.1 84 = .ok (.getstatic 67, 3) := by decide +kernel
theorem dLa_readJoined_87 : decode mLa_readJoined.2.1 87 = .ok (.if_acmp .ne 8, 3) := by decide +kernel
theorem dLa_readJoined_90 : decode mLa_readJoined.2.1 90 = .ok (.bipush (-17), 2) := by decide +kernel
theorem dLa_readJoined_92 : decode mLa_readJoined.2.1 92 = .ok (.goto 5, 3) := by decide +kernel
theorem dLa_readJoined_95 : decode mLa_readJoined.2.1 95 = .ok (.bipush (-16), 2) := by decide +kernel
theorem dLa_readJoined_97 : decode mLa_readJoined.2.1 97 = .ok (.invokevirtual 102, 3) := by decide +kernel
theorem dLa_readJoined_100 : decode mLa_readJoined.2.1 100 = .ok (.iinc 5 1, 3) := by decide +kernel
theorem dLa_readJoined_103 : decode mLa_readJoined.2.1 103 = .ok (.goto (-73), 3) := by decide +kernel
theorem dLa_readJoined_106 : decode mLa_readJoined.2.1 106 = .ok (.iload 4, 2) := by decide +kernel
theorem dLa_readJoined_108 : decode mLa_readJoined.2.1 108 = .ok (.ireturn, 1) := by decide +kernel
def mLa_readClaim : MR := (⟨"BowingRow$Law", "readClaim", "(LBowingRow$Tokens;I)Z"⟩, prog_6_method_6_code, 7, (Option.some .boolean))
theorem oLa_readClaim : MOK mLa_readClaim 2 := ⟨lwg_of 965 (by decide +kernel) (by decide +kernel), lwg_of 94 (by decide +kernel) (by decide +kernel), ⟨by decide +kernel, by decide +kernel⟩, by decide +kernel, by decide⟩
theorem iLa_readClaim : Cond.instanceMethod mLa_readClaim.1 ∈ lwg := lwg_of 964 (by decide +kernel) (by decide +kernel)
theorem sLa_readClaim : Cond.selects mLa_readClaim.1.cls mLa_readClaim.1 mLa_readClaim.1 ∈ lwg := lwg_of 24 (by decide +kernel) (by decide +kernel)
theorem w962 : Cond.methodLink "BowingRow$Law" 98 ⟨"BowingRow$Law", "readClaim", "(LBowingRow$Tokens;I)Z"⟩ ∈ lwg := lwg_of 962 (by decide +kernel) (by decide +kernel)
theorem w960 : Cond.fieldLink "BowingRow$Law" 95 "BowingRow$Word" "AND" "LBowingRow$Word;" ∈ lwg := lwg_of 960 (by decide +kernel) (by decide +kernel)
theorem bLa_readJoined_0 {l : Launch} {G : Gx} {d : Nat} {bc bs : Nat} {Φ : OutV → Mm → Prop} (M : Mm) (a0 : Nat) (a1 : Nat) (a2 : Nat) (x3 : Int32)
    (h : (1 ≤ a2 ∧ a2 ≤ 23) ∧ (¬ a2 = 14 → ((m_sh M a0).1 = 4) ∧ CallVC l G d mLa_readJoined 25 [.ref a0, .ref a1, .ref a2, .int x3, .null, .null] [] mLa_readClaim [.ref a0, .ref a1, .int x3] M bc bs Φ) ∧ (a2 = 14 → ((m_sh M a0).1 = 4) ∧ CallVC l G d mLa_readJoined 16 [.ref a0, .ref a1, .ref a2, .int x3, .null, .null] [] mLa_readJoined [.ref a0, .ref a1, .ref 15, .int x3] M bc bs Φ)) :
    Ev l G d mLa_readJoined 0 [.ref a0, .ref a1, .ref a2, .int x3, .null, .null] [] M bc bs Φ := by
  refine Ev.aload_n dLa_readJoined_0 rfl ?_
  refine Ev.gets (C := "BowingRow$Word") (n := "OR") (ds := "LBowingRow$Word;") (v := .ref 14) dLa_readJoined_1 (by decide +kernel) (Or.inl w954) ?_
  have g1 := h.1
  replace h := h.2
  refine Ev.acmp_ne 19 (by decide) dLa_readJoined_4 g1 (by decide) (fun c => ?_) (fun c => ?_)
  · replace h := h.1 c
    refine Ev.aload_n dLa_readJoined_19 rfl ?_
    refine Ev.aload_n dLa_readJoined_20 rfl ?_
    refine Ev.iload_n dLa_readJoined_21 rfl ?_
    have g2 := h.1
    replace h := h.2
    exact Ev.vcV (z := mLa_readClaim) (ci := 4) [.ref a1, .int x3] [] rfl dLa_readJoined_22 oLa_readClaim rfl w962 iLa_readClaim sLa_readClaim (by decide) rfl g2 (Nat.le_of_ble_eq_true rfl) h
  · replace h := h.2 c
    refine Ev.aload_n dLa_readJoined_7 rfl ?_
    refine Ev.aload_n dLa_readJoined_8 rfl ?_
    refine Ev.gets (C := "BowingRow$Word") (n := "AND") (ds := "LBowingRow$Word;") (v := .ref 15) dLa_readJoined_9 (by decide +kernel) (Or.inl w960) ?_
    refine Ev.iload_n dLa_readJoined_12 rfl ?_
    have g3 := h.1
    replace h := h.2
    exact Ev.vcV (z := mLa_readJoined) (ci := 4) [.ref a1, .ref 15, .int x3] [] rfl dLa_readJoined_13 oLa_readJoined rfl w956 iLa_readJoined sLa_readJoined (by decide) rfl g3 (Nat.le_of_ble_eq_true rfl) h
theorem bLa_readJoined_16 {l : Launch} {G : Gx} {d : Nat} {bc bs : Nat} {Φ : OutV → Mm → Prop} (M : Mm) (a0 : Nat) (a1 : Nat) (a2 : Nat) (x3 : Int32) (u4 : Value) (u5 : Value) (s0 : Int32)
    (h : Ev l G d mLa_readJoined 25 [.ref a0, .ref a1, .ref a2, .int x3, u4, u5] [.int s0] M bc bs Φ) :
    Ev l G d mLa_readJoined 16 [.ref a0, .ref a1, .ref a2, .int x3, u4, u5] [.int s0] M bc bs Φ := by
  refine Ev.goto 25 dLa_readJoined_16 (by decide) ?_
  exact h
theorem bLa_readJoined_25 {l : Launch} {G : Gx} {d : Nat} {bc bs : Nat} {Φ : OutV → Mm → Prop} (M : Mm) (a0 : Nat) (a1 : Nat) (a2 : Nat) (x3 : Int32) (u4 : Value) (u5 : Value) (s0 : Int32)
    (h : Ev l G d mLa_readJoined 30 [.ref a0, .ref a1, .ref a2, .int x3, .int s0, .int 0] [] M bc bs Φ) :
    Ev l G d mLa_readJoined 25 [.ref a0, .ref a1, .ref a2, .int x3, u4, u5] [.int s0] M bc bs Φ := by
  refine Ev.istore dLa_readJoined_25 (by decide) ?_
  show Ev l G d mLa_readJoined (_ + _) [.ref a0, .ref a1, .ref a2, .int x3, .int s0, u5] [] M bc bs Φ
  refine Ev.iconst (v := 0) dLa_readJoined_27 (by decide) ?_
  refine Ev.istore dLa_readJoined_28 (by decide) ?_
  show Ev l G d mLa_readJoined (_ + _) [.ref a0, .ref a1, .ref a2, .int x3, .int s0, .int 0] [] M bc bs Φ
  exact h
theorem bLa_readJoined_30 {l : Launch} {G : Gx} {d : Nat} {bc bs : Nat} {Φ : OutV → Mm → Prop} (M : Mm) (a0 : Nat) (a1 : Nat) (a2 : Nat) (x3 : Int32) (x4 : Int32) (x5 : Int32)
    (h : (500 ≤ x5 → (narrow .boolean (.int x4) = .int x4) ∧ Φ (.inl (some (.int x4))) M) ∧ (¬ 500 ≤ x5 → (x4 = 0 → (narrow .boolean (.int x4) = .int x4) ∧ Φ (.inl (some (.int x4))) M) ∧ (¬ x4 = 0 → ((m_sh M a1).1 = 8) ∧ CallVC l G d mLa_readJoined 47 [.ref a0, .ref a1, .ref a2, .int x3, .int x4, .int x5] [] mTo_here [.ref a1] M bc bs Φ))) :
    Ev l G d mLa_readJoined 30 [.ref a0, .ref a1, .ref a2, .int x3, .int x4, .int x5] [] M bc bs Φ := by
  refine Ev.iload dLa_readJoined_30 rfl ?_
  refine Ev.sipush (v := 500) dLa_readJoined_32 (by decide) ?_
  refine Ev.icmp_ge 106 (by decide) dLa_readJoined_35 (fun c => ?_) (fun c => ?_)
  · replace h := h.1 c
    refine Ev.iload dLa_readJoined_106 rfl ?_
    have g1 := h.1
    replace h := h.2
    exact Ev.iret dLa_readJoined_108 rfl g1 h
  · replace h := h.2 c
    refine Ev.iload dLa_readJoined_38 rfl ?_
    refine Ev.if_eq 106 (by decide) dLa_readJoined_40 (fun c => ?_) (fun c => ?_)
    · replace h := h.1 c
      refine Ev.iload dLa_readJoined_106 rfl ?_
      have g2 := h.1
      replace h := h.2
      exact Ev.iret dLa_readJoined_108 rfl g2 h
    · replace h := h.2 c
      refine Ev.aload_n dLa_readJoined_43 rfl ?_
      have g3 := h.1
      replace h := h.2
      exact Ev.vcV (z := mTo_here) (ci := 8) [] [] rfl dLa_readJoined_44 oTo_here rfl w949 iTo_here sTo_here (by decide) rfl g3 (Nat.le_of_ble_eq_true rfl) h
theorem bLa_readJoined_47 {l : Launch} {G : Gx} {d : Nat} {bc bs : Nat} {Φ : OutV → Mm → Prop} (M : Mm) (a0 : Nat) (a1 : Nat) (a2 : Nat) (x3 : Int32) (x4 : Int32) (x5 : Int32) (r0 : Nat)
    (h : (1 ≤ r0 ∧ r0 ≤ 23) ∧ (1 ≤ a2 ∧ a2 ≤ 23) ∧ (¬ r0 = a2 → (narrow .boolean (.int x4) = .int x4) ∧ Φ (.inl (some (.int x4))) M) ∧ (r0 = a2 → ((m_sh M a1).1 = 8) ∧ CallVC l G d mLa_readJoined 55 [.ref a0, .ref a1, .ref a2, .int x3, .int x4, .int x5] [] mTo_goOn [.ref a1] M bc bs Φ)) :
    Ev l G d mLa_readJoined 47 [.ref a0, .ref a1, .ref a2, .int x3, .int x4, .int x5] [.ref r0] M bc bs Φ := by
  refine Ev.aload_n dLa_readJoined_47 rfl ?_
  have g1 := h.1
  replace h := h.2
  have g2 := h.1
  replace h := h.2
  refine Ev.acmp_ne 106 (by decide) dLa_readJoined_48 g1 g2 (fun c => ?_) (fun c => ?_)
  · replace h := h.1 c
    refine Ev.iload dLa_readJoined_106 rfl ?_
    have g3 := h.1
    replace h := h.2
    exact Ev.iret dLa_readJoined_108 rfl g3 h
  · replace h := h.2 c
    refine Ev.aload_n dLa_readJoined_51 rfl ?_
    have g4 := h.1
    replace h := h.2
    exact Ev.vcV (z := mTo_goOn) (ci := 8) [] [] rfl dLa_readJoined_52 oTo_goOn rfl w951 iTo_goOn sTo_goOn (by decide) rfl g4 (Nat.le_of_ble_eq_true rfl) h
theorem bLa_readJoined_55 {l : Launch} {G : Gx} {d : Nat} {bc bs : Nat} {Φ : OutV → Mm → Prop} (M : Mm) (a0 : Nat) (a1 : Nat) (a2 : Nat) (x3 : Int32) (x4 : Int32) (x5 : Int32)
    (h : (1 ≤ a2 ∧ a2 ≤ 23) ∧ (¬ a2 = 14 → ((m_sh M a0).1 = 4) ∧ CallVC l G d mLa_readJoined 80 [.ref a0, .ref a1, .ref a2, .int x3, .int x4, .int x5] [] mLa_readClaim [.ref a0, .ref a1, .int x3] M bc bs Φ) ∧ (a2 = 14 → ((m_sh M a0).1 = 4) ∧ CallVC l G d mLa_readJoined 71 [.ref a0, .ref a1, .ref a2, .int x3, .int x4, .int x5] [] mLa_readJoined [.ref a0, .ref a1, .ref 15, .int x3] M bc bs Φ)) :
    Ev l G d mLa_readJoined 55 [.ref a0, .ref a1, .ref a2, .int x3, .int x4, .int x5] [] M bc bs Φ := by
  refine Ev.aload_n dLa_readJoined_55 rfl ?_
  refine Ev.gets (C := "BowingRow$Word") (n := "OR") (ds := "LBowingRow$Word;") (v := .ref 14) dLa_readJoined_56 (by decide +kernel) (Or.inl w954) ?_
  have g1 := h.1
  replace h := h.2
  refine Ev.acmp_ne 74 (by decide) dLa_readJoined_59 g1 (by decide) (fun c => ?_) (fun c => ?_)
  · replace h := h.1 c
    refine Ev.aload_n dLa_readJoined_74 rfl ?_
    refine Ev.aload_n dLa_readJoined_75 rfl ?_
    refine Ev.iload_n dLa_readJoined_76 rfl ?_
    have g2 := h.1
    replace h := h.2
    exact Ev.vcV (z := mLa_readClaim) (ci := 4) [.ref a1, .int x3] [] rfl dLa_readJoined_77 oLa_readClaim rfl w962 iLa_readClaim sLa_readClaim (by decide) rfl g2 (Nat.le_of_ble_eq_true rfl) h
  · replace h := h.2 c
    refine Ev.aload_n dLa_readJoined_62 rfl ?_
    refine Ev.aload_n dLa_readJoined_63 rfl ?_
    refine Ev.gets (C := "BowingRow$Word") (n := "AND") (ds := "LBowingRow$Word;") (v := .ref 15) dLa_readJoined_64 (by decide +kernel) (Or.inl w960) ?_
    refine Ev.iload_n dLa_readJoined_67 rfl ?_
    have g3 := h.1
    replace h := h.2
    exact Ev.vcV (z := mLa_readJoined) (ci := 4) [.ref a1, .ref 15, .int x3] [] rfl dLa_readJoined_68 oLa_readJoined rfl w956 iLa_readJoined sLa_readJoined (by decide) rfl g3 (Nat.le_of_ble_eq_true rfl) h
theorem bLa_readJoined_71 {l : Launch} {G : Gx} {d : Nat} {bc bs : Nat} {Φ : OutV → Mm → Prop} (M : Mm) (a0 : Nat) (a1 : Nat) (a2 : Nat) (x3 : Int32) (x4 : Int32) (x5 : Int32) (s0 : Int32)
    (h : Ev l G d mLa_readJoined 80 [.ref a0, .ref a1, .ref a2, .int x3, .int x4, .int x5] [.int s0] M bc bs Φ) :
    Ev l G d mLa_readJoined 71 [.ref a0, .ref a1, .ref a2, .int x3, .int x4, .int x5] [.int s0] M bc bs Φ := by
  refine Ev.goto 80 dLa_readJoined_71 (by decide) ?_
  exact h
def mLa_addStep : MR := (⟨"BowingRow$Law", "addStep", "(I)V"⟩, prog_6_method_4_code, 2, none)
theorem oLa_addStep : MOK mLa_addStep 1 := ⟨lwg_of 975 (by decide +kernel) (by decide +kernel), lwg_of 94 (by decide +kernel) (by decide +kernel), ⟨by decide +kernel, by decide +kernel⟩, by decide +kernel, by decide⟩
theorem iLa_addStep : Cond.instanceMethod mLa_addStep.1 ∈ lwg := lwg_of 974 (by decide +kernel) (by decide +kernel)
theorem sLa_addStep : Cond.selects mLa_addStep.1.cls mLa_addStep.1 mLa_addStep.1 ∈ lwg := lwg_of 25 (by decide +kernel) (by decide +kernel)
theorem w972 : Cond.methodLink "BowingRow$Law" 102 ⟨"BowingRow$Law", "addStep", "(I)V"⟩ ∈ lwg := lwg_of 972 (by decide +kernel) (by decide +kernel)
theorem bLa_readJoined_80 {l : Launch} {G : Gx} {d : Nat} {bc bs : Nat} {Φ : OutV → Mm → Prop} (M : Mm) (a0 : Nat) (a1 : Nat) (a2 : Nat) (x3 : Int32) (x4 : Int32) (x5 : Int32) (s0 : Int32)
    (h : (1 ≤ a2 ∧ a2 ≤ 23) ∧ (¬ a2 = 14 → ((m_sh M a0).1 = 4) ∧ CallVC l G d mLa_readJoined 100 [.ref a0, .ref a1, .ref a2, .int x3, .int s0, .int x5] [] mLa_addStep [.ref a0, .int ((-16))] M bc bs Φ) ∧ (a2 = 14 → ((m_sh M a0).1 = 4) ∧ CallVC l G d mLa_readJoined 100 [.ref a0, .ref a1, .ref a2, .int x3, .int s0, .int x5] [] mLa_addStep [.ref a0, .int ((-17))] M bc bs Φ)) :
    Ev l G d mLa_readJoined 80 [.ref a0, .ref a1, .ref a2, .int x3, .int x4, .int x5] [.int s0] M bc bs Φ := by
  refine Ev.istore dLa_readJoined_80 (by decide) ?_
  show Ev l G d mLa_readJoined (_ + _) [.ref a0, .ref a1, .ref a2, .int x3, .int s0, .int x5] [] M bc bs Φ
  refine Ev.aload_n dLa_readJoined_82 rfl ?_
  refine Ev.aload_n dLa_readJoined_83 rfl ?_
  refine Ev.gets (C := "BowingRow$Word") (n := "OR") (ds := "LBowingRow$Word;") (v := .ref 14) dLa_readJoined_84 (by decide +kernel) (Or.inl w954) ?_
  have g1 := h.1
  replace h := h.2
  refine Ev.acmp_ne 95 (by decide) dLa_readJoined_87 g1 (by decide) (fun c => ?_) (fun c => ?_)
  · replace h := h.1 c
    refine Ev.bipush (v := (-16)) dLa_readJoined_95 (by decide) ?_
    have g2 := h.1
    replace h := h.2
    exact Ev.vcV (z := mLa_addStep) (ci := 4) [.int ((-16))] [] rfl dLa_readJoined_97 oLa_addStep rfl w972 iLa_addStep sLa_addStep (by decide) rfl g2 (Nat.le_of_ble_eq_true rfl) h
  · replace h := h.2 c
    refine Ev.bipush (v := (-17)) dLa_readJoined_90 (by decide) ?_
    refine Ev.goto 97 dLa_readJoined_92 (by decide) ?_
    have g3 := h.1
    replace h := h.2
    exact Ev.vcV (z := mLa_addStep) (ci := 4) [.int ((-17))] [] rfl dLa_readJoined_97 oLa_addStep rfl w972 iLa_addStep sLa_addStep (by decide) rfl g3 (Nat.le_of_ble_eq_true rfl) h
theorem bLa_readJoined_100 {l : Launch} {G : Gx} {d : Nat} {bc bs : Nat} {Φ : OutV → Mm → Prop} (M : Mm) (a0 : Nat) (a1 : Nat) (a2 : Nat) (x3 : Int32) (x4 : Int32) (x5 : Int32)
    (h : Ev l G d mLa_readJoined 30 [.ref a0, .ref a1, .ref a2, .int x3, .int x4, .int (x5 + 1)] [] M bc bs Φ) :
    Ev l G d mLa_readJoined 100 [.ref a0, .ref a1, .ref a2, .int x3, .int x4, .int x5] [] M bc bs Φ := by
  refine Ev.iinc (v := x5 + 1) dLa_readJoined_100 (by decide) rfl rfl ?_
  show Ev l G d mLa_readJoined (_ + _) [.ref a0, .ref a1, .ref a2, .int x3, .int x4, .int (x5 + 1)] [] M bc bs Φ
  refine Ev.goto 30 dLa_readJoined_103 (by decide) ?_
  exact h
theorem dLa_readClaim_0 : decode mLa_readClaim.2.1 0 = .ok (.aload_n 1, 1) := by decide +kernel
theorem dLa_readClaim_1 : decode mLa_readClaim.2.1 1 = .ok (.invokevirtual 47, 3) := by decide +kernel
theorem dLa_readClaim_4 : decode mLa_readClaim.2.1 4 = .ok (.getstatic 106, 3) := by decide +kernel
theorem dLa_readClaim_7 : decode mLa_readClaim.2.1 7 = .ok (.if_acmp .ne 7, 3) := by decide +kernel
theorem dLa_readClaim_10 : decode mLa_readClaim.2.1 10 = .ok (.iconst 1, 1) := by decide +kernel
theorem dLa_readClaim_11 : decode mLa_readClaim.2.1 11 = .ok (.goto 4, 3) := by decide +kernel
theorem dLa_readClaim_14 : decode mLa_readClaim.2.1 14 = .ok (.iconst 0, 1) := by decide +kernel
theorem dLa_readClaim_15 : decode mLa_readClaim.2.1 15 = .ok (.istore_n 3, 1) := by decide +kernel
theorem dLa_readClaim_16 : decode mLa_readClaim.2.1 16 = .ok (.aload_n 1, 1) := by decide +kernel
theorem dLa_readClaim_17 : decode mLa_readClaim.2.1 17 = .ok (.invokevirtual 109, 3) := by decide +kernel
theorem dLa_readClaim_20 : decode mLa_readClaim.2.1 20 = .ok (.bipush 91, 2) := by decide +kernel
theorem dLa_readClaim_22 : decode mLa_readClaim.2.1 22 = .ok (.if_icmp .ne 7, 3) := by decide +kernel
theorem dLa_readClaim_25 : decode mLa_readClaim.2.1 25 = .ok (.iconst 1, 1) := by decide +kernel
theorem dLa_readClaim_26 : decode mLa_readClaim.2.1 26 = .ok (.goto 4, 3) := by decide +kernel
theorem dLa_readClaim_29 : decode mLa_readClaim.2.1 29 = .ok (.iconst 0, 1) := by decide +kernel
theorem dLa_readClaim_30 : decode mLa_readClaim.2.1 30 = .ok (.istore 4, 2) := by decide +kernel
theorem dLa_readClaim_32 : decode mLa_readClaim.2.1 32 = .ok (.iload_n 3, 1) := by decide +kernel
theorem dLa_readClaim_33 : decode mLa_readClaim.2.1 33 = .ok (.ifCond .ne 8, 3) := by decide +kernel
theorem dLa_readClaim_36 : decode mLa_readClaim.2.1 36 = .ok (.iload 4, 2) := by decide +kernel
theorem dLa_readClaim_38 : decode mLa_readClaim.2.1 38 = .ok (.ifCond .eq 15, 3) := by decide +kernel
theorem dLa_readClaim_41 : decode mLa_readClaim.2.1 41 = .ok (.iload_n 2, 1) := by decide +kernel
theorem dLa_readClaim_42 : decode mLa_readClaim.2.1 42 = .ok (.bipush 6, 2) := by decide +kernel
theorem dLa_readClaim_44 : decode mLa_readClaim.2.1 44 = .ok (.if_icmp .lt 9, 3) := by decide +kernel
theorem dLa_readClaim_47 : decode mLa_readClaim.2.1 47 = .ok (.aload_n 1, 1) := by decide +kernel
theorem dLa_readClaim_48 : decode mLa_readClaim.2.1 48 = .ok (.iconst 3, 1) := by decide +kernel
theorem dLa_readClaim_49 : decode mLa_readClaim.2.1 49 = .ok (.invokevirtual 56, 3) := by decide +kernel
theorem dLa_readClaim_52 : decode mLa_readClaim.2.1 52 = .ok (.ireturn, 1) := by decide +kernel
theorem dLa_readClaim_53 : decode mLa_readClaim.2.1 53 = .ok (.iload_n 3, 1) := by decide +kernel
theorem dLa_readClaim_54 : decode mLa_readClaim.2.1 54 = .ok (.ifCond .eq 26, 3) := by decide +kernel
theorem dLa_readClaim_57 : decode mLa_readClaim.2.1 57 = .ok (.aload_n 1, 1) := by decide +kernel
theorem dLa_readClaim_58 : decode mLa_readClaim.2.1 58 = .ok (.invokevirtual 60, 3) := by decide +kernel
theorem dLa_readClaim_61 : decode mLa_readClaim.2.1 61 = .ok (.aload_n 0, 1) := by decide +kernel
theorem dLa_readClaim_62 : decode mLa_readClaim.2.1 62 = .ok (.aload_n 1, 1) := by decide +kernel
theorem dLa_readClaim_63 : decode mLa_readClaim.2.1 63 = .ok (.iload_n 2, 1) := by decide +kernel
theorem dLa_readClaim_64 : decode mLa_readClaim.2.1 64 = .ok (.iconst 1, 1) := by decide +kernel
theorem dLa_readClaim_65 : decode mLa_readClaim.2.1 65 = .ok (.iadd, 1) := by decide +kernel
theorem dLa_readClaim_66 : decode mLa_readClaim.2.1 66 = .ok (.invokevirtual 98, 3) := by decide +kernel
theorem dLa_readClaim_69 : decode mLa_readClaim.2.1 69 = .ok (.istore 5, 2) := by decide +kernel
theorem dLa_readClaim_71 : decode mLa_readClaim.2.1 71 = .ok (.aload_n 0, 1) := by decide +kernel
theorem dLa_readClaim_72 : decode mLa_readClaim.2.1 72 = .ok (.bipush (-8), 2) := by decide +kernel
theorem dLa_readClaim_74 : decode mLa_readClaim.2.1 74 = .ok (.invokevirtual 102, 3) := by decide +kernel
theorem dLa_readClaim_77 : decode mLa_readClaim.2.1 77 = .ok (.iload 5, 2) := by decide +kernel
theorem dLa_readClaim_79 : decode mLa_readClaim.2.1 79 = .ok (.ireturn, 1) := by decide +kernel
theorem dLa_readClaim_80 : decode mLa_readClaim.2.1 80 = .ok (.iload 4, 2) := by decide +kernel
theorem dLa_readClaim_82 : decode mLa_readClaim.2.1 82 = .ok (.ifCond .eq 36, 3) := by decide +kernel
theorem dLa_readClaim_85 : decode mLa_readClaim.2.1 85 = .ok (.aload_n 1, 1) := by decide +kernel
theorem dLa_readClaim_86 : decode mLa_readClaim.2.1 86 = .ok (.invokevirtual 60, 3) := by decide +kernel
theorem dLa_readClaim_89 : decode mLa_readClaim.2.1 89 = .ok (.aload_n 0, 1) := by decide +kernel
theorem dLa_readClaim_90 : decode mLa_readClaim.2.1 90 = .ok (.aload_n 1, 1) := by decide +kernel
theorem dLa_readClaim_91 : decode mLa_readClaim.2.1 91 = .ok (.getstatic 67, 3) := by decide +kernel
theorem dLa_readClaim_94 : decode mLa_readClaim.2.1 94 = .ok (.iload_n 2, 1) := by decide +kernel
theorem dLa_readClaim_95 : decode mLa_readClaim.2.1 95 = .ok (.iconst 1, 1) := by decide +kernel
theorem dLa_readClaim_96 : decode mLa_readClaim.2.1 96 = .ok (.iadd, 1) := by decide +kernel
theorem dLa_readClaim_97 : decode mLa_readClaim.2.1 97 = .ok (.invokevirtual 70, 3) := by decide +kernel
theorem dLa_readClaim_100 : decode mLa_readClaim.2.1 100 = .ok (.ifCond .eq 16, 3) := by decide +kernel
theorem dLa_readClaim_103 : decode mLa_readClaim.2.1 103 = .ok (.aload_n 1, 1) := by decide +kernel
theorem dLa_readClaim_104 : decode mLa_readClaim.2.1 104 = .ok (.bipush 93, 2) := by decide +kernel
theorem dLa_readClaim_106 : decode mLa_readClaim.2.1 106 = .ok (.invokevirtual 91, 3) := by decide +kernel
theorem dLa_readClaim_109 : decode mLa_readClaim.2.1 109 = .ok (.ifCond .eq 7, 3) := by decide +kernel
theorem dLa_readClaim_112 : decode mLa_readClaim.2.1 112 = .ok (.iconst 1, 1) := by decide +kernel
theorem dLa_readClaim_113 : decode mLa_readClaim.2.1 113 = .ok (.goto 4, 3) := by decide +kernel
theorem dLa_readClaim_116 : decode mLa_readClaim.2.1 116 = .ok (.iconst 0, 1) := by decide +kernel
theorem dLa_readClaim_117 : decode mLa_readClaim.2.1 117 = .ok (.ireturn, 1) := by decide +kernel
theorem dLa_readClaim_118 : decode mLa_readClaim.2.1 118 = .ok (.aload_n 0, 1) := by decide +kernel
theorem dLa_readClaim_119 : decode mLa_readClaim.2.1 119 = .ok (.aload_n 1, 1) := by decide +kernel
theorem dLa_readClaim_120 : decode mLa_readClaim.2.1 120 = .ok (.bipush 43, 2) := by decide +kernel
theorem dLa_readClaim_122 : decode mLa_readClaim.2.1 122 = .ok (.bipush 45, 2) := by decide +kernel
theorem dLa_readClaim_124 : decode mLa_readClaim.2.1 124 = .ok (.iload_n 2, 1) := by decide +kernel
theorem dLa_readClaim_125 : decode mLa_readClaim.2.1 125 = .ok (.invokevirtual 77, 3) := by decide +kernel
theorem dLa_readClaim_128 : decode mLa_readClaim.2.1 128 = .ok (.ifCond .ne 5, 3) := by decide +kernel
theorem dLa_readClaim_131 : decode mLa_readClaim.2.1 131 = .ok (.iconst 0, 1) := by decide +kernel
theorem dLa_readClaim_132 : decode mLa_readClaim.2.1 132 = .ok (.ireturn, 1) := by decide +kernel
theorem dLa_readClaim_133 : decode mLa_readClaim.2.1 133 = .ok (.aload_n 1, 1) := by decide +kernel
theorem dLa_readClaim_134 : decode mLa_readClaim.2.1 134 = .ok (.invokevirtual 109, 3) := by decide +kernel
theorem dLa_readClaim_137 : decode mLa_readClaim.2.1 137 = .ok (.istore 5, 2) := by decide +kernel
theorem dLa_readClaim_139 : decode mLa_readClaim.2.1 139 = .ok (.iload 5, 2) := by decide +kernel
theorem dLa_readClaim_141 : decode mLa_readClaim.2.1 141 = .ok (.bipush 60, 2) := by decide +kernel
theorem dLa_readClaim_143 : decode mLa_readClaim.2.1 143 = .ok (.if_icmp .eq 23, 3) := by decide +kernel
theorem dLa_readClaim_146 : decode mLa_readClaim.2.1 146 = .ok (.iload 5, 2) := by decide +kernel
theorem dLa_readClaim_148 : decode mLa_readClaim.2.1 148 = .ok (.bipush 62, 2) := by decide +kernel
theorem dLa_readClaim_150 : decode mLa_readClaim.2.1 150 = .ok (.if_icmp .eq 16, 3) := by decide +kernel
theorem dLa_readClaim_153 : decode mLa_readClaim.2.1 153 = .ok (.iload 5, 2) := by decide +kernel
theorem dLa_readClaim_155 : decode mLa_readClaim.2.1 155 = .ok (.bipush 61, 2) := by decide +kernel
theorem dLa_readClaim_157 : decode mLa_readClaim.2.1 157 = .ok (.if_icmp .eq 9, 3) := by decide +kernel
theorem dLa_readClaim_160 : decode mLa_readClaim.2.1 160 = .ok (.aload_n 1, 1) := by decide +kernel
theorem dLa_readClaim_161 : decode mLa_readClaim.2.1 161 = .ok (.iconst 1, 1) := by decide +kernel
theorem dLa_readClaim_162 : decode mLa_readClaim.2.1 162 = .ok (.invokevirtual 56, 3) := by decide +kernel
theorem dLa_readClaim_165 : decode mLa_readClaim.2.1 165 = .ok (.ireturn, 1) := by decide +kernel
theorem dLa_readClaim_166 : decode mLa_readClaim.2.1 166 = .ok (.aload_n 1, 1) := by decide +kernel
theorem dLa_readClaim_167 : decode mLa_readClaim.2.1 167 = .ok (.invokevirtual 60, 3) := by decide +kernel
theorem dLa_readClaim_170 : decode mLa_readClaim.2.1 170 = .ok (.aload_n 0, 1) := by decide +kernel
theorem dLa_readClaim_171 : decode mLa_readClaim.2.1 171 = .ok (.aload_n 1, 1) := by decide +kernel
theorem dLa_readClaim_172 : decode mLa_readClaim.2.1 172 = .ok (.bipush 43, 2) := by decide +kernel
theorem dLa_readClaim_174 : decode mLa_readClaim.2.1 174 = .ok (.bipush 45, 2) := by decide +kernel
theorem dLa_readClaim_176 : decode mLa_readClaim.2.1 176 = .ok (.iload_n 2, 1) := by decide +kernel
theorem dLa_readClaim_177 : decode mLa_readClaim.2.1 177 = .ok (.invokevirtual 77, 3) := by decide +kernel
theorem dLa_readClaim_180 : decode mLa_readClaim.2.1 180 = .ok (.istore 6, 2) := by decide +kernel
theorem dLa_readClaim_182 : decode mLa_readClaim.2.1 182 = .ok (.aload_n 0, 1) := by decide +kernel
theorem dLa_readClaim_183 : decode mLa_readClaim.2.1 183 = .ok (.iload 5, 2) := by decide +kernel
theorem dLa_readClaim_185 : decode mLa_readClaim.2.1 185 = .ok (.invokestatic 113, 3) := by decide +kernel
theorem dLa_readClaim_188 : decode mLa_readClaim.2.1 188 = .ok (.invokevirtual 102, 3) := by decide +kernel
theorem dLa_readClaim_191 : decode mLa_readClaim.2.1 191 = .ok (.iload 6, 2) := by decide +kernel
theorem dLa_readClaim_193 : decode mLa_readClaim.2.1 193 = .ok (.ireturn, 1) := by decide +kernel
theorem bLa_readClaim_0 {l : Launch} {G : Gx} {d : Nat} {bc bs : Nat} {Φ : OutV → Mm → Prop} (M : Mm) (a0 : Nat) (a1 : Nat) (x2 : Int32)
    (h : ((m_sh M a1).1 = 8) ∧ CallVC l G d mLa_readClaim 4 [.ref a0, .ref a1, .int x2, .null, .null, .null, .null] [] mTo_here [.ref a1] M bc bs Φ) :
    Ev l G d mLa_readClaim 0 [.ref a0, .ref a1, .int x2, .null, .null, .null, .null] [] M bc bs Φ := by
  refine Ev.aload_n dLa_readClaim_0 rfl ?_
  have g1 := h.1
  replace h := h.2
  exact Ev.vcV (z := mTo_here) (ci := 8) [] [] rfl dLa_readClaim_1 oTo_here rfl w949 iTo_here sTo_here (by decide) rfl g1 (Nat.le_of_ble_eq_true rfl) h
theorem w966 : Cond.fieldLink "BowingRow$Law" 106 "BowingRow$Word" "NOT" "LBowingRow$Word;" ∈ lwg := lwg_of 966 (by decide +kernel) (by decide +kernel)
def mTo_signHere : MR := (⟨"BowingRow$Tokens", "signHere", "()I"⟩, prog_10_method_9_code, 1, (Option.some .int))
theorem oTo_signHere : MOK mTo_signHere 0 := ⟨lwg_of 971 (by decide +kernel) (by decide +kernel), lwg_of 92 (by decide +kernel) (by decide +kernel), ⟨by decide +kernel, by decide +kernel⟩, by decide +kernel, by decide⟩
theorem iTo_signHere : Cond.instanceMethod mTo_signHere.1 ∈ lwg := lwg_of 969 (by decide +kernel) (by decide +kernel)
theorem sTo_signHere : Cond.selects mTo_signHere.1.cls mTo_signHere.1 mTo_signHere.1 ∈ lwg := lwg_of 970 (by decide +kernel) (by decide +kernel)
theorem w968 : Cond.methodLink "BowingRow$Law" 109 ⟨"BowingRow$Tokens", "signHere", "()I"⟩ ∈ lwg := lwg_of 968 (by decide +kernel) (by decide +kernel)
theorem bLa_readClaim_4 {l : Launch} {G : Gx} {d : Nat} {bc bs : Nat} {Φ : OutV → Mm → Prop} (M : Mm) (a0 : Nat) (a1 : Nat) (x2 : Int32) (u3 : Value) (u4 : Value) (u5 : Value) (u6 : Value) (r0 : Nat)
    (h : (1 ≤ r0 ∧ r0 ≤ 23) ∧ (¬ r0 = 16 → ((m_sh M a1).1 = 8) ∧ CallVC l G d mLa_readClaim 20 [.ref a0, .ref a1, .int x2, .int 0, u4, u5, u6] [] mTo_signHere [.ref a1] M bc bs Φ) ∧ (r0 = 16 → ((m_sh M a1).1 = 8) ∧ CallVC l G d mLa_readClaim 20 [.ref a0, .ref a1, .int x2, .int 1, u4, u5, u6] [] mTo_signHere [.ref a1] M bc bs Φ)) :
    Ev l G d mLa_readClaim 4 [.ref a0, .ref a1, .int x2, u3, u4, u5, u6] [.ref r0] M bc bs Φ := by
  refine Ev.gets (C := "BowingRow$Word") (n := "NOT") (ds := "LBowingRow$Word;") (v := .ref 16) dLa_readClaim_4 (by decide +kernel) (Or.inl w966) ?_
  have g1 := h.1
  replace h := h.2
  refine Ev.acmp_ne 14 (by decide) dLa_readClaim_7 g1 (by decide) (fun c => ?_) (fun c => ?_)
  · replace h := h.1 c
    refine Ev.iconst (v := 0) dLa_readClaim_14 (by decide) ?_
    refine Ev.istore_n dLa_readClaim_15 (by decide) ?_
    show Ev l G d mLa_readClaim (_ + _) [.ref a0, .ref a1, .int x2, .int 0, u4, u5, u6] [] M bc bs Φ
    refine Ev.aload_n dLa_readClaim_16 rfl ?_
    have g2 := h.1
    replace h := h.2
    exact Ev.vcV (z := mTo_signHere) (ci := 8) [] [] rfl dLa_readClaim_17 oTo_signHere rfl w968 iTo_signHere sTo_signHere (by decide) rfl g2 (Nat.le_of_ble_eq_true rfl) h
  · replace h := h.2 c
    refine Ev.iconst (v := 1) dLa_readClaim_10 (by decide) ?_
    refine Ev.goto 15 dLa_readClaim_11 (by decide) ?_
    refine Ev.istore_n dLa_readClaim_15 (by decide) ?_
    show Ev l G d mLa_readClaim (_ + _) [.ref a0, .ref a1, .int x2, .int 1, u4, u5, u6] [] M bc bs Φ
    refine Ev.aload_n dLa_readClaim_16 rfl ?_
    have g3 := h.1
    replace h := h.2
    exact Ev.vcV (z := mTo_signHere) (ci := 8) [] [] rfl dLa_readClaim_17 oTo_signHere rfl w968 iTo_signHere sTo_signHere (by decide) rfl g3 (Nat.le_of_ble_eq_true rfl) h
theorem bLa_readClaim_20 {l : Launch} {G : Gx} {d : Nat} {bc bs : Nat} {Φ : OutV → Mm → Prop} (M : Mm) (a0 : Nat) (a1 : Nat) (x2 : Int32) (x3 : Int32) (u4 : Value) (u5 : Value) (u6 : Value) (s0 : Int32)
    (h : (¬ s0 = 91 → (¬ x3 = 0 → Ev l G d mLa_readClaim 41 [.ref a0, .ref a1, .int x2, .int x3, .int 0, u5, u6] [] M bc bs Φ) ∧ (x3 = 0 → Ev l G d mLa_readClaim 53 [.ref a0, .ref a1, .int x2, .int x3, .int 0, u5, u6] [] M bc bs Φ)) ∧ (s0 = 91 → (¬ x3 = 0 → Ev l G d mLa_readClaim 41 [.ref a0, .ref a1, .int x2, .int x3, .int 1, u5, u6] [] M bc bs Φ) ∧ (x3 = 0 → Ev l G d mLa_readClaim 41 [.ref a0, .ref a1, .int x2, .int x3, .int 1, u5, u6] [] M bc bs Φ))) :
    Ev l G d mLa_readClaim 20 [.ref a0, .ref a1, .int x2, .int x3, u4, u5, u6] [.int s0] M bc bs Φ := by
  refine Ev.bipush (v := 91) dLa_readClaim_20 (by decide) ?_
  refine Ev.icmp_ne 29 (by decide) dLa_readClaim_22 (fun c => ?_) (fun c => ?_)
  · replace h := h.1 c
    refine Ev.iconst (v := 0) dLa_readClaim_29 (by decide) ?_
    refine Ev.istore dLa_readClaim_30 (by decide) ?_
    show Ev l G d mLa_readClaim (_ + _) [.ref a0, .ref a1, .int x2, .int x3, .int 0, u5, u6] [] M bc bs Φ
    refine Ev.iload_n dLa_readClaim_32 rfl ?_
    refine Ev.if_ne 41 (by decide) dLa_readClaim_33 (fun c => ?_) (fun c => ?_)
    · replace h := h.1 c
      exact h
    · replace h := h.2 c
      refine Ev.iload dLa_readClaim_36 rfl ?_
      refine Ev.if_eq 53 (by decide) dLa_readClaim_38 (fun _ => ?_) (fun c => absurd c (by decide))
      exact h
  · replace h := h.2 c
    refine Ev.iconst (v := 1) dLa_readClaim_25 (by decide) ?_
    refine Ev.goto 30 dLa_readClaim_26 (by decide) ?_
    refine Ev.istore dLa_readClaim_30 (by decide) ?_
    show Ev l G d mLa_readClaim (_ + _) [.ref a0, .ref a1, .int x2, .int x3, .int 1, u5, u6] [] M bc bs Φ
    refine Ev.iload_n dLa_readClaim_32 rfl ?_
    refine Ev.if_ne 41 (by decide) dLa_readClaim_33 (fun c => ?_) (fun c => ?_)
    · replace h := h.1 c
      exact h
    · replace h := h.2 c
      refine Ev.iload dLa_readClaim_36 rfl ?_
      refine Ev.if_eq 53 (by decide) dLa_readClaim_38 (fun c => absurd c (by decide)) (fun _ => ?_)
      exact h
theorem bLa_readClaim_41 {l : Launch} {G : Gx} {d : Nat} {bc bs : Nat} {Φ : OutV → Mm → Prop} (M : Mm) (a0 : Nat) (a1 : Nat) (x2 : Int32) (x3 : Int32) (x4 : Int32) (u5 : Value) (u6 : Value)
    (h : (x2 < 6 → Ev l G d mLa_readClaim 53 [.ref a0, .ref a1, .int x2, .int x3, .int x4, u5, u6] [] M bc bs Φ) ∧ (¬ x2 < 6 → ((m_sh M a1).1 = 8) ∧ CallVC l G d mLa_readClaim 52 [.ref a0, .ref a1, .int x2, .int x3, .int x4, u5, u6] [] mTo_fail [.ref a1, .int 3] M bc bs Φ)) :
    Ev l G d mLa_readClaim 41 [.ref a0, .ref a1, .int x2, .int x3, .int x4, u5, u6] [] M bc bs Φ := by
  refine Ev.iload_n dLa_readClaim_41 rfl ?_
  refine Ev.bipush (v := 6) dLa_readClaim_42 (by decide) ?_
  refine Ev.icmp_lt 53 (by decide) dLa_readClaim_44 (fun c => ?_) (fun c => ?_)
  · replace h := h.1 c
    exact h
  · replace h := h.2 c
    refine Ev.aload_n dLa_readClaim_47 rfl ?_
    refine Ev.iconst (v := 3) dLa_readClaim_48 (by decide) ?_
    have g1 := h.1
    replace h := h.2
    exact Ev.vcV (z := mTo_fail) (ci := 8) [.int 3] [] rfl dLa_readClaim_49 oTo_fail rfl w950 iTo_fail sTo_fail (by decide) rfl g1 (Nat.le_of_ble_eq_true rfl) h
theorem bLa_readClaim_52 {l : Launch} {G : Gx} {d : Nat} {bc bs : Nat} {Φ : OutV → Mm → Prop} (M : Mm) (a0 : Nat) (a1 : Nat) (x2 : Int32) (x3 : Int32) (x4 : Int32) (u5 : Value) (u6 : Value) (s0 : Int32)
    (h : (narrow .boolean (.int s0) = .int s0) ∧ Φ (.inl (some (.int s0))) M) :
    Ev l G d mLa_readClaim 52 [.ref a0, .ref a1, .int x2, .int x3, .int x4, u5, u6] [.int s0] M bc bs Φ := by
  have g1 := h.1
  replace h := h.2
  exact Ev.iret dLa_readClaim_52 rfl g1 h
theorem bLa_readClaim_53 {l : Launch} {G : Gx} {d : Nat} {bc bs : Nat} {Φ : OutV → Mm → Prop} (M : Mm) (a0 : Nat) (a1 : Nat) (x2 : Int32) (x3 : Int32) (x4 : Int32) (u5 : Value) (u6 : Value)
    (h : (x3 = 0 → (x4 = 0 → ((m_sh M a0).1 = 4) ∧ CallVC l G d mLa_readClaim 128 [.ref a0, .ref a1, .int x2, .int x3, .int x4, u5, u6] [] mLa_readSum [.ref a0, .ref a1, .int 43, .int 45, .int x2] M bc bs Φ) ∧ (¬ x4 = 0 → ((m_sh M a1).1 = 8) ∧ CallVC l G d mLa_readClaim 89 [.ref a0, .ref a1, .int x2, .int x3, .int x4, u5, u6] [] mTo_goOn [.ref a1] M bc bs Φ)) ∧ (¬ x3 = 0 → ((m_sh M a1).1 = 8) ∧ CallVC l G d mLa_readClaim 61 [.ref a0, .ref a1, .int x2, .int x3, .int x4, u5, u6] [] mTo_goOn [.ref a1] M bc bs Φ)) :
    Ev l G d mLa_readClaim 53 [.ref a0, .ref a1, .int x2, .int x3, .int x4, u5, u6] [] M bc bs Φ := by
  refine Ev.iload_n dLa_readClaim_53 rfl ?_
  refine Ev.if_eq 80 (by decide) dLa_readClaim_54 (fun c => ?_) (fun c => ?_)
  · replace h := h.1 c
    refine Ev.iload dLa_readClaim_80 rfl ?_
    refine Ev.if_eq 118 (by decide) dLa_readClaim_82 (fun c => ?_) (fun c => ?_)
    · replace h := h.1 c
      refine Ev.aload_n dLa_readClaim_118 rfl ?_
      refine Ev.aload_n dLa_readClaim_119 rfl ?_
      refine Ev.bipush (v := 43) dLa_readClaim_120 (by decide) ?_
      refine Ev.bipush (v := 45) dLa_readClaim_122 (by decide) ?_
      refine Ev.iload_n dLa_readClaim_124 rfl ?_
      have g1 := h.1
      replace h := h.2
      exact Ev.vcV (z := mLa_readSum) (ci := 4) [.ref a1, .int 43, .int 45, .int x2] [] rfl dLa_readClaim_125 oLa_readSum rfl w977 iLa_readSum sLa_readSum (by decide) rfl g1 (Nat.le_of_ble_eq_true rfl) h
    · replace h := h.2 c
      refine Ev.aload_n dLa_readClaim_85 rfl ?_
      have g2 := h.1
      replace h := h.2
      exact Ev.vcV (z := mTo_goOn) (ci := 8) [] [] rfl dLa_readClaim_86 oTo_goOn rfl w951 iTo_goOn sTo_goOn (by decide) rfl g2 (Nat.le_of_ble_eq_true rfl) h
  · replace h := h.2 c
    refine Ev.aload_n dLa_readClaim_57 rfl ?_
    have g3 := h.1
    replace h := h.2
    exact Ev.vcV (z := mTo_goOn) (ci := 8) [] [] rfl dLa_readClaim_58 oTo_goOn rfl w951 iTo_goOn sTo_goOn (by decide) rfl g3 (Nat.le_of_ble_eq_true rfl) h
theorem bLa_readClaim_61 {l : Launch} {G : Gx} {d : Nat} {bc bs : Nat} {Φ : OutV → Mm → Prop} (M : Mm) (a0 : Nat) (a1 : Nat) (x2 : Int32) (x3 : Int32) (x4 : Int32) (u5 : Value) (u6 : Value)
    (h : ((m_sh M a0).1 = 4) ∧ CallVC l G d mLa_readClaim 69 [.ref a0, .ref a1, .int x2, .int x3, .int x4, u5, u6] [] mLa_readClaim [.ref a0, .ref a1, .int (x2 + 1)] M bc bs Φ) :
    Ev l G d mLa_readClaim 61 [.ref a0, .ref a1, .int x2, .int x3, .int x4, u5, u6] [] M bc bs Φ := by
  refine Ev.aload_n dLa_readClaim_61 rfl ?_
  refine Ev.aload_n dLa_readClaim_62 rfl ?_
  refine Ev.iload_n dLa_readClaim_63 rfl ?_
  refine Ev.iconst (v := 1) dLa_readClaim_64 (by decide) ?_
  refine Ev.iadd dLa_readClaim_65 ?_
  have g1 := h.1
  replace h := h.2
  exact Ev.vcV (z := mLa_readClaim) (ci := 4) [.ref a1, .int (x2 + 1)] [] rfl dLa_readClaim_66 oLa_readClaim rfl w962 iLa_readClaim sLa_readClaim (by decide) rfl g1 (Nat.le_of_ble_eq_true rfl) h
theorem bLa_readClaim_69 {l : Launch} {G : Gx} {d : Nat} {bc bs : Nat} {Φ : OutV → Mm → Prop} (M : Mm) (a0 : Nat) (a1 : Nat) (x2 : Int32) (x3 : Int32) (x4 : Int32) (u5 : Value) (u6 : Value) (s0 : Int32)
    (h : ((m_sh M a0).1 = 4) ∧ CallVC l G d mLa_readClaim 77 [.ref a0, .ref a1, .int x2, .int x3, .int x4, .int s0, u6] [] mLa_addStep [.ref a0, .int ((-8))] M bc bs Φ) :
    Ev l G d mLa_readClaim 69 [.ref a0, .ref a1, .int x2, .int x3, .int x4, u5, u6] [.int s0] M bc bs Φ := by
  refine Ev.istore dLa_readClaim_69 (by decide) ?_
  show Ev l G d mLa_readClaim (_ + _) [.ref a0, .ref a1, .int x2, .int x3, .int x4, .int s0, u6] [] M bc bs Φ
  refine Ev.aload_n dLa_readClaim_71 rfl ?_
  refine Ev.bipush (v := (-8)) dLa_readClaim_72 (by decide) ?_
  have g1 := h.1
  replace h := h.2
  exact Ev.vcV (z := mLa_addStep) (ci := 4) [.int ((-8))] [] rfl dLa_readClaim_74 oLa_addStep rfl w972 iLa_addStep sLa_addStep (by decide) rfl g1 (Nat.le_of_ble_eq_true rfl) h
theorem bLa_readClaim_77 {l : Launch} {G : Gx} {d : Nat} {bc bs : Nat} {Φ : OutV → Mm → Prop} (M : Mm) (a0 : Nat) (a1 : Nat) (x2 : Int32) (x3 : Int32) (x4 : Int32) (x5 : Int32) (u6 : Value)
    (h : (narrow .boolean (.int x5) = .int x5) ∧ Φ (.inl (some (.int x5))) M) :
    Ev l G d mLa_readClaim 77 [.ref a0, .ref a1, .int x2, .int x3, .int x4, .int x5, u6] [] M bc bs Φ := by
  refine Ev.iload dLa_readClaim_77 rfl ?_
  have g1 := h.1
  replace h := h.2
  exact Ev.iret dLa_readClaim_79 rfl g1 h
theorem bLa_readClaim_89 {l : Launch} {G : Gx} {d : Nat} {bc bs : Nat} {Φ : OutV → Mm → Prop} (M : Mm) (a0 : Nat) (a1 : Nat) (x2 : Int32) (x3 : Int32) (x4 : Int32) (u5 : Value) (u6 : Value)
    (h : ((m_sh M a0).1 = 4) ∧ CallVC l G d mLa_readClaim 100 [.ref a0, .ref a1, .int x2, .int x3, .int x4, u5, u6] [] mLa_readJoined [.ref a0, .ref a1, .ref 14, .int (x2 + 1)] M bc bs Φ) :
    Ev l G d mLa_readClaim 89 [.ref a0, .ref a1, .int x2, .int x3, .int x4, u5, u6] [] M bc bs Φ := by
  refine Ev.aload_n dLa_readClaim_89 rfl ?_
  refine Ev.aload_n dLa_readClaim_90 rfl ?_
  refine Ev.gets (C := "BowingRow$Word") (n := "OR") (ds := "LBowingRow$Word;") (v := .ref 14) dLa_readClaim_91 (by decide +kernel) (Or.inl w954) ?_
  refine Ev.iload_n dLa_readClaim_94 rfl ?_
  refine Ev.iconst (v := 1) dLa_readClaim_95 (by decide) ?_
  refine Ev.iadd dLa_readClaim_96 ?_
  have g1 := h.1
  replace h := h.2
  exact Ev.vcV (z := mLa_readJoined) (ci := 4) [.ref a1, .ref 14, .int (x2 + 1)] [] rfl dLa_readClaim_97 oLa_readJoined rfl w956 iLa_readJoined sLa_readJoined (by decide) rfl g1 (Nat.le_of_ble_eq_true rfl) h
theorem bLa_readClaim_100 {l : Launch} {G : Gx} {d : Nat} {bc bs : Nat} {Φ : OutV → Mm → Prop} (M : Mm) (a0 : Nat) (a1 : Nat) (x2 : Int32) (x3 : Int32) (x4 : Int32) (u5 : Value) (u6 : Value) (s0 : Int32)
    (h : (s0 = 0 → Φ (.inl (some (.int 0))) M) ∧ (¬ s0 = 0 → ((m_sh M a1).1 = 8) ∧ CallVC l G d mLa_readClaim 109 [.ref a0, .ref a1, .int x2, .int x3, .int x4, u5, u6] [] mTo_takeSign [.ref a1, .int 93] M bc bs Φ)) :
    Ev l G d mLa_readClaim 100 [.ref a0, .ref a1, .int x2, .int x3, .int x4, u5, u6] [.int s0] M bc bs Φ := by
  refine Ev.if_eq 116 (by decide) dLa_readClaim_100 (fun c => ?_) (fun c => ?_)
  · replace h := h.1 c
    refine Ev.iconst (v := 0) dLa_readClaim_116 (by decide) ?_
    exact Ev.iret dLa_readClaim_117 rfl rfl h
  · replace h := h.2 c
    refine Ev.aload_n dLa_readClaim_103 rfl ?_
    refine Ev.bipush (v := 93) dLa_readClaim_104 (by decide) ?_
    have g1 := h.1
    replace h := h.2
    exact Ev.vcV (z := mTo_takeSign) (ci := 8) [.int 93] [] rfl dLa_readClaim_106 oTo_takeSign rfl w976 iTo_takeSign sTo_takeSign (by decide) rfl g1 (Nat.le_of_ble_eq_true rfl) h
theorem bLa_readClaim_109 {l : Launch} {G : Gx} {d : Nat} {bc bs : Nat} {Φ : OutV → Mm → Prop} (M : Mm) (a0 : Nat) (a1 : Nat) (x2 : Int32) (x3 : Int32) (x4 : Int32) (u5 : Value) (u6 : Value) (s0 : Int32)
    (h : (s0 = 0 → Φ (.inl (some (.int 0))) M) ∧ (¬ s0 = 0 → Φ (.inl (some (.int 1))) M)) :
    Ev l G d mLa_readClaim 109 [.ref a0, .ref a1, .int x2, .int x3, .int x4, u5, u6] [.int s0] M bc bs Φ := by
  refine Ev.if_eq 116 (by decide) dLa_readClaim_109 (fun c => ?_) (fun c => ?_)
  · replace h := h.1 c
    refine Ev.iconst (v := 0) dLa_readClaim_116 (by decide) ?_
    exact Ev.iret dLa_readClaim_117 rfl rfl h
  · replace h := h.2 c
    refine Ev.iconst (v := 1) dLa_readClaim_112 (by decide) ?_
    refine Ev.goto 117 dLa_readClaim_113 (by decide) ?_
    exact Ev.iret dLa_readClaim_117 rfl rfl h
theorem bLa_readClaim_128 {l : Launch} {G : Gx} {d : Nat} {bc bs : Nat} {Φ : OutV → Mm → Prop} (M : Mm) (a0 : Nat) (a1 : Nat) (x2 : Int32) (x3 : Int32) (x4 : Int32) (u5 : Value) (u6 : Value) (s0 : Int32)
    (h : (¬ s0 = 0 → ((m_sh M a1).1 = 8) ∧ CallVC l G d mLa_readClaim 137 [.ref a0, .ref a1, .int x2, .int x3, .int x4, u5, u6] [] mTo_signHere [.ref a1] M bc bs Φ) ∧ (s0 = 0 → Φ (.inl (some (.int 0))) M)) :
    Ev l G d mLa_readClaim 128 [.ref a0, .ref a1, .int x2, .int x3, .int x4, u5, u6] [.int s0] M bc bs Φ := by
  refine Ev.if_ne 133 (by decide) dLa_readClaim_128 (fun c => ?_) (fun c => ?_)
  · replace h := h.1 c
    refine Ev.aload_n dLa_readClaim_133 rfl ?_
    have g1 := h.1
    replace h := h.2
    exact Ev.vcV (z := mTo_signHere) (ci := 8) [] [] rfl dLa_readClaim_134 oTo_signHere rfl w968 iTo_signHere sTo_signHere (by decide) rfl g1 (Nat.le_of_ble_eq_true rfl) h
  · replace h := h.2 c
    refine Ev.iconst (v := 0) dLa_readClaim_131 (by decide) ?_
    exact Ev.iret dLa_readClaim_132 rfl rfl h
theorem bLa_readClaim_137 {l : Launch} {G : Gx} {d : Nat} {bc bs : Nat} {Φ : OutV → Mm → Prop} (M : Mm) (a0 : Nat) (a1 : Nat) (x2 : Int32) (x3 : Int32) (x4 : Int32) (u5 : Value) (u6 : Value) (s0 : Int32)
    (h : (s0 = 60 → Ev l G d mLa_readClaim 166 [.ref a0, .ref a1, .int x2, .int x3, .int x4, .int s0, u6] [] M bc bs Φ) ∧ (¬ s0 = 60 → (s0 = 62 → Ev l G d mLa_readClaim 166 [.ref a0, .ref a1, .int x2, .int x3, .int x4, .int s0, u6] [] M bc bs Φ) ∧ (¬ s0 = 62 → (s0 = 61 → Ev l G d mLa_readClaim 166 [.ref a0, .ref a1, .int x2, .int x3, .int x4, .int s0, u6] [] M bc bs Φ) ∧ (¬ s0 = 61 → ((m_sh M a1).1 = 8) ∧ CallVC l G d mLa_readClaim 165 [.ref a0, .ref a1, .int x2, .int x3, .int x4, .int s0, u6] [] mTo_fail [.ref a1, .int 1] M bc bs Φ)))) :
    Ev l G d mLa_readClaim 137 [.ref a0, .ref a1, .int x2, .int x3, .int x4, u5, u6] [.int s0] M bc bs Φ := by
  refine Ev.istore dLa_readClaim_137 (by decide) ?_
  show Ev l G d mLa_readClaim (_ + _) [.ref a0, .ref a1, .int x2, .int x3, .int x4, .int s0, u6] [] M bc bs Φ
  refine Ev.iload dLa_readClaim_139 rfl ?_
  refine Ev.bipush (v := 60) dLa_readClaim_141 (by decide) ?_
  refine Ev.icmp_eq 166 (by decide) dLa_readClaim_143 (fun c => ?_) (fun c => ?_)
  · replace h := h.1 c
    exact h
  · replace h := h.2 c
    refine Ev.iload dLa_readClaim_146 rfl ?_
    refine Ev.bipush (v := 62) dLa_readClaim_148 (by decide) ?_
    refine Ev.icmp_eq 166 (by decide) dLa_readClaim_150 (fun c => ?_) (fun c => ?_)
    · replace h := h.1 c
      exact h
    · replace h := h.2 c
      refine Ev.iload dLa_readClaim_153 rfl ?_
      refine Ev.bipush (v := 61) dLa_readClaim_155 (by decide) ?_
      refine Ev.icmp_eq 166 (by decide) dLa_readClaim_157 (fun c => ?_) (fun c => ?_)
      · replace h := h.1 c
        exact h
      · replace h := h.2 c
        refine Ev.aload_n dLa_readClaim_160 rfl ?_
        refine Ev.iconst (v := 1) dLa_readClaim_161 (by decide) ?_
        have g1 := h.1
        replace h := h.2
        exact Ev.vcV (z := mTo_fail) (ci := 8) [.int 1] [] rfl dLa_readClaim_162 oTo_fail rfl w950 iTo_fail sTo_fail (by decide) rfl g1 (Nat.le_of_ble_eq_true rfl) h
theorem bLa_readClaim_165 {l : Launch} {G : Gx} {d : Nat} {bc bs : Nat} {Φ : OutV → Mm → Prop} (M : Mm) (a0 : Nat) (a1 : Nat) (x2 : Int32) (x3 : Int32) (x4 : Int32) (x5 : Int32) (u6 : Value) (s0 : Int32)
    (h : (narrow .boolean (.int s0) = .int s0) ∧ Φ (.inl (some (.int s0))) M) :
    Ev l G d mLa_readClaim 165 [.ref a0, .ref a1, .int x2, .int x3, .int x4, .int x5, u6] [.int s0] M bc bs Φ := by
  have g1 := h.1
  replace h := h.2
  exact Ev.iret dLa_readClaim_165 rfl g1 h
theorem bLa_readClaim_166 {l : Launch} {G : Gx} {d : Nat} {bc bs : Nat} {Φ : OutV → Mm → Prop} (M : Mm) (a0 : Nat) (a1 : Nat) (x2 : Int32) (x3 : Int32) (x4 : Int32) (x5 : Int32) (u6 : Value)
    (h : ((m_sh M a1).1 = 8) ∧ CallVC l G d mLa_readClaim 170 [.ref a0, .ref a1, .int x2, .int x3, .int x4, .int x5, u6] [] mTo_goOn [.ref a1] M bc bs Φ) :
    Ev l G d mLa_readClaim 166 [.ref a0, .ref a1, .int x2, .int x3, .int x4, .int x5, u6] [] M bc bs Φ := by
  refine Ev.aload_n dLa_readClaim_166 rfl ?_
  have g1 := h.1
  replace h := h.2
  exact Ev.vcV (z := mTo_goOn) (ci := 8) [] [] rfl dLa_readClaim_167 oTo_goOn rfl w951 iTo_goOn sTo_goOn (by decide) rfl g1 (Nat.le_of_ble_eq_true rfl) h
theorem bLa_readClaim_170 {l : Launch} {G : Gx} {d : Nat} {bc bs : Nat} {Φ : OutV → Mm → Prop} (M : Mm) (a0 : Nat) (a1 : Nat) (x2 : Int32) (x3 : Int32) (x4 : Int32) (x5 : Int32) (u6 : Value)
    (h : ((m_sh M a0).1 = 4) ∧ CallVC l G d mLa_readClaim 180 [.ref a0, .ref a1, .int x2, .int x3, .int x4, .int x5, u6] [] mLa_readSum [.ref a0, .ref a1, .int 43, .int 45, .int x2] M bc bs Φ) :
    Ev l G d mLa_readClaim 170 [.ref a0, .ref a1, .int x2, .int x3, .int x4, .int x5, u6] [] M bc bs Φ := by
  refine Ev.aload_n dLa_readClaim_170 rfl ?_
  refine Ev.aload_n dLa_readClaim_171 rfl ?_
  refine Ev.bipush (v := 43) dLa_readClaim_172 (by decide) ?_
  refine Ev.bipush (v := 45) dLa_readClaim_174 (by decide) ?_
  refine Ev.iload_n dLa_readClaim_176 rfl ?_
  have g1 := h.1
  replace h := h.2
  exact Ev.vcV (z := mLa_readSum) (ci := 4) [.ref a1, .int 43, .int 45, .int x2] [] rfl dLa_readClaim_177 oLa_readSum rfl w977 iLa_readSum sLa_readSum (by decide) rfl g1 (Nat.le_of_ble_eq_true rfl) h
def mLa_stepFor : MR := (⟨"BowingRow$Law", "stepFor", "(I)I"⟩, prog_6_method_9_code, 1, (Option.some .int))
theorem oLa_stepFor : MOK mLa_stepFor 1 := ⟨lwg_of 988 (by decide +kernel) (by decide +kernel), lwg_of 94 (by decide +kernel) (by decide +kernel), ⟨by decide +kernel, by decide +kernel⟩, by decide +kernel, by decide⟩
theorem iLa_stepFor : Cond.static mLa_stepFor.1 ∈ lwg := lwg_of 987 (by decide +kernel) (by decide +kernel)
theorem w986 : Cond.methodLink "BowingRow$Law" 113 ⟨"BowingRow$Law", "stepFor", "(I)I"⟩ ∈ lwg := lwg_of 986 (by decide +kernel) (by decide +kernel)
theorem bLa_readClaim_180 {l : Launch} {G : Gx} {d : Nat} {bc bs : Nat} {Φ : OutV → Mm → Prop} (M : Mm) (a0 : Nat) (a1 : Nat) (x2 : Int32) (x3 : Int32) (x4 : Int32) (x5 : Int32) (u6 : Value) (s0 : Int32)
    (h : CallVC l G d mLa_readClaim 188 [.ref a0, .ref a1, .int x2, .int x3, .int x4, .int x5, .int s0] [.ref a0] mLa_stepFor [.int x5] M bc bs Φ) :
    Ev l G d mLa_readClaim 180 [.ref a0, .ref a1, .int x2, .int x3, .int x4, .int x5, u6] [.int s0] M bc bs Φ := by
  refine Ev.istore dLa_readClaim_180 (by decide) ?_
  show Ev l G d mLa_readClaim (_ + _) [.ref a0, .ref a1, .int x2, .int x3, .int x4, .int x5, .int s0] [] M bc bs Φ
  refine Ev.aload_n dLa_readClaim_182 rfl ?_
  refine Ev.iload dLa_readClaim_183 rfl ?_
  exact Ev.vcS (z := mLa_stepFor) [.int x5] [.ref a0] rfl dLa_readClaim_185 oLa_stepFor rfl w986 iLa_stepFor (Nat.le_of_ble_eq_true rfl) h
theorem bLa_readClaim_188 {l : Launch} {G : Gx} {d : Nat} {bc bs : Nat} {Φ : OutV → Mm → Prop} (M : Mm) (a0 : Nat) (a1 : Nat) (x2 : Int32) (x3 : Int32) (x4 : Int32) (x5 : Int32) (x6 : Int32) (r0 : Nat) (s1 : Int32)
    (h : ((m_sh M r0).1 = 4) ∧ CallVC l G d mLa_readClaim 191 [.ref a0, .ref a1, .int x2, .int x3, .int x4, .int x5, .int x6] [] mLa_addStep [.ref r0, .int s1] M bc bs Φ) :
    Ev l G d mLa_readClaim 188 [.ref a0, .ref a1, .int x2, .int x3, .int x4, .int x5, .int x6] [.int s1, .ref r0] M bc bs Φ := by
  have g1 := h.1
  replace h := h.2
  exact Ev.vcV (z := mLa_addStep) (ci := 4) [.int s1] [] rfl dLa_readClaim_188 oLa_addStep rfl w972 iLa_addStep sLa_addStep (by decide) rfl g1 (Nat.le_of_ble_eq_true rfl) h
theorem bLa_readClaim_191 {l : Launch} {G : Gx} {d : Nat} {bc bs : Nat} {Φ : OutV → Mm → Prop} (M : Mm) (a0 : Nat) (a1 : Nat) (x2 : Int32) (x3 : Int32) (x4 : Int32) (x5 : Int32) (x6 : Int32)
    (h : (narrow .boolean (.int x6) = .int x6) ∧ Φ (.inl (some (.int x6))) M) :
    Ev l G d mLa_readClaim 191 [.ref a0, .ref a1, .int x2, .int x3, .int x4, .int x5, .int x6] [] M bc bs Φ := by
  refine Ev.iload dLa_readClaim_191 rfl ?_
  have g1 := h.1
  replace h := h.2
  exact Ev.iret dLa_readClaim_193 rfl g1 h
theorem dLa_addStep_0 : decode mLa_addStep.2.1 0 = .ok (.aload_n 0, 1) := by decide +kernel
theorem dLa_addStep_1 : decode mLa_addStep.2.1 1 = .ok (.getfield 34, 3) := by decide +kernel
theorem dLa_addStep_4 : decode mLa_addStep.2.1 4 = .ok (.aload_n 0, 1) := by decide +kernel
theorem dLa_addStep_5 : decode mLa_addStep.2.1 5 = .ok (.getfield 24, 3) := by decide +kernel
theorem dLa_addStep_8 : decode mLa_addStep.2.1 8 = .ok (.arraylength, 1) := by decide +kernel
theorem dLa_addStep_9 : decode mLa_addStep.2.1 9 = .ok (.if_icmp .ge 23, 3) := by decide +kernel
theorem dLa_addStep_12 : decode mLa_addStep.2.1 12 = .ok (.aload_n 0, 1) := by decide +kernel
theorem dLa_addStep_13 : decode mLa_addStep.2.1 13 = .ok (.getfield 24, 3) := by decide +kernel
theorem dLa_addStep_16 : decode mLa_addStep.2.1 16 = .ok (.aload_n 0, 1) := by decide +kernel
theorem dLa_addStep_17 : decode mLa_addStep.2.1 17 = .ok (.getfield 34, 3) := by decide +kernel
theorem dLa_addStep_20 : decode mLa_addStep.2.1 20 = .ok (.iload_n 1, 1) := by decide +kernel
theorem dLa_addStep_21 : decode mLa_addStep.2.1 21 = .ok (.iastore, 1) := by decide +kernel
theorem dLa_addStep_22 : decode mLa_addStep.2.1 22 = .ok (.aload_n 0, 1) := by decide +kernel
theorem dLa_addStep_23 : decode mLa_addStep.2.1 23 = .ok (.dup, 1) := by decide +kernel
theorem dLa_addStep_24 : decode mLa_addStep.2.1 24 = .ok (.getfield 34, 3) := by decide +kernel
theorem dLa_addStep_27 : decode mLa_addStep.2.1 27 = .ok (.iconst 1, 1) := by decide +kernel
theorem dLa_addStep_28 : decode mLa_addStep.2.1 28 = .ok (.iadd, 1) := by decide +kernel
theorem dLa_addStep_29 : decode mLa_addStep.2.1 29 = .ok (.putfield 34, 3) := by decide +kernel
theorem dLa_addStep_32 : decode mLa_addStep.2.1 32 = .ok (.return_, 1) := by decide +kernel
theorem bLa_addStep_0 {l : Launch} {G : Gx} {d : Nat} {bc bs : Nat} {Φ : OutV → Mm → Prop} (M : Mm) (a0 : Nat) (x1 : Int32)
    (h : ((m_sh M a0).1 = 4) ∧ ((m_sh M (m_r M a0 4)).1 = 20) ∧ ((Int32.ofNat (m_sh M (m_r M a0 4)).2) ≤ (m_i M a0 6) → Φ (.inl none) M) ∧ (¬ (Int32.ofNat (m_sh M (m_r M a0 4)).2) ≤ (m_i M a0 6) → (vp_in (m_i M a0 6) (m_sh M (m_r M a0 4)).2) ∧ Φ (.inl none) (m_si (m_si M (m_r M a0 4) (m_i M a0 6).toNatClampNeg x1) a0 6 ((m_i (m_si M (m_r M a0 4) (m_i M a0 6).toNatClampNeg x1) a0 6) + 1)))) :
    Ev l G d mLa_addStep 0 [.ref a0, .int x1] [] M bc bs Φ := by
  refine Ev.aload_n dLa_addStep_0 rfl ?_
  have g1 := h.1
  replace h := h.2
  refine Ev.getI dLa_addStep_1 (Or.inl fLa_34) rfl g1 ?_
  refine Ev.aload_n dLa_addStep_4 rfl ?_
  refine Ev.getR dLa_addStep_5 (Or.inl fLa_24) rfl g1 ?_
  have g2 := h.1
  replace h := h.2
  refine Ev.alen2 20 (by decide) dLa_addStep_8 g2 ?_
  refine Ev.icmp_ge 32 (by decide) dLa_addStep_9 (fun c => ?_) (fun c => ?_)
  · replace h := h.1 c
    exact Ev.vret dLa_addStep_32 rfl h
  · replace h := h.2 c
    refine Ev.aload_n dLa_addStep_12 rfl ?_
    refine Ev.getR dLa_addStep_13 (Or.inl fLa_24) rfl g1 ?_
    refine Ev.aload_n dLa_addStep_16 rfl ?_
    refine Ev.getI dLa_addStep_17 (Or.inl fLa_34) rfl g1 ?_
    refine Ev.iload_n dLa_addStep_20 rfl ?_
    have g3 := h.1
    replace h := h.2
    refine Ev.iast2 dLa_addStep_21 g2 g3 ?_
    refine Ev.aload_n dLa_addStep_22 rfl ?_
    refine Ev.dup dLa_addStep_23 rfl ?_
    refine Ev.getI dLa_addStep_24 (Or.inl fLa_34) rfl g1 ?_
    refine Ev.iconst (v := 1) dLa_addStep_27 (by decide) ?_
    refine Ev.iadd dLa_addStep_28 ?_
    refine Ev.putI dLa_addStep_29 ⟨_, Or.inl ⟨fLa_34, (fun h => by cases h)⟩⟩ rfl ⟨rfl, rfl⟩ g1 ?_
    exact Ev.vret dLa_addStep_32 rfl h
