theorem dRe_asItIs_0 : decode mRe_asItIs.2.1 0 = .ok (.aload_n 0, 1) := by decide +kernel
theorem dRe_asItIs_1 : decode mRe_asItIs.2.1 1 = .ok (.invokevirtual 332, 3) := by decide +kernel
theorem dRe_asItIs_4 : decode mRe_asItIs.2.1 4 = .ok (.aload_n 0, 1) := by decide +kernel
theorem dRe_asItIs_5 : decode mRe_asItIs.2.1 5 = .ok (.invokevirtual 335, 3) := by decide +kernel
theorem dRe_asItIs_8 : decode mRe_asItIs.2.1 8 = .ok (.return_, 1) := by decide +kernel
def mRe_layWays : MR := (⟨"BowingRowModel", "layWays", "()V"⟩, prog_14_method_53_code, 2, none)
theorem oRe_layWays : MOK mRe_layWays 0 := ⟨lwg_of 1668 (by decide +kernel) (by decide +kernel), lwg_of 103 (by decide +kernel) (by decide +kernel), ⟨by decide +kernel, by decide +kernel⟩, by decide +kernel, by decide⟩
theorem iRe_layWays : Cond.instanceMethod mRe_layWays.1 ∈ lwg := lwg_of 1667 (by decide +kernel) (by decide +kernel)
theorem sRe_layWays : Cond.selects mRe_layWays.1.cls mRe_layWays.1 mRe_layWays.1 ∈ lwg := lwg_of 71 (by decide +kernel) (by decide +kernel)
theorem w1665 : Cond.methodLink "BowingRowModel" 332 ⟨"BowingRowModel", "layWays", "()V"⟩ ∈ lwg := lwg_of 1665 (by decide +kernel) (by decide +kernel)
theorem bRe_asItIs_0 {l : Launch} {G : Gx} {d : Nat} {bc bs : Nat} {Φ : OutV → Mm → Prop} (M : Mm) (a0 : Nat)
    (h : ((m_sh M a0).1 = 11) ∧ CallVC l G d mRe_asItIs 4 [.ref a0] [] mRe_layWays [.ref a0] M bc bs Φ) :
    Ev l G d mRe_asItIs 0 [.ref a0] [] M bc bs Φ := by
  refine Ev.aload_n dRe_asItIs_0 rfl ?_
  have g1 := h.1
  replace h := h.2
  exact Ev.vcV (z := mRe_layWays) (ci := 11) [] [] rfl dRe_asItIs_1 oRe_layWays rfl w1665 iRe_layWays sRe_layWays (by decide) rfl g1 (Nat.le_of_ble_eq_true rfl) h
def mRe_day0 : MR := (⟨"BowingRowModel", "day0", "()V"⟩, prog_14_method_52_code, 3, none)
theorem oRe_day0 : MOK mRe_day0 0 := ⟨lwg_of 1672 (by decide +kernel) (by decide +kernel), lwg_of 103 (by decide +kernel) (by decide +kernel), ⟨by decide +kernel, by decide +kernel⟩, by decide +kernel, by decide⟩
theorem iRe_day0 : Cond.instanceMethod mRe_day0.1 ∈ lwg := lwg_of 1671 (by decide +kernel) (by decide +kernel)
theorem sRe_day0 : Cond.selects mRe_day0.1.cls mRe_day0.1 mRe_day0.1 ∈ lwg := lwg_of 72 (by decide +kernel) (by decide +kernel)
theorem w1669 : Cond.methodLink "BowingRowModel" 335 ⟨"BowingRowModel", "day0", "()V"⟩ ∈ lwg := lwg_of 1669 (by decide +kernel) (by decide +kernel)
theorem bRe_asItIs_4 {l : Launch} {G : Gx} {d : Nat} {bc bs : Nat} {Φ : OutV → Mm → Prop} (M : Mm) (a0 : Nat)
    (h : ((m_sh M a0).1 = 11) ∧ CallVC l G d mRe_asItIs 8 [.ref a0] [] mRe_day0 [.ref a0] M bc bs Φ) :
    Ev l G d mRe_asItIs 4 [.ref a0] [] M bc bs Φ := by
  refine Ev.aload_n dRe_asItIs_4 rfl ?_
  have g1 := h.1
  replace h := h.2
  exact Ev.vcV (z := mRe_day0) (ci := 11) [] [] rfl dRe_asItIs_5 oRe_day0 rfl w1669 iRe_day0 sRe_day0 (by decide) rfl g1 (Nat.le_of_ble_eq_true rfl) h
theorem bRe_asItIs_8 {l : Launch} {G : Gx} {d : Nat} {bc bs : Nat} {Φ : OutV → Mm → Prop} (M : Mm) (a0 : Nat)
    (h : Φ (.inl none) M) :
    Ev l G d mRe_asItIs 8 [.ref a0] [] M bc bs Φ := by
  exact Ev.vret dRe_asItIs_8 rfl h
theorem dRe_layWays_0 : decode mRe_layWays.2.1 0 = .ok (.iconst 0, 1) := by decide +kernel
theorem dRe_layWays_1 : decode mRe_layWays.2.1 1 = .ok (.istore_n 1, 1) := by decide +kernel
theorem dRe_layWays_2 : decode mRe_layWays.2.1 2 = .ok (.iload_n 1, 1) := by decide +kernel
theorem dRe_layWays_3 : decode mRe_layWays.2.1 3 = .ok (.bipush 8, 2) := by decide +kernel
theorem dRe_layWays_5 : decode mRe_layWays.2.1 5 = .ok (.if_icmp .ge 23, 3) := by decide +kernel
theorem dRe_layWays_8 : decode mRe_layWays.2.1 8 = .ok (.aload_n 0, 1) := by decide +kernel
theorem dRe_layWays_9 : decode mRe_layWays.2.1 9 = .ok (.getfield 64, 3) := by decide +kernel
theorem dRe_layWays_12 : decode mRe_layWays.2.1 12 = .ok (.iload_n 1, 1) := by decide +kernel
theorem dRe_layWays_13 : decode mRe_layWays.2.1 13 = .ok (.aload_n 0, 1) := by decide +kernel
theorem dRe_layWays_14 : decode mRe_layWays.2.1 14 = .ok (.getfield 22, 3) := by decide +kernel
theorem dRe_layWays_17 : decode mRe_layWays.2.1 17 = .ok (.iload_n 1, 1) := by decide +kernel
theorem dRe_layWays_18 : decode mRe_layWays.2.1 18 = .ok (.aaload, 1) := by decide +kernel
theorem dRe_layWays_19 : decode mRe_layWays.2.1 19 = .ok (.iconst 5, 1) := by decide +kernel
theorem dRe_layWays_20 : decode mRe_layWays.2.1 20 = .ok (.iaload, 1) := by decide +kernel
theorem dRe_layWays_21 : decode mRe_layWays.2.1 21 = .ok (.iastore, 1) := by decide +kernel
theorem dRe_layWays_22 : decode mRe_layWays.2.1 22 = .ok (.iinc 1 1, 3) := by decide +kernel
theorem dRe_layWays_25 : decode mRe_layWays.2.1 25 = .ok (.goto (-23), 3) := by decide +kernel
theorem dRe_layWays_28 : decode mRe_layWays.2.1 28 = .ok (.return_, 1) := by decide +kernel
theorem bRe_layWays_0 {l : Launch} {G : Gx} {d : Nat} {bc bs : Nat} {Φ : OutV → Mm → Prop} (M : Mm) (a0 : Nat)
    (h : Ev l G d mRe_layWays 2 [.ref a0, .int 0] [] M bc bs Φ) :
    Ev l G d mRe_layWays 0 [.ref a0, .null] [] M bc bs Φ := by
  refine Ev.iconst (v := 0) dRe_layWays_0 (by decide) ?_
  refine Ev.istore_n dRe_layWays_1 (by decide) ?_
  show Ev l G d mRe_layWays (_ + _) [.ref a0, .int 0] [] M bc bs Φ
  exact h
theorem bRe_layWays_2 {l : Launch} {G : Gx} {d : Nat} {bc bs : Nat} {Φ : OutV → Mm → Prop} (M : Mm) (a0 : Nat) (x1 : Int32)
    (h : (8 ≤ x1 → Φ (.inl none) M) ∧ (¬ 8 ≤ x1 → ((m_sh M a0).1 = 11) ∧ ((m_sh M (m_r M a0 13)).1 = 33) ∧ (vp_in x1 (m_sh M (m_r M a0 13)).2) ∧ ((m_sh M (m_r M (m_r M a0 13) x1.toNatClampNeg)).1 = 20) ∧ (vp_in 5 (m_sh M (m_r M (m_r M a0 13) x1.toNatClampNeg)).2) ∧ ((m_sh M (m_r M a0 32)).1 = 20) ∧ (vp_in x1 (m_sh M (m_r M a0 32)).2) ∧ Ev l G d mRe_layWays 2 [.ref a0, .int (x1 + 1)] [] (m_si M (m_r M a0 32) x1.toNatClampNeg (m_i M (m_r M (m_r M a0 13) x1.toNatClampNeg) (5 : Int32).toNatClampNeg)) bc bs Φ)) :
    Ev l G d mRe_layWays 2 [.ref a0, .int x1] [] M bc bs Φ := by
  refine Ev.iload_n dRe_layWays_2 rfl ?_
  refine Ev.bipush (v := 8) dRe_layWays_3 (by decide) ?_
  refine Ev.icmp_ge 28 (by decide) dRe_layWays_5 (fun c => ?_) (fun c => ?_)
  · replace h := h.1 c
    exact Ev.vret dRe_layWays_28 rfl h
  · replace h := h.2 c
    refine Ev.aload_n dRe_layWays_8 rfl ?_
    have g1 := h.1
    replace h := h.2
    refine Ev.getR dRe_layWays_9 (Or.inl fRe_64) rfl g1 ?_
    refine Ev.iload_n dRe_layWays_12 rfl ?_
    refine Ev.aload_n dRe_layWays_13 rfl ?_
    refine Ev.getR dRe_layWays_14 (Or.inl fRe_22) rfl g1 ?_
    refine Ev.iload_n dRe_layWays_17 rfl ?_
    have g2 := h.1
    replace h := h.2
    have g3 := h.1
    replace h := h.2
    refine Ev.aald2 33 (by decide) dRe_layWays_18 g2 g3 ?_
    refine Ev.iconst (v := 5) dRe_layWays_19 (by decide) ?_
    have g4 := h.1
    replace h := h.2
    have g5 := h.1
    replace h := h.2
    refine Ev.iald2 dRe_layWays_20 g4 g5 ?_
    have g6 := h.1
    replace h := h.2
    have g7 := h.1
    replace h := h.2
    refine Ev.iast2 dRe_layWays_21 g6 g7 ?_
    refine Ev.iinc (v := x1 + 1) dRe_layWays_22 (by decide) rfl rfl ?_
    show Ev l G d mRe_layWays (_ + _) [.ref a0, .int (x1 + 1)] [] (m_si M (m_r M a0 32) x1.toNatClampNeg (m_i M (m_r M (m_r M a0 13) x1.toNatClampNeg) (5 : Int32).toNatClampNeg)) bc bs Φ
    refine Ev.goto 2 dRe_layWays_25 (by decide) ?_
    exact h
theorem dRe_day0_0 : decode mRe_day0.2.1 0 = .ok (.aload_n 0, 1) := by decide +kernel
theorem dRe_day0_1 : decode mRe_day0.2.1 1 = .ok (.invokevirtual 278, 3) := by decide +kernel
theorem dRe_day0_4 : decode mRe_day0.2.1 4 = .ok (.aload_n 0, 1) := by decide +kernel
theorem dRe_day0_5 : decode mRe_day0.2.1 5 = .ok (.iconst 0, 1) := by decide +kernel
theorem dRe_day0_6 : decode mRe_day0.2.1 6 = .ok (.putfield 307, 3) := by decide +kernel
theorem dRe_day0_9 : decode mRe_day0.2.1 9 = .ok (.aload_n 0, 1) := by decide +kernel
theorem dRe_day0_10 : decode mRe_day0.2.1 10 = .ok (.iconst 0, 1) := by decide +kernel
theorem dRe_day0_11 : decode mRe_day0.2.1 11 = .ok (.putfield 301, 3) := by decide +kernel
theorem dRe_day0_14 : decode mRe_day0.2.1 14 = .ok (.aload_n 0, 1) := by decide +kernel
theorem dRe_day0_15 : decode mRe_day0.2.1 15 = .ok (.iconst 0, 1) := by decide +kernel
theorem dRe_day0_16 : decode mRe_day0.2.1 16 = .ok (.putfield 310, 3) := by decide +kernel
theorem dRe_day0_19 : decode mRe_day0.2.1 19 = .ok (.aload_n 0, 1) := by decide +kernel
theorem dRe_day0_20 : decode mRe_day0.2.1 20 = .ok (.iconst 0, 1) := by decide +kernel
theorem dRe_day0_21 : decode mRe_day0.2.1 21 = .ok (.putfield 313, 3) := by decide +kernel
theorem dRe_day0_24 : decode mRe_day0.2.1 24 = .ok (.aload_n 0, 1) := by decide +kernel
theorem dRe_day0_25 : decode mRe_day0.2.1 25 = .ok (.iconst 0, 1) := by decide +kernel
theorem dRe_day0_26 : decode mRe_day0.2.1 26 = .ok (.putfield 317, 3) := by decide +kernel
theorem dRe_day0_29 : decode mRe_day0.2.1 29 = .ok (.iconst 0, 1) := by decide +kernel
theorem dRe_day0_30 : decode mRe_day0.2.1 30 = .ok (.istore_n 1, 1) := by decide +kernel
theorem dRe_day0_31 : decode mRe_day0.2.1 31 = .ok (.iload_n 1, 1) := by decide +kernel
theorem dRe_day0_32 : decode mRe_day0.2.1 32 = .ok (.bipush 8, 2) := by decide +kernel
theorem dRe_day0_34 : decode mRe_day0.2.1 34 = .ok (.if_icmp .ge 16, 3) := by decide +kernel
theorem dRe_day0_37 : decode mRe_day0.2.1 37 = .ok (.aload_n 0, 1) := by decide +kernel
theorem dRe_day0_38 : decode mRe_day0.2.1 38 = .ok (.getfield 91, 3) := by decide +kernel
theorem dRe_day0_41 : decode mRe_day0.2.1 41 = .ok (.iload_n 1, 1) := by decide +kernel
theorem dRe_day0_42 : decode mRe_day0.2.1 42 = .ok (.iconst (-1), 1) := by decide +kernel
theorem dRe_day0_43 : decode mRe_day0.2.1 43 = .ok (.iastore, 1) := by decide +kernel
theorem dRe_day0_44 : decode mRe_day0.2.1 44 = .ok (.iinc 1 1, 3) := by decide +kernel
theorem dRe_day0_47 : decode mRe_day0.2.1 47 = .ok (.goto (-16), 3) := by decide +kernel
theorem dRe_day0_50 : decode mRe_day0.2.1 50 = .ok (.aload_n 0, 1) := by decide +kernel
theorem dRe_day0_51 : decode mRe_day0.2.1 51 = .ok (.iconst 0, 1) := by decide +kernel
theorem dRe_day0_52 : decode mRe_day0.2.1 52 = .ok (.putfield 320, 3) := by decide +kernel
theorem dRe_day0_55 : decode mRe_day0.2.1 55 = .ok (.aload_n 0, 1) := by decide +kernel
theorem dRe_day0_56 : decode mRe_day0.2.1 56 = .ok (.iconst 3, 1) := by decide +kernel
theorem dRe_day0_57 : decode mRe_day0.2.1 57 = .ok (.sipush 999, 3) := by decide +kernel
theorem dRe_day0_60 : decode mRe_day0.2.1 60 = .ok (.invokevirtual 281, 3) := by decide +kernel
theorem dRe_day0_63 : decode mRe_day0.2.1 63 = .ok (.istore_n 1, 1) := by decide +kernel
theorem dRe_day0_64 : decode mRe_day0.2.1 64 = .ok (.iconst 0, 1) := by decide +kernel
theorem dRe_day0_65 : decode mRe_day0.2.1 65 = .ok (.istore_n 2, 1) := by decide +kernel
theorem dRe_day0_66 : decode mRe_day0.2.1 66 = .ok (.aload_n 0, 1) := by decide +kernel
theorem dRe_day0_67 : decode mRe_day0.2.1 67 = .ok (.getfield 313, 3) := by decide +kernel
theorem dRe_day0_70 : decode mRe_day0.2.1 70 = .ok (.ifCond .ne 70, 3) := by decide +kernel
theorem dRe_day0_73 : decode mRe_day0.2.1 73 = .ok (.iload_n 2, 1) := by decide +kernel
theorem dRe_day0_74 : decode mRe_day0.2.1 74 = .ok (.iconst (-1), 1) := by decide +kernel
theorem dRe_day0_75 : decode mRe_day0.2.1 75 = .ok (.if_icmp .eq 65, 3) := by decide +kernel
theorem dRe_day0_78 : decode mRe_day0.2.1 78 = .ok (.iload_n 2, 1) := by decide +kernel
theorem dRe_day0_79 : decode mRe_day0.2.1 79 = .ok (.iload_n 1, 1) := by decide +kernel
theorem dRe_day0_80 : decode mRe_day0.2.1 80 = .ok (.if_icmp .ge 60, 3) := by decide +kernel
theorem dRe_day0_83 : decode mRe_day0.2.1 83 = .ok (.aload_n 0, 1) := by decide +kernel
theorem dRe_day0_84 : decode mRe_day0.2.1 84 = .ok (.iload_n 2, 1) := by decide +kernel
theorem dRe_day0_85 : decode mRe_day0.2.1 85 = .ok (.invokevirtual 323, 3) := by decide +kernel
theorem dRe_day0_88 : decode mRe_day0.2.1 88 = .ok (.aload_n 0, 1) := by decide +kernel
theorem dRe_day0_89 : decode mRe_day0.2.1 89 = .ok (.getfield 304, 3) := by decide +kernel
theorem dRe_day0_92 : decode mRe_day0.2.1 92 = .ok (.ifCond .ne 12, 3) := by decide +kernel
theorem dRe_day0_95 : decode mRe_day0.2.1 95 = .ok (.aload_n 0, 1) := by decide +kernel
theorem dRe_day0_96 : decode mRe_day0.2.1 96 = .ok (.iload_n 2, 1) := by decide +kernel
theorem dRe_day0_97 : decode mRe_day0.2.1 97 = .ok (.invokevirtual 326, 3) := by decide +kernel
theorem dRe_day0_100 : decode mRe_day0.2.1 100 = .ok (.istore_n 2, 1) := by decide +kernel
theorem dRe_day0_101 : decode mRe_day0.2.1 101 = .ok (.goto (-35), 3) := by decide +kernel
theorem dRe_day0_104 : decode mRe_day0.2.1 104 = .ok (.aload_n 0, 1) := by decide +kernel
theorem dRe_day0_105 : decode mRe_day0.2.1 105 = .ok (.iload_n 2, 1) := by decide +kernel
theorem dRe_day0_106 : decode mRe_day0.2.1 106 = .ok (.invokevirtual 329, 3) := by decide +kernel
theorem dRe_day0_109 : decode mRe_day0.2.1 109 = .ok (.aload_n 0, 1) := by decide +kernel
theorem dRe_day0_110 : decode mRe_day0.2.1 110 = .ok (.getfield 313, 3) := by decide +kernel
theorem dRe_day0_113 : decode mRe_day0.2.1 113 = .ok (.ifCond .eq 7, 3) := by decide +kernel
theorem dRe_day0_116 : decode mRe_day0.2.1 116 = .ok (.iload_n 2, 1) := by decide +kernel
theorem dRe_day0_117 : decode mRe_day0.2.1 117 = .ok (.goto 14, 3) := by decide +kernel
theorem dRe_day0_120 : decode mRe_day0.2.1 120 = .ok (.aload_n 0, 1) := by decide +kernel
theorem dRe_day0_121 : decode mRe_day0.2.1 121 = .ok (.getfield 85, 3) := by decide +kernel
theorem dRe_day0_124 : decode mRe_day0.2.1 124 = .ok (.aload_n 0, 1) := by decide +kernel
theorem dRe_day0_125 : decode mRe_day0.2.1 125 = .ok (.getfield 307, 3) := by decide +kernel
theorem dRe_day0_128 : decode mRe_day0.2.1 128 = .ok (.iconst 1, 1) := by decide +kernel
theorem dRe_day0_129 : decode mRe_day0.2.1 129 = .ok (.isub, 1) := by decide +kernel
theorem dRe_day0_130 : decode mRe_day0.2.1 130 = .ok (.iaload, 1) := by decide +kernel
theorem dRe_day0_131 : decode mRe_day0.2.1 131 = .ok (.istore_n 2, 1) := by decide +kernel
theorem dRe_day0_132 : decode mRe_day0.2.1 132 = .ok (.aload_n 0, 1) := by decide +kernel
theorem dRe_day0_133 : decode mRe_day0.2.1 133 = .ok (.iload_n 2, 1) := by decide +kernel
theorem dRe_day0_134 : decode mRe_day0.2.1 134 = .ok (.putfield 320, 3) := by decide +kernel
theorem dRe_day0_137 : decode mRe_day0.2.1 137 = .ok (.goto (-71), 3) := by decide +kernel
theorem dRe_day0_140 : decode mRe_day0.2.1 140 = .ok (.return_, 1) := by decide +kernel
theorem bRe_day0_0 {l : Launch} {G : Gx} {d : Nat} {bc bs : Nat} {Φ : OutV → Mm → Prop} (M : Mm) (a0 : Nat)
    (h : ((m_sh M a0).1 = 11) ∧ CallVC l G d mRe_day0 4 [.ref a0, .null, .null] [] mRe_layRules [.ref a0] M bc bs Φ) :
    Ev l G d mRe_day0 0 [.ref a0, .null, .null] [] M bc bs Φ := by
  refine Ev.aload_n dRe_day0_0 rfl ?_
  have g1 := h.1
  replace h := h.2
  exact Ev.vcV (z := mRe_layRules) (ci := 11) [] [] rfl dRe_day0_1 oRe_layRules rfl w1606 iRe_layRules sRe_layRules (by decide) rfl g1 (Nat.le_of_ble_eq_true rfl) h
theorem bRe_day0_4 {l : Launch} {G : Gx} {d : Nat} {bc bs : Nat} {Φ : OutV → Mm → Prop} (M : Mm) (a0 : Nat) (u1 : Value) (u2 : Value)
    (h : ((m_sh M a0).1 = 11) ∧ Ev l G d mRe_day0 14 [.ref a0, u1, u2] [] (m_si (m_si M a0 40 0) a0 41 0) bc bs Φ) :
    Ev l G d mRe_day0 4 [.ref a0, u1, u2] [] M bc bs Φ := by
  refine Ev.aload_n dRe_day0_4 rfl ?_
  refine Ev.iconst (v := 0) dRe_day0_5 (by decide) ?_
  have g1 := h.1
  replace h := h.2
  refine Ev.putI dRe_day0_6 ⟨_, Or.inl ⟨fRe_307, (fun h => by cases h)⟩⟩ rfl ⟨rfl, rfl⟩ g1 ?_
  refine Ev.aload_n dRe_day0_9 rfl ?_
  refine Ev.iconst (v := 0) dRe_day0_10 (by decide) ?_
  refine Ev.putI dRe_day0_11 ⟨_, Or.inl ⟨fRe_301, (fun h => by cases h)⟩⟩ rfl ⟨rfl, rfl⟩ g1 ?_
  exact h
theorem bRe_day0_14 {l : Launch} {G : Gx} {d : Nat} {bc bs : Nat} {Φ : OutV → Mm → Prop} (M : Mm) (a0 : Nat) (u1 : Value) (u2 : Value)
    (h : ((m_sh M a0).1 = 11) ∧ Ev l G d mRe_day0 24 [.ref a0, u1, u2] [] (m_si (m_si M a0 42 0) a0 44 0) bc bs Φ) :
    Ev l G d mRe_day0 14 [.ref a0, u1, u2] [] M bc bs Φ := by
  refine Ev.aload_n dRe_day0_14 rfl ?_
  refine Ev.iconst (v := 0) dRe_day0_15 (by decide) ?_
  have g1 := h.1
  replace h := h.2
  refine Ev.putI dRe_day0_16 ⟨_, Or.inl ⟨fRe_310, (fun h => by cases h)⟩⟩ rfl ⟨rfl, rfl⟩ g1 ?_
  refine Ev.aload_n dRe_day0_19 rfl ?_
  refine Ev.iconst (v := 0) dRe_day0_20 (by decide) ?_
  refine Ev.putI dRe_day0_21 ⟨_, Or.inl ⟨fRe_313, (fun h => by cases h)⟩⟩ rfl ⟨rfl, rfl⟩ g1 ?_
  exact h
theorem fRe_317 : FOK "BowingRowModel" 317 11 36 false := ⟨RX12, TX12, nFd 11, rfl, by decide, rfl, by decide, rfl, lwg_of 1319 (by decide +kernel) (by decide +kernel)⟩
theorem bRe_day0_24 {l : Launch} {G : Gx} {d : Nat} {bc bs : Nat} {Φ : OutV → Mm → Prop} (M : Mm) (a0 : Nat) (u1 : Value) (u2 : Value)
    (h : ((m_sh M a0).1 = 11) ∧ Ev l G d mRe_day0 31 [.ref a0, .int 0, u2] [] (m_si M a0 36 0) bc bs Φ) :
    Ev l G d mRe_day0 24 [.ref a0, u1, u2] [] M bc bs Φ := by
  refine Ev.aload_n dRe_day0_24 rfl ?_
  refine Ev.iconst (v := 0) dRe_day0_25 (by decide) ?_
  have g1 := h.1
  replace h := h.2
  refine Ev.putI dRe_day0_26 ⟨_, Or.inl ⟨fRe_317, (fun h => by cases h)⟩⟩ rfl ⟨rfl, rfl⟩ g1 ?_
  refine Ev.iconst (v := 0) dRe_day0_29 (by decide) ?_
  refine Ev.istore_n dRe_day0_30 (by decide) ?_
  show Ev l G d mRe_day0 (_ + _) [.ref a0, .int 0, u2] [] (m_si M a0 36 0) bc bs Φ
  exact h
theorem fRe_320 : FOK "BowingRowModel" 320 11 43 false := ⟨RX12, TX12, nFd 11, rfl, by decide, rfl, by decide, rfl, lwg_of 1326 (by decide +kernel) (by decide +kernel)⟩
theorem bRe_day0_31 {l : Launch} {G : Gx} {d : Nat} {bc bs : Nat} {Φ : OutV → Mm → Prop} (M : Mm) (a0 : Nat) (x1 : Int32) (u2 : Value)
    (h : (8 ≤ x1 → ((m_sh M a0).1 = 11) ∧ CallVC l G d mRe_day0 63 [.ref a0, .int x1, u2] [] mRe_numberOf [.ref a0, .int 3, .int 999] (m_si M a0 43 0) bc bs Φ) ∧ (¬ 8 ≤ x1 → ((m_sh M a0).1 = 11) ∧ ((m_sh M (m_r M a0 51)).1 = 20) ∧ (vp_in x1 (m_sh M (m_r M a0 51)).2) ∧ Ev l G d mRe_day0 31 [.ref a0, .int (x1 + 1), u2] [] (m_si M (m_r M a0 51) x1.toNatClampNeg ((-1))) bc bs Φ)) :
    Ev l G d mRe_day0 31 [.ref a0, .int x1, u2] [] M bc bs Φ := by
  refine Ev.iload_n dRe_day0_31 rfl ?_
  refine Ev.bipush (v := 8) dRe_day0_32 (by decide) ?_
  refine Ev.icmp_ge 50 (by decide) dRe_day0_34 (fun c => ?_) (fun c => ?_)
  · replace h := h.1 c
    refine Ev.aload_n dRe_day0_50 rfl ?_
    refine Ev.iconst (v := 0) dRe_day0_51 (by decide) ?_
    have g1 := h.1
    replace h := h.2
    refine Ev.putI dRe_day0_52 ⟨_, Or.inl ⟨fRe_320, (fun h => by cases h)⟩⟩ rfl ⟨rfl, rfl⟩ g1 ?_
    refine Ev.aload_n dRe_day0_55 rfl ?_
    refine Ev.iconst (v := 3) dRe_day0_56 (by decide) ?_
    refine Ev.sipush (v := 999) dRe_day0_57 (by decide) ?_
    exact Ev.vcV (z := mRe_numberOf) (ci := 11) [.int 3, .int 999] [] rfl dRe_day0_60 oRe_numberOf rfl w1610 iRe_numberOf sRe_numberOf (by decide) rfl g1 (Nat.le_of_ble_eq_true rfl) h
  · replace h := h.2 c
    refine Ev.aload_n dRe_day0_37 rfl ?_
    have g2 := h.1
    replace h := h.2
    refine Ev.getR dRe_day0_38 (Or.inl fRe_91) rfl g2 ?_
    refine Ev.iload_n dRe_day0_41 rfl ?_
    refine Ev.iconst (v := (-1)) dRe_day0_42 (by decide) ?_
    have g3 := h.1
    replace h := h.2
    have g4 := h.1
    replace h := h.2
    refine Ev.iast2 dRe_day0_43 g3 g4 ?_
    refine Ev.iinc (v := x1 + 1) dRe_day0_44 (by decide) rfl rfl ?_
    show Ev l G d mRe_day0 (_ + _) [.ref a0, .int (x1 + 1), u2] [] (m_si M (m_r M a0 51) x1.toNatClampNeg ((-1))) bc bs Φ
    refine Ev.goto 31 dRe_day0_47 (by decide) ?_
    exact h
theorem bRe_day0_63 {l : Launch} {G : Gx} {d : Nat} {bc bs : Nat} {Φ : OutV → Mm → Prop} (M : Mm) (a0 : Nat) (x1 : Int32) (u2 : Value) (s0 : Int32)
    (h : Ev l G d mRe_day0 66 [.ref a0, .int s0, .int 0] [] M bc bs Φ) :
    Ev l G d mRe_day0 63 [.ref a0, .int x1, u2] [.int s0] M bc bs Φ := by
  refine Ev.istore_n dRe_day0_63 (by decide) ?_
  show Ev l G d mRe_day0 (_ + _) [.ref a0, .int s0, u2] [] M bc bs Φ
  refine Ev.iconst (v := 0) dRe_day0_64 (by decide) ?_
  refine Ev.istore_n dRe_day0_65 (by decide) ?_
  show Ev l G d mRe_day0 (_ + _) [.ref a0, .int s0, .int 0] [] M bc bs Φ
  exact h
def mRe_layThere : MR := (⟨"BowingRowModel", "layThere", "(I)V"⟩, prog_14_method_50_code, 4, none)
theorem oRe_layThere : MOK mRe_layThere 1 := ⟨lwg_of 1676 (by decide +kernel) (by decide +kernel), lwg_of 103 (by decide +kernel) (by decide +kernel), ⟨by decide +kernel, by decide +kernel⟩, by decide +kernel, by decide⟩
theorem iRe_layThere : Cond.instanceMethod mRe_layThere.1 ∈ lwg := lwg_of 1675 (by decide +kernel) (by decide +kernel)
theorem sRe_layThere : Cond.selects mRe_layThere.1.cls mRe_layThere.1 mRe_layThere.1 ∈ lwg := lwg_of 73 (by decide +kernel) (by decide +kernel)
theorem w1673 : Cond.methodLink "BowingRowModel" 323 ⟨"BowingRowModel", "layThere", "(I)V"⟩ ∈ lwg := lwg_of 1673 (by decide +kernel) (by decide +kernel)
theorem bRe_day0_66 {l : Launch} {G : Gx} {d : Nat} {bc bs : Nat} {Φ : OutV → Mm → Prop} (M : Mm) (a0 : Nat) (x1 : Int32) (x2 : Int32)
    (h : ((m_sh M a0).1 = 11) ∧ (¬ (m_i M a0 44) = 0 → Φ (.inl none) M) ∧ ((m_i M a0 44) = 0 → (x2 = ((-1)) → Φ (.inl none) M) ∧ (¬ x2 = ((-1)) → (x1 ≤ x2 → Φ (.inl none) M) ∧ (¬ x1 ≤ x2 → CallVC l G d mRe_day0 88 [.ref a0, .int x1, .int x2] [] mRe_layThere [.ref a0, .int x2] M bc bs Φ)))) :
    Ev l G d mRe_day0 66 [.ref a0, .int x1, .int x2] [] M bc bs Φ := by
  refine Ev.aload_n dRe_day0_66 rfl ?_
  have g1 := h.1
  replace h := h.2
  refine Ev.getI dRe_day0_67 (Or.inl fRe_313) rfl g1 ?_
  refine Ev.if_ne 140 (by decide) dRe_day0_70 (fun c => ?_) (fun c => ?_)
  · replace h := h.1 c
    exact Ev.vret dRe_day0_140 rfl h
  · replace h := h.2 c
    refine Ev.iload_n dRe_day0_73 rfl ?_
    refine Ev.iconst (v := (-1)) dRe_day0_74 (by decide) ?_
    refine Ev.icmp_eq 140 (by decide) dRe_day0_75 (fun c => ?_) (fun c => ?_)
    · replace h := h.1 c
      exact Ev.vret dRe_day0_140 rfl h
    · replace h := h.2 c
      refine Ev.iload_n dRe_day0_78 rfl ?_
      refine Ev.iload_n dRe_day0_79 rfl ?_
      refine Ev.icmp_ge 140 (by decide) dRe_day0_80 (fun c => ?_) (fun c => ?_)
      · replace h := h.1 c
        exact Ev.vret dRe_day0_140 rfl h
      · replace h := h.2 c
        refine Ev.aload_n dRe_day0_83 rfl ?_
        refine Ev.iload_n dRe_day0_84 rfl ?_
        exact Ev.vcV (z := mRe_layThere) (ci := 11) [.int x2] [] rfl dRe_day0_85 oRe_layThere rfl w1673 iRe_layThere sRe_layThere (by decide) rfl g1 (Nat.le_of_ble_eq_true rfl) h
theorem fRe_304 : FOK "BowingRowModel" 304 11 57 false := ⟨RX12, TX12, nFd 11, rfl, by decide, rfl, by decide, rfl, lwg_of 1340 (by decide +kernel) (by decide +kernel)⟩
def mRe_callAt : MR := (⟨"BowingRowModel", "callAt", "(I)V"⟩, prog_14_method_55_code, 6, none)
theorem oRe_callAt : MOK mRe_callAt 1 := ⟨lwg_of 1684 (by decide +kernel) (by decide +kernel), lwg_of 103 (by decide +kernel) (by decide +kernel), ⟨by decide +kernel, by decide +kernel⟩, by decide +kernel, by decide⟩
theorem iRe_callAt : Cond.instanceMethod mRe_callAt.1 ∈ lwg := lwg_of 1683 (by decide +kernel) (by decide +kernel)
theorem sRe_callAt : Cond.selects mRe_callAt.1.cls mRe_callAt.1 mRe_callAt.1 ∈ lwg := lwg_of 75 (by decide +kernel) (by decide +kernel)
theorem w1681 : Cond.methodLink "BowingRowModel" 329 ⟨"BowingRowModel", "callAt", "(I)V"⟩ ∈ lwg := lwg_of 1681 (by decide +kernel) (by decide +kernel)
def mRe_nextComes : MR := (⟨"BowingRowModel", "nextComes", "(I)I"⟩, prog_14_method_51_code, 4, (Option.some .int))
theorem oRe_nextComes : MOK mRe_nextComes 1 := ⟨lwg_of 1680 (by decide +kernel) (by decide +kernel), lwg_of 103 (by decide +kernel) (by decide +kernel), ⟨by decide +kernel, by decide +kernel⟩, by decide +kernel, by decide⟩
theorem iRe_nextComes : Cond.instanceMethod mRe_nextComes.1 ∈ lwg := lwg_of 1679 (by decide +kernel) (by decide +kernel)
theorem sRe_nextComes : Cond.selects mRe_nextComes.1.cls mRe_nextComes.1 mRe_nextComes.1 ∈ lwg := lwg_of 74 (by decide +kernel) (by decide +kernel)
theorem w1677 : Cond.methodLink "BowingRowModel" 326 ⟨"BowingRowModel", "nextComes", "(I)I"⟩ ∈ lwg := lwg_of 1677 (by decide +kernel) (by decide +kernel)
theorem bRe_day0_88 {l : Launch} {G : Gx} {d : Nat} {bc bs : Nat} {Φ : OutV → Mm → Prop} (M : Mm) (a0 : Nat) (x1 : Int32) (x2 : Int32)
    (h : ((m_sh M a0).1 = 11) ∧ (¬ (m_i M a0 57) = 0 → CallVC l G d mRe_day0 109 [.ref a0, .int x1, .int x2] [] mRe_callAt [.ref a0, .int x2] M bc bs Φ) ∧ ((m_i M a0 57) = 0 → CallVC l G d mRe_day0 100 [.ref a0, .int x1, .int x2] [] mRe_nextComes [.ref a0, .int x2] M bc bs Φ)) :
    Ev l G d mRe_day0 88 [.ref a0, .int x1, .int x2] [] M bc bs Φ := by
  refine Ev.aload_n dRe_day0_88 rfl ?_
  have g1 := h.1
  replace h := h.2
  refine Ev.getI dRe_day0_89 (Or.inl fRe_304) rfl g1 ?_
  refine Ev.if_ne 104 (by decide) dRe_day0_92 (fun c => ?_) (fun c => ?_)
  · replace h := h.1 c
    refine Ev.aload_n dRe_day0_104 rfl ?_
    refine Ev.iload_n dRe_day0_105 rfl ?_
    exact Ev.vcV (z := mRe_callAt) (ci := 11) [.int x2] [] rfl dRe_day0_106 oRe_callAt rfl w1681 iRe_callAt sRe_callAt (by decide) rfl g1 (Nat.le_of_ble_eq_true rfl) h
  · replace h := h.2 c
    refine Ev.aload_n dRe_day0_95 rfl ?_
    refine Ev.iload_n dRe_day0_96 rfl ?_
    exact Ev.vcV (z := mRe_nextComes) (ci := 11) [.int x2] [] rfl dRe_day0_97 oRe_nextComes rfl w1677 iRe_nextComes sRe_nextComes (by decide) rfl g1 (Nat.le_of_ble_eq_true rfl) h
theorem bRe_day0_100 {l : Launch} {G : Gx} {d : Nat} {bc bs : Nat} {Φ : OutV → Mm → Prop} (M : Mm) (a0 : Nat) (x1 : Int32) (x2 : Int32) (s0 : Int32)
    (h : Ev l G d mRe_day0 66 [.ref a0, .int x1, .int s0] [] M bc bs Φ) :
    Ev l G d mRe_day0 100 [.ref a0, .int x1, .int x2] [.int s0] M bc bs Φ := by
  refine Ev.istore_n dRe_day0_100 (by decide) ?_
  show Ev l G d mRe_day0 (_ + _) [.ref a0, .int x1, .int s0] [] M bc bs Φ
  refine Ev.goto 66 dRe_day0_101 (by decide) ?_
  exact h
theorem bRe_day0_109 {l : Launch} {G : Gx} {d : Nat} {bc bs : Nat} {Φ : OutV → Mm → Prop} (M : Mm) (a0 : Nat) (x1 : Int32) (x2 : Int32)
    (h : ((m_sh M a0).1 = 11) ∧ ((m_i M a0 44) = 0 → ((m_sh M (m_r M a0 49)).1 = 20) ∧ (vp_in ((m_i M a0 40) - 1) (m_sh M (m_r M a0 49)).2) ∧ Ev l G d mRe_day0 66 [.ref a0, .int x1, .int (m_i M (m_r M a0 49) ((m_i M a0 40) - 1).toNatClampNeg)] [] (m_si M a0 43 (m_i M (m_r M a0 49) ((m_i M a0 40) - 1).toNatClampNeg)) bc bs Φ) ∧ (¬ (m_i M a0 44) = 0 → Ev l G d mRe_day0 66 [.ref a0, .int x1, .int x2] [] (m_si M a0 43 x2) bc bs Φ)) :
    Ev l G d mRe_day0 109 [.ref a0, .int x1, .int x2] [] M bc bs Φ := by
  refine Ev.aload_n dRe_day0_109 rfl ?_
  have g1 := h.1
  replace h := h.2
  refine Ev.getI dRe_day0_110 (Or.inl fRe_313) rfl g1 ?_
  refine Ev.if_eq 120 (by decide) dRe_day0_113 (fun c => ?_) (fun c => ?_)
  · replace h := h.1 c
    refine Ev.aload_n dRe_day0_120 rfl ?_
    refine Ev.getR dRe_day0_121 (Or.inl fRe_85) rfl g1 ?_
    refine Ev.aload_n dRe_day0_124 rfl ?_
    refine Ev.getI dRe_day0_125 (Or.inl fRe_307) rfl g1 ?_
    refine Ev.iconst (v := 1) dRe_day0_128 (by decide) ?_
    refine Ev.isub dRe_day0_129 ?_
    have g2 := h.1
    replace h := h.2
    have g3 := h.1
    replace h := h.2
    refine Ev.iald2 dRe_day0_130 g2 g3 ?_
    refine Ev.istore_n dRe_day0_131 (by decide) ?_
    show Ev l G d mRe_day0 (_ + _) [.ref a0, .int x1, .int (m_i M (m_r M a0 49) ((m_i M a0 40) - 1).toNatClampNeg)] [] M bc bs Φ
    refine Ev.aload_n dRe_day0_132 rfl ?_
    refine Ev.iload_n dRe_day0_133 rfl ?_
    refine Ev.putI dRe_day0_134 ⟨_, Or.inl ⟨fRe_320, (fun h => by cases h)⟩⟩ rfl ⟨rfl, rfl⟩ g1 ?_
    refine Ev.goto 66 dRe_day0_137 (by decide) ?_
    exact h
  · replace h := h.2 c
    refine Ev.iload_n dRe_day0_116 rfl ?_
    refine Ev.goto 131 dRe_day0_117 (by decide) ?_
    refine Ev.istore_n dRe_day0_131 (by decide) ?_
    show Ev l G d mRe_day0 (_ + _) [.ref a0, .int x1, .int x2] [] M bc bs Φ
    refine Ev.aload_n dRe_day0_132 rfl ?_
    refine Ev.iload_n dRe_day0_133 rfl ?_
    refine Ev.putI dRe_day0_134 ⟨_, Or.inl ⟨fRe_320, (fun h => by cases h)⟩⟩ rfl ⟨rfl, rfl⟩ g1 ?_
    refine Ev.goto 66 dRe_day0_137 (by decide) ?_
    exact h
theorem dRe_layThere_0 : decode mRe_layThere.2.1 0 = .ok (.aload_n 0, 1) := by decide +kernel
theorem dRe_layThere_1 : decode mRe_layThere.2.1 1 = .ok (.iconst 0, 1) := by decide +kernel
theorem dRe_layThere_2 : decode mRe_layThere.2.1 2 = .ok (.putfield 304, 3) := by decide +kernel
theorem dRe_layThere_5 : decode mRe_layThere.2.1 5 = .ok (.iconst 0, 1) := by decide +kernel
theorem dRe_layThere_6 : decode mRe_layThere.2.1 6 = .ok (.istore_n 2, 1) := by decide +kernel
theorem dRe_layThere_7 : decode mRe_layThere.2.1 7 = .ok (.iload_n 2, 1) := by decide +kernel
theorem dRe_layThere_8 : decode mRe_layThere.2.1 8 = .ok (.aload_n 0, 1) := by decide +kernel
theorem dRe_layThere_9 : decode mRe_layThere.2.1 9 = .ok (.getfield 206, 3) := by decide +kernel
theorem dRe_layThere_12 : decode mRe_layThere.2.1 12 = .ok (.if_icmp .ge 127, 3) := by decide +kernel
theorem dRe_layThere_15 : decode mRe_layThere.2.1 15 = .ok (.aload_n 0, 1) := by decide +kernel
theorem dRe_layThere_16 : decode mRe_layThere.2.1 16 = .ok (.getfield 91, 3) := by decide +kernel
theorem dRe_layThere_19 : decode mRe_layThere.2.1 19 = .ok (.iload_n 2, 1) := by decide +kernel
theorem dRe_layThere_20 : decode mRe_layThere.2.1 20 = .ok (.iaload, 1) := by decide +kernel
theorem dRe_layThere_21 : decode mRe_layThere.2.1 21 = .ok (.iconst (-1), 1) := by decide +kernel
theorem dRe_layThere_22 : decode mRe_layThere.2.1 22 = .ok (.if_icmp .ne 111, 3) := by decide +kernel
theorem dRe_layThere_25 : decode mRe_layThere.2.1 25 = .ok (.aload_n 0, 1) := by decide +kernel
theorem dRe_layThere_26 : decode mRe_layThere.2.1 26 = .ok (.getfield 22, 3) := by decide +kernel
theorem dRe_layThere_29 : decode mRe_layThere.2.1 29 = .ok (.iload_n 2, 1) := by decide +kernel
theorem dRe_layThere_30 : decode mRe_layThere.2.1 30 = .ok (.aaload, 1) := by decide +kernel
theorem dRe_layThere_31 : decode mRe_layThere.2.1 31 = .ok (.iconst 0, 1) := by decide +kernel
theorem dRe_layThere_32 : decode mRe_layThere.2.1 32 = .ok (.iaload, 1) := by decide +kernel
theorem dRe_layThere_33 : decode mRe_layThere.2.1 33 = .ok (.iload_n 1, 1) := by decide +kernel
theorem dRe_layThere_34 : decode mRe_layThere.2.1 34 = .ok (.if_icmp .gt 99, 3) := by decide +kernel
theorem dRe_layThere_37 : decode mRe_layThere.2.1 37 = .ok (.iload_n 1, 1) := by decide +kernel
theorem dRe_layThere_38 : decode mRe_layThere.2.1 38 = .ok (.aload_n 0, 1) := by decide +kernel
theorem dRe_layThere_39 : decode mRe_layThere.2.1 39 = .ok (.getfield 22, 3) := by decide +kernel
theorem dRe_layThere_42 : decode mRe_layThere.2.1 42 = .ok (.iload_n 2, 1) := by decide +kernel
theorem dRe_layThere_43 : decode mRe_layThere.2.1 43 = .ok (.aaload, 1) := by decide +kernel
theorem dRe_layThere_44 : decode mRe_layThere.2.1 44 = .ok (.iconst 0, 1) := by decide +kernel
theorem dRe_layThere_45 : decode mRe_layThere.2.1 45 = .ok (.iaload, 1) := by decide +kernel
theorem dRe_layThere_46 : decode mRe_layThere.2.1 46 = .ok (.isub, 1) := by decide +kernel
theorem dRe_layThere_47 : decode mRe_layThere.2.1 47 = .ok (.aload_n 0, 1) := by decide +kernel
theorem dRe_layThere_48 : decode mRe_layThere.2.1 48 = .ok (.getfield 22, 3) := by decide +kernel
theorem dRe_layThere_51 : decode mRe_layThere.2.1 51 = .ok (.iload_n 2, 1) := by decide +kernel
theorem dRe_layThere_52 : decode mRe_layThere.2.1 52 = .ok (.aaload, 1) := by decide +kernel
theorem dRe_layThere_53 : decode mRe_layThere.2.1 53 = .ok (.iconst 4, 1) := by decide +kernel
theorem dRe_layThere_54 : decode mRe_layThere.2.1 54 = .ok (.iaload, 1) := by decide +kernel
theorem dRe_layThere_55 : decode mRe_layThere.2.1 55 = .ok (.if_icmp .le 6, 3) := by decide +kernel
theorem dRe_layThere_58 : decode mRe_layThere.2.1 58 = .ok (.goto 75, 3) := by decide +kernel
theorem dRe_layThere_61 : decode mRe_layThere.2.1 61 = .ok (.aload_n 0, 1) := by decide +kernel
theorem dRe_layThere_62 : decode mRe_layThere.2.1 62 = .ok (.getfield 304, 3) := by decide +kernel
theorem dRe_layThere_65 : decode mRe_layThere.2.1 65 = .ok (.istore_n 3, 1) := by decide +kernel
theorem dRe_layThere_66 : decode mRe_layThere.2.1 66 = .ok (.iload_n 3, 1) := by decide +kernel
theorem dRe_layThere_67 : decode mRe_layThere.2.1 67 = .ok (.ifCond .le 49, 3) := by decide +kernel
theorem dRe_layThere_70 : decode mRe_layThere.2.1 70 = .ok (.aload_n 0, 1) := by decide +kernel
theorem dRe_layThere_71 : decode mRe_layThere.2.1 71 = .ok (.getfield 22, 3) := by decide +kernel
theorem dRe_layThere_74 : decode mRe_layThere.2.1 74 = .ok (.aload_n 0, 1) := by decide +kernel
theorem dRe_layThere_75 : decode mRe_layThere.2.1 75 = .ok (.getfield 100, 3) := by decide +kernel
theorem dRe_layThere_78 : decode mRe_layThere.2.1 78 = .ok (.iload_n 3, 1) := by decide +kernel
theorem dRe_layThere_79 : decode mRe_layThere.2.1 79 = .ok (.iconst 1, 1) := by decide +kernel
theorem dRe_layThere_80 : decode mRe_layThere.2.1 80 = .ok (.isub, 1) := by decide +kernel
theorem dRe_layThere_81 : decode mRe_layThere.2.1 81 = .ok (.iaload, 1) := by decide +kernel
theorem dRe_layThere_82 : decode mRe_layThere.2.1 82 = .ok (.aaload, 1) := by decide +kernel
theorem dRe_layThere_83 : decode mRe_layThere.2.1 83 = .ok (.iconst 0, 1) := by decide +kernel
theorem dRe_layThere_84 : decode mRe_layThere.2.1 84 = .ok (.iaload, 1) := by decide +kernel
theorem dRe_layThere_85 : decode mRe_layThere.2.1 85 = .ok (.aload_n 0, 1) := by decide +kernel
theorem dRe_layThere_86 : decode mRe_layThere.2.1 86 = .ok (.getfield 22, 3) := by decide +kernel
theorem dRe_layThere_89 : decode mRe_layThere.2.1 89 = .ok (.iload_n 2, 1) := by decide +kernel
theorem dRe_layThere_90 : decode mRe_layThere.2.1 90 = .ok (.aaload, 1) := by decide +kernel
theorem dRe_layThere_91 : decode mRe_layThere.2.1 91 = .ok (.iconst 0, 1) := by decide +kernel
theorem dRe_layThere_92 : decode mRe_layThere.2.1 92 = .ok (.iaload, 1) := by decide +kernel
theorem dRe_layThere_93 : decode mRe_layThere.2.1 93 = .ok (.if_icmp .le 23, 3) := by decide +kernel
theorem dRe_layThere_96 : decode mRe_layThere.2.1 96 = .ok (.aload_n 0, 1) := by decide +kernel
theorem dRe_layThere_97 : decode mRe_layThere.2.1 97 = .ok (.getfield 100, 3) := by decide +kernel
theorem dRe_layThere_100 : decode mRe_layThere.2.1 100 = .ok (.iload_n 3, 1) := by decide +kernel
theorem dRe_layThere_101 : decode mRe_layThere.2.1 101 = .ok (.aload_n 0, 1) := by decide +kernel
theorem dRe_layThere_102 : decode mRe_layThere.2.1 102 = .ok (.getfield 100, 3) := by decide +kernel
theorem dRe_layThere_105 : decode mRe_layThere.2.1 105 = .ok (.iload_n 3, 1) := by decide +kernel
theorem dRe_layThere_106 : decode mRe_layThere.2.1 106 = .ok (.iconst 1, 1) := by decide +kernel
theorem dRe_layThere_107 : decode mRe_layThere.2.1 107 = .ok (.isub, 1) := by decide +kernel
theorem dRe_layThere_108 : decode mRe_layThere.2.1 108 = .ok (.iaload, 1) := by decide +kernel
theorem dRe_layThere_109 : decode mRe_layThere.2.1 109 = .ok (.iastore, 1) := by decide +kernel
theorem dRe_layThere_110 : decode mRe_layThere.2.1 110 = .ok (.iinc 3 (-1), 3) := by decide +kernel
theorem dRe_layThere_113 : decode mRe_layThere.2.1 113 = .ok (.goto (-47), 3) := by decide +kernel
theorem dRe_layThere_116 : decode mRe_layThere.2.1 116 = .ok (.aload_n 0, 1) := by decide +kernel
theorem dRe_layThere_117 : decode mRe_layThere.2.1 117 = .ok (.getfield 100, 3) := by decide +kernel
theorem dRe_layThere_120 : decode mRe_layThere.2.1 120 = .ok (.iload_n 3, 1) := by decide +kernel
theorem dRe_layThere_121 : decode mRe_layThere.2.1 121 = .ok (.iload_n 2, 1) := by decide +kernel
theorem dRe_layThere_122 : decode mRe_layThere.2.1 122 = .ok (.iastore, 1) := by decide +kernel
theorem dRe_layThere_123 : decode mRe_layThere.2.1 123 = .ok (.aload_n 0, 1) := by decide +kernel
theorem dRe_layThere_124 : decode mRe_layThere.2.1 124 = .ok (.dup, 1) := by decide +kernel
theorem dRe_layThere_125 : decode mRe_layThere.2.1 125 = .ok (.getfield 304, 3) := by decide +kernel
theorem dRe_layThere_128 : decode mRe_layThere.2.1 128 = .ok (.iconst 1, 1) := by decide +kernel
theorem dRe_layThere_129 : decode mRe_layThere.2.1 129 = .ok (.iadd, 1) := by decide +kernel
theorem dRe_layThere_130 : decode mRe_layThere.2.1 130 = .ok (.putfield 304, 3) := by decide +kernel
theorem dRe_layThere_133 : decode mRe_layThere.2.1 133 = .ok (.iinc 2 1, 3) := by decide +kernel
theorem dRe_layThere_136 : decode mRe_layThere.2.1 136 = .ok (.goto (-129), 3) := by decide +kernel
theorem dRe_layThere_139 : decode mRe_layThere.2.1 139 = .ok (.return_, 1) := by decide +kernel
theorem bRe_layThere_0 {l : Launch} {G : Gx} {d : Nat} {bc bs : Nat} {Φ : OutV → Mm → Prop} (M : Mm) (a0 : Nat) (x1 : Int32)
    (h : ((m_sh M a0).1 = 11) ∧ Ev l G d mRe_layThere 7 [.ref a0, .int x1, .int 0, .null] [] (m_si M a0 57 0) bc bs Φ) :
    Ev l G d mRe_layThere 0 [.ref a0, .int x1, .null, .null] [] M bc bs Φ := by
  refine Ev.aload_n dRe_layThere_0 rfl ?_
  refine Ev.iconst (v := 0) dRe_layThere_1 (by decide) ?_
  have g1 := h.1
  replace h := h.2
  refine Ev.putI dRe_layThere_2 ⟨_, Or.inl ⟨fRe_304, (fun h => by cases h)⟩⟩ rfl ⟨rfl, rfl⟩ g1 ?_
  refine Ev.iconst (v := 0) dRe_layThere_5 (by decide) ?_
  refine Ev.istore_n dRe_layThere_6 (by decide) ?_
  show Ev l G d mRe_layThere (_ + _) [.ref a0, .int x1, .int 0, .null] [] (m_si M a0 57 0) bc bs Φ
  exact h
theorem bRe_layThere_7 {l : Launch} {G : Gx} {d : Nat} {bc bs : Nat} {Φ : OutV → Mm → Prop} (M : Mm) (a0 : Nat) (x1 : Int32) (x2 : Int32) (u3 : Value)
    (h : ((m_sh M a0).1 = 11) ∧ ((m_i M a0 11) ≤ x2 → Φ (.inl none) M) ∧ (¬ (m_i M a0 11) ≤ x2 → ((m_sh M (m_r M a0 51)).1 = 20) ∧ (vp_in x2 (m_sh M (m_r M a0 51)).2) ∧ (¬ (m_i M (m_r M a0 51) x2.toNatClampNeg) = ((-1)) → Ev l G d mRe_layThere 133 [.ref a0, .int x1, .int x2, u3] [] M bc bs Φ) ∧ ((m_i M (m_r M a0 51) x2.toNatClampNeg) = ((-1)) → ((m_sh M (m_r M a0 13)).1 = 33) ∧ (vp_in x2 (m_sh M (m_r M a0 13)).2) ∧ ((m_sh M (m_r M (m_r M a0 13) x2.toNatClampNeg)).1 = 20) ∧ (vp_in 0 (m_sh M (m_r M (m_r M a0 13) x2.toNatClampNeg)).2) ∧ (x1 < (m_i M (m_r M (m_r M a0 13) x2.toNatClampNeg) (0 : Int32).toNatClampNeg) → Ev l G d mRe_layThere 133 [.ref a0, .int x1, .int x2, u3] [] M bc bs Φ) ∧ (¬ x1 < (m_i M (m_r M (m_r M a0 13) x2.toNatClampNeg) (0 : Int32).toNatClampNeg) → (vp_in 4 (m_sh M (m_r M (m_r M a0 13) x2.toNatClampNeg)).2) ∧ ((x1 - (m_i M (m_r M (m_r M a0 13) x2.toNatClampNeg) (0 : Int32).toNatClampNeg)) ≤ (m_i M (m_r M (m_r M a0 13) x2.toNatClampNeg) (4 : Int32).toNatClampNeg) → Ev l G d mRe_layThere 66 [.ref a0, .int x1, .int x2, .int (m_i M a0 57)] [] M bc bs Φ) ∧ (¬ (x1 - (m_i M (m_r M (m_r M a0 13) x2.toNatClampNeg) (0 : Int32).toNatClampNeg)) ≤ (m_i M (m_r M (m_r M a0 13) x2.toNatClampNeg) (4 : Int32).toNatClampNeg) → Ev l G d mRe_layThere 133 [.ref a0, .int x1, .int x2, u3] [] M bc bs Φ))))) :
    Ev l G d mRe_layThere 7 [.ref a0, .int x1, .int x2, u3] [] M bc bs Φ := by
  refine Ev.iload_n dRe_layThere_7 rfl ?_
  refine Ev.aload_n dRe_layThere_8 rfl ?_
  have g1 := h.1
  replace h := h.2
  refine Ev.getI dRe_layThere_9 (Or.inl fRe_206) rfl g1 ?_
  refine Ev.icmp_ge 139 (by decide) dRe_layThere_12 (fun c => ?_) (fun c => ?_)
  · replace h := h.1 c
    exact Ev.vret dRe_layThere_139 rfl h
  · replace h := h.2 c
    refine Ev.aload_n dRe_layThere_15 rfl ?_
    refine Ev.getR dRe_layThere_16 (Or.inl fRe_91) rfl g1 ?_
    refine Ev.iload_n dRe_layThere_19 rfl ?_
    have g2 := h.1
    replace h := h.2
    have g3 := h.1
    replace h := h.2
    refine Ev.iald2 dRe_layThere_20 g2 g3 ?_
    refine Ev.iconst (v := (-1)) dRe_layThere_21 (by decide) ?_
    refine Ev.icmp_ne 133 (by decide) dRe_layThere_22 (fun c => ?_) (fun c => ?_)
    · replace h := h.1 c
      exact h
    · replace h := h.2 c
      refine Ev.aload_n dRe_layThere_25 rfl ?_
      refine Ev.getR dRe_layThere_26 (Or.inl fRe_22) rfl g1 ?_
      refine Ev.iload_n dRe_layThere_29 rfl ?_
      have g4 := h.1
      replace h := h.2
      have g5 := h.1
      replace h := h.2
      refine Ev.aald2 33 (by decide) dRe_layThere_30 g4 g5 ?_
      refine Ev.iconst (v := 0) dRe_layThere_31 (by decide) ?_
      have g6 := h.1
      replace h := h.2
      have g7 := h.1
      replace h := h.2
      refine Ev.iald2 dRe_layThere_32 g6 g7 ?_
      refine Ev.iload_n dRe_layThere_33 rfl ?_
      refine Ev.icmp_gt 133 (by decide) dRe_layThere_34 (fun c => ?_) (fun c => ?_)
      · replace h := h.1 c
        exact h
      · replace h := h.2 c
        refine Ev.iload_n dRe_layThere_37 rfl ?_
        refine Ev.aload_n dRe_layThere_38 rfl ?_
        refine Ev.getR dRe_layThere_39 (Or.inl fRe_22) rfl g1 ?_
        refine Ev.iload_n dRe_layThere_42 rfl ?_
        refine Ev.aald2 33 (by decide) dRe_layThere_43 g4 g5 ?_
        refine Ev.iconst (v := 0) dRe_layThere_44 (by decide) ?_
        refine Ev.iald2 dRe_layThere_45 g6 g7 ?_
        refine Ev.isub dRe_layThere_46 ?_
        refine Ev.aload_n dRe_layThere_47 rfl ?_
        refine Ev.getR dRe_layThere_48 (Or.inl fRe_22) rfl g1 ?_
        refine Ev.iload_n dRe_layThere_51 rfl ?_
        refine Ev.aald2 33 (by decide) dRe_layThere_52 g4 g5 ?_
        refine Ev.iconst (v := 4) dRe_layThere_53 (by decide) ?_
        have g8 := h.1
        replace h := h.2
        refine Ev.iald2 dRe_layThere_54 g6 g8 ?_
        refine Ev.icmp_le 61 (by decide) dRe_layThere_55 (fun c => ?_) (fun c => ?_)
        · replace h := h.1 c
          refine Ev.aload_n dRe_layThere_61 rfl ?_
          refine Ev.getI dRe_layThere_62 (Or.inl fRe_304) rfl g1 ?_
          refine Ev.istore_n dRe_layThere_65 (by decide) ?_
          show Ev l G d mRe_layThere (_ + _) [.ref a0, .int x1, .int x2, .int (m_i M a0 57)] [] M bc bs Φ
          exact h
        · replace h := h.2 c
          refine Ev.goto 133 dRe_layThere_58 (by decide) ?_
          exact h
theorem bRe_layThere_66 {l : Launch} {G : Gx} {d : Nat} {bc bs : Nat} {Φ : OutV → Mm → Prop} (M : Mm) (a0 : Nat) (x1 : Int32) (x2 : Int32) (x3 : Int32)
    (h : (x3 ≤ 0 → Ev l G d mRe_layThere 116 [.ref a0, .int x1, .int x2, .int x3] [] M bc bs Φ) ∧ (¬ x3 ≤ 0 → ((m_sh M a0).1 = 11) ∧ ((m_sh M (m_r M a0 54)).1 = 20) ∧ (vp_in (x3 - 1) (m_sh M (m_r M a0 54)).2) ∧ ((m_sh M (m_r M a0 13)).1 = 33) ∧ (vp_in (m_i M (m_r M a0 54) (x3 - 1).toNatClampNeg) (m_sh M (m_r M a0 13)).2) ∧ ((m_sh M (m_r M (m_r M a0 13) (m_i M (m_r M a0 54) (x3 - 1).toNatClampNeg).toNatClampNeg)).1 = 20) ∧ (vp_in 0 (m_sh M (m_r M (m_r M a0 13) (m_i M (m_r M a0 54) (x3 - 1).toNatClampNeg).toNatClampNeg)).2) ∧ (vp_in x2 (m_sh M (m_r M a0 13)).2) ∧ ((m_sh M (m_r M (m_r M a0 13) x2.toNatClampNeg)).1 = 20) ∧ (vp_in 0 (m_sh M (m_r M (m_r M a0 13) x2.toNatClampNeg)).2) ∧ ((m_i M (m_r M (m_r M a0 13) (m_i M (m_r M a0 54) (x3 - 1).toNatClampNeg).toNatClampNeg) (0 : Int32).toNatClampNeg) ≤ (m_i M (m_r M (m_r M a0 13) x2.toNatClampNeg) (0 : Int32).toNatClampNeg) → Ev l G d mRe_layThere 116 [.ref a0, .int x1, .int x2, .int x3] [] M bc bs Φ) ∧ (¬ (m_i M (m_r M (m_r M a0 13) (m_i M (m_r M a0 54) (x3 - 1).toNatClampNeg).toNatClampNeg) (0 : Int32).toNatClampNeg) ≤ (m_i M (m_r M (m_r M a0 13) x2.toNatClampNeg) (0 : Int32).toNatClampNeg) → (vp_in x3 (m_sh M (m_r M a0 54)).2) ∧ Ev l G d mRe_layThere 66 [.ref a0, .int x1, .int x2, .int (x3 + (-1))] [] (m_si M (m_r M a0 54) x3.toNatClampNeg (m_i M (m_r M a0 54) (x3 - 1).toNatClampNeg)) bc bs Φ))) :
    Ev l G d mRe_layThere 66 [.ref a0, .int x1, .int x2, .int x3] [] M bc bs Φ := by
  refine Ev.iload_n dRe_layThere_66 rfl ?_
  refine Ev.if_le 116 (by decide) dRe_layThere_67 (fun c => ?_) (fun c => ?_)
  · replace h := h.1 c
    exact h
  · replace h := h.2 c
    refine Ev.aload_n dRe_layThere_70 rfl ?_
    have g1 := h.1
    replace h := h.2
    refine Ev.getR dRe_layThere_71 (Or.inl fRe_22) rfl g1 ?_
    refine Ev.aload_n dRe_layThere_74 rfl ?_
    refine Ev.getR dRe_layThere_75 (Or.inl fRe_100) rfl g1 ?_
    refine Ev.iload_n dRe_layThere_78 rfl ?_
    refine Ev.iconst (v := 1) dRe_layThere_79 (by decide) ?_
    refine Ev.isub dRe_layThere_80 ?_
    have g2 := h.1
    replace h := h.2
    have g3 := h.1
    replace h := h.2
    refine Ev.iald2 dRe_layThere_81 g2 g3 ?_
    have g4 := h.1
    replace h := h.2
    have g5 := h.1
    replace h := h.2
    refine Ev.aald2 33 (by decide) dRe_layThere_82 g4 g5 ?_
    refine Ev.iconst (v := 0) dRe_layThere_83 (by decide) ?_
    have g6 := h.1
    replace h := h.2
    have g7 := h.1
    replace h := h.2
    refine Ev.iald2 dRe_layThere_84 g6 g7 ?_
    refine Ev.aload_n dRe_layThere_85 rfl ?_
    refine Ev.getR dRe_layThere_86 (Or.inl fRe_22) rfl g1 ?_
    refine Ev.iload_n dRe_layThere_89 rfl ?_
    have g8 := h.1
    replace h := h.2
    refine Ev.aald2 33 (by decide) dRe_layThere_90 g4 g8 ?_
    refine Ev.iconst (v := 0) dRe_layThere_91 (by decide) ?_
    have g9 := h.1
    replace h := h.2
    have g10 := h.1
    replace h := h.2
    refine Ev.iald2 dRe_layThere_92 g9 g10 ?_
    refine Ev.icmp_le 116 (by decide) dRe_layThere_93 (fun c => ?_) (fun c => ?_)
    · replace h := h.1 c
      exact h
    · replace h := h.2 c
      refine Ev.aload_n dRe_layThere_96 rfl ?_
      refine Ev.getR dRe_layThere_97 (Or.inl fRe_100) rfl g1 ?_
      refine Ev.iload_n dRe_layThere_100 rfl ?_
      refine Ev.aload_n dRe_layThere_101 rfl ?_
      refine Ev.getR dRe_layThere_102 (Or.inl fRe_100) rfl g1 ?_
      refine Ev.iload_n dRe_layThere_105 rfl ?_
      refine Ev.iconst (v := 1) dRe_layThere_106 (by decide) ?_
      refine Ev.isub dRe_layThere_107 ?_
      refine Ev.iald2 dRe_layThere_108 g2 g3 ?_
      have g11 := h.1
      replace h := h.2
      refine Ev.iast2 dRe_layThere_109 g2 g11 ?_
      refine Ev.iinc (v := x3 + (-1)) dRe_layThere_110 (by decide) rfl rfl ?_
      show Ev l G d mRe_layThere (_ + _) [.ref a0, .int x1, .int x2, .int (x3 + (-1))] [] (m_si M (m_r M a0 54) x3.toNatClampNeg (m_i M (m_r M a0 54) (x3 - 1).toNatClampNeg)) bc bs Φ
      refine Ev.goto 66 dRe_layThere_113 (by decide) ?_
      exact h
theorem bRe_layThere_116 {l : Launch} {G : Gx} {d : Nat} {bc bs : Nat} {Φ : OutV → Mm → Prop} (M : Mm) (a0 : Nat) (x1 : Int32) (x2 : Int32) (x3 : Int32)
    (h : ((m_sh M a0).1 = 11) ∧ ((m_sh M (m_r M a0 54)).1 = 20) ∧ (vp_in x3 (m_sh M (m_r M a0 54)).2) ∧ Ev l G d mRe_layThere 133 [.ref a0, .int x1, .int x2, .int x3] [] (m_si (m_si M (m_r M a0 54) x3.toNatClampNeg x2) a0 57 ((m_i (m_si M (m_r M a0 54) x3.toNatClampNeg x2) a0 57) + 1)) bc bs Φ) :
    Ev l G d mRe_layThere 116 [.ref a0, .int x1, .int x2, .int x3] [] M bc bs Φ := by
  refine Ev.aload_n dRe_layThere_116 rfl ?_
  have g1 := h.1
  replace h := h.2
  refine Ev.getR dRe_layThere_117 (Or.inl fRe_100) rfl g1 ?_
  refine Ev.iload_n dRe_layThere_120 rfl ?_
  refine Ev.iload_n dRe_layThere_121 rfl ?_
  have g2 := h.1
  replace h := h.2
  have g3 := h.1
  replace h := h.2
  refine Ev.iast2 dRe_layThere_122 g2 g3 ?_
  refine Ev.aload_n dRe_layThere_123 rfl ?_
  refine Ev.dup dRe_layThere_124 rfl ?_
  refine Ev.getI dRe_layThere_125 (Or.inl fRe_304) rfl g1 ?_
  refine Ev.iconst (v := 1) dRe_layThere_128 (by decide) ?_
  refine Ev.iadd dRe_layThere_129 ?_
  refine Ev.putI dRe_layThere_130 ⟨_, Or.inl ⟨fRe_304, (fun h => by cases h)⟩⟩ rfl ⟨rfl, rfl⟩ g1 ?_
  exact h
theorem bRe_layThere_133 {l : Launch} {G : Gx} {d : Nat} {bc bs : Nat} {Φ : OutV → Mm → Prop} (M : Mm) (a0 : Nat) (x1 : Int32) (x2 : Int32) (u3 : Value)
    (h : Ev l G d mRe_layThere 7 [.ref a0, .int x1, .int (x2 + 1), u3] [] M bc bs Φ) :
    Ev l G d mRe_layThere 133 [.ref a0, .int x1, .int x2, u3] [] M bc bs Φ := by
  refine Ev.iinc (v := x2 + 1) dRe_layThere_133 (by decide) rfl rfl ?_
  show Ev l G d mRe_layThere (_ + _) [.ref a0, .int x1, .int (x2 + 1), u3] [] M bc bs Φ
  refine Ev.goto 7 dRe_layThere_136 (by decide) ?_
  exact h
theorem dRe_nextComes_0 : decode mRe_nextComes.2.1 0 = .ok (.iconst (-1), 1) := by decide +kernel
theorem dRe_nextComes_1 : decode mRe_nextComes.2.1 1 = .ok (.istore_n 2, 1) := by decide +kernel
theorem dRe_nextComes_2 : decode mRe_nextComes.2.1 2 = .ok (.iconst 0, 1) := by decide +kernel
theorem dRe_nextComes_3 : decode mRe_nextComes.2.1 3 = .ok (.istore_n 3, 1) := by decide +kernel
theorem dRe_nextComes_4 : decode mRe_nextComes.2.1 4 = .ok (.iload_n 3, 1) := by decide +kernel
theorem dRe_nextComes_5 : decode mRe_nextComes.2.1 5 = .ok (.aload_n 0, 1) := by decide +kernel
theorem dRe_nextComes_6 : decode mRe_nextComes.2.1 6 = .ok (.getfield 206, 3) := by decide +kernel
theorem dRe_nextComes_9 : decode mRe_nextComes.2.1 9 = .ok (.if_icmp .ge 47, 3) := by decide +kernel
theorem dRe_nextComes_12 : decode mRe_nextComes.2.1 12 = .ok (.aload_n 0, 1) := by decide +kernel
theorem dRe_nextComes_13 : decode mRe_nextComes.2.1 13 = .ok (.getfield 22, 3) := by decide +kernel
theorem dRe_nextComes_16 : decode mRe_nextComes.2.1 16 = .ok (.iload_n 3, 1) := by decide +kernel
theorem dRe_nextComes_17 : decode mRe_nextComes.2.1 17 = .ok (.aaload, 1) := by decide +kernel
theorem dRe_nextComes_18 : decode mRe_nextComes.2.1 18 = .ok (.iconst 0, 1) := by decide +kernel
theorem dRe_nextComes_19 : decode mRe_nextComes.2.1 19 = .ok (.iaload, 1) := by decide +kernel
theorem dRe_nextComes_20 : decode mRe_nextComes.2.1 20 = .ok (.iload_n 1, 1) := by decide +kernel
theorem dRe_nextComes_21 : decode mRe_nextComes.2.1 21 = .ok (.if_icmp .le 29, 3) := by decide +kernel
theorem dRe_nextComes_24 : decode mRe_nextComes.2.1 24 = .ok (.iload_n 2, 1) := by decide +kernel
theorem dRe_nextComes_25 : decode mRe_nextComes.2.1 25 = .ok (.iconst (-1), 1) := by decide +kernel
theorem dRe_nextComes_26 : decode mRe_nextComes.2.1 26 = .ok (.if_icmp .eq 15, 3) := by decide +kernel
theorem dRe_nextComes_29 : decode mRe_nextComes.2.1 29 = .ok (.aload_n 0, 1) := by decide +kernel
theorem dRe_nextComes_30 : decode mRe_nextComes.2.1 30 = .ok (.getfield 22, 3) := by decide +kernel
theorem dRe_nextComes_33 : decode mRe_nextComes.2.1 33 = .ok (.iload_n 3, 1) := by decide +kernel
theorem dRe_nextComes_34 : decode mRe_nextComes.2.1 34 = .ok (.aaload, 1) := by decide +kernel
theorem dRe_nextComes_35 : decode mRe_nextComes.2.1 35 = .ok (.iconst 0, 1) := by decide +kernel
theorem dRe_nextComes_36 : decode mRe_nextComes.2.1 36 = .ok (.iaload, 1) := by decide +kernel
theorem dRe_nextComes_37 : decode mRe_nextComes.2.1 37 = .ok (.iload_n 2, 1) := by decide +kernel
theorem dRe_nextComes_38 : decode mRe_nextComes.2.1 38 = .ok (.if_icmp .ge 12, 3) := by decide +kernel
theorem dRe_nextComes_41 : decode mRe_nextComes.2.1 41 = .ok (.aload_n 0, 1) := by decide +kernel
theorem dRe_nextComes_42 : decode mRe_nextComes.2.1 42 = .ok (.getfield 22, 3) := by decide +kernel
theorem dRe_nextComes_45 : decode mRe_nextComes.2.1 45 = .ok (.iload_n 3, 1) := by decide +kernel
theorem dRe_nextComes_46 : decode mRe_nextComes.2.1 46 = .ok (.aaload, 1) := by decide +kernel
theorem dRe_nextComes_47 : decode mRe_nextComes.2.1 47 = .ok (.iconst 0, 1) := by decide +kernel
theorem dRe_nextComes_48 : decode mRe_nextComes.2.1 48 = .ok (.iaload, 1) := by decide +kernel
theorem dRe_nextComes_49 : decode mRe_nextComes.2.1 49 = .ok (.istore_n 2, 1) := by decide +kernel
theorem dRe_nextComes_50 : decode mRe_nextComes.2.1 50 = .ok (.iinc 3 1, 3) := by decide +kernel
theorem dRe_nextComes_53 : decode mRe_nextComes.2.1 53 = .ok (.goto (-49), 3) := by decide +kernel
theorem dRe_nextComes_56 : decode mRe_nextComes.2.1 56 = .ok (.iload_n 2, 1) := by decide +kernel
theorem dRe_nextComes_57 : decode mRe_nextComes.2.1 57 = .ok (.ireturn, 1) := by decide +kernel
theorem bRe_nextComes_0 {l : Launch} {G : Gx} {d : Nat} {bc bs : Nat} {Φ : OutV → Mm → Prop} (M : Mm) (a0 : Nat) (x1 : Int32)
    (h : Ev l G d mRe_nextComes 4 [.ref a0, .int x1, .int ((-1)), .int 0] [] M bc bs Φ) :
    Ev l G d mRe_nextComes 0 [.ref a0, .int x1, .null, .null] [] M bc bs Φ := by
  refine Ev.iconst (v := (-1)) dRe_nextComes_0 (by decide) ?_
  refine Ev.istore_n dRe_nextComes_1 (by decide) ?_
  show Ev l G d mRe_nextComes (_ + _) [.ref a0, .int x1, .int ((-1)), .null] [] M bc bs Φ
  refine Ev.iconst (v := 0) dRe_nextComes_2 (by decide) ?_
  refine Ev.istore_n dRe_nextComes_3 (by decide) ?_
  show Ev l G d mRe_nextComes (_ + _) [.ref a0, .int x1, .int ((-1)), .int 0] [] M bc bs Φ
  exact h
theorem bRe_nextComes_4 {l : Launch} {G : Gx} {d : Nat} {bc bs : Nat} {Φ : OutV → Mm → Prop} (M : Mm) (a0 : Nat) (x1 : Int32) (x2 : Int32) (x3 : Int32)
    (h : ((m_sh M a0).1 = 11) ∧ ((m_i M a0 11) ≤ x3 → Φ (.inl (some (.int x2))) M) ∧ (¬ (m_i M a0 11) ≤ x3 → ((m_sh M (m_r M a0 13)).1 = 33) ∧ (vp_in x3 (m_sh M (m_r M a0 13)).2) ∧ ((m_sh M (m_r M (m_r M a0 13) x3.toNatClampNeg)).1 = 20) ∧ (vp_in 0 (m_sh M (m_r M (m_r M a0 13) x3.toNatClampNeg)).2) ∧ ((m_i M (m_r M (m_r M a0 13) x3.toNatClampNeg) (0 : Int32).toNatClampNeg) ≤ x1 → Ev l G d mRe_nextComes 50 [.ref a0, .int x1, .int x2, .int x3] [] M bc bs Φ) ∧ (¬ (m_i M (m_r M (m_r M a0 13) x3.toNatClampNeg) (0 : Int32).toNatClampNeg) ≤ x1 → (x2 = ((-1)) → Ev l G d mRe_nextComes 41 [.ref a0, .int x1, .int x2, .int x3] [] M bc bs Φ) ∧ (¬ x2 = ((-1)) → (x2 ≤ (m_i M (m_r M (m_r M a0 13) x3.toNatClampNeg) (0 : Int32).toNatClampNeg) → Ev l G d mRe_nextComes 50 [.ref a0, .int x1, .int x2, .int x3] [] M bc bs Φ) ∧ (¬ x2 ≤ (m_i M (m_r M (m_r M a0 13) x3.toNatClampNeg) (0 : Int32).toNatClampNeg) → Ev l G d mRe_nextComes 41 [.ref a0, .int x1, .int x2, .int x3] [] M bc bs Φ))))) :
    Ev l G d mRe_nextComes 4 [.ref a0, .int x1, .int x2, .int x3] [] M bc bs Φ := by
  refine Ev.iload_n dRe_nextComes_4 rfl ?_
  refine Ev.aload_n dRe_nextComes_5 rfl ?_
  have g1 := h.1
  replace h := h.2
  refine Ev.getI dRe_nextComes_6 (Or.inl fRe_206) rfl g1 ?_
  refine Ev.icmp_ge 56 (by decide) dRe_nextComes_9 (fun c => ?_) (fun c => ?_)
  · replace h := h.1 c
    refine Ev.iload_n dRe_nextComes_56 rfl ?_
    exact Ev.iret dRe_nextComes_57 rfl rfl h
  · replace h := h.2 c
    refine Ev.aload_n dRe_nextComes_12 rfl ?_
    refine Ev.getR dRe_nextComes_13 (Or.inl fRe_22) rfl g1 ?_
    refine Ev.iload_n dRe_nextComes_16 rfl ?_
    have g2 := h.1
    replace h := h.2
    have g3 := h.1
    replace h := h.2
    refine Ev.aald2 33 (by decide) dRe_nextComes_17 g2 g3 ?_
    refine Ev.iconst (v := 0) dRe_nextComes_18 (by decide) ?_
    have g4 := h.1
    replace h := h.2
    have g5 := h.1
    replace h := h.2
    refine Ev.iald2 dRe_nextComes_19 g4 g5 ?_
    refine Ev.iload_n dRe_nextComes_20 rfl ?_
    refine Ev.icmp_le 50 (by decide) dRe_nextComes_21 (fun c => ?_) (fun c => ?_)
    · replace h := h.1 c
      exact h
    · replace h := h.2 c
      refine Ev.iload_n dRe_nextComes_24 rfl ?_
      refine Ev.iconst (v := (-1)) dRe_nextComes_25 (by decide) ?_
      refine Ev.icmp_eq 41 (by decide) dRe_nextComes_26 (fun c => ?_) (fun c => ?_)
      · replace h := h.1 c
        exact h
      · replace h := h.2 c
        refine Ev.aload_n dRe_nextComes_29 rfl ?_
        refine Ev.getR dRe_nextComes_30 (Or.inl fRe_22) rfl g1 ?_
        refine Ev.iload_n dRe_nextComes_33 rfl ?_
        refine Ev.aald2 33 (by decide) dRe_nextComes_34 g2 g3 ?_
        refine Ev.iconst (v := 0) dRe_nextComes_35 (by decide) ?_
        refine Ev.iald2 dRe_nextComes_36 g4 g5 ?_
        refine Ev.iload_n dRe_nextComes_37 rfl ?_
        refine Ev.icmp_ge 50 (by decide) dRe_nextComes_38 (fun c => ?_) (fun c => ?_)
        · replace h := h.1 c
          exact h
        · replace h := h.2 c
          exact h
theorem bRe_nextComes_41 {l : Launch} {G : Gx} {d : Nat} {bc bs : Nat} {Φ : OutV → Mm → Prop} (M : Mm) (a0 : Nat) (x1 : Int32) (x2 : Int32) (x3 : Int32)
    (h : ((m_sh M a0).1 = 11) ∧ ((m_sh M (m_r M a0 13)).1 = 33) ∧ (vp_in x3 (m_sh M (m_r M a0 13)).2) ∧ ((m_sh M (m_r M (m_r M a0 13) x3.toNatClampNeg)).1 = 20) ∧ (vp_in 0 (m_sh M (m_r M (m_r M a0 13) x3.toNatClampNeg)).2) ∧ Ev l G d mRe_nextComes 50 [.ref a0, .int x1, .int (m_i M (m_r M (m_r M a0 13) x3.toNatClampNeg) (0 : Int32).toNatClampNeg), .int x3] [] M bc bs Φ) :
    Ev l G d mRe_nextComes 41 [.ref a0, .int x1, .int x2, .int x3] [] M bc bs Φ := by
  refine Ev.aload_n dRe_nextComes_41 rfl ?_
  have g1 := h.1
  replace h := h.2
  refine Ev.getR dRe_nextComes_42 (Or.inl fRe_22) rfl g1 ?_
  refine Ev.iload_n dRe_nextComes_45 rfl ?_
  have g2 := h.1
  replace h := h.2
  have g3 := h.1
  replace h := h.2
  refine Ev.aald2 33 (by decide) dRe_nextComes_46 g2 g3 ?_
  refine Ev.iconst (v := 0) dRe_nextComes_47 (by decide) ?_
  have g4 := h.1
  replace h := h.2
  have g5 := h.1
  replace h := h.2
  refine Ev.iald2 dRe_nextComes_48 g4 g5 ?_
  refine Ev.istore_n dRe_nextComes_49 (by decide) ?_
  show Ev l G d mRe_nextComes (_ + _) [.ref a0, .int x1, .int (m_i M (m_r M (m_r M a0 13) x3.toNatClampNeg) (0 : Int32).toNatClampNeg), .int x3] [] M bc bs Φ
  exact h
theorem bRe_nextComes_50 {l : Launch} {G : Gx} {d : Nat} {bc bs : Nat} {Φ : OutV → Mm → Prop} (M : Mm) (a0 : Nat) (x1 : Int32) (x2 : Int32) (x3 : Int32)
    (h : Ev l G d mRe_nextComes 4 [.ref a0, .int x1, .int x2, .int (x3 + 1)] [] M bc bs Φ) :
    Ev l G d mRe_nextComes 50 [.ref a0, .int x1, .int x2, .int x3] [] M bc bs Φ := by
  refine Ev.iinc (v := x3 + 1) dRe_nextComes_50 (by decide) rfl rfl ?_
  show Ev l G d mRe_nextComes (_ + _) [.ref a0, .int x1, .int x2, .int (x3 + 1)] [] M bc bs Φ
  refine Ev.goto 4 dRe_nextComes_53 (by decide) ?_
  exact h
theorem dRe_callAt_0 : decode mRe_callAt.2.1 0 = .ok (.aload_n 0, 1) := by decide +kernel
theorem dRe_callAt_1 : decode mRe_callAt.2.1 1 = .ok (.getfield 307, 3) := by decide +kernel
theorem dRe_callAt_4 : decode mRe_callAt.2.1 4 = .ok (.istore_n 2, 1) := by decide +kernel
theorem dRe_callAt_5 : decode mRe_callAt.2.1 5 = .ok (.aload_n 0, 1) := by decide +kernel
theorem dRe_callAt_6 : decode mRe_callAt.2.1 6 = .ok (.dup, 1) := by decide +kernel
theorem dRe_callAt_7 : decode mRe_callAt.2.1 7 = .ok (.getfield 307, 3) := by decide +kernel
theorem dRe_callAt_10 : decode mRe_callAt.2.1 10 = .ok (.iconst 1, 1) := by decide +kernel
theorem dRe_callAt_11 : decode mRe_callAt.2.1 11 = .ok (.iadd, 1) := by decide +kernel
theorem dRe_callAt_12 : decode mRe_callAt.2.1 12 = .ok (.putfield 307, 3) := by decide +kernel
theorem dRe_callAt_15 : decode mRe_callAt.2.1 15 = .ok (.aload_n 0, 1) := by decide +kernel
theorem dRe_callAt_16 : decode mRe_callAt.2.1 16 = .ok (.getfield 76, 3) := by decide +kernel
theorem dRe_callAt_19 : decode mRe_callAt.2.1 19 = .ok (.iload_n 2, 1) := by decide +kernel
theorem dRe_callAt_20 : decode mRe_callAt.2.1 20 = .ok (.iload_n 1, 1) := by decide +kernel
theorem dRe_callAt_21 : decode mRe_callAt.2.1 21 = .ok (.iastore, 1) := by decide +kernel
theorem dRe_callAt_22 : decode mRe_callAt.2.1 22 = .ok (.aload_n 0, 1) := by decide +kernel
theorem dRe_callAt_23 : decode mRe_callAt.2.1 23 = .ok (.getfield 79, 3) := by decide +kernel
theorem dRe_callAt_26 : decode mRe_callAt.2.1 26 = .ok (.iload_n 2, 1) := by decide +kernel
theorem dRe_callAt_27 : decode mRe_callAt.2.1 27 = .ok (.iconst 0, 1) := by decide +kernel
theorem dRe_callAt_28 : decode mRe_callAt.2.1 28 = .ok (.iastore, 1) := by decide +kernel
theorem dRe_callAt_29 : decode mRe_callAt.2.1 29 = .ok (.aload_n 0, 1) := by decide +kernel
theorem dRe_callAt_30 : decode mRe_callAt.2.1 30 = .ok (.getfield 82, 3) := by decide +kernel
theorem dRe_callAt_33 : decode mRe_callAt.2.1 33 = .ok (.iload_n 2, 1) := by decide +kernel
theorem dRe_callAt_34 : decode mRe_callAt.2.1 34 = .ok (.iconst 0, 1) := by decide +kernel
theorem dRe_callAt_35 : decode mRe_callAt.2.1 35 = .ok (.iastore, 1) := by decide +kernel
theorem dRe_callAt_36 : decode mRe_callAt.2.1 36 = .ok (.aload_n 0, 1) := by decide +kernel
theorem dRe_callAt_37 : decode mRe_callAt.2.1 37 = .ok (.getfield 88, 3) := by decide +kernel
theorem dRe_callAt_40 : decode mRe_callAt.2.1 40 = .ok (.iload_n 2, 1) := by decide +kernel
theorem dRe_callAt_41 : decode mRe_callAt.2.1 41 = .ok (.iconst 0, 1) := by decide +kernel
theorem dRe_callAt_42 : decode mRe_callAt.2.1 42 = .ok (.iastore, 1) := by decide +kernel
theorem dRe_callAt_43 : decode mRe_callAt.2.1 43 = .ok (.iconst 0, 1) := by decide +kernel
theorem dRe_callAt_44 : decode mRe_callAt.2.1 44 = .ok (.istore_n 3, 1) := by decide +kernel
theorem dRe_callAt_45 : decode mRe_callAt.2.1 45 = .ok (.iload_n 3, 1) := by decide +kernel
theorem dRe_callAt_46 : decode mRe_callAt.2.1 46 = .ok (.aload_n 0, 1) := by decide +kernel
theorem dRe_callAt_47 : decode mRe_callAt.2.1 47 = .ok (.getfield 304, 3) := by decide +kernel
theorem dRe_callAt_50 : decode mRe_callAt.2.1 50 = .ok (.if_icmp .ge 40, 3) := by decide +kernel
theorem dRe_callAt_53 : decode mRe_callAt.2.1 53 = .ok (.aload_n 0, 1) := by decide +kernel
theorem dRe_callAt_54 : decode mRe_callAt.2.1 54 = .ok (.getfield 82, 3) := by decide +kernel
theorem dRe_callAt_57 : decode mRe_callAt.2.1 57 = .ok (.iload_n 2, 1) := by decide +kernel
theorem dRe_callAt_58 : decode mRe_callAt.2.1 58 = .ok (.dup2, 1) := by decide +kernel
theorem dRe_callAt_59 : decode mRe_callAt.2.1 59 = .ok (.iaload, 1) := by decide +kernel
theorem dRe_callAt_60 : decode mRe_callAt.2.1 60 = .ok (.iconst 1, 1) := by decide +kernel
theorem dRe_callAt_61 : decode mRe_callAt.2.1 61 = .ok (.aload_n 0, 1) := by decide +kernel
theorem dRe_callAt_62 : decode mRe_callAt.2.1 62 = .ok (.getfield 100, 3) := by decide +kernel
theorem dRe_callAt_65 : decode mRe_callAt.2.1 65 = .ok (.iload_n 3, 1) := by decide +kernel
theorem dRe_callAt_66 : decode mRe_callAt.2.1 66 = .ok (.iaload, 1) := by decide +kernel
theorem dRe_callAt_67 : decode mRe_callAt.2.1 67 = .ok (.ishl, 1) := by decide +kernel
theorem dRe_callAt_68 : decode mRe_callAt.2.1 68 = .ok (.ior, 1) := by decide +kernel
theorem dRe_callAt_69 : decode mRe_callAt.2.1 69 = .ok (.iastore, 1) := by decide +kernel
theorem dRe_callAt_70 : decode mRe_callAt.2.1 70 = .ok (.aload_n 0, 1) := by decide +kernel
theorem dRe_callAt_71 : decode mRe_callAt.2.1 71 = .ok (.getfield 103, 3) := by decide +kernel
theorem dRe_callAt_74 : decode mRe_callAt.2.1 74 = .ok (.iload_n 3, 1) := by decide +kernel
theorem dRe_callAt_75 : decode mRe_callAt.2.1 75 = .ok (.iconst 0, 1) := by decide +kernel
theorem dRe_callAt_76 : decode mRe_callAt.2.1 76 = .ok (.iastore, 1) := by decide +kernel
theorem dRe_callAt_77 : decode mRe_callAt.2.1 77 = .ok (.aload_n 0, 1) := by decide +kernel
theorem dRe_callAt_78 : decode mRe_callAt.2.1 78 = .ok (.getfield 106, 3) := by decide +kernel
theorem dRe_callAt_81 : decode mRe_callAt.2.1 81 = .ok (.iload_n 3, 1) := by decide +kernel
theorem dRe_callAt_82 : decode mRe_callAt.2.1 82 = .ok (.iconst 0, 1) := by decide +kernel
theorem dRe_callAt_83 : decode mRe_callAt.2.1 83 = .ok (.iastore, 1) := by decide +kernel
theorem dRe_callAt_84 : decode mRe_callAt.2.1 84 = .ok (.iinc 3 1, 3) := by decide +kernel
theorem dRe_callAt_87 : decode mRe_callAt.2.1 87 = .ok (.goto (-42), 3) := by decide +kernel
theorem dRe_callAt_90 : decode mRe_callAt.2.1 90 = .ok (.aload_n 0, 1) := by decide +kernel
theorem dRe_callAt_91 : decode mRe_callAt.2.1 91 = .ok (.iload_n 1, 1) := by decide +kernel
theorem dRe_callAt_92 : decode mRe_callAt.2.1 92 = .ok (.invokevirtual 338, 3) := by decide +kernel
theorem dRe_callAt_95 : decode mRe_callAt.2.1 95 = .ok (.istore_n 3, 1) := by decide +kernel
theorem dRe_callAt_96 : decode mRe_callAt.2.1 96 = .ok (.iload_n 3, 1) := by decide +kernel
theorem dRe_callAt_97 : decode mRe_callAt.2.1 97 = .ok (.iconst (-1), 1) := by decide +kernel
theorem dRe_callAt_98 : decode mRe_callAt.2.1 98 = .ok (.if_icmp .eq 16, 3) := by decide +kernel
theorem dRe_callAt_101 : decode mRe_callAt.2.1 101 = .ok (.aload_n 0, 1) := by decide +kernel
theorem dRe_callAt_102 : decode mRe_callAt.2.1 102 = .ok (.dup, 1) := by decide +kernel
theorem dRe_callAt_103 : decode mRe_callAt.2.1 103 = .ok (.getfield 310, 3) := by decide +kernel
theorem dRe_callAt_106 : decode mRe_callAt.2.1 106 = .ok (.iconst 1, 1) := by decide +kernel
theorem dRe_callAt_107 : decode mRe_callAt.2.1 107 = .ok (.iadd, 1) := by decide +kernel
theorem dRe_callAt_108 : decode mRe_callAt.2.1 108 = .ok (.putfield 310, 3) := by decide +kernel
theorem dRe_callAt_111 : decode mRe_callAt.2.1 111 = .ok (.goto 10, 3) := by decide +kernel
theorem dRe_callAt_114 : decode mRe_callAt.2.1 114 = .ok (.aload_n 0, 1) := by decide +kernel
theorem dRe_callAt_115 : decode mRe_callAt.2.1 115 = .ok (.iload_n 2, 1) := by decide +kernel
theorem dRe_callAt_116 : decode mRe_callAt.2.1 116 = .ok (.iload_n 1, 1) := by decide +kernel
theorem dRe_callAt_117 : decode mRe_callAt.2.1 117 = .ok (.invokevirtual 341, 3) := by decide +kernel
theorem dRe_callAt_120 : decode mRe_callAt.2.1 120 = .ok (.istore_n 3, 1) := by decide +kernel
theorem dRe_callAt_121 : decode mRe_callAt.2.1 121 = .ok (.aload_n 0, 1) := by decide +kernel
theorem dRe_callAt_122 : decode mRe_callAt.2.1 122 = .ok (.getfield 73, 3) := by decide +kernel
theorem dRe_callAt_125 : decode mRe_callAt.2.1 125 = .ok (.iload_n 2, 1) := by decide +kernel
theorem dRe_callAt_126 : decode mRe_callAt.2.1 126 = .ok (.iload_n 3, 1) := by decide +kernel
theorem dRe_callAt_127 : decode mRe_callAt.2.1 127 = .ok (.iconst (-1), 1) := by decide +kernel
theorem dRe_callAt_128 : decode mRe_callAt.2.1 128 = .ok (.if_icmp .ne 7, 3) := by decide +kernel
theorem dRe_callAt_131 : decode mRe_callAt.2.1 131 = .ok (.iconst (-1), 1) := by decide +kernel
theorem dRe_callAt_132 : decode mRe_callAt.2.1 132 = .ok (.goto 9, 3) := by decide +kernel
theorem dRe_callAt_135 : decode mRe_callAt.2.1 135 = .ok (.aload_n 0, 1) := by decide +kernel
theorem dRe_callAt_136 : decode mRe_callAt.2.1 136 = .ok (.getfield 100, 3) := by decide +kernel
theorem dRe_callAt_139 : decode mRe_callAt.2.1 139 = .ok (.iload_n 3, 1) := by decide +kernel
theorem dRe_callAt_140 : decode mRe_callAt.2.1 140 = .ok (.iaload, 1) := by decide +kernel
theorem dRe_callAt_141 : decode mRe_callAt.2.1 141 = .ok (.iastore, 1) := by decide +kernel
theorem dRe_callAt_142 : decode mRe_callAt.2.1 142 = .ok (.aload_n 0, 1) := by decide +kernel
theorem dRe_callAt_143 : decode mRe_callAt.2.1 143 = .ok (.getfield 85, 3) := by decide +kernel
theorem dRe_callAt_146 : decode mRe_callAt.2.1 146 = .ok (.iload_n 2, 1) := by decide +kernel
theorem dRe_callAt_147 : decode mRe_callAt.2.1 147 = .ok (.iconst (-1), 1) := by decide +kernel
theorem dRe_callAt_148 : decode mRe_callAt.2.1 148 = .ok (.iastore, 1) := by decide +kernel
theorem dRe_callAt_149 : decode mRe_callAt.2.1 149 = .ok (.iload_n 3, 1) := by decide +kernel
theorem dRe_callAt_150 : decode mRe_callAt.2.1 150 = .ok (.iconst (-1), 1) := by decide +kernel
theorem dRe_callAt_151 : decode mRe_callAt.2.1 151 = .ok (.if_icmp .ne 9, 3) := by decide +kernel
theorem dRe_callAt_154 : decode mRe_callAt.2.1 154 = .ok (.aload_n 0, 1) := by decide +kernel
theorem dRe_callAt_155 : decode mRe_callAt.2.1 155 = .ok (.iconst 1, 1) := by decide +kernel
theorem dRe_callAt_156 : decode mRe_callAt.2.1 156 = .ok (.putfield 313, 3) := by decide +kernel
theorem dRe_callAt_159 : decode mRe_callAt.2.1 159 = .ok (.return_, 1) := by decide +kernel
theorem dRe_callAt_160 : decode mRe_callAt.2.1 160 = .ok (.aload_n 0, 1) := by decide +kernel
theorem dRe_callAt_161 : decode mRe_callAt.2.1 161 = .ok (.getfield 100, 3) := by decide +kernel
theorem dRe_callAt_164 : decode mRe_callAt.2.1 164 = .ok (.iload_n 3, 1) := by decide +kernel
theorem dRe_callAt_165 : decode mRe_callAt.2.1 165 = .ok (.iaload, 1) := by decide +kernel
theorem dRe_callAt_166 : decode mRe_callAt.2.1 166 = .ok (.istore 4, 2) := by decide +kernel
theorem dRe_callAt_168 : decode mRe_callAt.2.1 168 = .ok (.iconst 0, 1) := by decide +kernel
theorem dRe_callAt_169 : decode mRe_callAt.2.1 169 = .ok (.istore 5, 2) := by decide +kernel
theorem dRe_callAt_171 : decode mRe_callAt.2.1 171 = .ok (.iload 5, 2) := by decide +kernel
theorem dRe_callAt_173 : decode mRe_callAt.2.1 173 = .ok (.iload_n 3, 1) := by decide +kernel
theorem dRe_callAt_174 : decode mRe_callAt.2.1 174 = .ok (.if_icmp .ge 33, 3) := by decide +kernel
theorem dRe_callAt_177 : decode mRe_callAt.2.1 177 = .ok (.aload_n 0, 1) := by decide +kernel
theorem dRe_callAt_178 : decode mRe_callAt.2.1 178 = .ok (.getfield 103, 3) := by decide +kernel
theorem dRe_callAt_181 : decode mRe_callAt.2.1 181 = .ok (.iload 5, 2) := by decide +kernel
theorem dRe_callAt_183 : decode mRe_callAt.2.1 183 = .ok (.iaload, 1) := by decide +kernel
theorem dRe_callAt_184 : decode mRe_callAt.2.1 184 = .ok (.ifCond .le 17, 3) := by decide +kernel
theorem dRe_callAt_187 : decode mRe_callAt.2.1 187 = .ok (.aload_n 0, 1) := by decide +kernel
theorem dRe_callAt_188 : decode mRe_callAt.2.1 188 = .ok (.aload_n 0, 1) := by decide +kernel
theorem dRe_callAt_189 : decode mRe_callAt.2.1 189 = .ok (.getfield 100, 3) := by decide +kernel
theorem dRe_callAt_192 : decode mRe_callAt.2.1 192 = .ok (.iload 5, 2) := by decide +kernel
theorem dRe_callAt_194 : decode mRe_callAt.2.1 194 = .ok (.iaload, 1) := by decide +kernel
theorem dRe_callAt_195 : decode mRe_callAt.2.1 195 = .ok (.iload 4, 2) := by decide +kernel
theorem dRe_callAt_197 : decode mRe_callAt.2.1 197 = .ok (.iload_n 1, 1) := by decide +kernel
theorem dRe_callAt_198 : decode mRe_callAt.2.1 198 = .ok (.invokevirtual 344, 3) := by decide +kernel
theorem dRe_callAt_201 : decode mRe_callAt.2.1 201 = .ok (.iinc 5 1, 3) := by decide +kernel
theorem dRe_callAt_204 : decode mRe_callAt.2.1 204 = .ok (.goto (-33), 3) := by decide +kernel
theorem dRe_callAt_207 : decode mRe_callAt.2.1 207 = .ok (.aload_n 0, 1) := by decide +kernel
theorem dRe_callAt_208 : decode mRe_callAt.2.1 208 = .ok (.getfield 85, 3) := by decide +kernel
theorem dRe_callAt_211 : decode mRe_callAt.2.1 211 = .ok (.iload_n 2, 1) := by decide +kernel
theorem dRe_callAt_212 : decode mRe_callAt.2.1 212 = .ok (.iload_n 1, 1) := by decide +kernel
theorem dRe_callAt_213 : decode mRe_callAt.2.1 213 = .ok (.aload_n 0, 1) := by decide +kernel
theorem dRe_callAt_214 : decode mRe_callAt.2.1 214 = .ok (.iconst 4, 1) := by decide +kernel
theorem dRe_callAt_215 : decode mRe_callAt.2.1 215 = .ok (.iconst 0, 1) := by decide +kernel
theorem dRe_callAt_216 : decode mRe_callAt.2.1 216 = .ok (.invokevirtual 281, 3) := by decide +kernel
theorem dRe_callAt_219 : decode mRe_callAt.2.1 219 = .ok (.aload_n 0, 1) := by decide +kernel
theorem dRe_callAt_220 : decode mRe_callAt.2.1 220 = .ok (.getfield 79, 3) := by decide +kernel
theorem dRe_callAt_223 : decode mRe_callAt.2.1 223 = .ok (.iload_n 2, 1) := by decide +kernel
theorem dRe_callAt_224 : decode mRe_callAt.2.1 224 = .ok (.iaload, 1) := by decide +kernel
theorem dRe_callAt_225 : decode mRe_callAt.2.1 225 = .ok (.imul, 1) := by decide +kernel
theorem dRe_callAt_226 : decode mRe_callAt.2.1 226 = .ok (.iadd, 1) := by decide +kernel
theorem dRe_callAt_227 : decode mRe_callAt.2.1 227 = .ok (.aload_n 0, 1) := by decide +kernel
theorem dRe_callAt_228 : decode mRe_callAt.2.1 228 = .ok (.getfield 22, 3) := by decide +kernel
theorem dRe_callAt_231 : decode mRe_callAt.2.1 231 = .ok (.iload 4, 2) := by decide +kernel
theorem dRe_callAt_233 : decode mRe_callAt.2.1 233 = .ok (.aaload, 1) := by decide +kernel
theorem dRe_callAt_234 : decode mRe_callAt.2.1 234 = .ok (.iconst 3, 1) := by decide +kernel
theorem dRe_callAt_235 : decode mRe_callAt.2.1 235 = .ok (.iaload, 1) := by decide +kernel
theorem dRe_callAt_236 : decode mRe_callAt.2.1 236 = .ok (.iadd, 1) := by decide +kernel
theorem dRe_callAt_237 : decode mRe_callAt.2.1 237 = .ok (.iastore, 1) := by decide +kernel
theorem dRe_callAt_238 : decode mRe_callAt.2.1 238 = .ok (.aload_n 0, 1) := by decide +kernel
theorem dRe_callAt_239 : decode mRe_callAt.2.1 239 = .ok (.getfield 91, 3) := by decide +kernel
theorem dRe_callAt_242 : decode mRe_callAt.2.1 242 = .ok (.iload 4, 2) := by decide +kernel
theorem dRe_callAt_244 : decode mRe_callAt.2.1 244 = .ok (.aload_n 0, 1) := by decide +kernel
theorem dRe_callAt_245 : decode mRe_callAt.2.1 245 = .ok (.getfield 85, 3) := by decide +kernel
theorem dRe_callAt_248 : decode mRe_callAt.2.1 248 = .ok (.iload_n 2, 1) := by decide +kernel
theorem dRe_callAt_249 : decode mRe_callAt.2.1 249 = .ok (.iaload, 1) := by decide +kernel
theorem dRe_callAt_250 : decode mRe_callAt.2.1 250 = .ok (.iastore, 1) := by decide +kernel
theorem dRe_callAt_251 : decode mRe_callAt.2.1 251 = .ok (.return_, 1) := by decide +kernel
theorem bRe_callAt_0 {l : Launch} {G : Gx} {d : Nat} {bc bs : Nat} {Φ : OutV → Mm → Prop} (M : Mm) (a0 : Nat) (x1 : Int32)
    (h : ((m_sh M a0).1 = 11) ∧ ((m_sh M (m_r M a0 46)).1 = 20) ∧ (vp_in (m_i M a0 40) (m_sh M (m_r M a0 46)).2) ∧ Ev l G d mRe_callAt 22 [.ref a0, .int x1, .int (m_i M a0 40), .null, .null, .null] [] (m_si (m_si M a0 40 ((m_i M a0 40) + 1)) (m_r M a0 46) (m_i M a0 40).toNatClampNeg x1) bc bs Φ) :
    Ev l G d mRe_callAt 0 [.ref a0, .int x1, .null, .null, .null, .null] [] M bc bs Φ := by
  refine Ev.aload_n dRe_callAt_0 rfl ?_
  have g1 := h.1
  replace h := h.2
  refine Ev.getI dRe_callAt_1 (Or.inl fRe_307) rfl g1 ?_
  refine Ev.istore_n dRe_callAt_4 (by decide) ?_
  show Ev l G d mRe_callAt (_ + _) [.ref a0, .int x1, .int (m_i M a0 40), .null, .null, .null] [] M bc bs Φ
  refine Ev.aload_n dRe_callAt_5 rfl ?_
  refine Ev.dup dRe_callAt_6 rfl ?_
  refine Ev.getI dRe_callAt_7 (Or.inl fRe_307) rfl g1 ?_
  refine Ev.iconst (v := 1) dRe_callAt_10 (by decide) ?_
  refine Ev.iadd dRe_callAt_11 ?_
  refine Ev.putI dRe_callAt_12 ⟨_, Or.inl ⟨fRe_307, (fun h => by cases h)⟩⟩ rfl ⟨rfl, rfl⟩ g1 ?_
  refine Ev.aload_n dRe_callAt_15 rfl ?_
  refine Ev.getR dRe_callAt_16 (Or.inl fRe_76) rfl g1 ?_
  refine Ev.iload_n dRe_callAt_19 rfl ?_
  refine Ev.iload_n dRe_callAt_20 rfl ?_
  have g2 := h.1
  replace h := h.2
  have g3 := h.1
  replace h := h.2
  refine Ev.iast2 dRe_callAt_21 g2 g3 ?_
  exact h
theorem bRe_callAt_22 {l : Launch} {G : Gx} {d : Nat} {bc bs : Nat} {Φ : OutV → Mm → Prop} (M : Mm) (a0 : Nat) (x1 : Int32) (x2 : Int32) (u3 : Value) (u4 : Value) (u5 : Value)
    (h : ((m_sh M a0).1 = 11) ∧ ((m_sh M (m_r M a0 47)).1 = 20) ∧ (vp_in x2 (m_sh M (m_r M a0 47)).2) ∧ ((m_sh M (m_r M a0 48)).1 = 20) ∧ (vp_in x2 (m_sh M (m_r M a0 48)).2) ∧ Ev l G d mRe_callAt 36 [.ref a0, .int x1, .int x2, u3, u4, u5] [] (m_si (m_si M (m_r M a0 47) x2.toNatClampNeg 0) (m_r M a0 48) x2.toNatClampNeg 0) bc bs Φ) :
    Ev l G d mRe_callAt 22 [.ref a0, .int x1, .int x2, u3, u4, u5] [] M bc bs Φ := by
  refine Ev.aload_n dRe_callAt_22 rfl ?_
  have g1 := h.1
  replace h := h.2
  refine Ev.getR dRe_callAt_23 (Or.inl fRe_79) rfl g1 ?_
  refine Ev.iload_n dRe_callAt_26 rfl ?_
  refine Ev.iconst (v := 0) dRe_callAt_27 (by decide) ?_
  have g2 := h.1
  replace h := h.2
  have g3 := h.1
  replace h := h.2
  refine Ev.iast2 dRe_callAt_28 g2 g3 ?_
  refine Ev.aload_n dRe_callAt_29 rfl ?_
  refine Ev.getR dRe_callAt_30 (Or.inl fRe_82) rfl g1 ?_
  refine Ev.iload_n dRe_callAt_33 rfl ?_
  refine Ev.iconst (v := 0) dRe_callAt_34 (by decide) ?_
  have g4 := h.1
  replace h := h.2
  have g5 := h.1
  replace h := h.2
  refine Ev.iast2 dRe_callAt_35 g4 g5 ?_
  exact h
theorem bRe_callAt_36 {l : Launch} {G : Gx} {d : Nat} {bc bs : Nat} {Φ : OutV → Mm → Prop} (M : Mm) (a0 : Nat) (x1 : Int32) (x2 : Int32) (u3 : Value) (u4 : Value) (u5 : Value)
    (h : ((m_sh M a0).1 = 11) ∧ ((m_sh M (m_r M a0 50)).1 = 20) ∧ (vp_in x2 (m_sh M (m_r M a0 50)).2) ∧ Ev l G d mRe_callAt 45 [.ref a0, .int x1, .int x2, .int 0, u4, u5] [] (m_si M (m_r M a0 50) x2.toNatClampNeg 0) bc bs Φ) :
    Ev l G d mRe_callAt 36 [.ref a0, .int x1, .int x2, u3, u4, u5] [] M bc bs Φ := by
  refine Ev.aload_n dRe_callAt_36 rfl ?_
  have g1 := h.1
  replace h := h.2
  refine Ev.getR dRe_callAt_37 (Or.inl fRe_88) rfl g1 ?_
  refine Ev.iload_n dRe_callAt_40 rfl ?_
  refine Ev.iconst (v := 0) dRe_callAt_41 (by decide) ?_
  have g2 := h.1
  replace h := h.2
  have g3 := h.1
  replace h := h.2
  refine Ev.iast2 dRe_callAt_42 g2 g3 ?_
  refine Ev.iconst (v := 0) dRe_callAt_43 (by decide) ?_
  refine Ev.istore_n dRe_callAt_44 (by decide) ?_
  show Ev l G d mRe_callAt (_ + _) [.ref a0, .int x1, .int x2, .int 0, u4, u5] [] (m_si M (m_r M a0 50) x2.toNatClampNeg 0) bc bs Φ
  exact h
def mRe_dueAt : MR := (⟨"BowingRowModel", "dueAt", "(I)I"⟩, prog_14_method_57_code, 5, (Option.some .int))
theorem oRe_dueAt : MOK mRe_dueAt 1 := ⟨lwg_of 1688 (by decide +kernel) (by decide +kernel), lwg_of 103 (by decide +kernel) (by decide +kernel), ⟨by decide +kernel, by decide +kernel⟩, by decide +kernel, by decide⟩
theorem iRe_dueAt : Cond.instanceMethod mRe_dueAt.1 ∈ lwg := lwg_of 1687 (by decide +kernel) (by decide +kernel)
theorem sRe_dueAt : Cond.selects mRe_dueAt.1.cls mRe_dueAt.1 mRe_dueAt.1 ∈ lwg := lwg_of 76 (by decide +kernel) (by decide +kernel)
theorem w1685 : Cond.methodLink "BowingRowModel" 338 ⟨"BowingRowModel", "dueAt", "(I)I"⟩ ∈ lwg := lwg_of 1685 (by decide +kernel) (by decide +kernel)
theorem bRe_callAt_45 {l : Launch} {G : Gx} {d : Nat} {bc bs : Nat} {Φ : OutV → Mm → Prop} (M : Mm) (a0 : Nat) (x1 : Int32) (x2 : Int32) (x3 : Int32) (u4 : Value) (u5 : Value)
    (h : ((m_sh M a0).1 = 11) ∧ ((m_i M a0 57) ≤ x3 → CallVC l G d mRe_callAt 95 [.ref a0, .int x1, .int x2, .int x3, u4, u5] [] mRe_dueAt [.ref a0, .int x1] M bc bs Φ) ∧ (¬ (m_i M a0 57) ≤ x3 → ((m_sh M (m_r M a0 48)).1 = 20) ∧ (vp_in x2 (m_sh M (m_r M a0 48)).2) ∧ ((m_sh M (m_r M a0 54)).1 = 20) ∧ (vp_in x3 (m_sh M (m_r M a0 54)).2) ∧ ((m_sh M (m_r M a0 55)).1 = 20) ∧ (vp_in x3 (m_sh M (m_r M a0 55)).2) ∧ Ev l G d mRe_callAt 77 [.ref a0, .int x1, .int x2, .int x3, u4, u5] [] (m_si (m_si M (m_r M a0 48) x2.toNatClampNeg ((m_i M (m_r M a0 48) x2.toNatClampNeg) ||| (1 <<< ((m_i M (m_r M a0 54) x3.toNatClampNeg) &&& 31)))) (m_r M a0 55) x3.toNatClampNeg 0) bc bs Φ)) :
    Ev l G d mRe_callAt 45 [.ref a0, .int x1, .int x2, .int x3, u4, u5] [] M bc bs Φ := by
  refine Ev.iload_n dRe_callAt_45 rfl ?_
  refine Ev.aload_n dRe_callAt_46 rfl ?_
  have g1 := h.1
  replace h := h.2
  refine Ev.getI dRe_callAt_47 (Or.inl fRe_304) rfl g1 ?_
  refine Ev.icmp_ge 90 (by decide) dRe_callAt_50 (fun c => ?_) (fun c => ?_)
  · replace h := h.1 c
    refine Ev.aload_n dRe_callAt_90 rfl ?_
    refine Ev.iload_n dRe_callAt_91 rfl ?_
    exact Ev.vcV (z := mRe_dueAt) (ci := 11) [.int x1] [] rfl dRe_callAt_92 oRe_dueAt rfl w1685 iRe_dueAt sRe_dueAt (by decide) rfl g1 (Nat.le_of_ble_eq_true rfl) h
  · replace h := h.2 c
    refine Ev.aload_n dRe_callAt_53 rfl ?_
    refine Ev.getR dRe_callAt_54 (Or.inl fRe_82) rfl g1 ?_
    refine Ev.iload_n dRe_callAt_57 rfl ?_
    refine Ev.dup2 dRe_callAt_58 rfl rfl ?_
    have g2 := h.1
    replace h := h.2
    have g3 := h.1
    replace h := h.2
    refine Ev.iald2 dRe_callAt_59 g2 g3 ?_
    refine Ev.iconst (v := 1) dRe_callAt_60 (by decide) ?_
    refine Ev.aload_n dRe_callAt_61 rfl ?_
    refine Ev.getR dRe_callAt_62 (Or.inl fRe_100) rfl g1 ?_
    refine Ev.iload_n dRe_callAt_65 rfl ?_
    have g4 := h.1
    replace h := h.2
    have g5 := h.1
    replace h := h.2
    refine Ev.iald2 dRe_callAt_66 g4 g5 ?_
    refine Ev.ishl dRe_callAt_67 ?_
    refine Ev.ior dRe_callAt_68 ?_
    refine Ev.iast2 dRe_callAt_69 g2 g3 ?_
    refine Ev.aload_n dRe_callAt_70 rfl ?_
    refine Ev.getR dRe_callAt_71 (Or.inl fRe_103) rfl g1 ?_
    refine Ev.iload_n dRe_callAt_74 rfl ?_
    refine Ev.iconst (v := 0) dRe_callAt_75 (by decide) ?_
    have g6 := h.1
    replace h := h.2
    have g7 := h.1
    replace h := h.2
    refine Ev.iast2 dRe_callAt_76 g6 g7 ?_
    exact h
theorem bRe_callAt_77 {l : Launch} {G : Gx} {d : Nat} {bc bs : Nat} {Φ : OutV → Mm → Prop} (M : Mm) (a0 : Nat) (x1 : Int32) (x2 : Int32) (x3 : Int32) (u4 : Value) (u5 : Value)
    (h : ((m_sh M a0).1 = 11) ∧ ((m_sh M (m_r M a0 56)).1 = 20) ∧ (vp_in x3 (m_sh M (m_r M a0 56)).2) ∧ Ev l G d mRe_callAt 45 [.ref a0, .int x1, .int x2, .int (x3 + 1), u4, u5] [] (m_si M (m_r M a0 56) x3.toNatClampNeg 0) bc bs Φ) :
    Ev l G d mRe_callAt 77 [.ref a0, .int x1, .int x2, .int x3, u4, u5] [] M bc bs Φ := by
  refine Ev.aload_n dRe_callAt_77 rfl ?_
  have g1 := h.1
  replace h := h.2
  refine Ev.getR dRe_callAt_78 (Or.inl fRe_106) rfl g1 ?_
  refine Ev.iload_n dRe_callAt_81 rfl ?_
  refine Ev.iconst (v := 0) dRe_callAt_82 (by decide) ?_
  have g2 := h.1
  replace h := h.2
  have g3 := h.1
  replace h := h.2
  refine Ev.iast2 dRe_callAt_83 g2 g3 ?_
  refine Ev.iinc (v := x3 + 1) dRe_callAt_84 (by decide) rfl rfl ?_
  show Ev l G d mRe_callAt (_ + _) [.ref a0, .int x1, .int x2, .int (x3 + 1), u4, u5] [] (m_si M (m_r M a0 56) x3.toNatClampNeg 0) bc bs Φ
  refine Ev.goto 45 dRe_callAt_87 (by decide) ?_
  exact h
def mRe_askedAt : MR := (⟨"BowingRowModel", "askedAt", "(II)I"⟩, prog_14_method_58_code, 8, (Option.some .int))
theorem oRe_askedAt : MOK mRe_askedAt 2 := ⟨lwg_of 1696 (by decide +kernel) (by decide +kernel), lwg_of 103 (by decide +kernel) (by decide +kernel), ⟨by decide +kernel, by decide +kernel⟩, by decide +kernel, by decide⟩
theorem iRe_askedAt : Cond.instanceMethod mRe_askedAt.1 ∈ lwg := lwg_of 1695 (by decide +kernel) (by decide +kernel)
theorem sRe_askedAt : Cond.selects mRe_askedAt.1.cls mRe_askedAt.1 mRe_askedAt.1 ∈ lwg := lwg_of 78 (by decide +kernel) (by decide +kernel)
theorem w1693 : Cond.methodLink "BowingRowModel" 341 ⟨"BowingRowModel", "askedAt", "(II)I"⟩ ∈ lwg := lwg_of 1693 (by decide +kernel) (by decide +kernel)
theorem bRe_callAt_95 {l : Launch} {G : Gx} {d : Nat} {bc bs : Nat} {Φ : OutV → Mm → Prop} (M : Mm) (a0 : Nat) (x1 : Int32) (x2 : Int32) (x3 : Int32) (u4 : Value) (u5 : Value) (s0 : Int32)
    (h : (s0 = ((-1)) → ((m_sh M a0).1 = 11) ∧ CallVC l G d mRe_callAt 120 [.ref a0, .int x1, .int x2, .int s0, u4, u5] [] mRe_askedAt [.ref a0, .int x2, .int x1] M bc bs Φ) ∧ (¬ s0 = ((-1)) → ((m_sh M a0).1 = 11) ∧ Ev l G d mRe_callAt 121 [.ref a0, .int x1, .int x2, .int s0, u4, u5] [] (m_si M a0 42 ((m_i M a0 42) + 1)) bc bs Φ)) :
    Ev l G d mRe_callAt 95 [.ref a0, .int x1, .int x2, .int x3, u4, u5] [.int s0] M bc bs Φ := by
  refine Ev.istore_n dRe_callAt_95 (by decide) ?_
  show Ev l G d mRe_callAt (_ + _) [.ref a0, .int x1, .int x2, .int s0, u4, u5] [] M bc bs Φ
  refine Ev.iload_n dRe_callAt_96 rfl ?_
  refine Ev.iconst (v := (-1)) dRe_callAt_97 (by decide) ?_
  refine Ev.icmp_eq 114 (by decide) dRe_callAt_98 (fun c => ?_) (fun c => ?_)
  · replace h := h.1 c
    refine Ev.aload_n dRe_callAt_114 rfl ?_
    refine Ev.iload_n dRe_callAt_115 rfl ?_
    refine Ev.iload_n dRe_callAt_116 rfl ?_
    have g1 := h.1
    replace h := h.2
    exact Ev.vcV (z := mRe_askedAt) (ci := 11) [.int x2, .int x1] [] rfl dRe_callAt_117 oRe_askedAt rfl w1693 iRe_askedAt sRe_askedAt (by decide) rfl g1 (Nat.le_of_ble_eq_true rfl) h
  · replace h := h.2 c
    refine Ev.aload_n dRe_callAt_101 rfl ?_
    refine Ev.dup dRe_callAt_102 rfl ?_
    have g2 := h.1
    replace h := h.2
    refine Ev.getI dRe_callAt_103 (Or.inl fRe_310) rfl g2 ?_
    refine Ev.iconst (v := 1) dRe_callAt_106 (by decide) ?_
    refine Ev.iadd dRe_callAt_107 ?_
    refine Ev.putI dRe_callAt_108 ⟨_, Or.inl ⟨fRe_310, (fun h => by cases h)⟩⟩ rfl ⟨rfl, rfl⟩ g2 ?_
    refine Ev.goto 121 dRe_callAt_111 (by decide) ?_
    exact h
theorem bRe_callAt_120 {l : Launch} {G : Gx} {d : Nat} {bc bs : Nat} {Φ : OutV → Mm → Prop} (M : Mm) (a0 : Nat) (x1 : Int32) (x2 : Int32) (x3 : Int32) (u4 : Value) (u5 : Value) (s0 : Int32)
    (h : Ev l G d mRe_callAt 121 [.ref a0, .int x1, .int x2, .int s0, u4, u5] [] M bc bs Φ) :
    Ev l G d mRe_callAt 120 [.ref a0, .int x1, .int x2, .int x3, u4, u5] [.int s0] M bc bs Φ := by
  refine Ev.istore_n dRe_callAt_120 (by decide) ?_
  show Ev l G d mRe_callAt (_ + _) [.ref a0, .int x1, .int x2, .int s0, u4, u5] [] M bc bs Φ
  exact h
theorem bRe_callAt_121 {l : Launch} {G : Gx} {d : Nat} {bc bs : Nat} {Φ : OutV → Mm → Prop} (M : Mm) (a0 : Nat) (x1 : Int32) (x2 : Int32) (x3 : Int32) (u4 : Value) (u5 : Value)
    (h : ((m_sh M a0).1 = 11) ∧ (¬ x3 = ((-1)) → ((m_sh M (m_r M a0 54)).1 = 20) ∧ (vp_in x3 (m_sh M (m_r M a0 54)).2) ∧ ((m_sh M (m_r M a0 45)).1 = 20) ∧ (vp_in x2 (m_sh M (m_r M a0 45)).2) ∧ ((m_sh M (m_r M a0 49)).1 = 20) ∧ (vp_in x2 (m_sh M (m_r M a0 49)).2) ∧ Ev l G d mRe_callAt 149 [.ref a0, .int x1, .int x2, .int x3, u4, u5] [] (m_si (m_si M (m_r M a0 45) x2.toNatClampNeg (m_i M (m_r M a0 54) x3.toNatClampNeg)) (m_r M a0 49) x2.toNatClampNeg ((-1))) bc bs Φ) ∧ (x3 = ((-1)) → ((m_sh M (m_r M a0 45)).1 = 20) ∧ (vp_in x2 (m_sh M (m_r M a0 45)).2) ∧ ((m_sh M (m_r M a0 49)).1 = 20) ∧ (vp_in x2 (m_sh M (m_r M a0 49)).2) ∧ Ev l G d mRe_callAt 149 [.ref a0, .int x1, .int x2, .int x3, u4, u5] [] (m_si (m_si M (m_r M a0 45) x2.toNatClampNeg ((-1))) (m_r M a0 49) x2.toNatClampNeg ((-1))) bc bs Φ)) :
    Ev l G d mRe_callAt 121 [.ref a0, .int x1, .int x2, .int x3, u4, u5] [] M bc bs Φ := by
  refine Ev.aload_n dRe_callAt_121 rfl ?_
  have g1 := h.1
  replace h := h.2
  refine Ev.getR dRe_callAt_122 (Or.inl fRe_73) rfl g1 ?_
  refine Ev.iload_n dRe_callAt_125 rfl ?_
  refine Ev.iload_n dRe_callAt_126 rfl ?_
  refine Ev.iconst (v := (-1)) dRe_callAt_127 (by decide) ?_
  refine Ev.icmp_ne 135 (by decide) dRe_callAt_128 (fun c => ?_) (fun c => ?_)
  · replace h := h.1 c
    refine Ev.aload_n dRe_callAt_135 rfl ?_
    refine Ev.getR dRe_callAt_136 (Or.inl fRe_100) rfl g1 ?_
    refine Ev.iload_n dRe_callAt_139 rfl ?_
    have g2 := h.1
    replace h := h.2
    have g3 := h.1
    replace h := h.2
    refine Ev.iald2 dRe_callAt_140 g2 g3 ?_
    have g4 := h.1
    replace h := h.2
    have g5 := h.1
    replace h := h.2
    refine Ev.iast2 dRe_callAt_141 g4 g5 ?_
    refine Ev.aload_n dRe_callAt_142 rfl ?_
    refine Ev.getR dRe_callAt_143 (Or.inl fRe_85) rfl g1 ?_
    refine Ev.iload_n dRe_callAt_146 rfl ?_
    refine Ev.iconst (v := (-1)) dRe_callAt_147 (by decide) ?_
    have g6 := h.1
    replace h := h.2
    have g7 := h.1
    replace h := h.2
    refine Ev.iast2 dRe_callAt_148 g6 g7 ?_
    exact h
  · replace h := h.2 c
    refine Ev.iconst (v := (-1)) dRe_callAt_131 (by decide) ?_
    refine Ev.goto 141 dRe_callAt_132 (by decide) ?_
    have g8 := h.1
    replace h := h.2
    have g9 := h.1
    replace h := h.2
    refine Ev.iast2 dRe_callAt_141 g8 g9 ?_
    refine Ev.aload_n dRe_callAt_142 rfl ?_
    refine Ev.getR dRe_callAt_143 (Or.inl fRe_85) rfl g1 ?_
    refine Ev.iload_n dRe_callAt_146 rfl ?_
    refine Ev.iconst (v := (-1)) dRe_callAt_147 (by decide) ?_
    have g10 := h.1
    replace h := h.2
    have g11 := h.1
    replace h := h.2
    refine Ev.iast2 dRe_callAt_148 g10 g11 ?_
    exact h
theorem bRe_callAt_149 {l : Launch} {G : Gx} {d : Nat} {bc bs : Nat} {Φ : OutV → Mm → Prop} (M : Mm) (a0 : Nat) (x1 : Int32) (x2 : Int32) (x3 : Int32) (u4 : Value) (u5 : Value)
    (h : (¬ x3 = ((-1)) → ((m_sh M a0).1 = 11) ∧ ((m_sh M (m_r M a0 54)).1 = 20) ∧ (vp_in x3 (m_sh M (m_r M a0 54)).2) ∧ Ev l G d mRe_callAt 171 [.ref a0, .int x1, .int x2, .int x3, .int (m_i M (m_r M a0 54) x3.toNatClampNeg), .int 0] [] M bc bs Φ) ∧ (x3 = ((-1)) → ((m_sh M a0).1 = 11) ∧ Φ (.inl none) (m_si M a0 44 1))) :
    Ev l G d mRe_callAt 149 [.ref a0, .int x1, .int x2, .int x3, u4, u5] [] M bc bs Φ := by
  refine Ev.iload_n dRe_callAt_149 rfl ?_
  refine Ev.iconst (v := (-1)) dRe_callAt_150 (by decide) ?_
  refine Ev.icmp_ne 160 (by decide) dRe_callAt_151 (fun c => ?_) (fun c => ?_)
  · replace h := h.1 c
    refine Ev.aload_n dRe_callAt_160 rfl ?_
    have g1 := h.1
    replace h := h.2
    refine Ev.getR dRe_callAt_161 (Or.inl fRe_100) rfl g1 ?_
    refine Ev.iload_n dRe_callAt_164 rfl ?_
    have g2 := h.1
    replace h := h.2
    have g3 := h.1
    replace h := h.2
    refine Ev.iald2 dRe_callAt_165 g2 g3 ?_
    refine Ev.istore dRe_callAt_166 (by decide) ?_
    show Ev l G d mRe_callAt (_ + _) [.ref a0, .int x1, .int x2, .int x3, .int (m_i M (m_r M a0 54) x3.toNatClampNeg), u5] [] M bc bs Φ
    refine Ev.iconst (v := 0) dRe_callAt_168 (by decide) ?_
    refine Ev.istore dRe_callAt_169 (by decide) ?_
    show Ev l G d mRe_callAt (_ + _) [.ref a0, .int x1, .int x2, .int x3, .int (m_i M (m_r M a0 54) x3.toNatClampNeg), .int 0] [] M bc bs Φ
    exact h
  · replace h := h.2 c
    refine Ev.aload_n dRe_callAt_154 rfl ?_
    refine Ev.iconst (v := 1) dRe_callAt_155 (by decide) ?_
    have g4 := h.1
    replace h := h.2
    refine Ev.putI dRe_callAt_156 ⟨_, Or.inl ⟨fRe_313, (fun h => by cases h)⟩⟩ rfl ⟨rfl, rfl⟩ g4 ?_
    exact Ev.vret dRe_callAt_159 rfl h
def mRe_passes : MR := (⟨"BowingRowModel", "passes", "(III)V"⟩, prog_14_method_56_code, 4, none)
theorem oRe_passes : MOK mRe_passes 3 := ⟨lwg_of 1704 (by decide +kernel) (by decide +kernel), lwg_of 103 (by decide +kernel) (by decide +kernel), ⟨by decide +kernel, by decide +kernel⟩, by decide +kernel, by decide⟩
theorem iRe_passes : Cond.instanceMethod mRe_passes.1 ∈ lwg := lwg_of 1703 (by decide +kernel) (by decide +kernel)
theorem sRe_passes : Cond.selects mRe_passes.1.cls mRe_passes.1 mRe_passes.1 ∈ lwg := lwg_of 80 (by decide +kernel) (by decide +kernel)
theorem w1701 : Cond.methodLink "BowingRowModel" 344 ⟨"BowingRowModel", "passes", "(III)V"⟩ ∈ lwg := lwg_of 1701 (by decide +kernel) (by decide +kernel)
theorem bRe_callAt_171 {l : Launch} {G : Gx} {d : Nat} {bc bs : Nat} {Φ : OutV → Mm → Prop} (M : Mm) (a0 : Nat) (x1 : Int32) (x2 : Int32) (x3 : Int32) (x4 : Int32) (x5 : Int32)
    (h : (x3 ≤ x5 → ((m_sh M a0).1 = 11) ∧ CallVC l G d mRe_callAt 219 [.ref a0, .int x1, .int x2, .int x3, .int x4, .int x5] [.int x1, .int x2, .ref (m_r M a0 49)] mRe_numberOf [.ref a0, .int 4, .int 0] M bc bs Φ) ∧ (¬ x3 ≤ x5 → ((m_sh M a0).1 = 11) ∧ ((m_sh M (m_r M a0 55)).1 = 20) ∧ (vp_in x5 (m_sh M (m_r M a0 55)).2) ∧ ((m_i M (m_r M a0 55) x5.toNatClampNeg) ≤ 0 → Ev l G d mRe_callAt 201 [.ref a0, .int x1, .int x2, .int x3, .int x4, .int x5] [] M bc bs Φ) ∧ (¬ (m_i M (m_r M a0 55) x5.toNatClampNeg) ≤ 0 → ((m_sh M (m_r M a0 54)).1 = 20) ∧ (vp_in x5 (m_sh M (m_r M a0 54)).2) ∧ CallVC l G d mRe_callAt 201 [.ref a0, .int x1, .int x2, .int x3, .int x4, .int x5] [] mRe_passes [.ref a0, .int (m_i M (m_r M a0 54) x5.toNatClampNeg), .int x4, .int x1] M bc bs Φ))) :
    Ev l G d mRe_callAt 171 [.ref a0, .int x1, .int x2, .int x3, .int x4, .int x5] [] M bc bs Φ := by
  refine Ev.iload dRe_callAt_171 rfl ?_
  refine Ev.iload_n dRe_callAt_173 rfl ?_
  refine Ev.icmp_ge 207 (by decide) dRe_callAt_174 (fun c => ?_) (fun c => ?_)
  · replace h := h.1 c
    refine Ev.aload_n dRe_callAt_207 rfl ?_
    have g1 := h.1
    replace h := h.2
    refine Ev.getR dRe_callAt_208 (Or.inl fRe_85) rfl g1 ?_
    refine Ev.iload_n dRe_callAt_211 rfl ?_
    refine Ev.iload_n dRe_callAt_212 rfl ?_
    refine Ev.aload_n dRe_callAt_213 rfl ?_
    refine Ev.iconst (v := 4) dRe_callAt_214 (by decide) ?_
    refine Ev.iconst (v := 0) dRe_callAt_215 (by decide) ?_
    exact Ev.vcV (z := mRe_numberOf) (ci := 11) [.int 4, .int 0] [.int x1, .int x2, .ref (m_r M a0 49)] rfl dRe_callAt_216 oRe_numberOf rfl w1610 iRe_numberOf sRe_numberOf (by decide) rfl g1 (Nat.le_of_ble_eq_true rfl) h
  · replace h := h.2 c
    refine Ev.aload_n dRe_callAt_177 rfl ?_
    have g2 := h.1
    replace h := h.2
    refine Ev.getR dRe_callAt_178 (Or.inl fRe_103) rfl g2 ?_
    refine Ev.iload dRe_callAt_181 rfl ?_
    have g3 := h.1
    replace h := h.2
    have g4 := h.1
    replace h := h.2
    refine Ev.iald2 dRe_callAt_183 g3 g4 ?_
    refine Ev.if_le 201 (by decide) dRe_callAt_184 (fun c => ?_) (fun c => ?_)
    · replace h := h.1 c
      exact h
    · replace h := h.2 c
      refine Ev.aload_n dRe_callAt_187 rfl ?_
      refine Ev.aload_n dRe_callAt_188 rfl ?_
      refine Ev.getR dRe_callAt_189 (Or.inl fRe_100) rfl g2 ?_
      refine Ev.iload dRe_callAt_192 rfl ?_
      have g5 := h.1
      replace h := h.2
      have g6 := h.1
      replace h := h.2
      refine Ev.iald2 dRe_callAt_194 g5 g6 ?_
      refine Ev.iload dRe_callAt_195 rfl ?_
      refine Ev.iload_n dRe_callAt_197 rfl ?_
      exact Ev.vcV (z := mRe_passes) (ci := 11) [.int (m_i M (m_r M a0 54) x5.toNatClampNeg), .int x4, .int x1] [] rfl dRe_callAt_198 oRe_passes rfl w1701 iRe_passes sRe_passes (by decide) rfl g2 (Nat.le_of_ble_eq_true rfl) h
theorem bRe_callAt_201 {l : Launch} {G : Gx} {d : Nat} {bc bs : Nat} {Φ : OutV → Mm → Prop} (M : Mm) (a0 : Nat) (x1 : Int32) (x2 : Int32) (x3 : Int32) (x4 : Int32) (x5 : Int32)
    (h : Ev l G d mRe_callAt 171 [.ref a0, .int x1, .int x2, .int x3, .int x4, .int (x5 + 1)] [] M bc bs Φ) :
    Ev l G d mRe_callAt 201 [.ref a0, .int x1, .int x2, .int x3, .int x4, .int x5] [] M bc bs Φ := by
  refine Ev.iinc (v := x5 + 1) dRe_callAt_201 (by decide) rfl rfl ?_
  show Ev l G d mRe_callAt (_ + _) [.ref a0, .int x1, .int x2, .int x3, .int x4, .int (x5 + 1)] [] M bc bs Φ
  refine Ev.goto 171 dRe_callAt_204 (by decide) ?_
  exact h
theorem bRe_callAt_219 {l : Launch} {G : Gx} {d : Nat} {bc bs : Nat} {Φ : OutV → Mm → Prop} (M : Mm) (a0 : Nat) (x1 : Int32) (x2 : Int32) (x3 : Int32) (x4 : Int32) (x5 : Int32) (r0 : Nat) (s1 : Int32) (s2 : Int32) (s3 : Int32)
    (h : ((m_sh M a0).1 = 11) ∧ ((m_sh M (m_r M a0 47)).1 = 20) ∧ (vp_in x2 (m_sh M (m_r M a0 47)).2) ∧ ((m_sh M (m_r M a0 13)).1 = 33) ∧ (vp_in x4 (m_sh M (m_r M a0 13)).2) ∧ ((m_sh M (m_r M (m_r M a0 13) x4.toNatClampNeg)).1 = 20) ∧ (vp_in 3 (m_sh M (m_r M (m_r M a0 13) x4.toNatClampNeg)).2) ∧ ((m_sh M r0).1 = 20) ∧ (vp_in s1 (m_sh M r0).2) ∧ ((m_sh M (m_r M a0 49)).1 = 20) ∧ (vp_in x2 (m_sh M (m_r M a0 49)).2) ∧ ((m_sh M (m_r M a0 51)).1 = 20) ∧ (vp_in x4 (m_sh M (m_r M a0 51)).2) ∧ Φ (.inl none) (m_si (m_si M r0 s1.toNatClampNeg ((s2 + (s3 * (m_i M (m_r M a0 47) x2.toNatClampNeg))) + (m_i M (m_r M (m_r M a0 13) x4.toNatClampNeg) (3 : Int32).toNatClampNeg))) (m_r M a0 51) x4.toNatClampNeg (m_i (m_si M r0 s1.toNatClampNeg ((s2 + (s3 * (m_i M (m_r M a0 47) x2.toNatClampNeg))) + (m_i M (m_r M (m_r M a0 13) x4.toNatClampNeg) (3 : Int32).toNatClampNeg))) (m_r M a0 49) x2.toNatClampNeg))) :
    Ev l G d mRe_callAt 219 [.ref a0, .int x1, .int x2, .int x3, .int x4, .int x5] [.int s3, .int s2, .int s1, .ref r0] M bc bs Φ := by
  refine Ev.aload_n dRe_callAt_219 rfl ?_
  have g1 := h.1
  replace h := h.2
  refine Ev.getR dRe_callAt_220 (Or.inl fRe_79) rfl g1 ?_
  refine Ev.iload_n dRe_callAt_223 rfl ?_
  have g2 := h.1
  replace h := h.2
  have g3 := h.1
  replace h := h.2
  refine Ev.iald2 dRe_callAt_224 g2 g3 ?_
  refine Ev.imul dRe_callAt_225 ?_
  refine Ev.iadd dRe_callAt_226 ?_
  refine Ev.aload_n dRe_callAt_227 rfl ?_
  refine Ev.getR dRe_callAt_228 (Or.inl fRe_22) rfl g1 ?_
  refine Ev.iload dRe_callAt_231 rfl ?_
  have g4 := h.1
  replace h := h.2
  have g5 := h.1
  replace h := h.2
  refine Ev.aald2 33 (by decide) dRe_callAt_233 g4 g5 ?_
  refine Ev.iconst (v := 3) dRe_callAt_234 (by decide) ?_
  have g6 := h.1
  replace h := h.2
  have g7 := h.1
  replace h := h.2
  refine Ev.iald2 dRe_callAt_235 g6 g7 ?_
  refine Ev.iadd dRe_callAt_236 ?_
  have g8 := h.1
  replace h := h.2
  have g9 := h.1
  replace h := h.2
  refine Ev.iast2 dRe_callAt_237 g8 g9 ?_
  refine Ev.aload_n dRe_callAt_238 rfl ?_
  refine Ev.getR dRe_callAt_239 (Or.inl fRe_91) rfl g1 ?_
  refine Ev.iload dRe_callAt_242 rfl ?_
  refine Ev.aload_n dRe_callAt_244 rfl ?_
  refine Ev.getR dRe_callAt_245 (Or.inl fRe_85) rfl g1 ?_
  refine Ev.iload_n dRe_callAt_248 rfl ?_
  have g10 := h.1
  replace h := h.2
  have g11 := h.1
  replace h := h.2
  refine Ev.iald2 dRe_callAt_249 g10 g11 ?_
  have g12 := h.1
  replace h := h.2
  have g13 := h.1
  replace h := h.2
  refine Ev.iast2 dRe_callAt_250 g12 g13 ?_
  exact Ev.vret dRe_callAt_251 rfl h
theorem dRe_dueAt_0 : decode mRe_dueAt.2.1 0 = .ok (.aload_n 0, 1) := by decide +kernel
theorem dRe_dueAt_1 : decode mRe_dueAt.2.1 1 = .ok (.iconst 0, 1) := by decide +kernel
theorem dRe_dueAt_2 : decode mRe_dueAt.2.1 2 = .ok (.iconst (-1), 1) := by decide +kernel
theorem dRe_dueAt_3 : decode mRe_dueAt.2.1 3 = .ok (.invokevirtual 281, 3) := by decide +kernel
theorem dRe_dueAt_6 : decode mRe_dueAt.2.1 6 = .ok (.istore_n 2, 1) := by decide +kernel
theorem dRe_dueAt_7 : decode mRe_dueAt.2.1 7 = .ok (.iconst (-1), 1) := by decide +kernel
theorem dRe_dueAt_8 : decode mRe_dueAt.2.1 8 = .ok (.istore_n 3, 1) := by decide +kernel
theorem dRe_dueAt_9 : decode mRe_dueAt.2.1 9 = .ok (.iconst 0, 1) := by decide +kernel
theorem dRe_dueAt_10 : decode mRe_dueAt.2.1 10 = .ok (.istore 4, 2) := by decide +kernel
theorem dRe_dueAt_12 : decode mRe_dueAt.2.1 12 = .ok (.iload 4, 2) := by decide +kernel
theorem dRe_dueAt_14 : decode mRe_dueAt.2.1 14 = .ok (.aload_n 0, 1) := by decide +kernel
theorem dRe_dueAt_15 : decode mRe_dueAt.2.1 15 = .ok (.getfield 304, 3) := by decide +kernel
theorem dRe_dueAt_18 : decode mRe_dueAt.2.1 18 = .ok (.if_icmp .ge 64, 3) := by decide +kernel
theorem dRe_dueAt_21 : decode mRe_dueAt.2.1 21 = .ok (.iload_n 2, 1) := by decide +kernel
theorem dRe_dueAt_22 : decode mRe_dueAt.2.1 22 = .ok (.iconst (-1), 1) := by decide +kernel
theorem dRe_dueAt_23 : decode mRe_dueAt.2.1 23 = .ok (.if_icmp .eq 59, 3) := by decide +kernel
theorem dRe_dueAt_26 : decode mRe_dueAt.2.1 26 = .ok (.aload_n 0, 1) := by decide +kernel
theorem dRe_dueAt_27 : decode mRe_dueAt.2.1 27 = .ok (.aload_n 0, 1) := by decide +kernel
theorem dRe_dueAt_28 : decode mRe_dueAt.2.1 28 = .ok (.getfield 100, 3) := by decide +kernel
theorem dRe_dueAt_31 : decode mRe_dueAt.2.1 31 = .ok (.iload 4, 2) := by decide +kernel
theorem dRe_dueAt_33 : decode mRe_dueAt.2.1 33 = .ok (.iaload, 1) := by decide +kernel
theorem dRe_dueAt_34 : decode mRe_dueAt.2.1 34 = .ok (.iload_n 1, 1) := by decide +kernel
theorem dRe_dueAt_35 : decode mRe_dueAt.2.1 35 = .ok (.invokevirtual 346, 3) := by decide +kernel
theorem dRe_dueAt_38 : decode mRe_dueAt.2.1 38 = .ok (.iload_n 2, 1) := by decide +kernel
theorem dRe_dueAt_39 : decode mRe_dueAt.2.1 39 = .ok (.if_icmp .lt 37, 3) := by decide +kernel
theorem dRe_dueAt_42 : decode mRe_dueAt.2.1 42 = .ok (.iload_n 3, 1) := by decide +kernel
theorem dRe_dueAt_43 : decode mRe_dueAt.2.1 43 = .ok (.iconst (-1), 1) := by decide +kernel
theorem dRe_dueAt_44 : decode mRe_dueAt.2.1 44 = .ok (.if_icmp .eq 29, 3) := by decide +kernel
theorem dRe_dueAt_47 : decode mRe_dueAt.2.1 47 = .ok (.aload_n 0, 1) := by decide +kernel
theorem dRe_dueAt_48 : decode mRe_dueAt.2.1 48 = .ok (.aload_n 0, 1) := by decide +kernel
theorem dRe_dueAt_49 : decode mRe_dueAt.2.1 49 = .ok (.getfield 100, 3) := by decide +kernel
theorem dRe_dueAt_52 : decode mRe_dueAt.2.1 52 = .ok (.iload 4, 2) := by decide +kernel
theorem dRe_dueAt_54 : decode mRe_dueAt.2.1 54 = .ok (.iaload, 1) := by decide +kernel
theorem dRe_dueAt_55 : decode mRe_dueAt.2.1 55 = .ok (.iload_n 1, 1) := by decide +kernel
theorem dRe_dueAt_56 : decode mRe_dueAt.2.1 56 = .ok (.invokevirtual 346, 3) := by decide +kernel
theorem dRe_dueAt_59 : decode mRe_dueAt.2.1 59 = .ok (.aload_n 0, 1) := by decide +kernel
theorem dRe_dueAt_60 : decode mRe_dueAt.2.1 60 = .ok (.aload_n 0, 1) := by decide +kernel
theorem dRe_dueAt_61 : decode mRe_dueAt.2.1 61 = .ok (.getfield 100, 3) := by decide +kernel
theorem dRe_dueAt_64 : decode mRe_dueAt.2.1 64 = .ok (.iload_n 3, 1) := by decide +kernel
theorem dRe_dueAt_65 : decode mRe_dueAt.2.1 65 = .ok (.iaload, 1) := by decide +kernel
theorem dRe_dueAt_66 : decode mRe_dueAt.2.1 66 = .ok (.iload_n 1, 1) := by decide +kernel
theorem dRe_dueAt_67 : decode mRe_dueAt.2.1 67 = .ok (.invokevirtual 346, 3) := by decide +kernel
theorem dRe_dueAt_70 : decode mRe_dueAt.2.1 70 = .ok (.if_icmp .le 6, 3) := by decide +kernel
theorem dRe_dueAt_73 : decode mRe_dueAt.2.1 73 = .ok (.iload 4, 2) := by decide +kernel
theorem dRe_dueAt_75 : decode mRe_dueAt.2.1 75 = .ok (.istore_n 3, 1) := by decide +kernel
theorem dRe_dueAt_76 : decode mRe_dueAt.2.1 76 = .ok (.iinc 4 1, 3) := by decide +kernel
theorem dRe_dueAt_79 : decode mRe_dueAt.2.1 79 = .ok (.goto (-67), 3) := by decide +kernel
theorem dRe_dueAt_82 : decode mRe_dueAt.2.1 82 = .ok (.iload_n 3, 1) := by decide +kernel
theorem dRe_dueAt_83 : decode mRe_dueAt.2.1 83 = .ok (.ireturn, 1) := by decide +kernel
theorem bRe_dueAt_0 {l : Launch} {G : Gx} {d : Nat} {bc bs : Nat} {Φ : OutV → Mm → Prop} (M : Mm) (a0 : Nat) (x1 : Int32)
    (h : ((m_sh M a0).1 = 11) ∧ CallVC l G d mRe_dueAt 6 [.ref a0, .int x1, .null, .null, .null] [] mRe_numberOf [.ref a0, .int 0, .int ((-1))] M bc bs Φ) :
    Ev l G d mRe_dueAt 0 [.ref a0, .int x1, .null, .null, .null] [] M bc bs Φ := by
  refine Ev.aload_n dRe_dueAt_0 rfl ?_
  refine Ev.iconst (v := 0) dRe_dueAt_1 (by decide) ?_
  refine Ev.iconst (v := (-1)) dRe_dueAt_2 (by decide) ?_
  have g1 := h.1
  replace h := h.2
  exact Ev.vcV (z := mRe_numberOf) (ci := 11) [.int 0, .int ((-1))] [] rfl dRe_dueAt_3 oRe_numberOf rfl w1610 iRe_numberOf sRe_numberOf (by decide) rfl g1 (Nat.le_of_ble_eq_true rfl) h
theorem bRe_dueAt_6 {l : Launch} {G : Gx} {d : Nat} {bc bs : Nat} {Φ : OutV → Mm → Prop} (M : Mm) (a0 : Nat) (x1 : Int32) (u2 : Value) (u3 : Value) (u4 : Value) (s0 : Int32)
    (h : Ev l G d mRe_dueAt 12 [.ref a0, .int x1, .int s0, .int ((-1)), .int 0] [] M bc bs Φ) :
    Ev l G d mRe_dueAt 6 [.ref a0, .int x1, u2, u3, u4] [.int s0] M bc bs Φ := by
  refine Ev.istore_n dRe_dueAt_6 (by decide) ?_
  show Ev l G d mRe_dueAt (_ + _) [.ref a0, .int x1, .int s0, u3, u4] [] M bc bs Φ
  refine Ev.iconst (v := (-1)) dRe_dueAt_7 (by decide) ?_
  refine Ev.istore_n dRe_dueAt_8 (by decide) ?_
  show Ev l G d mRe_dueAt (_ + _) [.ref a0, .int x1, .int s0, .int ((-1)), u4] [] M bc bs Φ
  refine Ev.iconst (v := 0) dRe_dueAt_9 (by decide) ?_
  refine Ev.istore dRe_dueAt_10 (by decide) ?_
  show Ev l G d mRe_dueAt (_ + _) [.ref a0, .int x1, .int s0, .int ((-1)), .int 0] [] M bc bs Φ
  exact h
def mRe_balanceOf : MR := (⟨"BowingRowModel", "balanceOf", "(II)I"⟩, prog_14_method_49_code, 6, (Option.some .int))
theorem oRe_balanceOf : MOK mRe_balanceOf 2 := ⟨lwg_of 1692 (by decide +kernel) (by decide +kernel), lwg_of 103 (by decide +kernel) (by decide +kernel), ⟨by decide +kernel, by decide +kernel⟩, by decide +kernel, by decide⟩
theorem iRe_balanceOf : Cond.instanceMethod mRe_balanceOf.1 ∈ lwg := lwg_of 1691 (by decide +kernel) (by decide +kernel)
theorem sRe_balanceOf : Cond.selects mRe_balanceOf.1.cls mRe_balanceOf.1 mRe_balanceOf.1 ∈ lwg := lwg_of 77 (by decide +kernel) (by decide +kernel)
theorem w1689 : Cond.methodLink "BowingRowModel" 346 ⟨"BowingRowModel", "balanceOf", "(II)I"⟩ ∈ lwg := lwg_of 1689 (by decide +kernel) (by decide +kernel)
theorem bRe_dueAt_12 {l : Launch} {G : Gx} {d : Nat} {bc bs : Nat} {Φ : OutV → Mm → Prop} (M : Mm) (a0 : Nat) (x1 : Int32) (x2 : Int32) (x3 : Int32) (x4 : Int32)
    (h : ((m_sh M a0).1 = 11) ∧ ((m_i M a0 57) ≤ x4 → Φ (.inl (some (.int x3))) M) ∧ (¬ (m_i M a0 57) ≤ x4 → (x2 = ((-1)) → Φ (.inl (some (.int x3))) M) ∧ (¬ x2 = ((-1)) → ((m_sh M (m_r M a0 54)).1 = 20) ∧ (vp_in x4 (m_sh M (m_r M a0 54)).2) ∧ CallVC l G d mRe_dueAt 38 [.ref a0, .int x1, .int x2, .int x3, .int x4] [] mRe_balanceOf [.ref a0, .int (m_i M (m_r M a0 54) x4.toNatClampNeg), .int x1] M bc bs Φ))) :
    Ev l G d mRe_dueAt 12 [.ref a0, .int x1, .int x2, .int x3, .int x4] [] M bc bs Φ := by
  refine Ev.iload dRe_dueAt_12 rfl ?_
  refine Ev.aload_n dRe_dueAt_14 rfl ?_
  have g1 := h.1
  replace h := h.2
  refine Ev.getI dRe_dueAt_15 (Or.inl fRe_304) rfl g1 ?_
  refine Ev.icmp_ge 82 (by decide) dRe_dueAt_18 (fun c => ?_) (fun c => ?_)
  · replace h := h.1 c
    refine Ev.iload_n dRe_dueAt_82 rfl ?_
    exact Ev.iret dRe_dueAt_83 rfl rfl h
  · replace h := h.2 c
    refine Ev.iload_n dRe_dueAt_21 rfl ?_
    refine Ev.iconst (v := (-1)) dRe_dueAt_22 (by decide) ?_
    refine Ev.icmp_eq 82 (by decide) dRe_dueAt_23 (fun c => ?_) (fun c => ?_)
    · replace h := h.1 c
      refine Ev.iload_n dRe_dueAt_82 rfl ?_
      exact Ev.iret dRe_dueAt_83 rfl rfl h
    · replace h := h.2 c
      refine Ev.aload_n dRe_dueAt_26 rfl ?_
      refine Ev.aload_n dRe_dueAt_27 rfl ?_
      refine Ev.getR dRe_dueAt_28 (Or.inl fRe_100) rfl g1 ?_
      refine Ev.iload dRe_dueAt_31 rfl ?_
      have g2 := h.1
      replace h := h.2
      have g3 := h.1
      replace h := h.2
      refine Ev.iald2 dRe_dueAt_33 g2 g3 ?_
      refine Ev.iload_n dRe_dueAt_34 rfl ?_
      exact Ev.vcV (z := mRe_balanceOf) (ci := 11) [.int (m_i M (m_r M a0 54) x4.toNatClampNeg), .int x1] [] rfl dRe_dueAt_35 oRe_balanceOf rfl w1689 iRe_balanceOf sRe_balanceOf (by decide) rfl g1 (Nat.le_of_ble_eq_true rfl) h
theorem bRe_dueAt_38 {l : Launch} {G : Gx} {d : Nat} {bc bs : Nat} {Φ : OutV → Mm → Prop} (M : Mm) (a0 : Nat) (x1 : Int32) (x2 : Int32) (x3 : Int32) (x4 : Int32) (s0 : Int32)
    (h : (s0 < x2 → Ev l G d mRe_dueAt 76 [.ref a0, .int x1, .int x2, .int x3, .int x4] [] M bc bs Φ) ∧ (¬ s0 < x2 → (x3 = ((-1)) → Ev l G d mRe_dueAt 73 [.ref a0, .int x1, .int x2, .int x3, .int x4] [] M bc bs Φ) ∧ (¬ x3 = ((-1)) → ((m_sh M a0).1 = 11) ∧ ((m_sh M (m_r M a0 54)).1 = 20) ∧ (vp_in x4 (m_sh M (m_r M a0 54)).2) ∧ CallVC l G d mRe_dueAt 59 [.ref a0, .int x1, .int x2, .int x3, .int x4] [] mRe_balanceOf [.ref a0, .int (m_i M (m_r M a0 54) x4.toNatClampNeg), .int x1] M bc bs Φ))) :
    Ev l G d mRe_dueAt 38 [.ref a0, .int x1, .int x2, .int x3, .int x4] [.int s0] M bc bs Φ := by
  refine Ev.iload_n dRe_dueAt_38 rfl ?_
  refine Ev.icmp_lt 76 (by decide) dRe_dueAt_39 (fun c => ?_) (fun c => ?_)
  · replace h := h.1 c
    exact h
  · replace h := h.2 c
    refine Ev.iload_n dRe_dueAt_42 rfl ?_
    refine Ev.iconst (v := (-1)) dRe_dueAt_43 (by decide) ?_
    refine Ev.icmp_eq 73 (by decide) dRe_dueAt_44 (fun c => ?_) (fun c => ?_)
    · replace h := h.1 c
      exact h
    · replace h := h.2 c
      refine Ev.aload_n dRe_dueAt_47 rfl ?_
      refine Ev.aload_n dRe_dueAt_48 rfl ?_
      have g1 := h.1
      replace h := h.2
      refine Ev.getR dRe_dueAt_49 (Or.inl fRe_100) rfl g1 ?_
      refine Ev.iload dRe_dueAt_52 rfl ?_
      have g2 := h.1
      replace h := h.2
      have g3 := h.1
      replace h := h.2
      refine Ev.iald2 dRe_dueAt_54 g2 g3 ?_
      refine Ev.iload_n dRe_dueAt_55 rfl ?_
      exact Ev.vcV (z := mRe_balanceOf) (ci := 11) [.int (m_i M (m_r M a0 54) x4.toNatClampNeg), .int x1] [] rfl dRe_dueAt_56 oRe_balanceOf rfl w1689 iRe_balanceOf sRe_balanceOf (by decide) rfl g1 (Nat.le_of_ble_eq_true rfl) h
theorem bRe_dueAt_59 {l : Launch} {G : Gx} {d : Nat} {bc bs : Nat} {Φ : OutV → Mm → Prop} (M : Mm) (a0 : Nat) (x1 : Int32) (x2 : Int32) (x3 : Int32) (x4 : Int32) (s0 : Int32)
    (h : ((m_sh M a0).1 = 11) ∧ ((m_sh M (m_r M a0 54)).1 = 20) ∧ (vp_in x3 (m_sh M (m_r M a0 54)).2) ∧ CallVC l G d mRe_dueAt 70 [.ref a0, .int x1, .int x2, .int x3, .int x4] [.int s0] mRe_balanceOf [.ref a0, .int (m_i M (m_r M a0 54) x3.toNatClampNeg), .int x1] M bc bs Φ) :
    Ev l G d mRe_dueAt 59 [.ref a0, .int x1, .int x2, .int x3, .int x4] [.int s0] M bc bs Φ := by
  refine Ev.aload_n dRe_dueAt_59 rfl ?_
  refine Ev.aload_n dRe_dueAt_60 rfl ?_
  have g1 := h.1
  replace h := h.2
  refine Ev.getR dRe_dueAt_61 (Or.inl fRe_100) rfl g1 ?_
  refine Ev.iload_n dRe_dueAt_64 rfl ?_
  have g2 := h.1
  replace h := h.2
  have g3 := h.1
  replace h := h.2
  refine Ev.iald2 dRe_dueAt_65 g2 g3 ?_
  refine Ev.iload_n dRe_dueAt_66 rfl ?_
  exact Ev.vcV (z := mRe_balanceOf) (ci := 11) [.int (m_i M (m_r M a0 54) x3.toNatClampNeg), .int x1] [.int s0] rfl dRe_dueAt_67 oRe_balanceOf rfl w1689 iRe_balanceOf sRe_balanceOf (by decide) rfl g1 (Nat.le_of_ble_eq_true rfl) h
theorem bRe_dueAt_70 {l : Launch} {G : Gx} {d : Nat} {bc bs : Nat} {Φ : OutV → Mm → Prop} (M : Mm) (a0 : Nat) (x1 : Int32) (x2 : Int32) (x3 : Int32) (x4 : Int32) (s0 : Int32) (s1 : Int32)
    (h : (s0 ≤ s1 → Ev l G d mRe_dueAt 76 [.ref a0, .int x1, .int x2, .int x3, .int x4] [] M bc bs Φ) ∧ (¬ s0 ≤ s1 → Ev l G d mRe_dueAt 73 [.ref a0, .int x1, .int x2, .int x3, .int x4] [] M bc bs Φ)) :
    Ev l G d mRe_dueAt 70 [.ref a0, .int x1, .int x2, .int x3, .int x4] [.int s1, .int s0] M bc bs Φ := by
  refine Ev.icmp_le 76 (by decide) dRe_dueAt_70 (fun c => ?_) (fun c => ?_)
  · replace h := h.1 c
    exact h
  · replace h := h.2 c
    exact h
theorem bRe_dueAt_73 {l : Launch} {G : Gx} {d : Nat} {bc bs : Nat} {Φ : OutV → Mm → Prop} (M : Mm) (a0 : Nat) (x1 : Int32) (x2 : Int32) (x3 : Int32) (x4 : Int32)
    (h : Ev l G d mRe_dueAt 76 [.ref a0, .int x1, .int x2, .int x4, .int x4] [] M bc bs Φ) :
    Ev l G d mRe_dueAt 73 [.ref a0, .int x1, .int x2, .int x3, .int x4] [] M bc bs Φ := by
  refine Ev.iload dRe_dueAt_73 rfl ?_
  refine Ev.istore_n dRe_dueAt_75 (by decide) ?_
  show Ev l G d mRe_dueAt (_ + _) [.ref a0, .int x1, .int x2, .int x4, .int x4] [] M bc bs Φ
  exact h
theorem bRe_dueAt_76 {l : Launch} {G : Gx} {d : Nat} {bc bs : Nat} {Φ : OutV → Mm → Prop} (M : Mm) (a0 : Nat) (x1 : Int32) (x2 : Int32) (x3 : Int32) (x4 : Int32)
    (h : Ev l G d mRe_dueAt 12 [.ref a0, .int x1, .int x2, .int x3, .int (x4 + 1)] [] M bc bs Φ) :
    Ev l G d mRe_dueAt 76 [.ref a0, .int x1, .int x2, .int x3, .int x4] [] M bc bs Φ := by
  refine Ev.iinc (v := x4 + 1) dRe_dueAt_76 (by decide) rfl rfl ?_
  show Ev l G d mRe_dueAt (_ + _) [.ref a0, .int x1, .int x2, .int x3, .int (x4 + 1)] [] M bc bs Φ
  refine Ev.goto 12 dRe_dueAt_79 (by decide) ?_
  exact h
theorem dRe_balanceOf_0 : decode mRe_balanceOf.2.1 0 = .ok (.aload_n 0, 1) := by decide +kernel
theorem dRe_balanceOf_1 : decode mRe_balanceOf.2.1 1 = .ok (.iconst 5, 1) := by decide +kernel
theorem dRe_balanceOf_2 : decode mRe_balanceOf.2.1 2 = .ok (.iconst (-1), 1) := by decide +kernel
theorem dRe_balanceOf_3 : decode mRe_balanceOf.2.1 3 = .ok (.invokevirtual 281, 3) := by decide +kernel
theorem dRe_balanceOf_6 : decode mRe_balanceOf.2.1 6 = .ok (.istore_n 3, 1) := by decide +kernel
theorem dRe_balanceOf_7 : decode mRe_balanceOf.2.1 7 = .ok (.iconst 0, 1) := by decide +kernel
theorem dRe_balanceOf_8 : decode mRe_balanceOf.2.1 8 = .ok (.istore 4, 2) := by decide +kernel
theorem dRe_balanceOf_10 : decode mRe_balanceOf.2.1 10 = .ok (.iconst 0, 1) := by decide +kernel
theorem dRe_balanceOf_11 : decode mRe_balanceOf.2.1 11 = .ok (.istore 5, 2) := by decide +kernel
theorem dRe_balanceOf_13 : decode mRe_balanceOf.2.1 13 = .ok (.iload 5, 2) := by decide +kernel
theorem dRe_balanceOf_15 : decode mRe_balanceOf.2.1 15 = .ok (.aload_n 0, 1) := by decide +kernel
theorem dRe_balanceOf_16 : decode mRe_balanceOf.2.1 16 = .ok (.getfield 301, 3) := by decide +kernel
theorem dRe_balanceOf_19 : decode mRe_balanceOf.2.1 19 = .ok (.if_icmp .ge 89, 3) := by decide +kernel
theorem dRe_balanceOf_22 : decode mRe_balanceOf.2.1 22 = .ok (.iload_n 3, 1) := by decide +kernel
theorem dRe_balanceOf_23 : decode mRe_balanceOf.2.1 23 = .ok (.iconst (-1), 1) := by decide +kernel
theorem dRe_balanceOf_24 : decode mRe_balanceOf.2.1 24 = .ok (.if_icmp .eq 21, 3) := by decide +kernel
theorem dRe_balanceOf_27 : decode mRe_balanceOf.2.1 27 = .ok (.iload_n 2, 1) := by decide +kernel
theorem dRe_balanceOf_28 : decode mRe_balanceOf.2.1 28 = .ok (.aload_n 0, 1) := by decide +kernel
theorem dRe_balanceOf_29 : decode mRe_balanceOf.2.1 29 = .ok (.getfield 97, 3) := by decide +kernel
theorem dRe_balanceOf_32 : decode mRe_balanceOf.2.1 32 = .ok (.iload 5, 2) := by decide +kernel
theorem dRe_balanceOf_34 : decode mRe_balanceOf.2.1 34 = .ok (.aaload, 1) := by decide +kernel
theorem dRe_balanceOf_35 : decode mRe_balanceOf.2.1 35 = .ok (.iconst 3, 1) := by decide +kernel
theorem dRe_balanceOf_36 : decode mRe_balanceOf.2.1 36 = .ok (.iaload, 1) := by decide +kernel
theorem dRe_balanceOf_37 : decode mRe_balanceOf.2.1 37 = .ok (.isub, 1) := by decide +kernel
theorem dRe_balanceOf_38 : decode mRe_balanceOf.2.1 38 = .ok (.iload_n 3, 1) := by decide +kernel
theorem dRe_balanceOf_39 : decode mRe_balanceOf.2.1 39 = .ok (.if_icmp .le 6, 3) := by decide +kernel
theorem dRe_balanceOf_42 : decode mRe_balanceOf.2.1 42 = .ok (.goto 60, 3) := by decide +kernel
theorem dRe_balanceOf_45 : decode mRe_balanceOf.2.1 45 = .ok (.iload 4, 2) := by decide +kernel
theorem dRe_balanceOf_47 : decode mRe_balanceOf.2.1 47 = .ok (.aload_n 0, 1) := by decide +kernel
theorem dRe_balanceOf_48 : decode mRe_balanceOf.2.1 48 = .ok (.getfield 97, 3) := by decide +kernel
theorem dRe_balanceOf_51 : decode mRe_balanceOf.2.1 51 = .ok (.iload 5, 2) := by decide +kernel
theorem dRe_balanceOf_53 : decode mRe_balanceOf.2.1 53 = .ok (.aaload, 1) := by decide +kernel
theorem dRe_balanceOf_54 : decode mRe_balanceOf.2.1 54 = .ok (.iconst 0, 1) := by decide +kernel
theorem dRe_balanceOf_55 : decode mRe_balanceOf.2.1 55 = .ok (.iaload, 1) := by decide +kernel
theorem dRe_balanceOf_56 : decode mRe_balanceOf.2.1 56 = .ok (.iload_n 1, 1) := by decide +kernel
theorem dRe_balanceOf_57 : decode mRe_balanceOf.2.1 57 = .ok (.if_icmp .ne 15, 3) := by decide +kernel
theorem dRe_balanceOf_60 : decode mRe_balanceOf.2.1 60 = .ok (.aload_n 0, 1) := by decide +kernel
theorem dRe_balanceOf_61 : decode mRe_balanceOf.2.1 61 = .ok (.getfield 97, 3) := by decide +kernel
theorem dRe_balanceOf_64 : decode mRe_balanceOf.2.1 64 = .ok (.iload 5, 2) := by decide +kernel
theorem dRe_balanceOf_66 : decode mRe_balanceOf.2.1 66 = .ok (.aaload, 1) := by decide +kernel
theorem dRe_balanceOf_67 : decode mRe_balanceOf.2.1 67 = .ok (.iconst 2, 1) := by decide +kernel
theorem dRe_balanceOf_68 : decode mRe_balanceOf.2.1 68 = .ok (.iaload, 1) := by decide +kernel
theorem dRe_balanceOf_69 : decode mRe_balanceOf.2.1 69 = .ok (.goto 30, 3) := by decide +kernel
theorem dRe_balanceOf_72 : decode mRe_balanceOf.2.1 72 = .ok (.aload_n 0, 1) := by decide +kernel
theorem dRe_balanceOf_73 : decode mRe_balanceOf.2.1 73 = .ok (.getfield 97, 3) := by decide +kernel
theorem dRe_balanceOf_76 : decode mRe_balanceOf.2.1 76 = .ok (.iload 5, 2) := by decide +kernel
theorem dRe_balanceOf_78 : decode mRe_balanceOf.2.1 78 = .ok (.aaload, 1) := by decide +kernel
theorem dRe_balanceOf_79 : decode mRe_balanceOf.2.1 79 = .ok (.iconst 1, 1) := by decide +kernel
theorem dRe_balanceOf_80 : decode mRe_balanceOf.2.1 80 = .ok (.iaload, 1) := by decide +kernel
theorem dRe_balanceOf_81 : decode mRe_balanceOf.2.1 81 = .ok (.iload_n 1, 1) := by decide +kernel
theorem dRe_balanceOf_82 : decode mRe_balanceOf.2.1 82 = .ok (.if_icmp .ne 16, 3) := by decide +kernel
theorem dRe_balanceOf_85 : decode mRe_balanceOf.2.1 85 = .ok (.aload_n 0, 1) := by decide +kernel
theorem dRe_balanceOf_86 : decode mRe_balanceOf.2.1 86 = .ok (.getfield 97, 3) := by decide +kernel
theorem dRe_balanceOf_89 : decode mRe_balanceOf.2.1 89 = .ok (.iload 5, 2) := by decide +kernel
theorem dRe_balanceOf_91 : decode mRe_balanceOf.2.1 91 = .ok (.aaload, 1) := by decide +kernel
theorem dRe_balanceOf_92 : decode mRe_balanceOf.2.1 92 = .ok (.iconst 2, 1) := by decide +kernel
theorem dRe_balanceOf_93 : decode mRe_balanceOf.2.1 93 = .ok (.iaload, 1) := by decide +kernel
theorem dRe_balanceOf_94 : decode mRe_balanceOf.2.1 94 = .ok (.ineg, 1) := by decide +kernel
theorem dRe_balanceOf_95 : decode mRe_balanceOf.2.1 95 = .ok (.goto 4, 3) := by decide +kernel
theorem dRe_balanceOf_98 : decode mRe_balanceOf.2.1 98 = .ok (.iconst 0, 1) := by decide +kernel
theorem dRe_balanceOf_99 : decode mRe_balanceOf.2.1 99 = .ok (.iadd, 1) := by decide +kernel
theorem dRe_balanceOf_100 : decode mRe_balanceOf.2.1 100 = .ok (.istore 4, 2) := by decide +kernel
theorem dRe_balanceOf_102 : decode mRe_balanceOf.2.1 102 = .ok (.iinc 5 1, 3) := by decide +kernel
theorem dRe_balanceOf_105 : decode mRe_balanceOf.2.1 105 = .ok (.goto (-92), 3) := by decide +kernel
theorem dRe_balanceOf_108 : decode mRe_balanceOf.2.1 108 = .ok (.iload 4, 2) := by decide +kernel
theorem dRe_balanceOf_110 : decode mRe_balanceOf.2.1 110 = .ok (.ireturn, 1) := by decide +kernel
theorem bRe_balanceOf_0 {l : Launch} {G : Gx} {d : Nat} {bc bs : Nat} {Φ : OutV → Mm → Prop} (M : Mm) (a0 : Nat) (x1 : Int32) (x2 : Int32)
    (h : ((m_sh M a0).1 = 11) ∧ CallVC l G d mRe_balanceOf 6 [.ref a0, .int x1, .int x2, .null, .null, .null] [] mRe_numberOf [.ref a0, .int 5, .int ((-1))] M bc bs Φ) :
    Ev l G d mRe_balanceOf 0 [.ref a0, .int x1, .int x2, .null, .null, .null] [] M bc bs Φ := by
  refine Ev.aload_n dRe_balanceOf_0 rfl ?_
  refine Ev.iconst (v := 5) dRe_balanceOf_1 (by decide) ?_
  refine Ev.iconst (v := (-1)) dRe_balanceOf_2 (by decide) ?_
  have g1 := h.1
  replace h := h.2
  exact Ev.vcV (z := mRe_numberOf) (ci := 11) [.int 5, .int ((-1))] [] rfl dRe_balanceOf_3 oRe_numberOf rfl w1610 iRe_numberOf sRe_numberOf (by decide) rfl g1 (Nat.le_of_ble_eq_true rfl) h
theorem bRe_balanceOf_6 {l : Launch} {G : Gx} {d : Nat} {bc bs : Nat} {Φ : OutV → Mm → Prop} (M : Mm) (a0 : Nat) (x1 : Int32) (x2 : Int32) (u3 : Value) (u4 : Value) (u5 : Value) (s0 : Int32)
    (h : Ev l G d mRe_balanceOf 13 [.ref a0, .int x1, .int x2, .int s0, .int 0, .int 0] [] M bc bs Φ) :
    Ev l G d mRe_balanceOf 6 [.ref a0, .int x1, .int x2, u3, u4, u5] [.int s0] M bc bs Φ := by
  refine Ev.istore_n dRe_balanceOf_6 (by decide) ?_
  show Ev l G d mRe_balanceOf (_ + _) [.ref a0, .int x1, .int x2, .int s0, u4, u5] [] M bc bs Φ
  refine Ev.iconst (v := 0) dRe_balanceOf_7 (by decide) ?_
  refine Ev.istore dRe_balanceOf_8 (by decide) ?_
  show Ev l G d mRe_balanceOf (_ + _) [.ref a0, .int x1, .int x2, .int s0, .int 0, u5] [] M bc bs Φ
  refine Ev.iconst (v := 0) dRe_balanceOf_10 (by decide) ?_
  refine Ev.istore dRe_balanceOf_11 (by decide) ?_
  show Ev l G d mRe_balanceOf (_ + _) [.ref a0, .int x1, .int x2, .int s0, .int 0, .int 0] [] M bc bs Φ
  exact h
theorem bRe_balanceOf_13 {l : Launch} {G : Gx} {d : Nat} {bc bs : Nat} {Φ : OutV → Mm → Prop} (M : Mm) (a0 : Nat) (x1 : Int32) (x2 : Int32) (x3 : Int32) (x4 : Int32) (x5 : Int32)
    (h : ((m_sh M a0).1 = 11) ∧ ((m_i M a0 41) ≤ x5 → Φ (.inl (some (.int x4))) M) ∧ (¬ (m_i M a0 41) ≤ x5 → (x3 = ((-1)) → Ev l G d mRe_balanceOf 45 [.ref a0, .int x1, .int x2, .int x3, .int x4, .int x5] [] M bc bs Φ) ∧ (¬ x3 = ((-1)) → ((m_sh M (m_r M a0 53)).1 = 33) ∧ (vp_in x5 (m_sh M (m_r M a0 53)).2) ∧ ((m_sh M (m_r M (m_r M a0 53) x5.toNatClampNeg)).1 = 20) ∧ (vp_in 3 (m_sh M (m_r M (m_r M a0 53) x5.toNatClampNeg)).2) ∧ ((x2 - (m_i M (m_r M (m_r M a0 53) x5.toNatClampNeg) (3 : Int32).toNatClampNeg)) ≤ x3 → Ev l G d mRe_balanceOf 45 [.ref a0, .int x1, .int x2, .int x3, .int x4, .int x5] [] M bc bs Φ) ∧ (¬ (x2 - (m_i M (m_r M (m_r M a0 53) x5.toNatClampNeg) (3 : Int32).toNatClampNeg)) ≤ x3 → Ev l G d mRe_balanceOf 102 [.ref a0, .int x1, .int x2, .int x3, .int x4, .int x5] [] M bc bs Φ)))) :
    Ev l G d mRe_balanceOf 13 [.ref a0, .int x1, .int x2, .int x3, .int x4, .int x5] [] M bc bs Φ := by
  refine Ev.iload dRe_balanceOf_13 rfl ?_
  refine Ev.aload_n dRe_balanceOf_15 rfl ?_
  have g1 := h.1
  replace h := h.2
  refine Ev.getI dRe_balanceOf_16 (Or.inl fRe_301) rfl g1 ?_
  refine Ev.icmp_ge 108 (by decide) dRe_balanceOf_19 (fun c => ?_) (fun c => ?_)
  · replace h := h.1 c
    refine Ev.iload dRe_balanceOf_108 rfl ?_
    exact Ev.iret dRe_balanceOf_110 rfl rfl h
  · replace h := h.2 c
    refine Ev.iload_n dRe_balanceOf_22 rfl ?_
    refine Ev.iconst (v := (-1)) dRe_balanceOf_23 (by decide) ?_
    refine Ev.icmp_eq 45 (by decide) dRe_balanceOf_24 (fun c => ?_) (fun c => ?_)
    · replace h := h.1 c
      exact h
    · replace h := h.2 c
      refine Ev.iload_n dRe_balanceOf_27 rfl ?_
      refine Ev.aload_n dRe_balanceOf_28 rfl ?_
      refine Ev.getR dRe_balanceOf_29 (Or.inl fRe_97) rfl g1 ?_
      refine Ev.iload dRe_balanceOf_32 rfl ?_
      have g2 := h.1
      replace h := h.2
      have g3 := h.1
      replace h := h.2
      refine Ev.aald2 33 (by decide) dRe_balanceOf_34 g2 g3 ?_
      refine Ev.iconst (v := 3) dRe_balanceOf_35 (by decide) ?_
      have g4 := h.1
      replace h := h.2
      have g5 := h.1
      replace h := h.2
      refine Ev.iald2 dRe_balanceOf_36 g4 g5 ?_
      refine Ev.isub dRe_balanceOf_37 ?_
      refine Ev.iload_n dRe_balanceOf_38 rfl ?_
      refine Ev.icmp_le 45 (by decide) dRe_balanceOf_39 (fun c => ?_) (fun c => ?_)
      · replace h := h.1 c
        exact h
      · replace h := h.2 c
        refine Ev.goto 102 dRe_balanceOf_42 (by decide) ?_
        exact h
theorem bRe_balanceOf_45 {l : Launch} {G : Gx} {d : Nat} {bc bs : Nat} {Φ : OutV → Mm → Prop} (M : Mm) (a0 : Nat) (x1 : Int32) (x2 : Int32) (x3 : Int32) (x4 : Int32) (x5 : Int32)
    (h : ((m_sh M a0).1 = 11) ∧ ((m_sh M (m_r M a0 53)).1 = 33) ∧ (vp_in x5 (m_sh M (m_r M a0 53)).2) ∧ ((m_sh M (m_r M (m_r M a0 53) x5.toNatClampNeg)).1 = 20) ∧ (vp_in 0 (m_sh M (m_r M (m_r M a0 53) x5.toNatClampNeg)).2) ∧ (¬ (m_i M (m_r M (m_r M a0 53) x5.toNatClampNeg) (0 : Int32).toNatClampNeg) = x1 → (vp_in 1 (m_sh M (m_r M (m_r M a0 53) x5.toNatClampNeg)).2) ∧ (¬ (m_i M (m_r M (m_r M a0 53) x5.toNatClampNeg) (1 : Int32).toNatClampNeg) = x1 → Ev l G d mRe_balanceOf 102 [.ref a0, .int x1, .int x2, .int x3, .int (x4 + 0), .int x5] [] M bc bs Φ) ∧ ((m_i M (m_r M (m_r M a0 53) x5.toNatClampNeg) (1 : Int32).toNatClampNeg) = x1 → (vp_in 2 (m_sh M (m_r M (m_r M a0 53) x5.toNatClampNeg)).2) ∧ Ev l G d mRe_balanceOf 102 [.ref a0, .int x1, .int x2, .int x3, .int (x4 + (-(m_i M (m_r M (m_r M a0 53) x5.toNatClampNeg) (2 : Int32).toNatClampNeg))), .int x5] [] M bc bs Φ)) ∧ ((m_i M (m_r M (m_r M a0 53) x5.toNatClampNeg) (0 : Int32).toNatClampNeg) = x1 → (vp_in 2 (m_sh M (m_r M (m_r M a0 53) x5.toNatClampNeg)).2) ∧ Ev l G d mRe_balanceOf 102 [.ref a0, .int x1, .int x2, .int x3, .int (x4 + (m_i M (m_r M (m_r M a0 53) x5.toNatClampNeg) (2 : Int32).toNatClampNeg)), .int x5] [] M bc bs Φ)) :
    Ev l G d mRe_balanceOf 45 [.ref a0, .int x1, .int x2, .int x3, .int x4, .int x5] [] M bc bs Φ := by
  refine Ev.iload dRe_balanceOf_45 rfl ?_
  refine Ev.aload_n dRe_balanceOf_47 rfl ?_
  have g1 := h.1
  replace h := h.2
  refine Ev.getR dRe_balanceOf_48 (Or.inl fRe_97) rfl g1 ?_
  refine Ev.iload dRe_balanceOf_51 rfl ?_
  have g2 := h.1
  replace h := h.2
  have g3 := h.1
  replace h := h.2
  refine Ev.aald2 33 (by decide) dRe_balanceOf_53 g2 g3 ?_
  refine Ev.iconst (v := 0) dRe_balanceOf_54 (by decide) ?_
  have g4 := h.1
  replace h := h.2
  have g5 := h.1
  replace h := h.2
  refine Ev.iald2 dRe_balanceOf_55 g4 g5 ?_
  refine Ev.iload_n dRe_balanceOf_56 rfl ?_
  refine Ev.icmp_ne 72 (by decide) dRe_balanceOf_57 (fun c => ?_) (fun c => ?_)
  · replace h := h.1 c
    refine Ev.aload_n dRe_balanceOf_72 rfl ?_
    refine Ev.getR dRe_balanceOf_73 (Or.inl fRe_97) rfl g1 ?_
    refine Ev.iload dRe_balanceOf_76 rfl ?_
    refine Ev.aald2 33 (by decide) dRe_balanceOf_78 g2 g3 ?_
    refine Ev.iconst (v := 1) dRe_balanceOf_79 (by decide) ?_
    have g6 := h.1
    replace h := h.2
    refine Ev.iald2 dRe_balanceOf_80 g4 g6 ?_
    refine Ev.iload_n dRe_balanceOf_81 rfl ?_
    refine Ev.icmp_ne 98 (by decide) dRe_balanceOf_82 (fun c => ?_) (fun c => ?_)
    · replace h := h.1 c
      refine Ev.iconst (v := 0) dRe_balanceOf_98 (by decide) ?_
      refine Ev.iadd dRe_balanceOf_99 ?_
      refine Ev.istore dRe_balanceOf_100 (by decide) ?_
      show Ev l G d mRe_balanceOf (_ + _) [.ref a0, .int x1, .int x2, .int x3, .int (x4 + 0), .int x5] [] M bc bs Φ
      exact h
    · replace h := h.2 c
      refine Ev.aload_n dRe_balanceOf_85 rfl ?_
      refine Ev.getR dRe_balanceOf_86 (Or.inl fRe_97) rfl g1 ?_
      refine Ev.iload dRe_balanceOf_89 rfl ?_
      refine Ev.aald2 33 (by decide) dRe_balanceOf_91 g2 g3 ?_
      refine Ev.iconst (v := 2) dRe_balanceOf_92 (by decide) ?_
      have g7 := h.1
      replace h := h.2
      refine Ev.iald2 dRe_balanceOf_93 g4 g7 ?_
      refine Ev.ineg dRe_balanceOf_94 ?_
      refine Ev.goto 99 dRe_balanceOf_95 (by decide) ?_
      refine Ev.iadd dRe_balanceOf_99 ?_
      refine Ev.istore dRe_balanceOf_100 (by decide) ?_
      show Ev l G d mRe_balanceOf (_ + _) [.ref a0, .int x1, .int x2, .int x3, .int (x4 + (-(m_i M (m_r M (m_r M a0 53) x5.toNatClampNeg) (2 : Int32).toNatClampNeg))), .int x5] [] M bc bs Φ
      exact h
  · replace h := h.2 c
    refine Ev.aload_n dRe_balanceOf_60 rfl ?_
    refine Ev.getR dRe_balanceOf_61 (Or.inl fRe_97) rfl g1 ?_
    refine Ev.iload dRe_balanceOf_64 rfl ?_
    refine Ev.aald2 33 (by decide) dRe_balanceOf_66 g2 g3 ?_
    refine Ev.iconst (v := 2) dRe_balanceOf_67 (by decide) ?_
    have g8 := h.1
    replace h := h.2
    refine Ev.iald2 dRe_balanceOf_68 g4 g8 ?_
    refine Ev.goto 99 dRe_balanceOf_69 (by decide) ?_
    refine Ev.iadd dRe_balanceOf_99 ?_
    refine Ev.istore dRe_balanceOf_100 (by decide) ?_
    show Ev l G d mRe_balanceOf (_ + _) [.ref a0, .int x1, .int x2, .int x3, .int (x4 + (m_i M (m_r M (m_r M a0 53) x5.toNatClampNeg) (2 : Int32).toNatClampNeg)), .int x5] [] M bc bs Φ
    exact h
theorem bRe_balanceOf_102 {l : Launch} {G : Gx} {d : Nat} {bc bs : Nat} {Φ : OutV → Mm → Prop} (M : Mm) (a0 : Nat) (x1 : Int32) (x2 : Int32) (x3 : Int32) (x4 : Int32) (x5 : Int32)
    (h : Ev l G d mRe_balanceOf 13 [.ref a0, .int x1, .int x2, .int x3, .int x4, .int (x5 + 1)] [] M bc bs Φ) :
    Ev l G d mRe_balanceOf 102 [.ref a0, .int x1, .int x2, .int x3, .int x4, .int x5] [] M bc bs Φ := by
  refine Ev.iinc (v := x5 + 1) dRe_balanceOf_102 (by decide) rfl rfl ?_
  show Ev l G d mRe_balanceOf (_ + _) [.ref a0, .int x1, .int x2, .int x3, .int x4, .int (x5 + 1)] [] M bc bs Φ
  refine Ev.goto 13 dRe_balanceOf_105 (by decide) ?_
  exact h
theorem dRe_askedAt_0 : decode mRe_askedAt.2.1 0 = .ok (.iconst 0, 1) := by decide +kernel
theorem dRe_askedAt_1 : decode mRe_askedAt.2.1 1 = .ok (.istore_n 3, 1) := by decide +kernel
theorem dRe_askedAt_2 : decode mRe_askedAt.2.1 2 = .ok (.aload_n 0, 1) := by decide +kernel
theorem dRe_askedAt_3 : decode mRe_askedAt.2.1 3 = .ok (.iconst 1, 1) := by decide +kernel
theorem dRe_askedAt_4 : decode mRe_askedAt.2.1 4 = .ok (.iconst (-1), 1) := by decide +kernel
theorem dRe_askedAt_5 : decode mRe_askedAt.2.1 5 = .ok (.invokevirtual 281, 3) := by decide +kernel
theorem dRe_askedAt_8 : decode mRe_askedAt.2.1 8 = .ok (.istore 4, 2) := by decide +kernel
theorem dRe_askedAt_10 : decode mRe_askedAt.2.1 10 = .ok (.aload_n 0, 1) := by decide +kernel
theorem dRe_askedAt_11 : decode mRe_askedAt.2.1 11 = .ok (.iconst 2, 1) := by decide +kernel
theorem dRe_askedAt_12 : decode mRe_askedAt.2.1 12 = .ok (.iconst (-1), 1) := by decide +kernel
theorem dRe_askedAt_13 : decode mRe_askedAt.2.1 13 = .ok (.invokevirtual 281, 3) := by decide +kernel
theorem dRe_askedAt_16 : decode mRe_askedAt.2.1 16 = .ok (.istore 5, 2) := by decide +kernel
theorem dRe_askedAt_18 : decode mRe_askedAt.2.1 18 = .ok (.aload_n 0, 1) := by decide +kernel
theorem dRe_askedAt_19 : decode mRe_askedAt.2.1 19 = .ok (.getfield 94, 3) := by decide +kernel
theorem dRe_askedAt_22 : decode mRe_askedAt.2.1 22 = .ok (.iload_n 1, 1) := by decide +kernel
theorem dRe_askedAt_23 : decode mRe_askedAt.2.1 23 = .ok (.aaload, 1) := by decide +kernel
theorem dRe_askedAt_24 : decode mRe_askedAt.2.1 24 = .ok (.aload_n 0, 1) := by decide +kernel
theorem dRe_askedAt_25 : decode mRe_askedAt.2.1 25 = .ok (.getfield 88, 3) := by decide +kernel
theorem dRe_askedAt_28 : decode mRe_askedAt.2.1 28 = .ok (.iload_n 1, 1) := by decide +kernel
theorem dRe_askedAt_29 : decode mRe_askedAt.2.1 29 = .ok (.iaload, 1) := by decide +kernel
theorem dRe_askedAt_30 : decode mRe_askedAt.2.1 30 = .ok (.aload_n 0, 1) := by decide +kernel
theorem dRe_askedAt_31 : decode mRe_askedAt.2.1 31 = .ok (.getfield 100, 3) := by decide +kernel
theorem dRe_askedAt_34 : decode mRe_askedAt.2.1 34 = .ok (.iload_n 3, 1) := by decide +kernel
theorem dRe_askedAt_35 : decode mRe_askedAt.2.1 35 = .ok (.iaload, 1) := by decide +kernel
theorem dRe_askedAt_36 : decode mRe_askedAt.2.1 36 = .ok (.iastore, 1) := by decide +kernel
theorem dRe_askedAt_37 : decode mRe_askedAt.2.1 37 = .ok (.aload_n 0, 1) := by decide +kernel
theorem dRe_askedAt_38 : decode mRe_askedAt.2.1 38 = .ok (.getfield 88, 3) := by decide +kernel
theorem dRe_askedAt_41 : decode mRe_askedAt.2.1 41 = .ok (.iload_n 1, 1) := by decide +kernel
theorem dRe_askedAt_42 : decode mRe_askedAt.2.1 42 = .ok (.dup2, 1) := by decide +kernel
theorem dRe_askedAt_43 : decode mRe_askedAt.2.1 43 = .ok (.iaload, 1) := by decide +kernel
theorem dRe_askedAt_44 : decode mRe_askedAt.2.1 44 = .ok (.iconst 1, 1) := by decide +kernel
theorem dRe_askedAt_45 : decode mRe_askedAt.2.1 45 = .ok (.iadd, 1) := by decide +kernel
theorem dRe_askedAt_46 : decode mRe_askedAt.2.1 46 = .ok (.iastore, 1) := by decide +kernel
theorem dRe_askedAt_47 : decode mRe_askedAt.2.1 47 = .ok (.aload_n 0, 1) := by decide +kernel
theorem dRe_askedAt_48 : decode mRe_askedAt.2.1 48 = .ok (.getfield 106, 3) := by decide +kernel
theorem dRe_askedAt_51 : decode mRe_askedAt.2.1 51 = .ok (.iload_n 3, 1) := by decide +kernel
theorem dRe_askedAt_52 : decode mRe_askedAt.2.1 52 = .ok (.iaload, 1) := by decide +kernel
theorem dRe_askedAt_53 : decode mRe_askedAt.2.1 53 = .ok (.ifCond .le 11, 3) := by decide +kernel
theorem dRe_askedAt_56 : decode mRe_askedAt.2.1 56 = .ok (.iload 4, 2) := by decide +kernel
theorem dRe_askedAt_58 : decode mRe_askedAt.2.1 58 = .ok (.iconst (-1), 1) := by decide +kernel
theorem dRe_askedAt_59 : decode mRe_askedAt.2.1 59 = .ok (.if_icmp .ne 5, 3) := by decide +kernel
theorem dRe_askedAt_62 : decode mRe_askedAt.2.1 62 = .ok (.iconst (-1), 1) := by decide +kernel
theorem dRe_askedAt_63 : decode mRe_askedAt.2.1 63 = .ok (.ireturn, 1) := by decide +kernel
theorem dRe_askedAt_64 : decode mRe_askedAt.2.1 64 = .ok (.aload_n 0, 1) := by decide +kernel
theorem dRe_askedAt_65 : decode mRe_askedAt.2.1 65 = .ok (.getfield 106, 3) := by decide +kernel
theorem dRe_askedAt_68 : decode mRe_askedAt.2.1 68 = .ok (.iload_n 3, 1) := by decide +kernel
theorem dRe_askedAt_69 : decode mRe_askedAt.2.1 69 = .ok (.dup2, 1) := by decide +kernel
theorem dRe_askedAt_70 : decode mRe_askedAt.2.1 70 = .ok (.iaload, 1) := by decide +kernel
theorem dRe_askedAt_71 : decode mRe_askedAt.2.1 71 = .ok (.iconst 1, 1) := by decide +kernel
theorem dRe_askedAt_72 : decode mRe_askedAt.2.1 72 = .ok (.iadd, 1) := by decide +kernel
theorem dRe_askedAt_73 : decode mRe_askedAt.2.1 73 = .ok (.iastore, 1) := by decide +kernel
theorem dRe_askedAt_74 : decode mRe_askedAt.2.1 74 = .ok (.aload_n 0, 1) := by decide +kernel
theorem dRe_askedAt_75 : decode mRe_askedAt.2.1 75 = .ok (.getfield 304, 3) := by decide +kernel
theorem dRe_askedAt_78 : decode mRe_askedAt.2.1 78 = .ok (.iconst 1, 1) := by decide +kernel
theorem dRe_askedAt_79 : decode mRe_askedAt.2.1 79 = .ok (.if_icmp .eq 32, 3) := by decide +kernel
theorem dRe_askedAt_82 : decode mRe_askedAt.2.1 82 = .ok (.iload 4, 2) := by decide +kernel
theorem dRe_askedAt_84 : decode mRe_askedAt.2.1 84 = .ok (.iconst (-1), 1) := by decide +kernel
theorem dRe_askedAt_85 : decode mRe_askedAt.2.1 85 = .ok (.if_icmp .eq 14, 3) := by decide +kernel
theorem dRe_askedAt_88 : decode mRe_askedAt.2.1 88 = .ok (.aload_n 0, 1) := by decide +kernel
theorem dRe_askedAt_89 : decode mRe_askedAt.2.1 89 = .ok (.getfield 103, 3) := by decide +kernel
theorem dRe_askedAt_92 : decode mRe_askedAt.2.1 92 = .ok (.iload_n 3, 1) := by decide +kernel
theorem dRe_askedAt_93 : decode mRe_askedAt.2.1 93 = .ok (.iaload, 1) := by decide +kernel
theorem dRe_askedAt_94 : decode mRe_askedAt.2.1 94 = .ok (.iload 4, 2) := by decide +kernel
theorem dRe_askedAt_96 : decode mRe_askedAt.2.1 96 = .ok (.if_icmp .ge 15, 3) := by decide +kernel
theorem dRe_askedAt_99 : decode mRe_askedAt.2.1 99 = .ok (.iload 5, 2) := by decide +kernel
theorem dRe_askedAt_101 : decode mRe_askedAt.2.1 101 = .ok (.iconst (-1), 1) := by decide +kernel
theorem dRe_askedAt_102 : decode mRe_askedAt.2.1 102 = .ok (.if_icmp .eq 13, 3) := by decide +kernel
theorem dRe_askedAt_105 : decode mRe_askedAt.2.1 105 = .ok (.iload_n 2, 1) := by decide +kernel
theorem dRe_askedAt_106 : decode mRe_askedAt.2.1 106 = .ok (.iload 5, 2) := by decide +kernel
theorem dRe_askedAt_108 : decode mRe_askedAt.2.1 108 = .ok (.if_icmp .lt 7, 3) := by decide +kernel
theorem dRe_askedAt_111 : decode mRe_askedAt.2.1 111 = .ok (.iconst 1, 1) := by decide +kernel
theorem dRe_askedAt_112 : decode mRe_askedAt.2.1 112 = .ok (.goto 4, 3) := by decide +kernel
theorem dRe_askedAt_115 : decode mRe_askedAt.2.1 115 = .ok (.iconst 0, 1) := by decide +kernel
theorem dRe_askedAt_116 : decode mRe_askedAt.2.1 116 = .ok (.istore 6, 2) := by decide +kernel
theorem dRe_askedAt_118 : decode mRe_askedAt.2.1 118 = .ok (.iload_n 3, 1) := by decide +kernel
theorem dRe_askedAt_119 : decode mRe_askedAt.2.1 119 = .ok (.iconst 1, 1) := by decide +kernel
theorem dRe_askedAt_120 : decode mRe_askedAt.2.1 120 = .ok (.iadd, 1) := by decide +kernel
theorem dRe_askedAt_121 : decode mRe_askedAt.2.1 121 = .ok (.aload_n 0, 1) := by decide +kernel
theorem dRe_askedAt_122 : decode mRe_askedAt.2.1 122 = .ok (.getfield 304, 3) := by decide +kernel
theorem dRe_askedAt_125 : decode mRe_askedAt.2.1 125 = .ok (.irem, 1) := by decide +kernel
theorem dRe_askedAt_126 : decode mRe_askedAt.2.1 126 = .ok (.istore 7, 2) := by decide +kernel
theorem dRe_askedAt_128 : decode mRe_askedAt.2.1 128 = .ok (.iload 6, 2) := by decide +kernel
theorem dRe_askedAt_130 : decode mRe_askedAt.2.1 130 = .ok (.ifCond .ne 25, 3) := by decide +kernel
theorem dRe_askedAt_133 : decode mRe_askedAt.2.1 133 = .ok (.aload_n 0, 1) := by decide +kernel
theorem dRe_askedAt_134 : decode mRe_askedAt.2.1 134 = .ok (.iload_n 1, 1) := by decide +kernel
theorem dRe_askedAt_135 : decode mRe_askedAt.2.1 135 = .ok (.aload_n 0, 1) := by decide +kernel
theorem dRe_askedAt_136 : decode mRe_askedAt.2.1 136 = .ok (.getfield 100, 3) := by decide +kernel
theorem dRe_askedAt_139 : decode mRe_askedAt.2.1 139 = .ok (.iload_n 3, 1) := by decide +kernel
theorem dRe_askedAt_140 : decode mRe_askedAt.2.1 140 = .ok (.iaload, 1) := by decide +kernel
theorem dRe_askedAt_141 : decode mRe_askedAt.2.1 141 = .ok (.aload_n 0, 1) := by decide +kernel
theorem dRe_askedAt_142 : decode mRe_askedAt.2.1 142 = .ok (.getfield 100, 3) := by decide +kernel
theorem dRe_askedAt_145 : decode mRe_askedAt.2.1 145 = .ok (.iload 7, 2) := by decide +kernel
theorem dRe_askedAt_147 : decode mRe_askedAt.2.1 147 = .ok (.iaload, 1) := by decide +kernel
theorem dRe_askedAt_148 : decode mRe_askedAt.2.1 148 = .ok (.iload_n 2, 1) := by decide +kernel
theorem dRe_askedAt_149 : decode mRe_askedAt.2.1 149 = .ok (.invokevirtual 349, 3) := by decide +kernel
theorem dRe_askedAt_152 : decode mRe_askedAt.2.1 152 = .ok (.ifCond .ne 5, 3) := by decide +kernel
theorem dRe_askedAt_155 : decode mRe_askedAt.2.1 155 = .ok (.iload_n 3, 1) := by decide +kernel
theorem dRe_askedAt_156 : decode mRe_askedAt.2.1 156 = .ok (.ireturn, 1) := by decide +kernel
theorem dRe_askedAt_157 : decode mRe_askedAt.2.1 157 = .ok (.aload_n 0, 1) := by decide +kernel
theorem dRe_askedAt_158 : decode mRe_askedAt.2.1 158 = .ok (.getfield 103, 3) := by decide +kernel
theorem dRe_askedAt_161 : decode mRe_askedAt.2.1 161 = .ok (.iload_n 3, 1) := by decide +kernel
theorem dRe_askedAt_162 : decode mRe_askedAt.2.1 162 = .ok (.dup2, 1) := by decide +kernel
theorem dRe_askedAt_163 : decode mRe_askedAt.2.1 163 = .ok (.iaload, 1) := by decide +kernel
theorem dRe_askedAt_164 : decode mRe_askedAt.2.1 164 = .ok (.iconst 1, 1) := by decide +kernel
theorem dRe_askedAt_165 : decode mRe_askedAt.2.1 165 = .ok (.iadd, 1) := by decide +kernel
theorem dRe_askedAt_166 : decode mRe_askedAt.2.1 166 = .ok (.iastore, 1) := by decide +kernel
theorem dRe_askedAt_167 : decode mRe_askedAt.2.1 167 = .ok (.aload_n 0, 1) := by decide +kernel
theorem dRe_askedAt_168 : decode mRe_askedAt.2.1 168 = .ok (.getfield 79, 3) := by decide +kernel
theorem dRe_askedAt_171 : decode mRe_askedAt.2.1 171 = .ok (.iload_n 1, 1) := by decide +kernel
theorem dRe_askedAt_172 : decode mRe_askedAt.2.1 172 = .ok (.dup2, 1) := by decide +kernel
theorem dRe_askedAt_173 : decode mRe_askedAt.2.1 173 = .ok (.iaload, 1) := by decide +kernel
theorem dRe_askedAt_174 : decode mRe_askedAt.2.1 174 = .ok (.iconst 1, 1) := by decide +kernel
theorem dRe_askedAt_175 : decode mRe_askedAt.2.1 175 = .ok (.iadd, 1) := by decide +kernel
theorem dRe_askedAt_176 : decode mRe_askedAt.2.1 176 = .ok (.iastore, 1) := by decide +kernel
theorem dRe_askedAt_177 : decode mRe_askedAt.2.1 177 = .ok (.iload 7, 2) := by decide +kernel
theorem dRe_askedAt_179 : decode mRe_askedAt.2.1 179 = .ok (.istore_n 3, 1) := by decide +kernel
theorem dRe_askedAt_180 : decode mRe_askedAt.2.1 180 = .ok (.goto (-162), 3) := by decide +kernel
theorem bRe_askedAt_0 {l : Launch} {G : Gx} {d : Nat} {bc bs : Nat} {Φ : OutV → Mm → Prop} (M : Mm) (a0 : Nat) (x1 : Int32) (x2 : Int32)
    (h : ((m_sh M a0).1 = 11) ∧ CallVC l G d mRe_askedAt 8 [.ref a0, .int x1, .int x2, .int 0, .null, .null, .null, .null] [] mRe_numberOf [.ref a0, .int 1, .int ((-1))] M bc bs Φ) :
    Ev l G d mRe_askedAt 0 [.ref a0, .int x1, .int x2, .null, .null, .null, .null, .null] [] M bc bs Φ := by
  refine Ev.iconst (v := 0) dRe_askedAt_0 (by decide) ?_
  refine Ev.istore_n dRe_askedAt_1 (by decide) ?_
  show Ev l G d mRe_askedAt (_ + _) [.ref a0, .int x1, .int x2, .int 0, .null, .null, .null, .null] [] M bc bs Φ
  refine Ev.aload_n dRe_askedAt_2 rfl ?_
  refine Ev.iconst (v := 1) dRe_askedAt_3 (by decide) ?_
  refine Ev.iconst (v := (-1)) dRe_askedAt_4 (by decide) ?_
  have g1 := h.1
  replace h := h.2
  exact Ev.vcV (z := mRe_numberOf) (ci := 11) [.int 1, .int ((-1))] [] rfl dRe_askedAt_5 oRe_numberOf rfl w1610 iRe_numberOf sRe_numberOf (by decide) rfl g1 (Nat.le_of_ble_eq_true rfl) h
theorem bRe_askedAt_8 {l : Launch} {G : Gx} {d : Nat} {bc bs : Nat} {Φ : OutV → Mm → Prop} (M : Mm) (a0 : Nat) (x1 : Int32) (x2 : Int32) (x3 : Int32) (u4 : Value) (u5 : Value) (u6 : Value) (u7 : Value) (s0 : Int32)
    (h : ((m_sh M a0).1 = 11) ∧ CallVC l G d mRe_askedAt 16 [.ref a0, .int x1, .int x2, .int x3, .int s0, u5, u6, u7] [] mRe_numberOf [.ref a0, .int 2, .int ((-1))] M bc bs Φ) :
    Ev l G d mRe_askedAt 8 [.ref a0, .int x1, .int x2, .int x3, u4, u5, u6, u7] [.int s0] M bc bs Φ := by
  refine Ev.istore dRe_askedAt_8 (by decide) ?_
  show Ev l G d mRe_askedAt (_ + _) [.ref a0, .int x1, .int x2, .int x3, .int s0, u5, u6, u7] [] M bc bs Φ
  refine Ev.aload_n dRe_askedAt_10 rfl ?_
  refine Ev.iconst (v := 2) dRe_askedAt_11 (by decide) ?_
  refine Ev.iconst (v := (-1)) dRe_askedAt_12 (by decide) ?_
  have g1 := h.1
  replace h := h.2
  exact Ev.vcV (z := mRe_numberOf) (ci := 11) [.int 2, .int ((-1))] [] rfl dRe_askedAt_13 oRe_numberOf rfl w1610 iRe_numberOf sRe_numberOf (by decide) rfl g1 (Nat.le_of_ble_eq_true rfl) h
theorem bRe_askedAt_16 {l : Launch} {G : Gx} {d : Nat} {bc bs : Nat} {Φ : OutV → Mm → Prop} (M : Mm) (a0 : Nat) (x1 : Int32) (x2 : Int32) (x3 : Int32) (x4 : Int32) (u5 : Value) (u6 : Value) (u7 : Value) (s0 : Int32)
    (h : Ev l G d mRe_askedAt 18 [.ref a0, .int x1, .int x2, .int x3, .int x4, .int s0, u6, u7] [] M bc bs Φ) :
    Ev l G d mRe_askedAt 16 [.ref a0, .int x1, .int x2, .int x3, .int x4, u5, u6, u7] [.int s0] M bc bs Φ := by
  refine Ev.istore dRe_askedAt_16 (by decide) ?_
  show Ev l G d mRe_askedAt (_ + _) [.ref a0, .int x1, .int x2, .int x3, .int x4, .int s0, u6, u7] [] M bc bs Φ
  exact h
theorem bRe_askedAt_18 {l : Launch} {G : Gx} {d : Nat} {bc bs : Nat} {Φ : OutV → Mm → Prop} (M : Mm) (a0 : Nat) (x1 : Int32) (x2 : Int32) (x3 : Int32) (x4 : Int32) (x5 : Int32) (u6 : Value) (u7 : Value)
    (h : ((m_sh M a0).1 = 11) ∧ ((m_sh M (m_r M a0 52)).1 = 33) ∧ (vp_in x1 (m_sh M (m_r M a0 52)).2) ∧ ((m_sh M (m_r M a0 50)).1 = 20) ∧ (vp_in x1 (m_sh M (m_r M a0 50)).2) ∧ ((m_sh M (m_r M a0 54)).1 = 20) ∧ (vp_in x3 (m_sh M (m_r M a0 54)).2) ∧ ((m_sh M (m_r M (m_r M a0 52) x1.toNatClampNeg)).1 = 20) ∧ (vp_in (m_i M (m_r M a0 50) x1.toNatClampNeg) (m_sh M (m_r M (m_r M a0 52) x1.toNatClampNeg)).2) ∧ Ev l G d mRe_askedAt 47 [.ref a0, .int x1, .int x2, .int x3, .int x4, .int x5, u6, u7] [] (m_si (m_si M (m_r M (m_r M a0 52) x1.toNatClampNeg) (m_i M (m_r M a0 50) x1.toNatClampNeg).toNatClampNeg (m_i M (m_r M a0 54) x3.toNatClampNeg)) (m_r M a0 50) x1.toNatClampNeg ((m_i (m_si M (m_r M (m_r M a0 52) x1.toNatClampNeg) (m_i M (m_r M a0 50) x1.toNatClampNeg).toNatClampNeg (m_i M (m_r M a0 54) x3.toNatClampNeg)) (m_r M a0 50) x1.toNatClampNeg) + 1)) bc bs Φ) :
    Ev l G d mRe_askedAt 18 [.ref a0, .int x1, .int x2, .int x3, .int x4, .int x5, u6, u7] [] M bc bs Φ := by
  refine Ev.aload_n dRe_askedAt_18 rfl ?_
  have g1 := h.1
  replace h := h.2
  refine Ev.getR dRe_askedAt_19 (Or.inl fRe_94) rfl g1 ?_
  refine Ev.iload_n dRe_askedAt_22 rfl ?_
  have g2 := h.1
  replace h := h.2
  have g3 := h.1
  replace h := h.2
  refine Ev.aald2 33 (by decide) dRe_askedAt_23 g2 g3 ?_
  refine Ev.aload_n dRe_askedAt_24 rfl ?_
  refine Ev.getR dRe_askedAt_25 (Or.inl fRe_88) rfl g1 ?_
  refine Ev.iload_n dRe_askedAt_28 rfl ?_
  have g4 := h.1
  replace h := h.2
  have g5 := h.1
  replace h := h.2
  refine Ev.iald2 dRe_askedAt_29 g4 g5 ?_
  refine Ev.aload_n dRe_askedAt_30 rfl ?_
  refine Ev.getR dRe_askedAt_31 (Or.inl fRe_100) rfl g1 ?_
  refine Ev.iload_n dRe_askedAt_34 rfl ?_
  have g6 := h.1
  replace h := h.2
  have g7 := h.1
  replace h := h.2
  refine Ev.iald2 dRe_askedAt_35 g6 g7 ?_
  have g8 := h.1
  replace h := h.2
  have g9 := h.1
  replace h := h.2
  refine Ev.iast2 dRe_askedAt_36 g8 g9 ?_
  refine Ev.aload_n dRe_askedAt_37 rfl ?_
  refine Ev.getR dRe_askedAt_38 (Or.inl fRe_88) rfl g1 ?_
  refine Ev.iload_n dRe_askedAt_41 rfl ?_
  refine Ev.dup2 dRe_askedAt_42 rfl rfl ?_
  refine Ev.iald2 dRe_askedAt_43 g4 g5 ?_
  refine Ev.iconst (v := 1) dRe_askedAt_44 (by decide) ?_
  refine Ev.iadd dRe_askedAt_45 ?_
  refine Ev.iast2 dRe_askedAt_46 g4 g5 ?_
  exact h
theorem bRe_askedAt_47 {l : Launch} {G : Gx} {d : Nat} {bc bs : Nat} {Φ : OutV → Mm → Prop} (M : Mm) (a0 : Nat) (x1 : Int32) (x2 : Int32) (x3 : Int32) (x4 : Int32) (x5 : Int32) (u6 : Value) (u7 : Value)
    (h : ((m_sh M a0).1 = 11) ∧ ((m_sh M (m_r M a0 56)).1 = 20) ∧ (vp_in x3 (m_sh M (m_r M a0 56)).2) ∧ ((m_i M (m_r M a0 56) x3.toNatClampNeg) ≤ 0 → Ev l G d mRe_askedAt 64 [.ref a0, .int x1, .int x2, .int x3, .int x4, .int x5, u6, u7] [] M bc bs Φ) ∧ (¬ (m_i M (m_r M a0 56) x3.toNatClampNeg) ≤ 0 → (¬ x4 = ((-1)) → Ev l G d mRe_askedAt 64 [.ref a0, .int x1, .int x2, .int x3, .int x4, .int x5, u6, u7] [] M bc bs Φ) ∧ (x4 = ((-1)) → Φ (.inl (some (.int ((-1))))) M))) :
    Ev l G d mRe_askedAt 47 [.ref a0, .int x1, .int x2, .int x3, .int x4, .int x5, u6, u7] [] M bc bs Φ := by
  refine Ev.aload_n dRe_askedAt_47 rfl ?_
  have g1 := h.1
  replace h := h.2
  refine Ev.getR dRe_askedAt_48 (Or.inl fRe_106) rfl g1 ?_
  refine Ev.iload_n dRe_askedAt_51 rfl ?_
  have g2 := h.1
  replace h := h.2
  have g3 := h.1
  replace h := h.2
  refine Ev.iald2 dRe_askedAt_52 g2 g3 ?_
  refine Ev.if_le 64 (by decide) dRe_askedAt_53 (fun c => ?_) (fun c => ?_)
  · replace h := h.1 c
    exact h
  · replace h := h.2 c
    refine Ev.iload dRe_askedAt_56 rfl ?_
    refine Ev.iconst (v := (-1)) dRe_askedAt_58 (by decide) ?_
    refine Ev.icmp_ne 64 (by decide) dRe_askedAt_59 (fun c => ?_) (fun c => ?_)
    · replace h := h.1 c
      exact h
    · replace h := h.2 c
      refine Ev.iconst (v := (-1)) dRe_askedAt_62 (by decide) ?_
      exact Ev.iret dRe_askedAt_63 rfl rfl h
theorem bRe_askedAt_64 {l : Launch} {G : Gx} {d : Nat} {bc bs : Nat} {Φ : OutV → Mm → Prop} (M : Mm) (a0 : Nat) (x1 : Int32) (x2 : Int32) (x3 : Int32) (x4 : Int32) (x5 : Int32) (u6 : Value) (u7 : Value)
    (h : ((m_sh M a0).1 = 11) ∧ ((m_sh M (m_r M a0 56)).1 = 20) ∧ (vp_in x3 (m_sh M (m_r M a0 56)).2) ∧ ((m_i (m_si M (m_r M a0 56) x3.toNatClampNeg ((m_i M (m_r M a0 56) x3.toNatClampNeg) + 1)) a0 57) = 1 → Ev l G d mRe_askedAt 111 [.ref a0, .int x1, .int x2, .int x3, .int x4, .int x5, u6, u7] [] (m_si M (m_r M a0 56) x3.toNatClampNeg ((m_i M (m_r M a0 56) x3.toNatClampNeg) + 1)) bc bs Φ) ∧ (¬ (m_i (m_si M (m_r M a0 56) x3.toNatClampNeg ((m_i M (m_r M a0 56) x3.toNatClampNeg) + 1)) a0 57) = 1 → (x4 = ((-1)) → Ev l G d mRe_askedAt 99 [.ref a0, .int x1, .int x2, .int x3, .int x4, .int x5, u6, u7] [] (m_si M (m_r M a0 56) x3.toNatClampNeg ((m_i M (m_r M a0 56) x3.toNatClampNeg) + 1)) bc bs Φ) ∧ (¬ x4 = ((-1)) → ((m_sh M (m_r M a0 55)).1 = 20) ∧ (vp_in x3 (m_sh M (m_r M a0 55)).2) ∧ (x4 ≤ (m_i (m_si M (m_r M a0 56) x3.toNatClampNeg ((m_i M (m_r M a0 56) x3.toNatClampNeg) + 1)) (m_r M a0 55) x3.toNatClampNeg) → Ev l G d mRe_askedAt 111 [.ref a0, .int x1, .int x2, .int x3, .int x4, .int x5, u6, u7] [] (m_si M (m_r M a0 56) x3.toNatClampNeg ((m_i M (m_r M a0 56) x3.toNatClampNeg) + 1)) bc bs Φ) ∧ (¬ x4 ≤ (m_i (m_si M (m_r M a0 56) x3.toNatClampNeg ((m_i M (m_r M a0 56) x3.toNatClampNeg) + 1)) (m_r M a0 55) x3.toNatClampNeg) → Ev l G d mRe_askedAt 99 [.ref a0, .int x1, .int x2, .int x3, .int x4, .int x5, u6, u7] [] (m_si M (m_r M a0 56) x3.toNatClampNeg ((m_i M (m_r M a0 56) x3.toNatClampNeg) + 1)) bc bs Φ)))) :
    Ev l G d mRe_askedAt 64 [.ref a0, .int x1, .int x2, .int x3, .int x4, .int x5, u6, u7] [] M bc bs Φ := by
  refine Ev.aload_n dRe_askedAt_64 rfl ?_
  have g1 := h.1
  replace h := h.2
  refine Ev.getR dRe_askedAt_65 (Or.inl fRe_106) rfl g1 ?_
  refine Ev.iload_n dRe_askedAt_68 rfl ?_
  refine Ev.dup2 dRe_askedAt_69 rfl rfl ?_
  have g2 := h.1
  replace h := h.2
  have g3 := h.1
  replace h := h.2
  refine Ev.iald2 dRe_askedAt_70 g2 g3 ?_
  refine Ev.iconst (v := 1) dRe_askedAt_71 (by decide) ?_
  refine Ev.iadd dRe_askedAt_72 ?_
  refine Ev.iast2 dRe_askedAt_73 g2 g3 ?_
  refine Ev.aload_n dRe_askedAt_74 rfl ?_
  refine Ev.getI dRe_askedAt_75 (Or.inl fRe_304) rfl g1 ?_
  refine Ev.iconst (v := 1) dRe_askedAt_78 (by decide) ?_
  refine Ev.icmp_eq 111 (by decide) dRe_askedAt_79 (fun c => ?_) (fun c => ?_)
  · replace h := h.1 c
    exact h
  · replace h := h.2 c
    refine Ev.iload dRe_askedAt_82 rfl ?_
    refine Ev.iconst (v := (-1)) dRe_askedAt_84 (by decide) ?_
    refine Ev.icmp_eq 99 (by decide) dRe_askedAt_85 (fun c => ?_) (fun c => ?_)
    · replace h := h.1 c
      exact h
    · replace h := h.2 c
      refine Ev.aload_n dRe_askedAt_88 rfl ?_
      refine Ev.getR dRe_askedAt_89 (Or.inl fRe_103) rfl g1 ?_
      refine Ev.iload_n dRe_askedAt_92 rfl ?_
      have g4 := h.1
      replace h := h.2
      have g5 := h.1
      replace h := h.2
      refine Ev.iald2 dRe_askedAt_93 g4 g5 ?_
      refine Ev.iload dRe_askedAt_94 rfl ?_
      refine Ev.icmp_ge 111 (by decide) dRe_askedAt_96 (fun c => ?_) (fun c => ?_)
      · replace h := h.1 c
        exact h
      · replace h := h.2 c
        exact h
theorem bRe_askedAt_99 {l : Launch} {G : Gx} {d : Nat} {bc bs : Nat} {Φ : OutV → Mm → Prop} (M : Mm) (a0 : Nat) (x1 : Int32) (x2 : Int32) (x3 : Int32) (x4 : Int32) (x5 : Int32) (u6 : Value) (u7 : Value)
    (h : (x5 = ((-1)) → Ev l G d mRe_askedAt 115 [.ref a0, .int x1, .int x2, .int x3, .int x4, .int x5, u6, u7] [] M bc bs Φ) ∧ (¬ x5 = ((-1)) → (x2 < x5 → Ev l G d mRe_askedAt 115 [.ref a0, .int x1, .int x2, .int x3, .int x4, .int x5, u6, u7] [] M bc bs Φ) ∧ (¬ x2 < x5 → Ev l G d mRe_askedAt 111 [.ref a0, .int x1, .int x2, .int x3, .int x4, .int x5, u6, u7] [] M bc bs Φ))) :
    Ev l G d mRe_askedAt 99 [.ref a0, .int x1, .int x2, .int x3, .int x4, .int x5, u6, u7] [] M bc bs Φ := by
  refine Ev.iload dRe_askedAt_99 rfl ?_
  refine Ev.iconst (v := (-1)) dRe_askedAt_101 (by decide) ?_
  refine Ev.icmp_eq 115 (by decide) dRe_askedAt_102 (fun c => ?_) (fun c => ?_)
  · replace h := h.1 c
    exact h
  · replace h := h.2 c
    refine Ev.iload_n dRe_askedAt_105 rfl ?_
    refine Ev.iload dRe_askedAt_106 rfl ?_
    refine Ev.icmp_lt 115 (by decide) dRe_askedAt_108 (fun c => ?_) (fun c => ?_)
    · replace h := h.1 c
      exact h
    · replace h := h.2 c
      exact h
theorem bRe_askedAt_111 {l : Launch} {G : Gx} {d : Nat} {bc bs : Nat} {Φ : OutV → Mm → Prop} (M : Mm) (a0 : Nat) (x1 : Int32) (x2 : Int32) (x3 : Int32) (x4 : Int32) (x5 : Int32) (u6 : Value) (u7 : Value)
    (h : ((m_sh M a0).1 = 11) ∧ (¬ (m_i M a0 57) = 0) ∧ Φ (.inl (some (.int x3))) M) :
    Ev l G d mRe_askedAt 111 [.ref a0, .int x1, .int x2, .int x3, .int x4, .int x5, u6, u7] [] M bc bs Φ := by
  refine Ev.iconst (v := 1) dRe_askedAt_111 (by decide) ?_
  refine Ev.goto 116 dRe_askedAt_112 (by decide) ?_
  refine Ev.istore dRe_askedAt_116 (by decide) ?_
  show Ev l G d mRe_askedAt (_ + _) [.ref a0, .int x1, .int x2, .int x3, .int x4, .int x5, .int 1, u7] [] M bc bs Φ
  refine Ev.iload_n dRe_askedAt_118 rfl ?_
  refine Ev.iconst (v := 1) dRe_askedAt_119 (by decide) ?_
  refine Ev.iadd dRe_askedAt_120 ?_
  refine Ev.aload_n dRe_askedAt_121 rfl ?_
  have g1 := h.1
  replace h := h.2
  refine Ev.getI dRe_askedAt_122 (Or.inl fRe_304) rfl g1 ?_
  have g2 := h.1
  replace h := h.2
  refine Ev.irem dRe_askedAt_125 g2 ?_
  refine Ev.istore dRe_askedAt_126 (by decide) ?_
  show Ev l G d mRe_askedAt (_ + _) [.ref a0, .int x1, .int x2, .int x3, .int x4, .int x5, .int 1, .int ((x3 + 1) - (x3 + 1) / (m_i M a0 57) * (m_i M a0 57))] [] M bc bs Φ
  refine Ev.iload dRe_askedAt_128 rfl ?_
  refine Ev.if_ne 155 (by decide) dRe_askedAt_130 (fun _ => ?_) (fun c => absurd c (by decide))
  refine Ev.iload_n dRe_askedAt_155 rfl ?_
  exact Ev.iret dRe_askedAt_156 rfl rfl h
def mRe_offers : MR := (⟨"BowingRowModel", "offers", "(IIII)Z"⟩, prog_14_method_59_code, 5, (Option.some .boolean))
theorem oRe_offers : MOK mRe_offers 4 := ⟨lwg_of 1700 (by decide +kernel) (by decide +kernel), lwg_of 103 (by decide +kernel) (by decide +kernel), ⟨by decide +kernel, by decide +kernel⟩, by decide +kernel, by decide⟩
theorem iRe_offers : Cond.instanceMethod mRe_offers.1 ∈ lwg := lwg_of 1699 (by decide +kernel) (by decide +kernel)
theorem sRe_offers : Cond.selects mRe_offers.1.cls mRe_offers.1 mRe_offers.1 ∈ lwg := lwg_of 79 (by decide +kernel) (by decide +kernel)
theorem w1697 : Cond.methodLink "BowingRowModel" 349 ⟨"BowingRowModel", "offers", "(IIII)Z"⟩ ∈ lwg := lwg_of 1697 (by decide +kernel) (by decide +kernel)
theorem bRe_askedAt_115 {l : Launch} {G : Gx} {d : Nat} {bc bs : Nat} {Φ : OutV → Mm → Prop} (M : Mm) (a0 : Nat) (x1 : Int32) (x2 : Int32) (x3 : Int32) (x4 : Int32) (x5 : Int32) (u6 : Value) (u7 : Value)
    (h : ((m_sh M a0).1 = 11) ∧ (¬ (m_i M a0 57) = 0) ∧ ((m_sh M (m_r M a0 54)).1 = 20) ∧ (vp_in x3 (m_sh M (m_r M a0 54)).2) ∧ (vp_in ((x3 + 1) - (x3 + 1) / (m_i M a0 57) * (m_i M a0 57)) (m_sh M (m_r M a0 54)).2) ∧ CallVC l G d mRe_askedAt 152 [.ref a0, .int x1, .int x2, .int x3, .int x4, .int x5, .int 0, .int ((x3 + 1) - (x3 + 1) / (m_i M a0 57) * (m_i M a0 57))] [] mRe_offers [.ref a0, .int x1, .int (m_i M (m_r M a0 54) x3.toNatClampNeg), .int (m_i M (m_r M a0 54) ((x3 + 1) - (x3 + 1) / (m_i M a0 57) * (m_i M a0 57)).toNatClampNeg), .int x2] M bc bs Φ) :
    Ev l G d mRe_askedAt 115 [.ref a0, .int x1, .int x2, .int x3, .int x4, .int x5, u6, u7] [] M bc bs Φ := by
  refine Ev.iconst (v := 0) dRe_askedAt_115 (by decide) ?_
  refine Ev.istore dRe_askedAt_116 (by decide) ?_
  show Ev l G d mRe_askedAt (_ + _) [.ref a0, .int x1, .int x2, .int x3, .int x4, .int x5, .int 0, u7] [] M bc bs Φ
  refine Ev.iload_n dRe_askedAt_118 rfl ?_
  refine Ev.iconst (v := 1) dRe_askedAt_119 (by decide) ?_
  refine Ev.iadd dRe_askedAt_120 ?_
  refine Ev.aload_n dRe_askedAt_121 rfl ?_
  have g1 := h.1
  replace h := h.2
  refine Ev.getI dRe_askedAt_122 (Or.inl fRe_304) rfl g1 ?_
  have g2 := h.1
  replace h := h.2
  refine Ev.irem dRe_askedAt_125 g2 ?_
  refine Ev.istore dRe_askedAt_126 (by decide) ?_
  show Ev l G d mRe_askedAt (_ + _) [.ref a0, .int x1, .int x2, .int x3, .int x4, .int x5, .int 0, .int ((x3 + 1) - (x3 + 1) / (m_i M a0 57) * (m_i M a0 57))] [] M bc bs Φ
  refine Ev.iload dRe_askedAt_128 rfl ?_
  refine Ev.if_ne 155 (by decide) dRe_askedAt_130 (fun c => absurd c (by decide)) (fun _ => ?_)
  refine Ev.aload_n dRe_askedAt_133 rfl ?_
  refine Ev.iload_n dRe_askedAt_134 rfl ?_
  refine Ev.aload_n dRe_askedAt_135 rfl ?_
  refine Ev.getR dRe_askedAt_136 (Or.inl fRe_100) rfl g1 ?_
  refine Ev.iload_n dRe_askedAt_139 rfl ?_
  have g3 := h.1
  replace h := h.2
  have g4 := h.1
  replace h := h.2
  refine Ev.iald2 dRe_askedAt_140 g3 g4 ?_
  refine Ev.aload_n dRe_askedAt_141 rfl ?_
  refine Ev.getR dRe_askedAt_142 (Or.inl fRe_100) rfl g1 ?_
  refine Ev.iload dRe_askedAt_145 rfl ?_
  have g5 := h.1
  replace h := h.2
  refine Ev.iald2 dRe_askedAt_147 g3 g5 ?_
  refine Ev.iload_n dRe_askedAt_148 rfl ?_
  exact Ev.vcV (z := mRe_offers) (ci := 11) [.int x1, .int (m_i M (m_r M a0 54) x3.toNatClampNeg), .int (m_i M (m_r M a0 54) ((x3 + 1) - (x3 + 1) / (m_i M a0 57) * (m_i M a0 57)).toNatClampNeg), .int x2] [] rfl dRe_askedAt_149 oRe_offers rfl w1697 iRe_offers sRe_offers (by decide) rfl g1 (Nat.le_of_ble_eq_true rfl) h
theorem bRe_askedAt_152 {l : Launch} {G : Gx} {d : Nat} {bc bs : Nat} {Φ : OutV → Mm → Prop} (M : Mm) (a0 : Nat) (x1 : Int32) (x2 : Int32) (x3 : Int32) (x4 : Int32) (x5 : Int32) (x6 : Int32) (x7 : Int32) (s0 : Int32)
    (h : (¬ s0 = 0 → ((m_sh M a0).1 = 11) ∧ ((m_sh M (m_r M a0 55)).1 = 20) ∧ (vp_in x3 (m_sh M (m_r M a0 55)).2) ∧ ((m_sh M (m_r M a0 47)).1 = 20) ∧ (vp_in x1 (m_sh M (m_r M a0 47)).2) ∧ Ev l G d mRe_askedAt 177 [.ref a0, .int x1, .int x2, .int x3, .int x4, .int x5, .int x6, .int x7] [] (m_si (m_si M (m_r M a0 55) x3.toNatClampNeg ((m_i M (m_r M a0 55) x3.toNatClampNeg) + 1)) (m_r M a0 47) x1.toNatClampNeg ((m_i (m_si M (m_r M a0 55) x3.toNatClampNeg ((m_i M (m_r M a0 55) x3.toNatClampNeg) + 1)) (m_r M a0 47) x1.toNatClampNeg) + 1)) bc bs Φ) ∧ (s0 = 0 → Φ (.inl (some (.int x3))) M)) :
    Ev l G d mRe_askedAt 152 [.ref a0, .int x1, .int x2, .int x3, .int x4, .int x5, .int x6, .int x7] [.int s0] M bc bs Φ := by
  refine Ev.if_ne 157 (by decide) dRe_askedAt_152 (fun c => ?_) (fun c => ?_)
  · replace h := h.1 c
    refine Ev.aload_n dRe_askedAt_157 rfl ?_
    have g1 := h.1
    replace h := h.2
    refine Ev.getR dRe_askedAt_158 (Or.inl fRe_103) rfl g1 ?_
    refine Ev.iload_n dRe_askedAt_161 rfl ?_
    refine Ev.dup2 dRe_askedAt_162 rfl rfl ?_
    have g2 := h.1
    replace h := h.2
    have g3 := h.1
    replace h := h.2
    refine Ev.iald2 dRe_askedAt_163 g2 g3 ?_
    refine Ev.iconst (v := 1) dRe_askedAt_164 (by decide) ?_
    refine Ev.iadd dRe_askedAt_165 ?_
    refine Ev.iast2 dRe_askedAt_166 g2 g3 ?_
    refine Ev.aload_n dRe_askedAt_167 rfl ?_
    refine Ev.getR dRe_askedAt_168 (Or.inl fRe_79) rfl g1 ?_
    refine Ev.iload_n dRe_askedAt_171 rfl ?_
    refine Ev.dup2 dRe_askedAt_172 rfl rfl ?_
    have g4 := h.1
    replace h := h.2
    have g5 := h.1
    replace h := h.2
    refine Ev.iald2 dRe_askedAt_173 g4 g5 ?_
    refine Ev.iconst (v := 1) dRe_askedAt_174 (by decide) ?_
    refine Ev.iadd dRe_askedAt_175 ?_
    refine Ev.iast2 dRe_askedAt_176 g4 g5 ?_
    exact h
  · replace h := h.2 c
    refine Ev.iload_n dRe_askedAt_155 rfl ?_
    exact Ev.iret dRe_askedAt_156 rfl rfl h
theorem bRe_askedAt_177 {l : Launch} {G : Gx} {d : Nat} {bc bs : Nat} {Φ : OutV → Mm → Prop} (M : Mm) (a0 : Nat) (x1 : Int32) (x2 : Int32) (x3 : Int32) (x4 : Int32) (x5 : Int32) (x6 : Int32) (x7 : Int32)
    (h : Ev l G d mRe_askedAt 18 [.ref a0, .int x1, .int x2, .int x7, .int x4, .int x5, .int x6, .int x7] [] M bc bs Φ) :
    Ev l G d mRe_askedAt 177 [.ref a0, .int x1, .int x2, .int x3, .int x4, .int x5, .int x6, .int x7] [] M bc bs Φ := by
  refine Ev.iload dRe_askedAt_177 rfl ?_
  refine Ev.istore_n dRe_askedAt_179 (by decide) ?_
  show Ev l G d mRe_askedAt (_ + _) [.ref a0, .int x1, .int x2, .int x7, .int x4, .int x5, .int x6, .int x7] [] M bc bs Φ
  refine Ev.goto 18 dRe_askedAt_180 (by decide) ?_
  exact h
theorem dRe_offers_0 : decode mRe_offers.2.1 0 = .ok (.aload_n 0, 1) := by decide +kernel
theorem dRe_offers_1 : decode mRe_offers.2.1 1 = .ok (.iload_n 2, 1) := by decide +kernel
theorem dRe_offers_2 : decode mRe_offers.2.1 2 = .ok (.iload_n 3, 1) := by decide +kernel
theorem dRe_offers_3 : decode mRe_offers.2.1 3 = .ok (.iload 4, 2) := by decide +kernel
theorem dRe_offers_5 : decode mRe_offers.2.1 5 = .ok (.bipush 60, 2) := by decide +kernel
theorem dRe_offers_7 : decode mRe_offers.2.1 7 = .ok (.idiv, 1) := by decide +kernel
theorem dRe_offers_8 : decode mRe_offers.2.1 8 = .ok (.invokevirtual 295, 3) := by decide +kernel
theorem dRe_offers_11 : decode mRe_offers.2.1 11 = .ok (.ifCond .eq 5, 3) := by decide +kernel
theorem dRe_offers_14 : decode mRe_offers.2.1 14 = .ok (.iconst 1, 1) := by decide +kernel
theorem dRe_offers_15 : decode mRe_offers.2.1 15 = .ok (.ireturn, 1) := by decide +kernel
theorem dRe_offers_16 : decode mRe_offers.2.1 16 = .ok (.iload_n 2, 1) := by decide +kernel
theorem dRe_offers_17 : decode mRe_offers.2.1 17 = .ok (.aload_n 0, 1) := by decide +kernel
theorem dRe_offers_18 : decode mRe_offers.2.1 18 = .ok (.getfield 67, 3) := by decide +kernel
theorem dRe_offers_21 : decode mRe_offers.2.1 21 = .ok (.if_icmp .ne 45, 3) := by decide +kernel
theorem dRe_offers_24 : decode mRe_offers.2.1 24 = .ok (.aload_n 0, 1) := by decide +kernel
theorem dRe_offers_25 : decode mRe_offers.2.1 25 = .ok (.dup, 1) := by decide +kernel
theorem dRe_offers_26 : decode mRe_offers.2.1 26 = .ok (.getfield 317, 3) := by decide +kernel
theorem dRe_offers_29 : decode mRe_offers.2.1 29 = .ok (.iconst 1, 1) := by decide +kernel
theorem dRe_offers_30 : decode mRe_offers.2.1 30 = .ok (.iadd, 1) := by decide +kernel
theorem dRe_offers_31 : decode mRe_offers.2.1 31 = .ok (.putfield 317, 3) := by decide +kernel
theorem dRe_offers_34 : decode mRe_offers.2.1 34 = .ok (.aload_n 0, 1) := by decide +kernel
theorem dRe_offers_35 : decode mRe_offers.2.1 35 = .ok (.getfield 317, 3) := by decide +kernel
theorem dRe_offers_38 : decode mRe_offers.2.1 38 = .ok (.bipush 10, 2) := by decide +kernel
theorem dRe_offers_40 : decode mRe_offers.2.1 40 = .ok (.if_icmp .gt 24, 3) := by decide +kernel
theorem dRe_offers_43 : decode mRe_offers.2.1 43 = .ok (.aload_n 0, 1) := by decide +kernel
theorem dRe_offers_44 : decode mRe_offers.2.1 44 = .ok (.getfield 353, 3) := by decide +kernel
theorem dRe_offers_47 : decode mRe_offers.2.1 47 = .ok (.aload_n 0, 1) := by decide +kernel
theorem dRe_offers_48 : decode mRe_offers.2.1 48 = .ok (.getfield 317, 3) := by decide +kernel
theorem dRe_offers_51 : decode mRe_offers.2.1 51 = .ok (.iconst 1, 1) := by decide +kernel
theorem dRe_offers_52 : decode mRe_offers.2.1 52 = .ok (.isub, 1) := by decide +kernel
theorem dRe_offers_53 : decode mRe_offers.2.1 53 = .ok (.ishr, 1) := by decide +kernel
theorem dRe_offers_54 : decode mRe_offers.2.1 54 = .ok (.iconst 1, 1) := by decide +kernel
theorem dRe_offers_55 : decode mRe_offers.2.1 55 = .ok (.iand, 1) := by decide +kernel
theorem dRe_offers_56 : decode mRe_offers.2.1 56 = .ok (.iconst 1, 1) := by decide +kernel
theorem dRe_offers_57 : decode mRe_offers.2.1 57 = .ok (.if_icmp .ne 7, 3) := by decide +kernel
theorem dRe_offers_60 : decode mRe_offers.2.1 60 = .ok (.iconst 1, 1) := by decide +kernel
theorem dRe_offers_61 : decode mRe_offers.2.1 61 = .ok (.goto 4, 3) := by decide +kernel
theorem dRe_offers_64 : decode mRe_offers.2.1 64 = .ok (.iconst 0, 1) := by decide +kernel
theorem dRe_offers_65 : decode mRe_offers.2.1 65 = .ok (.ireturn, 1) := by decide +kernel
theorem dRe_offers_66 : decode mRe_offers.2.1 66 = .ok (.iload_n 2, 1) := by decide +kernel
theorem dRe_offers_67 : decode mRe_offers.2.1 67 = .ok (.aload_n 0, 1) := by decide +kernel
theorem dRe_offers_68 : decode mRe_offers.2.1 68 = .ok (.getfield 70, 3) := by decide +kernel
theorem dRe_offers_71 : decode mRe_offers.2.1 71 = .ok (.if_icmp .ne 18, 3) := by decide +kernel
theorem dRe_offers_74 : decode mRe_offers.2.1 74 = .ok (.iload_n 1, 1) := by decide +kernel
theorem dRe_offers_75 : decode mRe_offers.2.1 75 = .ok (.aload_n 0, 1) := by decide +kernel
theorem dRe_offers_76 : decode mRe_offers.2.1 76 = .ok (.getfield 356, 3) := by decide +kernel
theorem dRe_offers_79 : decode mRe_offers.2.1 79 = .ok (.if_icmp .lt 10, 3) := by decide +kernel
theorem dRe_offers_82 : decode mRe_offers.2.1 82 = .ok (.aload_n 0, 1) := by decide +kernel
theorem dRe_offers_83 : decode mRe_offers.2.1 83 = .ok (.getfield 359, 3) := by decide +kernel
theorem dRe_offers_86 : decode mRe_offers.2.1 86 = .ok (.goto 9, 3) := by decide +kernel
theorem dRe_offers_89 : decode mRe_offers.2.1 89 = .ok (.aload_n 0, 1) := by decide +kernel
theorem dRe_offers_90 : decode mRe_offers.2.1 90 = .ok (.getfield 64, 3) := by decide +kernel
theorem dRe_offers_93 : decode mRe_offers.2.1 93 = .ok (.iload_n 2, 1) := by decide +kernel
theorem dRe_offers_94 : decode mRe_offers.2.1 94 = .ok (.iaload, 1) := by decide +kernel
theorem dRe_offers_95 : decode mRe_offers.2.1 95 = .ok (.tableswitch 104 0 3 #[29, 31, 54, 79], 29) := by decide +kernel
theorem dRe_offers_124 : decode mRe_offers.2.1 124 = .ok (.iconst 0, 1) := by decide +kernel
theorem dRe_offers_125 : decode mRe_offers.2.1 125 = .ok (.ireturn, 1) := by decide +kernel
theorem dRe_offers_126 : decode mRe_offers.2.1 126 = .ok (.aload_n 0, 1) := by decide +kernel
theorem dRe_offers_127 : decode mRe_offers.2.1 127 = .ok (.getfield 22, 3) := by decide +kernel
theorem dRe_offers_130 : decode mRe_offers.2.1 130 = .ok (.iload_n 2, 1) := by decide +kernel
theorem dRe_offers_131 : decode mRe_offers.2.1 131 = .ok (.aaload, 1) := by decide +kernel
theorem dRe_offers_132 : decode mRe_offers.2.1 132 = .ok (.bipush 7, 2) := by decide +kernel
theorem dRe_offers_134 : decode mRe_offers.2.1 134 = .ok (.iaload, 1) := by decide +kernel
theorem dRe_offers_135 : decode mRe_offers.2.1 135 = .ok (.iload_n 3, 1) := by decide +kernel
theorem dRe_offers_136 : decode mRe_offers.2.1 136 = .ok (.ishr, 1) := by decide +kernel
theorem dRe_offers_137 : decode mRe_offers.2.1 137 = .ok (.iconst 1, 1) := by decide +kernel
theorem dRe_offers_138 : decode mRe_offers.2.1 138 = .ok (.iand, 1) := by decide +kernel
theorem dRe_offers_139 : decode mRe_offers.2.1 139 = .ok (.iconst 1, 1) := by decide +kernel
theorem dRe_offers_140 : decode mRe_offers.2.1 140 = .ok (.if_icmp .ne 7, 3) := by decide +kernel
theorem dRe_offers_143 : decode mRe_offers.2.1 143 = .ok (.iconst 1, 1) := by decide +kernel
theorem dRe_offers_144 : decode mRe_offers.2.1 144 = .ok (.goto 4, 3) := by decide +kernel
theorem dRe_offers_147 : decode mRe_offers.2.1 147 = .ok (.iconst 0, 1) := by decide +kernel
theorem dRe_offers_148 : decode mRe_offers.2.1 148 = .ok (.ireturn, 1) := by decide +kernel
theorem dRe_offers_149 : decode mRe_offers.2.1 149 = .ok (.aload_n 0, 1) := by decide +kernel
theorem dRe_offers_150 : decode mRe_offers.2.1 150 = .ok (.iload_n 2, 1) := by decide +kernel
theorem dRe_offers_151 : decode mRe_offers.2.1 151 = .ok (.iload 4, 2) := by decide +kernel
theorem dRe_offers_153 : decode mRe_offers.2.1 153 = .ok (.invokevirtual 346, 3) := by decide +kernel
theorem dRe_offers_156 : decode mRe_offers.2.1 156 = .ok (.aload_n 0, 1) := by decide +kernel
theorem dRe_offers_157 : decode mRe_offers.2.1 157 = .ok (.getfield 22, 3) := by decide +kernel
theorem dRe_offers_160 : decode mRe_offers.2.1 160 = .ok (.iload_n 2, 1) := by decide +kernel
theorem dRe_offers_161 : decode mRe_offers.2.1 161 = .ok (.aaload, 1) := by decide +kernel
theorem dRe_offers_162 : decode mRe_offers.2.1 162 = .ok (.bipush 6, 2) := by decide +kernel
theorem dRe_offers_164 : decode mRe_offers.2.1 164 = .ok (.iaload, 1) := by decide +kernel
theorem dRe_offers_165 : decode mRe_offers.2.1 165 = .ok (.if_icmp .ge 7, 3) := by decide +kernel
theorem dRe_offers_168 : decode mRe_offers.2.1 168 = .ok (.iconst 1, 1) := by decide +kernel
theorem dRe_offers_169 : decode mRe_offers.2.1 169 = .ok (.goto 4, 3) := by decide +kernel
theorem dRe_offers_172 : decode mRe_offers.2.1 172 = .ok (.iconst 0, 1) := by decide +kernel
theorem dRe_offers_173 : decode mRe_offers.2.1 173 = .ok (.ireturn, 1) := by decide +kernel
theorem dRe_offers_174 : decode mRe_offers.2.1 174 = .ok (.aload_n 0, 1) := by decide +kernel
theorem dRe_offers_175 : decode mRe_offers.2.1 175 = .ok (.getfield 22, 3) := by decide +kernel
theorem dRe_offers_178 : decode mRe_offers.2.1 178 = .ok (.iload_n 3, 1) := by decide +kernel
theorem dRe_offers_179 : decode mRe_offers.2.1 179 = .ok (.aaload, 1) := by decide +kernel
theorem dRe_offers_180 : decode mRe_offers.2.1 180 = .ok (.iconst 1, 1) := by decide +kernel
theorem dRe_offers_181 : decode mRe_offers.2.1 181 = .ok (.iaload, 1) := by decide +kernel
theorem dRe_offers_182 : decode mRe_offers.2.1 182 = .ok (.aload_n 0, 1) := by decide +kernel
theorem dRe_offers_183 : decode mRe_offers.2.1 183 = .ok (.getfield 22, 3) := by decide +kernel
theorem dRe_offers_186 : decode mRe_offers.2.1 186 = .ok (.iload_n 2, 1) := by decide +kernel
theorem dRe_offers_187 : decode mRe_offers.2.1 187 = .ok (.aaload, 1) := by decide +kernel
theorem dRe_offers_188 : decode mRe_offers.2.1 188 = .ok (.iconst 1, 1) := by decide +kernel
theorem dRe_offers_189 : decode mRe_offers.2.1 189 = .ok (.iaload, 1) := by decide +kernel
theorem dRe_offers_190 : decode mRe_offers.2.1 190 = .ok (.if_icmp .le 7, 3) := by decide +kernel
theorem dRe_offers_193 : decode mRe_offers.2.1 193 = .ok (.iconst 1, 1) := by decide +kernel
theorem dRe_offers_194 : decode mRe_offers.2.1 194 = .ok (.goto 4, 3) := by decide +kernel
theorem dRe_offers_197 : decode mRe_offers.2.1 197 = .ok (.iconst 0, 1) := by decide +kernel
theorem dRe_offers_198 : decode mRe_offers.2.1 198 = .ok (.ireturn, 1) := by decide +kernel
theorem dRe_offers_199 : decode mRe_offers.2.1 199 = .ok (.iconst 1, 1) := by decide +kernel
theorem dRe_offers_200 : decode mRe_offers.2.1 200 = .ok (.ireturn, 1) := by decide +kernel
theorem bRe_offers_0 {l : Launch} {G : Gx} {d : Nat} {bc bs : Nat} {Φ : OutV → Mm → Prop} (M : Mm) (a0 : Nat) (x1 : Int32) (x2 : Int32) (x3 : Int32) (x4 : Int32)
    (h : ((m_sh M a0).1 = 11) ∧ CallVC l G d mRe_offers 11 [.ref a0, .int x1, .int x2, .int x3, .int x4] [] mRe_mustBe [.ref a0, .int x2, .int x3, .int (x4 / 60)] M bc bs Φ) :
    Ev l G d mRe_offers 0 [.ref a0, .int x1, .int x2, .int x3, .int x4] [] M bc bs Φ := by
  refine Ev.aload_n dRe_offers_0 rfl ?_
  refine Ev.iload_n dRe_offers_1 rfl ?_
  refine Ev.iload_n dRe_offers_2 rfl ?_
  refine Ev.iload dRe_offers_3 rfl ?_
  refine Ev.bipush (v := 60) dRe_offers_5 (by decide) ?_
  refine Ev.idiv dRe_offers_7 (by decide) ?_
  have g1 := h.1
  replace h := h.2
  exact Ev.vcV (z := mRe_mustBe) (ci := 11) [.int x2, .int x3, .int (x4 / 60)] [] rfl dRe_offers_8 oRe_mustBe rfl w1634 iRe_mustBe sRe_mustBe (by decide) rfl g1 (Nat.le_of_ble_eq_true rfl) h
theorem fRe_356 : FOK "BowingRowModel" 356 11 38 false := ⟨RX12, TX12, nFd 11, rfl, by decide, rfl, by decide, rfl, lwg_of 1321 (by decide +kernel) (by decide +kernel)⟩
theorem fRe_359 : FOK "BowingRowModel" 359 11 39 false := ⟨RX12, TX12, nFd 11, rfl, by decide, rfl, by decide, rfl, lwg_of 1322 (by decide +kernel) (by decide +kernel)⟩
theorem fRe_353 : FOK "BowingRowModel" 353 11 35 false := ⟨RX12, TX12, nFd 11, rfl, by decide, rfl, by decide, rfl, lwg_of 1318 (by decide +kernel) (by decide +kernel)⟩
theorem bRe_offers_11 {l : Launch} {G : Gx} {d : Nat} {bc bs : Nat} {Φ : OutV → Mm → Prop} (M : Mm) (a0 : Nat) (x1 : Int32) (x2 : Int32) (x3 : Int32) (x4 : Int32) (s0 : Int32)
    (h : (s0 = 0 → ((m_sh M a0).1 = 11) ∧ (¬ x2 = (m_i M a0 34) → (¬ x2 = (m_i M a0 37) → Ev l G d mRe_offers 89 [.ref a0, .int x1, .int x2, .int x3, .int x4] [] M bc bs Φ) ∧ (x2 = (m_i M a0 37) → (x1 < (m_i M a0 38) → Ev l G d mRe_offers 89 [.ref a0, .int x1, .int x2, .int x3, .int x4] [] M bc bs Φ) ∧ (¬ x1 < (m_i M a0 38) → ((m_i M a0 39) = 0 → Φ (.inl (some (.int 0))) M) ∧ (((m_i M a0 39) = 1 → ((m_sh M (m_r M a0 13)).1 = 33) ∧ (vp_in x2 (m_sh M (m_r M a0 13)).2) ∧ ((m_sh M (m_r M (m_r M a0 13) x2.toNatClampNeg)).1 = 20) ∧ (vp_in 7 (m_sh M (m_r M (m_r M a0 13) x2.toNatClampNeg)).2) ∧ (¬ (((m_i M (m_r M (m_r M a0 13) x2.toNatClampNeg) (7 : Int32).toNatClampNeg) >>> (x3 &&& 31)) &&& 1) = 1 → Φ (.inl (some (.int 0))) M) ∧ ((((m_i M (m_r M (m_r M a0 13) x2.toNatClampNeg) (7 : Int32).toNatClampNeg) >>> (x3 &&& 31)) &&& 1) = 1 → Φ (.inl (some (.int 1))) M)) ∧ (((m_i M a0 39) = 2 → CallVC l G d mRe_offers 156 [.ref a0, .int x1, .int x2, .int x3, .int x4] [] mRe_balanceOf [.ref a0, .int x2, .int x4] M bc bs Φ) ∧ (((m_i M a0 39) = 3 → ((m_sh M (m_r M a0 13)).1 = 33) ∧ (vp_in x3 (m_sh M (m_r M a0 13)).2) ∧ ((m_sh M (m_r M (m_r M a0 13) x3.toNatClampNeg)).1 = 20) ∧ (vp_in 1 (m_sh M (m_r M (m_r M a0 13) x3.toNatClampNeg)).2) ∧ (vp_in x2 (m_sh M (m_r M a0 13)).2) ∧ ((m_sh M (m_r M (m_r M a0 13) x2.toNatClampNeg)).1 = 20) ∧ (vp_in 1 (m_sh M (m_r M (m_r M a0 13) x2.toNatClampNeg)).2) ∧ ((m_i M (m_r M (m_r M a0 13) x3.toNatClampNeg) (1 : Int32).toNatClampNeg) ≤ (m_i M (m_r M (m_r M a0 13) x2.toNatClampNeg) (1 : Int32).toNatClampNeg) → Φ (.inl (some (.int 0))) M) ∧ (¬ (m_i M (m_r M (m_r M a0 13) x3.toNatClampNeg) (1 : Int32).toNatClampNeg) ≤ (m_i M (m_r M (m_r M a0 13) x2.toNatClampNeg) (1 : Int32).toNatClampNeg) → Φ (.inl (some (.int 1))) M)) ∧ (¬ (m_i M a0 39) = 0 → ¬ (m_i M a0 39) = 1 → ¬ (m_i M a0 39) = 2 → ¬ (m_i M a0 39) = 3 → Φ (.inl (some (.int 1))) M))))))) ∧ (x2 = (m_i M a0 34) → (10 < (m_i (m_si M a0 36 ((m_i M a0 36) + 1)) a0 36) → Φ (.inl (some (.int 0))) (m_si M a0 36 ((m_i M a0 36) + 1))) ∧ (¬ 10 < (m_i (m_si M a0 36 ((m_i M a0 36) + 1)) a0 36) → (¬ (((m_i (m_si M a0 36 ((m_i M a0 36) + 1)) a0 35) >>> (((m_i (m_si M a0 36 ((m_i M a0 36) + 1)) a0 36) - 1) &&& 31)) &&& 1) = 1 → Φ (.inl (some (.int 0))) (m_si M a0 36 ((m_i M a0 36) + 1))) ∧ ((((m_i (m_si M a0 36 ((m_i M a0 36) + 1)) a0 35) >>> (((m_i (m_si M a0 36 ((m_i M a0 36) + 1)) a0 36) - 1) &&& 31)) &&& 1) = 1 → Φ (.inl (some (.int 1))) (m_si M a0 36 ((m_i M a0 36) + 1)))))) ∧ (¬ s0 = 0 → Φ (.inl (some (.int 1))) M)) :
    Ev l G d mRe_offers 11 [.ref a0, .int x1, .int x2, .int x3, .int x4] [.int s0] M bc bs Φ := by
  refine Ev.if_eq 16 (by decide) dRe_offers_11 (fun c => ?_) (fun c => ?_)
  · replace h := h.1 c
    refine Ev.iload_n dRe_offers_16 rfl ?_
    refine Ev.aload_n dRe_offers_17 rfl ?_
    have g1 := h.1
    replace h := h.2
    refine Ev.getI dRe_offers_18 (Or.inl fRe_67) rfl g1 ?_
    refine Ev.icmp_ne 66 (by decide) dRe_offers_21 (fun c => ?_) (fun c => ?_)
    · replace h := h.1 c
      refine Ev.iload_n dRe_offers_66 rfl ?_
      refine Ev.aload_n dRe_offers_67 rfl ?_
      refine Ev.getI dRe_offers_68 (Or.inl fRe_70) rfl g1 ?_
      refine Ev.icmp_ne 89 (by decide) dRe_offers_71 (fun c => ?_) (fun c => ?_)
      · replace h := h.1 c
        exact h
      · replace h := h.2 c
        refine Ev.iload_n dRe_offers_74 rfl ?_
        refine Ev.aload_n dRe_offers_75 rfl ?_
        refine Ev.getI dRe_offers_76 (Or.inl fRe_356) rfl g1 ?_
        refine Ev.icmp_lt 89 (by decide) dRe_offers_79 (fun c => ?_) (fun c => ?_)
        · replace h := h.1 c
          exact h
        · replace h := h.2 c
          refine Ev.aload_n dRe_offers_82 rfl ?_
          refine Ev.getI dRe_offers_83 (Or.inl fRe_359) rfl g1 ?_
          refine Ev.goto 95 dRe_offers_86 (by decide) ?_
          skip
          by_cases c : (m_i M a0 39) = 0
          · refine Ev.tblAt 124 dRe_offers_95 (by rw [c]; decide) (by rw [c]; decide) (by rw [c]; rfl) (by decide) ?_
            replace h := h.1 c
            refine Ev.iconst (v := 0) dRe_offers_124 (by decide) ?_
            exact Ev.iret dRe_offers_125 rfl rfl h
          have c2 := c
          clear c
          replace h := h.2
          by_cases c : (m_i M a0 39) = 1
          · refine Ev.tblAt 126 dRe_offers_95 (by rw [c]; decide) (by rw [c]; decide) (by rw [c]; rfl) (by decide) ?_
            replace h := h.1 c
            refine Ev.aload_n dRe_offers_126 rfl ?_
            refine Ev.getR dRe_offers_127 (Or.inl fRe_22) rfl g1 ?_
            refine Ev.iload_n dRe_offers_130 rfl ?_
            have g3 := h.1
            replace h := h.2
            have g4 := h.1
            replace h := h.2
            refine Ev.aald2 33 (by decide) dRe_offers_131 g3 g4 ?_
            refine Ev.bipush (v := 7) dRe_offers_132 (by decide) ?_
            have g5 := h.1
            replace h := h.2
            have g6 := h.1
            replace h := h.2
            refine Ev.iald2 dRe_offers_134 g5 g6 ?_
            refine Ev.iload_n dRe_offers_135 rfl ?_
            refine Ev.ishr dRe_offers_136 ?_
            refine Ev.iconst (v := 1) dRe_offers_137 (by decide) ?_
            refine Ev.iand dRe_offers_138 ?_
            refine Ev.iconst (v := 1) dRe_offers_139 (by decide) ?_
            refine Ev.icmp_ne 147 (by decide) dRe_offers_140 (fun c => ?_) (fun c => ?_)
            · replace h := h.1 c
              refine Ev.iconst (v := 0) dRe_offers_147 (by decide) ?_
              exact Ev.iret dRe_offers_148 rfl rfl h
            · replace h := h.2 c
              refine Ev.iconst (v := 1) dRe_offers_143 (by decide) ?_
              refine Ev.goto 148 dRe_offers_144 (by decide) ?_
              exact Ev.iret dRe_offers_148 rfl rfl h
          have c7 := c
          clear c
          replace h := h.2
          by_cases c : (m_i M a0 39) = 2
          · refine Ev.tblAt 149 dRe_offers_95 (by rw [c]; decide) (by rw [c]; decide) (by rw [c]; rfl) (by decide) ?_
            replace h := h.1 c
            refine Ev.aload_n dRe_offers_149 rfl ?_
            refine Ev.iload_n dRe_offers_150 rfl ?_
            refine Ev.iload dRe_offers_151 rfl ?_
            exact Ev.vcV (z := mRe_balanceOf) (ci := 11) [.int x2, .int x4] [] rfl dRe_offers_153 oRe_balanceOf rfl w1689 iRe_balanceOf sRe_balanceOf (by decide) rfl g1 (Nat.le_of_ble_eq_true rfl) h
          have c8 := c
          clear c
          replace h := h.2
          by_cases c : (m_i M a0 39) = 3
          · refine Ev.tblAt 174 dRe_offers_95 (by rw [c]; decide) (by rw [c]; decide) (by rw [c]; rfl) (by decide) ?_
            replace h := h.1 c
            refine Ev.aload_n dRe_offers_174 rfl ?_
            refine Ev.getR dRe_offers_175 (Or.inl fRe_22) rfl g1 ?_
            refine Ev.iload_n dRe_offers_178 rfl ?_
            have g9 := h.1
            replace h := h.2
            have g10 := h.1
            replace h := h.2
            refine Ev.aald2 33 (by decide) dRe_offers_179 g9 g10 ?_
            refine Ev.iconst (v := 1) dRe_offers_180 (by decide) ?_
            have g11 := h.1
            replace h := h.2
            have g12 := h.1
            replace h := h.2
            refine Ev.iald2 dRe_offers_181 g11 g12 ?_
            refine Ev.aload_n dRe_offers_182 rfl ?_
            refine Ev.getR dRe_offers_183 (Or.inl fRe_22) rfl g1 ?_
            refine Ev.iload_n dRe_offers_186 rfl ?_
            have g13 := h.1
            replace h := h.2
            refine Ev.aald2 33 (by decide) dRe_offers_187 g9 g13 ?_
            refine Ev.iconst (v := 1) dRe_offers_188 (by decide) ?_
            have g14 := h.1
            replace h := h.2
            have g15 := h.1
            replace h := h.2
            refine Ev.iald2 dRe_offers_189 g14 g15 ?_
            refine Ev.icmp_le 197 (by decide) dRe_offers_190 (fun c => ?_) (fun c => ?_)
            · replace h := h.1 c
              refine Ev.iconst (v := 0) dRe_offers_197 (by decide) ?_
              exact Ev.iret dRe_offers_198 rfl rfl h
            · replace h := h.2 c
              refine Ev.iconst (v := 1) dRe_offers_193 (by decide) ?_
              refine Ev.goto 198 dRe_offers_194 (by decide) ?_
              exact Ev.iret dRe_offers_198 rfl rfl h
          have c16 := c
          clear c
          replace h := h.2
          refine Ev.tblOut 199 dRe_offers_95 ?_ (by decide) ?_
          · have e : ∀ k : Int32, ¬ (m_i M a0 39) = k → ¬ (m_i M a0 39).toInt = k.toInt := fun k h1 h2 => h1 (Int32.toInt_inj.mp h2)
            have := e 0 c2
            rw [show ((0 : Int32)).toInt = 0 from rfl] at this
            have := e 1 c7
            rw [show ((1 : Int32)).toInt = 1 from rfl] at this
            have := e 2 c8
            rw [show ((2 : Int32)).toInt = 2 from rfl] at this
            have := e 3 c16
            rw [show ((3 : Int32)).toInt = 3 from rfl] at this
            omega
          · replace h := h c2 c7 c8 c16
            refine Ev.iconst (v := 1) dRe_offers_199 (by decide) ?_
            exact Ev.iret dRe_offers_200 rfl rfl h
    · replace h := h.2 c
      refine Ev.aload_n dRe_offers_24 rfl ?_
      refine Ev.dup dRe_offers_25 rfl ?_
      refine Ev.getI dRe_offers_26 (Or.inl fRe_317) rfl g1 ?_
      refine Ev.iconst (v := 1) dRe_offers_29 (by decide) ?_
      refine Ev.iadd dRe_offers_30 ?_
      refine Ev.putI dRe_offers_31 ⟨_, Or.inl ⟨fRe_317, (fun h => by cases h)⟩⟩ rfl ⟨rfl, rfl⟩ g1 ?_
      refine Ev.aload_n dRe_offers_34 rfl ?_
      refine Ev.getI dRe_offers_35 (Or.inl fRe_317) rfl g1 ?_
      refine Ev.bipush (v := 10) dRe_offers_38 (by decide) ?_
      refine Ev.icmp_gt 64 (by decide) dRe_offers_40 (fun c => ?_) (fun c => ?_)
      · replace h := h.1 c
        refine Ev.iconst (v := 0) dRe_offers_64 (by decide) ?_
        exact Ev.iret dRe_offers_65 rfl rfl h
      · replace h := h.2 c
        refine Ev.aload_n dRe_offers_43 rfl ?_
        refine Ev.getI dRe_offers_44 (Or.inl fRe_353) rfl g1 ?_
        refine Ev.aload_n dRe_offers_47 rfl ?_
        refine Ev.getI dRe_offers_48 (Or.inl fRe_317) rfl g1 ?_
        refine Ev.iconst (v := 1) dRe_offers_51 (by decide) ?_
        refine Ev.isub dRe_offers_52 ?_
        refine Ev.ishr dRe_offers_53 ?_
        refine Ev.iconst (v := 1) dRe_offers_54 (by decide) ?_
        refine Ev.iand dRe_offers_55 ?_
        refine Ev.iconst (v := 1) dRe_offers_56 (by decide) ?_
        refine Ev.icmp_ne 64 (by decide) dRe_offers_57 (fun c => ?_) (fun c => ?_)
        · replace h := h.1 c
          refine Ev.iconst (v := 0) dRe_offers_64 (by decide) ?_
          exact Ev.iret dRe_offers_65 rfl rfl h
        · replace h := h.2 c
          refine Ev.iconst (v := 1) dRe_offers_60 (by decide) ?_
          refine Ev.goto 65 dRe_offers_61 (by decide) ?_
          exact Ev.iret dRe_offers_65 rfl rfl h
  · replace h := h.2 c
    refine Ev.iconst (v := 1) dRe_offers_14 (by decide) ?_
    exact Ev.iret dRe_offers_15 rfl rfl h
theorem bRe_offers_89 {l : Launch} {G : Gx} {d : Nat} {bc bs : Nat} {Φ : OutV → Mm → Prop} (M : Mm) (a0 : Nat) (x1 : Int32) (x2 : Int32) (x3 : Int32) (x4 : Int32)
    (h : ((m_sh M a0).1 = 11) ∧ ((m_sh M (m_r M a0 32)).1 = 20) ∧ (vp_in x2 (m_sh M (m_r M a0 32)).2) ∧ ((m_i M (m_r M a0 32) x2.toNatClampNeg) = 0 → Φ (.inl (some (.int 0))) M) ∧ (((m_i M (m_r M a0 32) x2.toNatClampNeg) = 1 → ((m_sh M (m_r M a0 13)).1 = 33) ∧ (vp_in x2 (m_sh M (m_r M a0 13)).2) ∧ ((m_sh M (m_r M (m_r M a0 13) x2.toNatClampNeg)).1 = 20) ∧ (vp_in 7 (m_sh M (m_r M (m_r M a0 13) x2.toNatClampNeg)).2) ∧ (¬ (((m_i M (m_r M (m_r M a0 13) x2.toNatClampNeg) (7 : Int32).toNatClampNeg) >>> (x3 &&& 31)) &&& 1) = 1 → Φ (.inl (some (.int 0))) M) ∧ ((((m_i M (m_r M (m_r M a0 13) x2.toNatClampNeg) (7 : Int32).toNatClampNeg) >>> (x3 &&& 31)) &&& 1) = 1 → Φ (.inl (some (.int 1))) M)) ∧ (((m_i M (m_r M a0 32) x2.toNatClampNeg) = 2 → CallVC l G d mRe_offers 156 [.ref a0, .int x1, .int x2, .int x3, .int x4] [] mRe_balanceOf [.ref a0, .int x2, .int x4] M bc bs Φ) ∧ (((m_i M (m_r M a0 32) x2.toNatClampNeg) = 3 → ((m_sh M (m_r M a0 13)).1 = 33) ∧ (vp_in x3 (m_sh M (m_r M a0 13)).2) ∧ ((m_sh M (m_r M (m_r M a0 13) x3.toNatClampNeg)).1 = 20) ∧ (vp_in 1 (m_sh M (m_r M (m_r M a0 13) x3.toNatClampNeg)).2) ∧ (vp_in x2 (m_sh M (m_r M a0 13)).2) ∧ ((m_sh M (m_r M (m_r M a0 13) x2.toNatClampNeg)).1 = 20) ∧ (vp_in 1 (m_sh M (m_r M (m_r M a0 13) x2.toNatClampNeg)).2) ∧ ((m_i M (m_r M (m_r M a0 13) x3.toNatClampNeg) (1 : Int32).toNatClampNeg) ≤ (m_i M (m_r M (m_r M a0 13) x2.toNatClampNeg) (1 : Int32).toNatClampNeg) → Φ (.inl (some (.int 0))) M) ∧ (¬ (m_i M (m_r M (m_r M a0 13) x3.toNatClampNeg) (1 : Int32).toNatClampNeg) ≤ (m_i M (m_r M (m_r M a0 13) x2.toNatClampNeg) (1 : Int32).toNatClampNeg) → Φ (.inl (some (.int 1))) M)) ∧ (¬ (m_i M (m_r M a0 32) x2.toNatClampNeg) = 0 → ¬ (m_i M (m_r M a0 32) x2.toNatClampNeg) = 1 → ¬ (m_i M (m_r M a0 32) x2.toNatClampNeg) = 2 → ¬ (m_i M (m_r M a0 32) x2.toNatClampNeg) = 3 → Φ (.inl (some (.int 1))) M))))) :
    Ev l G d mRe_offers 89 [.ref a0, .int x1, .int x2, .int x3, .int x4] [] M bc bs Φ := by
  refine Ev.aload_n dRe_offers_89 rfl ?_
  have g1 := h.1
  replace h := h.2
  refine Ev.getR dRe_offers_90 (Or.inl fRe_64) rfl g1 ?_
  refine Ev.iload_n dRe_offers_93 rfl ?_
  have g2 := h.1
  replace h := h.2
  have g3 := h.1
  replace h := h.2
  refine Ev.iald2 dRe_offers_94 g2 g3 ?_
  skip
  by_cases c : (m_i M (m_r M a0 32) x2.toNatClampNeg) = 0
  · refine Ev.tblAt 124 dRe_offers_95 (by rw [c]; decide) (by rw [c]; decide) (by rw [c]; rfl) (by decide) ?_
    replace h := h.1 c
    refine Ev.iconst (v := 0) dRe_offers_124 (by decide) ?_
    exact Ev.iret dRe_offers_125 rfl rfl h
  have c4 := c
  clear c
  replace h := h.2
  by_cases c : (m_i M (m_r M a0 32) x2.toNatClampNeg) = 1
  · refine Ev.tblAt 126 dRe_offers_95 (by rw [c]; decide) (by rw [c]; decide) (by rw [c]; rfl) (by decide) ?_
    replace h := h.1 c
    refine Ev.aload_n dRe_offers_126 rfl ?_
    refine Ev.getR dRe_offers_127 (Or.inl fRe_22) rfl g1 ?_
    refine Ev.iload_n dRe_offers_130 rfl ?_
    have g5 := h.1
    replace h := h.2
    have g6 := h.1
    replace h := h.2
    refine Ev.aald2 33 (by decide) dRe_offers_131 g5 g6 ?_
    refine Ev.bipush (v := 7) dRe_offers_132 (by decide) ?_
    have g7 := h.1
    replace h := h.2
    have g8 := h.1
    replace h := h.2
    refine Ev.iald2 dRe_offers_134 g7 g8 ?_
    refine Ev.iload_n dRe_offers_135 rfl ?_
    refine Ev.ishr dRe_offers_136 ?_
    refine Ev.iconst (v := 1) dRe_offers_137 (by decide) ?_
    refine Ev.iand dRe_offers_138 ?_
    refine Ev.iconst (v := 1) dRe_offers_139 (by decide) ?_
    refine Ev.icmp_ne 147 (by decide) dRe_offers_140 (fun c => ?_) (fun c => ?_)
    · replace h := h.1 c
      refine Ev.iconst (v := 0) dRe_offers_147 (by decide) ?_
      exact Ev.iret dRe_offers_148 rfl rfl h
    · replace h := h.2 c
      refine Ev.iconst (v := 1) dRe_offers_143 (by decide) ?_
      refine Ev.goto 148 dRe_offers_144 (by decide) ?_
      exact Ev.iret dRe_offers_148 rfl rfl h
  have c9 := c
  clear c
  replace h := h.2
  by_cases c : (m_i M (m_r M a0 32) x2.toNatClampNeg) = 2
  · refine Ev.tblAt 149 dRe_offers_95 (by rw [c]; decide) (by rw [c]; decide) (by rw [c]; rfl) (by decide) ?_
    replace h := h.1 c
    refine Ev.aload_n dRe_offers_149 rfl ?_
    refine Ev.iload_n dRe_offers_150 rfl ?_
    refine Ev.iload dRe_offers_151 rfl ?_
    exact Ev.vcV (z := mRe_balanceOf) (ci := 11) [.int x2, .int x4] [] rfl dRe_offers_153 oRe_balanceOf rfl w1689 iRe_balanceOf sRe_balanceOf (by decide) rfl g1 (Nat.le_of_ble_eq_true rfl) h
  have c10 := c
  clear c
  replace h := h.2
  by_cases c : (m_i M (m_r M a0 32) x2.toNatClampNeg) = 3
  · refine Ev.tblAt 174 dRe_offers_95 (by rw [c]; decide) (by rw [c]; decide) (by rw [c]; rfl) (by decide) ?_
    replace h := h.1 c
    refine Ev.aload_n dRe_offers_174 rfl ?_
    refine Ev.getR dRe_offers_175 (Or.inl fRe_22) rfl g1 ?_
    refine Ev.iload_n dRe_offers_178 rfl ?_
    have g11 := h.1
    replace h := h.2
    have g12 := h.1
    replace h := h.2
    refine Ev.aald2 33 (by decide) dRe_offers_179 g11 g12 ?_
    refine Ev.iconst (v := 1) dRe_offers_180 (by decide) ?_
    have g13 := h.1
    replace h := h.2
    have g14 := h.1
    replace h := h.2
    refine Ev.iald2 dRe_offers_181 g13 g14 ?_
    refine Ev.aload_n dRe_offers_182 rfl ?_
    refine Ev.getR dRe_offers_183 (Or.inl fRe_22) rfl g1 ?_
    refine Ev.iload_n dRe_offers_186 rfl ?_
    have g15 := h.1
    replace h := h.2
    refine Ev.aald2 33 (by decide) dRe_offers_187 g11 g15 ?_
    refine Ev.iconst (v := 1) dRe_offers_188 (by decide) ?_
    have g16 := h.1
    replace h := h.2
    have g17 := h.1
    replace h := h.2
    refine Ev.iald2 dRe_offers_189 g16 g17 ?_
    refine Ev.icmp_le 197 (by decide) dRe_offers_190 (fun c => ?_) (fun c => ?_)
    · replace h := h.1 c
      refine Ev.iconst (v := 0) dRe_offers_197 (by decide) ?_
      exact Ev.iret dRe_offers_198 rfl rfl h
    · replace h := h.2 c
      refine Ev.iconst (v := 1) dRe_offers_193 (by decide) ?_
      refine Ev.goto 198 dRe_offers_194 (by decide) ?_
      exact Ev.iret dRe_offers_198 rfl rfl h
  have c18 := c
  clear c
  replace h := h.2
  refine Ev.tblOut 199 dRe_offers_95 ?_ (by decide) ?_
  · have e : ∀ k : Int32, ¬ (m_i M (m_r M a0 32) x2.toNatClampNeg) = k → ¬ (m_i M (m_r M a0 32) x2.toNatClampNeg).toInt = k.toInt := fun k h1 h2 => h1 (Int32.toInt_inj.mp h2)
    have := e 0 c4
    rw [show ((0 : Int32)).toInt = 0 from rfl] at this
    have := e 1 c9
    rw [show ((1 : Int32)).toInt = 1 from rfl] at this
    have := e 2 c10
    rw [show ((2 : Int32)).toInt = 2 from rfl] at this
    have := e 3 c18
    rw [show ((3 : Int32)).toInt = 3 from rfl] at this
    omega
  · replace h := h c4 c9 c10 c18
    refine Ev.iconst (v := 1) dRe_offers_199 (by decide) ?_
    exact Ev.iret dRe_offers_200 rfl rfl h
theorem bRe_offers_156 {l : Launch} {G : Gx} {d : Nat} {bc bs : Nat} {Φ : OutV → Mm → Prop} (M : Mm) (a0 : Nat) (x1 : Int32) (x2 : Int32) (x3 : Int32) (x4 : Int32) (s0 : Int32)
    (h : ((m_sh M a0).1 = 11) ∧ ((m_sh M (m_r M a0 13)).1 = 33) ∧ (vp_in x2 (m_sh M (m_r M a0 13)).2) ∧ ((m_sh M (m_r M (m_r M a0 13) x2.toNatClampNeg)).1 = 20) ∧ (vp_in 6 (m_sh M (m_r M (m_r M a0 13) x2.toNatClampNeg)).2) ∧ ((m_i M (m_r M (m_r M a0 13) x2.toNatClampNeg) (6 : Int32).toNatClampNeg) ≤ s0 → Φ (.inl (some (.int 0))) M) ∧ (¬ (m_i M (m_r M (m_r M a0 13) x2.toNatClampNeg) (6 : Int32).toNatClampNeg) ≤ s0 → Φ (.inl (some (.int 1))) M)) :
    Ev l G d mRe_offers 156 [.ref a0, .int x1, .int x2, .int x3, .int x4] [.int s0] M bc bs Φ := by
  refine Ev.aload_n dRe_offers_156 rfl ?_
  have g1 := h.1
  replace h := h.2
  refine Ev.getR dRe_offers_157 (Or.inl fRe_22) rfl g1 ?_
  refine Ev.iload_n dRe_offers_160 rfl ?_
  have g2 := h.1
  replace h := h.2
  have g3 := h.1
  replace h := h.2
  refine Ev.aald2 33 (by decide) dRe_offers_161 g2 g3 ?_
  refine Ev.bipush (v := 6) dRe_offers_162 (by decide) ?_
  have g4 := h.1
  replace h := h.2
  have g5 := h.1
  replace h := h.2
  refine Ev.iald2 dRe_offers_164 g4 g5 ?_
  refine Ev.icmp_ge 172 (by decide) dRe_offers_165 (fun c => ?_) (fun c => ?_)
  · replace h := h.1 c
    refine Ev.iconst (v := 0) dRe_offers_172 (by decide) ?_
    exact Ev.iret dRe_offers_173 rfl rfl h
  · replace h := h.2 c
    refine Ev.iconst (v := 1) dRe_offers_168 (by decide) ?_
    refine Ev.goto 173 dRe_offers_169 (by decide) ?_
    exact Ev.iret dRe_offers_173 rfl rfl h
