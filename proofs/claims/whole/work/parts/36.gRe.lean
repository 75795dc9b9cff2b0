theorem dRe_passes_0 : decode mRe_passes.2.1 0 = .ok (.aload_n 0, 1) := by decide +kernel
theorem dRe_passes_1 : decode mRe_passes.2.1 1 = .ok (.getfield 97, 3) := by decide +kernel
theorem dRe_passes_4 : decode mRe_passes.2.1 4 = .ok (.aload_n 0, 1) := by decide +kernel
theorem dRe_passes_5 : decode mRe_passes.2.1 5 = .ok (.getfield 301, 3) := by decide +kernel
theorem dRe_passes_8 : decode mRe_passes.2.1 8 = .ok (.aaload, 1) := by decide +kernel
theorem dRe_passes_9 : decode mRe_passes.2.1 9 = .ok (.iconst 0, 1) := by decide +kernel
theorem dRe_passes_10 : decode mRe_passes.2.1 10 = .ok (.iload_n 1, 1) := by decide +kernel
theorem dRe_passes_11 : decode mRe_passes.2.1 11 = .ok (.iastore, 1) := by decide +kernel
theorem dRe_passes_12 : decode mRe_passes.2.1 12 = .ok (.aload_n 0, 1) := by decide +kernel
theorem dRe_passes_13 : decode mRe_passes.2.1 13 = .ok (.getfield 97, 3) := by decide +kernel
theorem dRe_passes_16 : decode mRe_passes.2.1 16 = .ok (.aload_n 0, 1) := by decide +kernel
theorem dRe_passes_17 : decode mRe_passes.2.1 17 = .ok (.getfield 301, 3) := by decide +kernel
theorem dRe_passes_20 : decode mRe_passes.2.1 20 = .ok (.aaload, 1) := by decide +kernel
theorem dRe_passes_21 : decode mRe_passes.2.1 21 = .ok (.iconst 1, 1) := by decide +kernel
theorem dRe_passes_22 : decode mRe_passes.2.1 22 = .ok (.iload_n 2, 1) := by decide +kernel
theorem dRe_passes_23 : decode mRe_passes.2.1 23 = .ok (.iastore, 1) := by decide +kernel
theorem dRe_passes_24 : decode mRe_passes.2.1 24 = .ok (.aload_n 0, 1) := by decide +kernel
theorem dRe_passes_25 : decode mRe_passes.2.1 25 = .ok (.getfield 97, 3) := by decide +kernel
theorem dRe_passes_28 : decode mRe_passes.2.1 28 = .ok (.aload_n 0, 1) := by decide +kernel
theorem dRe_passes_29 : decode mRe_passes.2.1 29 = .ok (.getfield 301, 3) := by decide +kernel
theorem dRe_passes_32 : decode mRe_passes.2.1 32 = .ok (.aaload, 1) := by decide +kernel
theorem dRe_passes_33 : decode mRe_passes.2.1 33 = .ok (.iconst 2, 1) := by decide +kernel
theorem dRe_passes_34 : decode mRe_passes.2.1 34 = .ok (.aload_n 0, 1) := by decide +kernel
theorem dRe_passes_35 : decode mRe_passes.2.1 35 = .ok (.iload_n 1, 1) := by decide +kernel
theorem dRe_passes_36 : decode mRe_passes.2.1 36 = .ok (.iload_n 2, 1) := by decide +kernel
theorem dRe_passes_37 : decode mRe_passes.2.1 37 = .ok (.iload_n 3, 1) := by decide +kernel
theorem dRe_passes_38 : decode mRe_passes.2.1 38 = .ok (.bipush 60, 2) := by decide +kernel
theorem dRe_passes_40 : decode mRe_passes.2.1 40 = .ok (.idiv, 1) := by decide +kernel
theorem dRe_passes_41 : decode mRe_passes.2.1 41 = .ok (.invokevirtual 298, 3) := by decide +kernel
theorem dRe_passes_44 : decode mRe_passes.2.1 44 = .ok (.iastore, 1) := by decide +kernel
theorem dRe_passes_45 : decode mRe_passes.2.1 45 = .ok (.aload_n 0, 1) := by decide +kernel
theorem dRe_passes_46 : decode mRe_passes.2.1 46 = .ok (.getfield 97, 3) := by decide +kernel
theorem dRe_passes_49 : decode mRe_passes.2.1 49 = .ok (.aload_n 0, 1) := by decide +kernel
theorem dRe_passes_50 : decode mRe_passes.2.1 50 = .ok (.getfield 301, 3) := by decide +kernel
theorem dRe_passes_53 : decode mRe_passes.2.1 53 = .ok (.aaload, 1) := by decide +kernel
theorem dRe_passes_54 : decode mRe_passes.2.1 54 = .ok (.iconst 3, 1) := by decide +kernel
theorem dRe_passes_55 : decode mRe_passes.2.1 55 = .ok (.iload_n 3, 1) := by decide +kernel
theorem dRe_passes_56 : decode mRe_passes.2.1 56 = .ok (.iastore, 1) := by decide +kernel
theorem dRe_passes_57 : decode mRe_passes.2.1 57 = .ok (.aload_n 0, 1) := by decide +kernel
theorem dRe_passes_58 : decode mRe_passes.2.1 58 = .ok (.dup, 1) := by decide +kernel
theorem dRe_passes_59 : decode mRe_passes.2.1 59 = .ok (.getfield 301, 3) := by decide +kernel
theorem dRe_passes_62 : decode mRe_passes.2.1 62 = .ok (.iconst 1, 1) := by decide +kernel
theorem dRe_passes_63 : decode mRe_passes.2.1 63 = .ok (.iadd, 1) := by decide +kernel
theorem dRe_passes_64 : decode mRe_passes.2.1 64 = .ok (.putfield 301, 3) := by decide +kernel
theorem dRe_passes_67 : decode mRe_passes.2.1 67 = .ok (.return_, 1) := by decide +kernel
theorem bRe_passes_0 {l : Launch} {G : Gx} {d : Nat} {bc bs : Nat} {Φ : OutV → Mm → Prop} (M : Mm) (a0 : Nat) (x1 : Int32) (x2 : Int32) (x3 : Int32)
    (h : ((m_sh M a0).1 = 11) ∧ ((m_sh M (m_r M a0 53)).1 = 33) ∧ (vp_in (m_i M a0 41) (m_sh M (m_r M a0 53)).2) ∧ ((m_sh M (m_r M (m_r M a0 53) (m_i M a0 41).toNatClampNeg)).1 = 20) ∧ (vp_in 0 (m_sh M (m_r M (m_r M a0 53) (m_i M a0 41).toNatClampNeg)).2) ∧ (vp_in (m_i (m_si M (m_r M (m_r M a0 53) (m_i M a0 41).toNatClampNeg) (0 : Int32).toNatClampNeg x1) a0 41) (m_sh M (m_r M a0 53)).2) ∧ ((m_sh M (m_r M (m_r M a0 53) (m_i (m_si M (m_r M (m_r M a0 53) (m_i M a0 41).toNatClampNeg) (0 : Int32).toNatClampNeg x1) a0 41).toNatClampNeg)).1 = 20) ∧ (vp_in 1 (m_sh M (m_r M (m_r M a0 53) (m_i (m_si M (m_r M (m_r M a0 53) (m_i M a0 41).toNatClampNeg) (0 : Int32).toNatClampNeg x1) a0 41).toNatClampNeg)).2) ∧ Ev l G d mRe_passes 24 [.ref a0, .int x1, .int x2, .int x3] [] (m_si (m_si M (m_r M (m_r M a0 53) (m_i M a0 41).toNatClampNeg) (0 : Int32).toNatClampNeg x1) (m_r M (m_r M a0 53) (m_i (m_si M (m_r M (m_r M a0 53) (m_i M a0 41).toNatClampNeg) (0 : Int32).toNatClampNeg x1) a0 41).toNatClampNeg) (1 : Int32).toNatClampNeg x2) bc bs Φ) :
    Ev l G d mRe_passes 0 [.ref a0, .int x1, .int x2, .int x3] [] M bc bs Φ := by
  refine Ev.aload_n dRe_passes_0 rfl ?_
  have g1 := h.1
  replace h := h.2
  refine Ev.getR dRe_passes_1 (Or.inl fRe_97) rfl g1 ?_
  refine Ev.aload_n dRe_passes_4 rfl ?_
  refine Ev.getI dRe_passes_5 (Or.inl fRe_301) rfl g1 ?_
  have g2 := h.1
  replace h := h.2
  have g3 := h.1
  replace h := h.2
  refine Ev.aald2 33 (by decide) dRe_passes_8 g2 g3 ?_
  refine Ev.iconst (v := 0) dRe_passes_9 (by decide) ?_
  refine Ev.iload_n dRe_passes_10 rfl ?_
  have g4 := h.1
  replace h := h.2
  have g5 := h.1
  replace h := h.2
  refine Ev.iast2 dRe_passes_11 g4 g5 ?_
  refine Ev.aload_n dRe_passes_12 rfl ?_
  refine Ev.getR dRe_passes_13 (Or.inl fRe_97) rfl g1 ?_
  refine Ev.aload_n dRe_passes_16 rfl ?_
  refine Ev.getI dRe_passes_17 (Or.inl fRe_301) rfl g1 ?_
  have g6 := h.1
  replace h := h.2
  refine Ev.aald2 33 (by decide) dRe_passes_20 g2 g6 ?_
  refine Ev.iconst (v := 1) dRe_passes_21 (by decide) ?_
  refine Ev.iload_n dRe_passes_22 rfl ?_
  have g7 := h.1
  replace h := h.2
  have g8 := h.1
  replace h := h.2
  refine Ev.iast2 dRe_passes_23 g7 g8 ?_
  exact h
theorem bRe_passes_24 {l : Launch} {G : Gx} {d : Nat} {bc bs : Nat} {Φ : OutV → Mm → Prop} (M : Mm) (a0 : Nat) (x1 : Int32) (x2 : Int32) (x3 : Int32)
    (h : ((m_sh M a0).1 = 11) ∧ ((m_sh M (m_r M a0 53)).1 = 33) ∧ (vp_in (m_i M a0 41) (m_sh M (m_r M a0 53)).2) ∧ CallVC l G d mRe_passes 44 [.ref a0, .int x1, .int x2, .int x3] [.int 2, .ref (m_r M (m_r M a0 53) (m_i M a0 41).toNatClampNeg)] mRe_worthOf [.ref a0, .int x1, .int x2, .int (x3 / 60)] M bc bs Φ) :
    Ev l G d mRe_passes 24 [.ref a0, .int x1, .int x2, .int x3] [] M bc bs Φ := by
  refine Ev.aload_n dRe_passes_24 rfl ?_
  have g1 := h.1
  replace h := h.2
  refine Ev.getR dRe_passes_25 (Or.inl fRe_97) rfl g1 ?_
  refine Ev.aload_n dRe_passes_28 rfl ?_
  refine Ev.getI dRe_passes_29 (Or.inl fRe_301) rfl g1 ?_
  have g2 := h.1
  replace h := h.2
  have g3 := h.1
  replace h := h.2
  refine Ev.aald2 33 (by decide) dRe_passes_32 g2 g3 ?_
  refine Ev.iconst (v := 2) dRe_passes_33 (by decide) ?_
  refine Ev.aload_n dRe_passes_34 rfl ?_
  refine Ev.iload_n dRe_passes_35 rfl ?_
  refine Ev.iload_n dRe_passes_36 rfl ?_
  refine Ev.iload_n dRe_passes_37 rfl ?_
  refine Ev.bipush (v := 60) dRe_passes_38 (by decide) ?_
  refine Ev.idiv dRe_passes_40 (by decide) ?_
  exact Ev.vcV (z := mRe_worthOf) (ci := 11) [.int x1, .int x2, .int (x3 / 60)] [.int 2, .ref (m_r M (m_r M a0 53) (m_i M a0 41).toNatClampNeg)] rfl dRe_passes_41 oRe_worthOf rfl w1653 iRe_worthOf sRe_worthOf (by decide) rfl g1 (Nat.le_of_ble_eq_true rfl) h
theorem bRe_passes_44 {l : Launch} {G : Gx} {d : Nat} {bc bs : Nat} {Φ : OutV → Mm → Prop} (M : Mm) (a0 : Nat) (x1 : Int32) (x2 : Int32) (x3 : Int32) (r0 : Nat) (s1 : Int32) (s2 : Int32)
    (h : ((m_sh M r0).1 = 20) ∧ (vp_in s1 (m_sh M r0).2) ∧ ((m_sh M a0).1 = 11) ∧ ((m_sh M (m_r M a0 53)).1 = 33) ∧ (vp_in (m_i (m_si M r0 s1.toNatClampNeg s2) a0 41) (m_sh M (m_r M a0 53)).2) ∧ ((m_sh M (m_r M (m_r M a0 53) (m_i (m_si M r0 s1.toNatClampNeg s2) a0 41).toNatClampNeg)).1 = 20) ∧ (vp_in 3 (m_sh M (m_r M (m_r M a0 53) (m_i (m_si M r0 s1.toNatClampNeg s2) a0 41).toNatClampNeg)).2) ∧ Ev l G d mRe_passes 57 [.ref a0, .int x1, .int x2, .int x3] [] (m_si (m_si M r0 s1.toNatClampNeg s2) (m_r M (m_r M a0 53) (m_i (m_si M r0 s1.toNatClampNeg s2) a0 41).toNatClampNeg) (3 : Int32).toNatClampNeg x3) bc bs Φ) :
    Ev l G d mRe_passes 44 [.ref a0, .int x1, .int x2, .int x3] [.int s2, .int s1, .ref r0] M bc bs Φ := by
  have g1 := h.1
  replace h := h.2
  have g2 := h.1
  replace h := h.2
  refine Ev.iast2 dRe_passes_44 g1 g2 ?_
  refine Ev.aload_n dRe_passes_45 rfl ?_
  have g3 := h.1
  replace h := h.2
  refine Ev.getR dRe_passes_46 (Or.inl fRe_97) rfl g3 ?_
  refine Ev.aload_n dRe_passes_49 rfl ?_
  refine Ev.getI dRe_passes_50 (Or.inl fRe_301) rfl g3 ?_
  have g4 := h.1
  replace h := h.2
  have g5 := h.1
  replace h := h.2
  refine Ev.aald2 33 (by decide) dRe_passes_53 g4 g5 ?_
  refine Ev.iconst (v := 3) dRe_passes_54 (by decide) ?_
  refine Ev.iload_n dRe_passes_55 rfl ?_
  have g6 := h.1
  replace h := h.2
  have g7 := h.1
  replace h := h.2
  refine Ev.iast2 dRe_passes_56 g6 g7 ?_
  exact h
theorem bRe_passes_57 {l : Launch} {G : Gx} {d : Nat} {bc bs : Nat} {Φ : OutV → Mm → Prop} (M : Mm) (a0 : Nat) (x1 : Int32) (x2 : Int32) (x3 : Int32)
    (h : ((m_sh M a0).1 = 11) ∧ Φ (.inl none) (m_si M a0 41 ((m_i M a0 41) + 1))) :
    Ev l G d mRe_passes 57 [.ref a0, .int x1, .int x2, .int x3] [] M bc bs Φ := by
  refine Ev.aload_n dRe_passes_57 rfl ?_
  refine Ev.dup dRe_passes_58 rfl ?_
  have g1 := h.1
  replace h := h.2
  refine Ev.getI dRe_passes_59 (Or.inl fRe_301) rfl g1 ?_
  refine Ev.iconst (v := 1) dRe_passes_62 (by decide) ?_
  refine Ev.iadd dRe_passes_63 ?_
  refine Ev.putI dRe_passes_64 ⟨_, Or.inl ⟨fRe_301, (fun h => by cases h)⟩⟩ rfl ⟨rfl, rfl⟩ g1 ?_
  exact Ev.vret dRe_passes_67 rfl h
def mRe_call : MR := (⟨"BowingRowModel", "call", "(II)I"⟩, prog_14_method_61_code, 3, (Option.some .int))
theorem oRe_call : MOK mRe_call 2 := ⟨lwg_of 1708 (by decide +kernel) (by decide +kernel), lwg_of 103 (by decide +kernel) (by decide +kernel), ⟨by decide +kernel, by decide +kernel⟩, by decide +kernel, by decide⟩
theorem iRe_call : Cond.instanceMethod mRe_call.1 ∈ lwg := lwg_of 1706 (by decide +kernel) (by decide +kernel)
theorem sRe_call : Cond.selects mRe_call.1.cls mRe_call.1 mRe_call.1 ∈ lwg := lwg_of 1707 (by decide +kernel) (by decide +kernel)
theorem dRe_call_0 : decode mRe_call.2.1 0 = .ok (.aload_n 0, 1) := by decide +kernel
theorem dRe_call_1 : decode mRe_call.2.1 1 = .ok (.iconst 0, 1) := by decide +kernel
theorem dRe_call_2 : decode mRe_call.2.1 2 = .ok (.putfield 115, 3) := by decide +kernel
theorem dRe_call_5 : decode mRe_call.2.1 5 = .ok (.aload_n 0, 1) := by decide +kernel
theorem dRe_call_6 : decode mRe_call.2.1 6 = .ok (.invokevirtual 362, 3) := by decide +kernel
theorem dRe_call_9 : decode mRe_call.2.1 9 = .ok (.aload_n 0, 1) := by decide +kernel
theorem dRe_call_10 : decode mRe_call.2.1 10 = .ok (.iload_n 1, 1) := by decide +kernel
theorem dRe_call_11 : decode mRe_call.2.1 11 = .ok (.iconst 0, 1) := by decide +kernel
theorem dRe_call_12 : decode mRe_call.2.1 12 = .ok (.aload_n 0, 1) := by decide +kernel
theorem dRe_call_13 : decode mRe_call.2.1 13 = .ok (.getfield 307, 3) := by decide +kernel
theorem dRe_call_16 : decode mRe_call.2.1 16 = .ok (.iconst 1, 1) := by decide +kernel
theorem dRe_call_17 : decode mRe_call.2.1 17 = .ok (.isub, 1) := by decide +kernel
theorem dRe_call_18 : decode mRe_call.2.1 18 = .ok (.invokestatic 149, 3) := by decide +kernel
theorem dRe_call_21 : decode mRe_call.2.1 21 = .ok (.ifCond .ne 7, 3) := by decide +kernel
theorem dRe_call_24 : decode mRe_call.2.1 24 = .ok (.iconst 1, 1) := by decide +kernel
theorem dRe_call_25 : decode mRe_call.2.1 25 = .ok (.goto 4, 3) := by decide +kernel
theorem dRe_call_28 : decode mRe_call.2.1 28 = .ok (.iconst 0, 1) := by decide +kernel
theorem dRe_call_29 : decode mRe_call.2.1 29 = .ok (.iconst 1, 1) := by decide +kernel
theorem dRe_call_30 : decode mRe_call.2.1 30 = .ok (.invokevirtual 196, 3) := by decide +kernel
theorem dRe_call_33 : decode mRe_call.2.1 33 = .ok (.ifCond .ne 25, 3) := by decide +kernel
theorem dRe_call_36 : decode mRe_call.2.1 36 = .ok (.aload_n 0, 1) := by decide +kernel
theorem dRe_call_37 : decode mRe_call.2.1 37 = .ok (.iload_n 2, 1) := by decide +kernel
theorem dRe_call_38 : decode mRe_call.2.1 38 = .ok (.iconst 0, 1) := by decide +kernel
theorem dRe_call_39 : decode mRe_call.2.1 39 = .ok (.iconst 4, 1) := by decide +kernel
theorem dRe_call_40 : decode mRe_call.2.1 40 = .ok (.invokestatic 149, 3) := by decide +kernel
theorem dRe_call_43 : decode mRe_call.2.1 43 = .ok (.ifCond .ne 7, 3) := by decide +kernel
theorem dRe_call_46 : decode mRe_call.2.1 46 = .ok (.iconst 1, 1) := by decide +kernel
theorem dRe_call_47 : decode mRe_call.2.1 47 = .ok (.goto 4, 3) := by decide +kernel
theorem dRe_call_50 : decode mRe_call.2.1 50 = .ok (.iconst 0, 1) := by decide +kernel
theorem dRe_call_51 : decode mRe_call.2.1 51 = .ok (.iconst 2, 1) := by decide +kernel
theorem dRe_call_52 : decode mRe_call.2.1 52 = .ok (.invokevirtual 196, 3) := by decide +kernel
theorem dRe_call_55 : decode mRe_call.2.1 55 = .ok (.ifCond .eq 5, 3) := by decide +kernel
theorem dRe_call_58 : decode mRe_call.2.1 58 = .ok (.iconst 0, 1) := by decide +kernel
theorem dRe_call_59 : decode mRe_call.2.1 59 = .ok (.ireturn, 1) := by decide +kernel
theorem dRe_call_60 : decode mRe_call.2.1 60 = .ok (.iload_n 2, 1) := by decide +kernel
theorem dRe_call_61 : decode mRe_call.2.1 61 = .ok (.ifCond .ne 12, 3) := by decide +kernel
theorem dRe_call_64 : decode mRe_call.2.1 64 = .ok (.aload_n 0, 1) := by decide +kernel
theorem dRe_call_65 : decode mRe_call.2.1 65 = .ok (.getfield 73, 3) := by decide +kernel
theorem dRe_call_68 : decode mRe_call.2.1 68 = .ok (.iload_n 1, 1) := by decide +kernel
theorem dRe_call_69 : decode mRe_call.2.1 69 = .ok (.iaload, 1) := by decide +kernel
theorem dRe_call_70 : decode mRe_call.2.1 70 = .ok (.goto 51, 3) := by decide +kernel
theorem dRe_call_73 : decode mRe_call.2.1 73 = .ok (.iload_n 2, 1) := by decide +kernel
theorem dRe_call_74 : decode mRe_call.2.1 74 = .ok (.iconst 1, 1) := by decide +kernel
theorem dRe_call_75 : decode mRe_call.2.1 75 = .ok (.if_icmp .ne 12, 3) := by decide +kernel
theorem dRe_call_78 : decode mRe_call.2.1 78 = .ok (.aload_n 0, 1) := by decide +kernel
theorem dRe_call_79 : decode mRe_call.2.1 79 = .ok (.getfield 76, 3) := by decide +kernel
theorem dRe_call_82 : decode mRe_call.2.1 82 = .ok (.iload_n 1, 1) := by decide +kernel
theorem dRe_call_83 : decode mRe_call.2.1 83 = .ok (.iaload, 1) := by decide +kernel
theorem dRe_call_84 : decode mRe_call.2.1 84 = .ok (.goto 37, 3) := by decide +kernel
theorem dRe_call_87 : decode mRe_call.2.1 87 = .ok (.iload_n 2, 1) := by decide +kernel
theorem dRe_call_88 : decode mRe_call.2.1 88 = .ok (.iconst 2, 1) := by decide +kernel
theorem dRe_call_89 : decode mRe_call.2.1 89 = .ok (.if_icmp .ne 12, 3) := by decide +kernel
theorem dRe_call_92 : decode mRe_call.2.1 92 = .ok (.aload_n 0, 1) := by decide +kernel
theorem dRe_call_93 : decode mRe_call.2.1 93 = .ok (.getfield 79, 3) := by decide +kernel
theorem dRe_call_96 : decode mRe_call.2.1 96 = .ok (.iload_n 1, 1) := by decide +kernel
theorem dRe_call_97 : decode mRe_call.2.1 97 = .ok (.iaload, 1) := by decide +kernel
theorem dRe_call_98 : decode mRe_call.2.1 98 = .ok (.goto 23, 3) := by decide +kernel
theorem dRe_call_101 : decode mRe_call.2.1 101 = .ok (.iload_n 2, 1) := by decide +kernel
theorem dRe_call_102 : decode mRe_call.2.1 102 = .ok (.iconst 3, 1) := by decide +kernel
theorem dRe_call_103 : decode mRe_call.2.1 103 = .ok (.if_icmp .ne 12, 3) := by decide +kernel
theorem dRe_call_106 : decode mRe_call.2.1 106 = .ok (.aload_n 0, 1) := by decide +kernel
theorem dRe_call_107 : decode mRe_call.2.1 107 = .ok (.getfield 82, 3) := by decide +kernel
theorem dRe_call_110 : decode mRe_call.2.1 110 = .ok (.iload_n 1, 1) := by decide +kernel
theorem dRe_call_111 : decode mRe_call.2.1 111 = .ok (.iaload, 1) := by decide +kernel
theorem dRe_call_112 : decode mRe_call.2.1 112 = .ok (.goto 9, 3) := by decide +kernel
theorem dRe_call_115 : decode mRe_call.2.1 115 = .ok (.aload_n 0, 1) := by decide +kernel
theorem dRe_call_116 : decode mRe_call.2.1 116 = .ok (.getfield 85, 3) := by decide +kernel
theorem dRe_call_119 : decode mRe_call.2.1 119 = .ok (.iload_n 1, 1) := by decide +kernel
theorem dRe_call_120 : decode mRe_call.2.1 120 = .ok (.iaload, 1) := by decide +kernel
theorem dRe_call_121 : decode mRe_call.2.1 121 = .ok (.ireturn, 1) := by decide +kernel
theorem bRe_call_0 {l : Launch} {G : Gx} {d : Nat} {bc bs : Nat} {Φ : OutV → Mm → Prop} (M : Mm) (a0 : Nat) (x1 : Int32) (x2 : Int32)
    (h : ((m_sh M a0).1 = 11) ∧ CallVC l G d mRe_call 9 [.ref a0, .int x1, .int x2] [] mRe_asItIs [.ref a0] (m_si M a0 0 0) bc bs Φ) :
    Ev l G d mRe_call 0 [.ref a0, .int x1, .int x2] [] M bc bs Φ := by
  refine Ev.aload_n dRe_call_0 rfl ?_
  refine Ev.iconst (v := 0) dRe_call_1 (by decide) ?_
  have g1 := h.1
  replace h := h.2
  refine Ev.putI dRe_call_2 ⟨_, Or.inl ⟨fRe_115, (fun h => by cases h)⟩⟩ rfl ⟨rfl, rfl⟩ g1 ?_
  refine Ev.aload_n dRe_call_5 rfl ?_
  exact Ev.vcV (z := mRe_asItIs) (ci := 11) [] [] rfl dRe_call_6 oRe_asItIs rfl w1661 iRe_asItIs sRe_asItIs (by decide) rfl g1 (Nat.le_of_ble_eq_true rfl) h
theorem bRe_call_9 {l : Launch} {G : Gx} {d : Nat} {bc bs : Nat} {Φ : OutV → Mm → Prop} (M : Mm) (a0 : Nat) (x1 : Int32) (x2 : Int32)
    (h : ((m_sh M a0).1 = 11) ∧ CallVC l G d mRe_call 21 [.ref a0, .int x1, .int x2] [.ref a0] mRe_in [.int x1, .int 0, .int ((m_i M a0 40) - 1)] M bc bs Φ) :
    Ev l G d mRe_call 9 [.ref a0, .int x1, .int x2] [] M bc bs Φ := by
  refine Ev.aload_n dRe_call_9 rfl ?_
  refine Ev.iload_n dRe_call_10 rfl ?_
  refine Ev.iconst (v := 0) dRe_call_11 (by decide) ?_
  refine Ev.aload_n dRe_call_12 rfl ?_
  have g1 := h.1
  replace h := h.2
  refine Ev.getI dRe_call_13 (Or.inl fRe_307) rfl g1 ?_
  refine Ev.iconst (v := 1) dRe_call_16 (by decide) ?_
  refine Ev.isub dRe_call_17 ?_
  exact Ev.vcS (z := mRe_in) [.int x1, .int 0, .int ((m_i M a0 40) - 1)] [.ref a0] rfl dRe_call_18 oRe_in rfl w1476 iRe_in (Nat.le_of_ble_eq_true rfl) h
theorem bRe_call_21 {l : Launch} {G : Gx} {d : Nat} {bc bs : Nat} {Φ : OutV → Mm → Prop} (M : Mm) (a0 : Nat) (x1 : Int32) (x2 : Int32) (r0 : Nat) (s1 : Int32)
    (h : (¬ s1 = 0 → ((m_sh M r0).1 = 11) ∧ CallVC l G d mRe_call 33 [.ref a0, .int x1, .int x2] [] mRe_bad [.ref r0, .int 0, .int 1] M bc bs Φ) ∧ (s1 = 0 → ((m_sh M r0).1 = 11) ∧ CallVC l G d mRe_call 33 [.ref a0, .int x1, .int x2] [] mRe_bad [.ref r0, .int 1, .int 1] M bc bs Φ)) :
    Ev l G d mRe_call 21 [.ref a0, .int x1, .int x2] [.int s1, .ref r0] M bc bs Φ := by
  refine Ev.if_ne 28 (by decide) dRe_call_21 (fun c => ?_) (fun c => ?_)
  · replace h := h.1 c
    refine Ev.iconst (v := 0) dRe_call_28 (by decide) ?_
    refine Ev.iconst (v := 1) dRe_call_29 (by decide) ?_
    have g1 := h.1
    replace h := h.2
    exact Ev.vcV (z := mRe_bad) (ci := 11) [.int 0, .int 1] [] rfl dRe_call_30 oRe_bad rfl w1479 iRe_bad sRe_bad (by decide) rfl g1 (Nat.le_of_ble_eq_true rfl) h
  · replace h := h.2 c
    refine Ev.iconst (v := 1) dRe_call_24 (by decide) ?_
    refine Ev.goto 29 dRe_call_25 (by decide) ?_
    refine Ev.iconst (v := 1) dRe_call_29 (by decide) ?_
    have g2 := h.1
    replace h := h.2
    exact Ev.vcV (z := mRe_bad) (ci := 11) [.int 1, .int 1] [] rfl dRe_call_30 oRe_bad rfl w1479 iRe_bad sRe_bad (by decide) rfl g2 (Nat.le_of_ble_eq_true rfl) h
theorem bRe_call_33 {l : Launch} {G : Gx} {d : Nat} {bc bs : Nat} {Φ : OutV → Mm → Prop} (M : Mm) (a0 : Nat) (x1 : Int32) (x2 : Int32) (s0 : Int32)
    (h : (¬ s0 = 0 → Φ (.inl (some (.int 0))) M) ∧ (s0 = 0 → CallVC l G d mRe_call 43 [.ref a0, .int x1, .int x2] [.ref a0] mRe_in [.int x2, .int 0, .int 4] M bc bs Φ)) :
    Ev l G d mRe_call 33 [.ref a0, .int x1, .int x2] [.int s0] M bc bs Φ := by
  refine Ev.if_ne 58 (by decide) dRe_call_33 (fun c => ?_) (fun c => ?_)
  · replace h := h.1 c
    refine Ev.iconst (v := 0) dRe_call_58 (by decide) ?_
    exact Ev.iret dRe_call_59 rfl rfl h
  · replace h := h.2 c
    refine Ev.aload_n dRe_call_36 rfl ?_
    refine Ev.iload_n dRe_call_37 rfl ?_
    refine Ev.iconst (v := 0) dRe_call_38 (by decide) ?_
    refine Ev.iconst (v := 4) dRe_call_39 (by decide) ?_
    exact Ev.vcS (z := mRe_in) [.int x2, .int 0, .int 4] [.ref a0] rfl dRe_call_40 oRe_in rfl w1476 iRe_in (Nat.le_of_ble_eq_true rfl) h
theorem bRe_call_43 {l : Launch} {G : Gx} {d : Nat} {bc bs : Nat} {Φ : OutV → Mm → Prop} (M : Mm) (a0 : Nat) (x1 : Int32) (x2 : Int32) (r0 : Nat) (s1 : Int32)
    (h : (¬ s1 = 0 → ((m_sh M r0).1 = 11) ∧ CallVC l G d mRe_call 55 [.ref a0, .int x1, .int x2] [] mRe_bad [.ref r0, .int 0, .int 2] M bc bs Φ) ∧ (s1 = 0 → ((m_sh M r0).1 = 11) ∧ CallVC l G d mRe_call 55 [.ref a0, .int x1, .int x2] [] mRe_bad [.ref r0, .int 1, .int 2] M bc bs Φ)) :
    Ev l G d mRe_call 43 [.ref a0, .int x1, .int x2] [.int s1, .ref r0] M bc bs Φ := by
  refine Ev.if_ne 50 (by decide) dRe_call_43 (fun c => ?_) (fun c => ?_)
  · replace h := h.1 c
    refine Ev.iconst (v := 0) dRe_call_50 (by decide) ?_
    refine Ev.iconst (v := 2) dRe_call_51 (by decide) ?_
    have g1 := h.1
    replace h := h.2
    exact Ev.vcV (z := mRe_bad) (ci := 11) [.int 0, .int 2] [] rfl dRe_call_52 oRe_bad rfl w1479 iRe_bad sRe_bad (by decide) rfl g1 (Nat.le_of_ble_eq_true rfl) h
  · replace h := h.2 c
    refine Ev.iconst (v := 1) dRe_call_46 (by decide) ?_
    refine Ev.goto 51 dRe_call_47 (by decide) ?_
    refine Ev.iconst (v := 2) dRe_call_51 (by decide) ?_
    have g2 := h.1
    replace h := h.2
    exact Ev.vcV (z := mRe_bad) (ci := 11) [.int 1, .int 2] [] rfl dRe_call_52 oRe_bad rfl w1479 iRe_bad sRe_bad (by decide) rfl g2 (Nat.le_of_ble_eq_true rfl) h
theorem bRe_call_55 {l : Launch} {G : Gx} {d : Nat} {bc bs : Nat} {Φ : OutV → Mm → Prop} (M : Mm) (a0 : Nat) (x1 : Int32) (x2 : Int32) (s0 : Int32)
    (h : (s0 = 0 → (¬ x2 = 0 → (¬ x2 = 1 → (¬ x2 = 2 → (¬ x2 = 3 → ((m_sh M a0).1 = 11) ∧ ((m_sh M (m_r M a0 49)).1 = 20) ∧ (vp_in x1 (m_sh M (m_r M a0 49)).2) ∧ Φ (.inl (some (.int (m_i M (m_r M a0 49) x1.toNatClampNeg)))) M) ∧ (x2 = 3 → ((m_sh M a0).1 = 11) ∧ ((m_sh M (m_r M a0 48)).1 = 20) ∧ (vp_in x1 (m_sh M (m_r M a0 48)).2) ∧ Φ (.inl (some (.int (m_i M (m_r M a0 48) x1.toNatClampNeg)))) M)) ∧ (x2 = 2 → ((m_sh M a0).1 = 11) ∧ ((m_sh M (m_r M a0 47)).1 = 20) ∧ (vp_in x1 (m_sh M (m_r M a0 47)).2) ∧ Φ (.inl (some (.int (m_i M (m_r M a0 47) x1.toNatClampNeg)))) M)) ∧ (x2 = 1 → ((m_sh M a0).1 = 11) ∧ ((m_sh M (m_r M a0 46)).1 = 20) ∧ (vp_in x1 (m_sh M (m_r M a0 46)).2) ∧ Φ (.inl (some (.int (m_i M (m_r M a0 46) x1.toNatClampNeg)))) M)) ∧ (x2 = 0 → ((m_sh M a0).1 = 11) ∧ ((m_sh M (m_r M a0 45)).1 = 20) ∧ (vp_in x1 (m_sh M (m_r M a0 45)).2) ∧ Φ (.inl (some (.int (m_i M (m_r M a0 45) x1.toNatClampNeg)))) M)) ∧ (¬ s0 = 0 → Φ (.inl (some (.int 0))) M)) :
    Ev l G d mRe_call 55 [.ref a0, .int x1, .int x2] [.int s0] M bc bs Φ := by
  refine Ev.if_eq 60 (by decide) dRe_call_55 (fun c => ?_) (fun c => ?_)
  · replace h := h.1 c
    refine Ev.iload_n dRe_call_60 rfl ?_
    refine Ev.if_ne 73 (by decide) dRe_call_61 (fun c => ?_) (fun c => ?_)
    · replace h := h.1 c
      refine Ev.iload_n dRe_call_73 rfl ?_
      refine Ev.iconst (v := 1) dRe_call_74 (by decide) ?_
      refine Ev.icmp_ne 87 (by decide) dRe_call_75 (fun c => ?_) (fun c => ?_)
      · replace h := h.1 c
        refine Ev.iload_n dRe_call_87 rfl ?_
        refine Ev.iconst (v := 2) dRe_call_88 (by decide) ?_
        refine Ev.icmp_ne 101 (by decide) dRe_call_89 (fun c => ?_) (fun c => ?_)
        · replace h := h.1 c
          refine Ev.iload_n dRe_call_101 rfl ?_
          refine Ev.iconst (v := 3) dRe_call_102 (by decide) ?_
          refine Ev.icmp_ne 115 (by decide) dRe_call_103 (fun c => ?_) (fun c => ?_)
          · replace h := h.1 c
            refine Ev.aload_n dRe_call_115 rfl ?_
            have g1 := h.1
            replace h := h.2
            refine Ev.getR dRe_call_116 (Or.inl fRe_85) rfl g1 ?_
            refine Ev.iload_n dRe_call_119 rfl ?_
            have g2 := h.1
            replace h := h.2
            have g3 := h.1
            replace h := h.2
            refine Ev.iald2 dRe_call_120 g2 g3 ?_
            exact Ev.iret dRe_call_121 rfl rfl h
          · replace h := h.2 c
            refine Ev.aload_n dRe_call_106 rfl ?_
            have g4 := h.1
            replace h := h.2
            refine Ev.getR dRe_call_107 (Or.inl fRe_82) rfl g4 ?_
            refine Ev.iload_n dRe_call_110 rfl ?_
            have g5 := h.1
            replace h := h.2
            have g6 := h.1
            replace h := h.2
            refine Ev.iald2 dRe_call_111 g5 g6 ?_
            refine Ev.goto 121 dRe_call_112 (by decide) ?_
            exact Ev.iret dRe_call_121 rfl rfl h
        · replace h := h.2 c
          refine Ev.aload_n dRe_call_92 rfl ?_
          have g7 := h.1
          replace h := h.2
          refine Ev.getR dRe_call_93 (Or.inl fRe_79) rfl g7 ?_
          refine Ev.iload_n dRe_call_96 rfl ?_
          have g8 := h.1
          replace h := h.2
          have g9 := h.1
          replace h := h.2
          refine Ev.iald2 dRe_call_97 g8 g9 ?_
          refine Ev.goto 121 dRe_call_98 (by decide) ?_
          exact Ev.iret dRe_call_121 rfl rfl h
      · replace h := h.2 c
        refine Ev.aload_n dRe_call_78 rfl ?_
        have g10 := h.1
        replace h := h.2
        refine Ev.getR dRe_call_79 (Or.inl fRe_76) rfl g10 ?_
        refine Ev.iload_n dRe_call_82 rfl ?_
        have g11 := h.1
        replace h := h.2
        have g12 := h.1
        replace h := h.2
        refine Ev.iald2 dRe_call_83 g11 g12 ?_
        refine Ev.goto 121 dRe_call_84 (by decide) ?_
        exact Ev.iret dRe_call_121 rfl rfl h
    · replace h := h.2 c
      refine Ev.aload_n dRe_call_64 rfl ?_
      have g13 := h.1
      replace h := h.2
      refine Ev.getR dRe_call_65 (Or.inl fRe_73) rfl g13 ?_
      refine Ev.iload_n dRe_call_68 rfl ?_
      have g14 := h.1
      replace h := h.2
      have g15 := h.1
      replace h := h.2
      refine Ev.iald2 dRe_call_69 g14 g15 ?_
      refine Ev.goto 121 dRe_call_70 (by decide) ?_
      exact Ev.iret dRe_call_121 rfl rfl h
  · replace h := h.2 c
    refine Ev.iconst (v := 0) dRe_call_58 (by decide) ?_
    exact Ev.iret dRe_call_59 rfl rfl h
def mRe_holder : MR := (⟨"BowingRowModel", "holder", "(II)I"⟩, prog_14_method_62_code, 3, (Option.some .int))
theorem oRe_holder : MOK mRe_holder 2 := ⟨lwg_of 1712 (by decide +kernel) (by decide +kernel), lwg_of 103 (by decide +kernel) (by decide +kernel), ⟨by decide +kernel, by decide +kernel⟩, by decide +kernel, by decide⟩
theorem iRe_holder : Cond.instanceMethod mRe_holder.1 ∈ lwg := lwg_of 1710 (by decide +kernel) (by decide +kernel)
theorem sRe_holder : Cond.selects mRe_holder.1.cls mRe_holder.1 mRe_holder.1 ∈ lwg := lwg_of 1711 (by decide +kernel) (by decide +kernel)
theorem dRe_holder_0 : decode mRe_holder.2.1 0 = .ok (.aload_n 0, 1) := by decide +kernel
theorem dRe_holder_1 : decode mRe_holder.2.1 1 = .ok (.iconst 0, 1) := by decide +kernel
theorem dRe_holder_2 : decode mRe_holder.2.1 2 = .ok (.putfield 115, 3) := by decide +kernel
theorem dRe_holder_5 : decode mRe_holder.2.1 5 = .ok (.aload_n 0, 1) := by decide +kernel
theorem dRe_holder_6 : decode mRe_holder.2.1 6 = .ok (.invokevirtual 362, 3) := by decide +kernel
theorem dRe_holder_9 : decode mRe_holder.2.1 9 = .ok (.aload_n 0, 1) := by decide +kernel
theorem dRe_holder_10 : decode mRe_holder.2.1 10 = .ok (.iload_n 1, 1) := by decide +kernel
theorem dRe_holder_11 : decode mRe_holder.2.1 11 = .ok (.iconst 0, 1) := by decide +kernel
theorem dRe_holder_12 : decode mRe_holder.2.1 12 = .ok (.aload_n 0, 1) := by decide +kernel
theorem dRe_holder_13 : decode mRe_holder.2.1 13 = .ok (.getfield 307, 3) := by decide +kernel
theorem dRe_holder_16 : decode mRe_holder.2.1 16 = .ok (.iconst 1, 1) := by decide +kernel
theorem dRe_holder_17 : decode mRe_holder.2.1 17 = .ok (.isub, 1) := by decide +kernel
theorem dRe_holder_18 : decode mRe_holder.2.1 18 = .ok (.invokestatic 149, 3) := by decide +kernel
theorem dRe_holder_21 : decode mRe_holder.2.1 21 = .ok (.ifCond .ne 7, 3) := by decide +kernel
theorem dRe_holder_24 : decode mRe_holder.2.1 24 = .ok (.iconst 1, 1) := by decide +kernel
theorem dRe_holder_25 : decode mRe_holder.2.1 25 = .ok (.goto 4, 3) := by decide +kernel
theorem dRe_holder_28 : decode mRe_holder.2.1 28 = .ok (.iconst 0, 1) := by decide +kernel
theorem dRe_holder_29 : decode mRe_holder.2.1 29 = .ok (.iconst 1, 1) := by decide +kernel
theorem dRe_holder_30 : decode mRe_holder.2.1 30 = .ok (.invokevirtual 196, 3) := by decide +kernel
theorem dRe_holder_33 : decode mRe_holder.2.1 33 = .ok (.ifCond .eq 5, 3) := by decide +kernel
theorem dRe_holder_36 : decode mRe_holder.2.1 36 = .ok (.iconst 0, 1) := by decide +kernel
theorem dRe_holder_37 : decode mRe_holder.2.1 37 = .ok (.ireturn, 1) := by decide +kernel
theorem dRe_holder_38 : decode mRe_holder.2.1 38 = .ok (.iload_n 2, 1) := by decide +kernel
theorem dRe_holder_39 : decode mRe_holder.2.1 39 = .ok (.iconst 0, 1) := by decide +kernel
theorem dRe_holder_40 : decode mRe_holder.2.1 40 = .ok (.aload_n 0, 1) := by decide +kernel
theorem dRe_holder_41 : decode mRe_holder.2.1 41 = .ok (.getfield 88, 3) := by decide +kernel
theorem dRe_holder_44 : decode mRe_holder.2.1 44 = .ok (.iload_n 1, 1) := by decide +kernel
theorem dRe_holder_45 : decode mRe_holder.2.1 45 = .ok (.iaload, 1) := by decide +kernel
theorem dRe_holder_46 : decode mRe_holder.2.1 46 = .ok (.iconst 1, 1) := by decide +kernel
theorem dRe_holder_47 : decode mRe_holder.2.1 47 = .ok (.isub, 1) := by decide +kernel
theorem dRe_holder_48 : decode mRe_holder.2.1 48 = .ok (.invokestatic 149, 3) := by decide +kernel
theorem dRe_holder_51 : decode mRe_holder.2.1 51 = .ok (.ifCond .eq 14, 3) := by decide +kernel
theorem dRe_holder_54 : decode mRe_holder.2.1 54 = .ok (.aload_n 0, 1) := by decide +kernel
theorem dRe_holder_55 : decode mRe_holder.2.1 55 = .ok (.getfield 94, 3) := by decide +kernel
theorem dRe_holder_58 : decode mRe_holder.2.1 58 = .ok (.iload_n 1, 1) := by decide +kernel
theorem dRe_holder_59 : decode mRe_holder.2.1 59 = .ok (.aaload, 1) := by decide +kernel
theorem dRe_holder_60 : decode mRe_holder.2.1 60 = .ok (.iload_n 2, 1) := by decide +kernel
theorem dRe_holder_61 : decode mRe_holder.2.1 61 = .ok (.iaload, 1) := by decide +kernel
theorem dRe_holder_62 : decode mRe_holder.2.1 62 = .ok (.goto 4, 3) := by decide +kernel
theorem dRe_holder_65 : decode mRe_holder.2.1 65 = .ok (.iconst (-1), 1) := by decide +kernel
theorem dRe_holder_66 : decode mRe_holder.2.1 66 = .ok (.ireturn, 1) := by decide +kernel
theorem bRe_holder_0 {l : Launch} {G : Gx} {d : Nat} {bc bs : Nat} {Φ : OutV → Mm → Prop} (M : Mm) (a0 : Nat) (x1 : Int32) (x2 : Int32)
    (h : ((m_sh M a0).1 = 11) ∧ CallVC l G d mRe_holder 9 [.ref a0, .int x1, .int x2] [] mRe_asItIs [.ref a0] (m_si M a0 0 0) bc bs Φ) :
    Ev l G d mRe_holder 0 [.ref a0, .int x1, .int x2] [] M bc bs Φ := by
  refine Ev.aload_n dRe_holder_0 rfl ?_
  refine Ev.iconst (v := 0) dRe_holder_1 (by decide) ?_
  have g1 := h.1
  replace h := h.2
  refine Ev.putI dRe_holder_2 ⟨_, Or.inl ⟨fRe_115, (fun h => by cases h)⟩⟩ rfl ⟨rfl, rfl⟩ g1 ?_
  refine Ev.aload_n dRe_holder_5 rfl ?_
  exact Ev.vcV (z := mRe_asItIs) (ci := 11) [] [] rfl dRe_holder_6 oRe_asItIs rfl w1661 iRe_asItIs sRe_asItIs (by decide) rfl g1 (Nat.le_of_ble_eq_true rfl) h
theorem bRe_holder_9 {l : Launch} {G : Gx} {d : Nat} {bc bs : Nat} {Φ : OutV → Mm → Prop} (M : Mm) (a0 : Nat) (x1 : Int32) (x2 : Int32)
    (h : ((m_sh M a0).1 = 11) ∧ CallVC l G d mRe_holder 21 [.ref a0, .int x1, .int x2] [.ref a0] mRe_in [.int x1, .int 0, .int ((m_i M a0 40) - 1)] M bc bs Φ) :
    Ev l G d mRe_holder 9 [.ref a0, .int x1, .int x2] [] M bc bs Φ := by
  refine Ev.aload_n dRe_holder_9 rfl ?_
  refine Ev.iload_n dRe_holder_10 rfl ?_
  refine Ev.iconst (v := 0) dRe_holder_11 (by decide) ?_
  refine Ev.aload_n dRe_holder_12 rfl ?_
  have g1 := h.1
  replace h := h.2
  refine Ev.getI dRe_holder_13 (Or.inl fRe_307) rfl g1 ?_
  refine Ev.iconst (v := 1) dRe_holder_16 (by decide) ?_
  refine Ev.isub dRe_holder_17 ?_
  exact Ev.vcS (z := mRe_in) [.int x1, .int 0, .int ((m_i M a0 40) - 1)] [.ref a0] rfl dRe_holder_18 oRe_in rfl w1476 iRe_in (Nat.le_of_ble_eq_true rfl) h
theorem bRe_holder_21 {l : Launch} {G : Gx} {d : Nat} {bc bs : Nat} {Φ : OutV → Mm → Prop} (M : Mm) (a0 : Nat) (x1 : Int32) (x2 : Int32) (r0 : Nat) (s1 : Int32)
    (h : (¬ s1 = 0 → ((m_sh M r0).1 = 11) ∧ CallVC l G d mRe_holder 33 [.ref a0, .int x1, .int x2] [] mRe_bad [.ref r0, .int 0, .int 1] M bc bs Φ) ∧ (s1 = 0 → ((m_sh M r0).1 = 11) ∧ CallVC l G d mRe_holder 33 [.ref a0, .int x1, .int x2] [] mRe_bad [.ref r0, .int 1, .int 1] M bc bs Φ)) :
    Ev l G d mRe_holder 21 [.ref a0, .int x1, .int x2] [.int s1, .ref r0] M bc bs Φ := by
  refine Ev.if_ne 28 (by decide) dRe_holder_21 (fun c => ?_) (fun c => ?_)
  · replace h := h.1 c
    refine Ev.iconst (v := 0) dRe_holder_28 (by decide) ?_
    refine Ev.iconst (v := 1) dRe_holder_29 (by decide) ?_
    have g1 := h.1
    replace h := h.2
    exact Ev.vcV (z := mRe_bad) (ci := 11) [.int 0, .int 1] [] rfl dRe_holder_30 oRe_bad rfl w1479 iRe_bad sRe_bad (by decide) rfl g1 (Nat.le_of_ble_eq_true rfl) h
  · replace h := h.2 c
    refine Ev.iconst (v := 1) dRe_holder_24 (by decide) ?_
    refine Ev.goto 29 dRe_holder_25 (by decide) ?_
    refine Ev.iconst (v := 1) dRe_holder_29 (by decide) ?_
    have g2 := h.1
    replace h := h.2
    exact Ev.vcV (z := mRe_bad) (ci := 11) [.int 1, .int 1] [] rfl dRe_holder_30 oRe_bad rfl w1479 iRe_bad sRe_bad (by decide) rfl g2 (Nat.le_of_ble_eq_true rfl) h
theorem bRe_holder_33 {l : Launch} {G : Gx} {d : Nat} {bc bs : Nat} {Φ : OutV → Mm → Prop} (M : Mm) (a0 : Nat) (x1 : Int32) (x2 : Int32) (s0 : Int32)
    (h : (s0 = 0 → ((m_sh M a0).1 = 11) ∧ ((m_sh M (m_r M a0 50)).1 = 20) ∧ (vp_in x1 (m_sh M (m_r M a0 50)).2) ∧ CallVC l G d mRe_holder 51 [.ref a0, .int x1, .int x2] [] mRe_in [.int x2, .int 0, .int ((m_i M (m_r M a0 50) x1.toNatClampNeg) - 1)] M bc bs Φ) ∧ (¬ s0 = 0 → Φ (.inl (some (.int 0))) M)) :
    Ev l G d mRe_holder 33 [.ref a0, .int x1, .int x2] [.int s0] M bc bs Φ := by
  refine Ev.if_eq 38 (by decide) dRe_holder_33 (fun c => ?_) (fun c => ?_)
  · replace h := h.1 c
    refine Ev.iload_n dRe_holder_38 rfl ?_
    refine Ev.iconst (v := 0) dRe_holder_39 (by decide) ?_
    refine Ev.aload_n dRe_holder_40 rfl ?_
    have g1 := h.1
    replace h := h.2
    refine Ev.getR dRe_holder_41 (Or.inl fRe_88) rfl g1 ?_
    refine Ev.iload_n dRe_holder_44 rfl ?_
    have g2 := h.1
    replace h := h.2
    have g3 := h.1
    replace h := h.2
    refine Ev.iald2 dRe_holder_45 g2 g3 ?_
    refine Ev.iconst (v := 1) dRe_holder_46 (by decide) ?_
    refine Ev.isub dRe_holder_47 ?_
    exact Ev.vcS (z := mRe_in) [.int x2, .int 0, .int ((m_i M (m_r M a0 50) x1.toNatClampNeg) - 1)] [] rfl dRe_holder_48 oRe_in rfl w1476 iRe_in (Nat.le_of_ble_eq_true rfl) h
  · replace h := h.2 c
    refine Ev.iconst (v := 0) dRe_holder_36 (by decide) ?_
    exact Ev.iret dRe_holder_37 rfl rfl h
theorem bRe_holder_51 {l : Launch} {G : Gx} {d : Nat} {bc bs : Nat} {Φ : OutV → Mm → Prop} (M : Mm) (a0 : Nat) (x1 : Int32) (x2 : Int32) (s0 : Int32)
    (h : (s0 = 0 → Φ (.inl (some (.int ((-1))))) M) ∧ (¬ s0 = 0 → ((m_sh M a0).1 = 11) ∧ ((m_sh M (m_r M a0 52)).1 = 33) ∧ (vp_in x1 (m_sh M (m_r M a0 52)).2) ∧ ((m_sh M (m_r M (m_r M a0 52) x1.toNatClampNeg)).1 = 20) ∧ (vp_in x2 (m_sh M (m_r M (m_r M a0 52) x1.toNatClampNeg)).2) ∧ Φ (.inl (some (.int (m_i M (m_r M (m_r M a0 52) x1.toNatClampNeg) x2.toNatClampNeg)))) M)) :
    Ev l G d mRe_holder 51 [.ref a0, .int x1, .int x2] [.int s0] M bc bs Φ := by
  refine Ev.if_eq 65 (by decide) dRe_holder_51 (fun c => ?_) (fun c => ?_)
  · replace h := h.1 c
    refine Ev.iconst (v := (-1)) dRe_holder_65 (by decide) ?_
    exact Ev.iret dRe_holder_66 rfl rfl h
  · replace h := h.2 c
    refine Ev.aload_n dRe_holder_54 rfl ?_
    have g1 := h.1
    replace h := h.2
    refine Ev.getR dRe_holder_55 (Or.inl fRe_94) rfl g1 ?_
    refine Ev.iload_n dRe_holder_58 rfl ?_
    have g2 := h.1
    replace h := h.2
    have g3 := h.1
    replace h := h.2
    refine Ev.aald2 33 (by decide) dRe_holder_59 g2 g3 ?_
    refine Ev.iload_n dRe_holder_60 rfl ?_
    have g4 := h.1
    replace h := h.2
    have g5 := h.1
    replace h := h.2
    refine Ev.iald2 dRe_holder_61 g4 g5 ?_
    refine Ev.goto 66 dRe_holder_62 (by decide) ?_
    exact Ev.iret dRe_holder_66 rfl rfl h
def mRe_ends : MR := (⟨"BowingRowModel", "ends", "(I)I"⟩, prog_14_method_63_code, 2, (Option.some .int))
theorem oRe_ends : MOK mRe_ends 1 := ⟨lwg_of 1716 (by decide +kernel) (by decide +kernel), lwg_of 103 (by decide +kernel) (by decide +kernel), ⟨by decide +kernel, by decide +kernel⟩, by decide +kernel, by decide⟩
theorem iRe_ends : Cond.instanceMethod mRe_ends.1 ∈ lwg := lwg_of 1714 (by decide +kernel) (by decide +kernel)
theorem sRe_ends : Cond.selects mRe_ends.1.cls mRe_ends.1 mRe_ends.1 ∈ lwg := lwg_of 1715 (by decide +kernel) (by decide +kernel)
theorem dRe_ends_0 : decode mRe_ends.2.1 0 = .ok (.aload_n 0, 1) := by decide +kernel
theorem dRe_ends_1 : decode mRe_ends.2.1 1 = .ok (.iconst 0, 1) := by decide +kernel
theorem dRe_ends_2 : decode mRe_ends.2.1 2 = .ok (.putfield 115, 3) := by decide +kernel
theorem dRe_ends_5 : decode mRe_ends.2.1 5 = .ok (.aload_n 0, 1) := by decide +kernel
theorem dRe_ends_6 : decode mRe_ends.2.1 6 = .ok (.aload_n 0, 1) := by decide +kernel
theorem dRe_ends_7 : decode mRe_ends.2.1 7 = .ok (.iload_n 1, 1) := by decide +kernel
theorem dRe_ends_8 : decode mRe_ends.2.1 8 = .ok (.invokevirtual 285, 3) := by decide +kernel
theorem dRe_ends_11 : decode mRe_ends.2.1 11 = .ok (.ifCond .ne 7, 3) := by decide +kernel
theorem dRe_ends_14 : decode mRe_ends.2.1 14 = .ok (.iconst 1, 1) := by decide +kernel
theorem dRe_ends_15 : decode mRe_ends.2.1 15 = .ok (.goto 4, 3) := by decide +kernel
theorem dRe_ends_18 : decode mRe_ends.2.1 18 = .ok (.iconst 0, 1) := by decide +kernel
theorem dRe_ends_19 : decode mRe_ends.2.1 19 = .ok (.iconst 1, 1) := by decide +kernel
theorem dRe_ends_20 : decode mRe_ends.2.1 20 = .ok (.invokevirtual 196, 3) := by decide +kernel
theorem dRe_ends_23 : decode mRe_ends.2.1 23 = .ok (.ifCond .eq 5, 3) := by decide +kernel
theorem dRe_ends_26 : decode mRe_ends.2.1 26 = .ok (.iconst 0, 1) := by decide +kernel
theorem dRe_ends_27 : decode mRe_ends.2.1 27 = .ok (.ireturn, 1) := by decide +kernel
theorem dRe_ends_28 : decode mRe_ends.2.1 28 = .ok (.aload_n 0, 1) := by decide +kernel
theorem dRe_ends_29 : decode mRe_ends.2.1 29 = .ok (.invokevirtual 362, 3) := by decide +kernel
theorem dRe_ends_32 : decode mRe_ends.2.1 32 = .ok (.aload_n 0, 1) := by decide +kernel
theorem dRe_ends_33 : decode mRe_ends.2.1 33 = .ok (.getfield 91, 3) := by decide +kernel
theorem dRe_ends_36 : decode mRe_ends.2.1 36 = .ok (.iload_n 1, 1) := by decide +kernel
theorem dRe_ends_37 : decode mRe_ends.2.1 37 = .ok (.iaload, 1) := by decide +kernel
theorem dRe_ends_38 : decode mRe_ends.2.1 38 = .ok (.ireturn, 1) := by decide +kernel
theorem bRe_ends_0 {l : Launch} {G : Gx} {d : Nat} {bc bs : Nat} {Φ : OutV → Mm → Prop} (M : Mm) (a0 : Nat) (x1 : Int32)
    (h : ((m_sh M a0).1 = 11) ∧ CallVC l G d mRe_ends 11 [.ref a0, .int x1] [.ref a0] mRe_isPerson [.ref a0, .int x1] (m_si M a0 0 0) bc bs Φ) :
    Ev l G d mRe_ends 0 [.ref a0, .int x1] [] M bc bs Φ := by
  refine Ev.aload_n dRe_ends_0 rfl ?_
  refine Ev.iconst (v := 0) dRe_ends_1 (by decide) ?_
  have g1 := h.1
  replace h := h.2
  refine Ev.putI dRe_ends_2 ⟨_, Or.inl ⟨fRe_115, (fun h => by cases h)⟩⟩ rfl ⟨rfl, rfl⟩ g1 ?_
  refine Ev.aload_n dRe_ends_5 rfl ?_
  refine Ev.aload_n dRe_ends_6 rfl ?_
  refine Ev.iload_n dRe_ends_7 rfl ?_
  exact Ev.vcV (z := mRe_isPerson) (ci := 11) [.int x1] [.ref a0] rfl dRe_ends_8 oRe_isPerson rfl w1618 iRe_isPerson sRe_isPerson (by decide) rfl g1 (Nat.le_of_ble_eq_true rfl) h
theorem bRe_ends_11 {l : Launch} {G : Gx} {d : Nat} {bc bs : Nat} {Φ : OutV → Mm → Prop} (M : Mm) (a0 : Nat) (x1 : Int32) (r0 : Nat) (s1 : Int32)
    (h : (¬ s1 = 0 → ((m_sh M r0).1 = 11) ∧ CallVC l G d mRe_ends 23 [.ref a0, .int x1] [] mRe_bad [.ref r0, .int 0, .int 1] M bc bs Φ) ∧ (s1 = 0 → ((m_sh M r0).1 = 11) ∧ CallVC l G d mRe_ends 23 [.ref a0, .int x1] [] mRe_bad [.ref r0, .int 1, .int 1] M bc bs Φ)) :
    Ev l G d mRe_ends 11 [.ref a0, .int x1] [.int s1, .ref r0] M bc bs Φ := by
  refine Ev.if_ne 18 (by decide) dRe_ends_11 (fun c => ?_) (fun c => ?_)
  · replace h := h.1 c
    refine Ev.iconst (v := 0) dRe_ends_18 (by decide) ?_
    refine Ev.iconst (v := 1) dRe_ends_19 (by decide) ?_
    have g1 := h.1
    replace h := h.2
    exact Ev.vcV (z := mRe_bad) (ci := 11) [.int 0, .int 1] [] rfl dRe_ends_20 oRe_bad rfl w1479 iRe_bad sRe_bad (by decide) rfl g1 (Nat.le_of_ble_eq_true rfl) h
  · replace h := h.2 c
    refine Ev.iconst (v := 1) dRe_ends_14 (by decide) ?_
    refine Ev.goto 19 dRe_ends_15 (by decide) ?_
    refine Ev.iconst (v := 1) dRe_ends_19 (by decide) ?_
    have g2 := h.1
    replace h := h.2
    exact Ev.vcV (z := mRe_bad) (ci := 11) [.int 1, .int 1] [] rfl dRe_ends_20 oRe_bad rfl w1479 iRe_bad sRe_bad (by decide) rfl g2 (Nat.le_of_ble_eq_true rfl) h
theorem bRe_ends_23 {l : Launch} {G : Gx} {d : Nat} {bc bs : Nat} {Φ : OutV → Mm → Prop} (M : Mm) (a0 : Nat) (x1 : Int32) (s0 : Int32)
    (h : (s0 = 0 → ((m_sh M a0).1 = 11) ∧ CallVC l G d mRe_ends 32 [.ref a0, .int x1] [] mRe_asItIs [.ref a0] M bc bs Φ) ∧ (¬ s0 = 0 → Φ (.inl (some (.int 0))) M)) :
    Ev l G d mRe_ends 23 [.ref a0, .int x1] [.int s0] M bc bs Φ := by
  refine Ev.if_eq 28 (by decide) dRe_ends_23 (fun c => ?_) (fun c => ?_)
  · replace h := h.1 c
    refine Ev.aload_n dRe_ends_28 rfl ?_
    have g1 := h.1
    replace h := h.2
    exact Ev.vcV (z := mRe_asItIs) (ci := 11) [] [] rfl dRe_ends_29 oRe_asItIs rfl w1661 iRe_asItIs sRe_asItIs (by decide) rfl g1 (Nat.le_of_ble_eq_true rfl) h
  · replace h := h.2 c
    refine Ev.iconst (v := 0) dRe_ends_26 (by decide) ?_
    exact Ev.iret dRe_ends_27 rfl rfl h
theorem bRe_ends_32 {l : Launch} {G : Gx} {d : Nat} {bc bs : Nat} {Φ : OutV → Mm → Prop} (M : Mm) (a0 : Nat) (x1 : Int32)
    (h : ((m_sh M a0).1 = 11) ∧ ((m_sh M (m_r M a0 51)).1 = 20) ∧ (vp_in x1 (m_sh M (m_r M a0 51)).2) ∧ Φ (.inl (some (.int (m_i M (m_r M a0 51) x1.toNatClampNeg)))) M) :
    Ev l G d mRe_ends 32 [.ref a0, .int x1] [] M bc bs Φ := by
  refine Ev.aload_n dRe_ends_32 rfl ?_
  have g1 := h.1
  replace h := h.2
  refine Ev.getR dRe_ends_33 (Or.inl fRe_91) rfl g1 ?_
  refine Ev.iload_n dRe_ends_36 rfl ?_
  have g2 := h.1
  replace h := h.2
  have g3 := h.1
  replace h := h.2
  refine Ev.iald2 dRe_ends_37 g2 g3 ?_
  exact Ev.iret dRe_ends_38 rfl rfl h
def mRe_balance : MR := (⟨"BowingRowModel", "balance", "(I)I"⟩, prog_14_method_64_code, 2, (Option.some .int))
theorem oRe_balance : MOK mRe_balance 1 := ⟨lwg_of 1720 (by decide +kernel) (by decide +kernel), lwg_of 103 (by decide +kernel) (by decide +kernel), ⟨by decide +kernel, by decide +kernel⟩, by decide +kernel, by decide⟩
theorem iRe_balance : Cond.instanceMethod mRe_balance.1 ∈ lwg := lwg_of 1718 (by decide +kernel) (by decide +kernel)
theorem sRe_balance : Cond.selects mRe_balance.1.cls mRe_balance.1 mRe_balance.1 ∈ lwg := lwg_of 1719 (by decide +kernel) (by decide +kernel)
theorem dRe_balance_0 : decode mRe_balance.2.1 0 = .ok (.aload_n 0, 1) := by decide +kernel
theorem dRe_balance_1 : decode mRe_balance.2.1 1 = .ok (.iconst 0, 1) := by decide +kernel
theorem dRe_balance_2 : decode mRe_balance.2.1 2 = .ok (.putfield 115, 3) := by decide +kernel
theorem dRe_balance_5 : decode mRe_balance.2.1 5 = .ok (.aload_n 0, 1) := by decide +kernel
theorem dRe_balance_6 : decode mRe_balance.2.1 6 = .ok (.aload_n 0, 1) := by decide +kernel
theorem dRe_balance_7 : decode mRe_balance.2.1 7 = .ok (.iload_n 1, 1) := by decide +kernel
theorem dRe_balance_8 : decode mRe_balance.2.1 8 = .ok (.invokevirtual 285, 3) := by decide +kernel
theorem dRe_balance_11 : decode mRe_balance.2.1 11 = .ok (.ifCond .ne 7, 3) := by decide +kernel
theorem dRe_balance_14 : decode mRe_balance.2.1 14 = .ok (.iconst 1, 1) := by decide +kernel
theorem dRe_balance_15 : decode mRe_balance.2.1 15 = .ok (.goto 4, 3) := by decide +kernel
theorem dRe_balance_18 : decode mRe_balance.2.1 18 = .ok (.iconst 0, 1) := by decide +kernel
theorem dRe_balance_19 : decode mRe_balance.2.1 19 = .ok (.iconst 1, 1) := by decide +kernel
theorem dRe_balance_20 : decode mRe_balance.2.1 20 = .ok (.invokevirtual 196, 3) := by decide +kernel
theorem dRe_balance_23 : decode mRe_balance.2.1 23 = .ok (.ifCond .eq 5, 3) := by decide +kernel
theorem dRe_balance_26 : decode mRe_balance.2.1 26 = .ok (.iconst 0, 1) := by decide +kernel
theorem dRe_balance_27 : decode mRe_balance.2.1 27 = .ok (.ireturn, 1) := by decide +kernel
theorem dRe_balance_28 : decode mRe_balance.2.1 28 = .ok (.aload_n 0, 1) := by decide +kernel
theorem dRe_balance_29 : decode mRe_balance.2.1 29 = .ok (.invokevirtual 362, 3) := by decide +kernel
theorem dRe_balance_32 : decode mRe_balance.2.1 32 = .ok (.aload_n 0, 1) := by decide +kernel
theorem dRe_balance_33 : decode mRe_balance.2.1 33 = .ok (.iload_n 1, 1) := by decide +kernel
theorem dRe_balance_34 : decode mRe_balance.2.1 34 = .ok (.aload_n 0, 1) := by decide +kernel
theorem dRe_balance_35 : decode mRe_balance.2.1 35 = .ok (.getfield 320, 3) := by decide +kernel
theorem dRe_balance_38 : decode mRe_balance.2.1 38 = .ok (.invokevirtual 346, 3) := by decide +kernel
theorem dRe_balance_41 : decode mRe_balance.2.1 41 = .ok (.ireturn, 1) := by decide +kernel
theorem bRe_balance_0 {l : Launch} {G : Gx} {d : Nat} {bc bs : Nat} {Φ : OutV → Mm → Prop} (M : Mm) (a0 : Nat) (x1 : Int32)
    (h : ((m_sh M a0).1 = 11) ∧ CallVC l G d mRe_balance 11 [.ref a0, .int x1] [.ref a0] mRe_isPerson [.ref a0, .int x1] (m_si M a0 0 0) bc bs Φ) :
    Ev l G d mRe_balance 0 [.ref a0, .int x1] [] M bc bs Φ := by
  refine Ev.aload_n dRe_balance_0 rfl ?_
  refine Ev.iconst (v := 0) dRe_balance_1 (by decide) ?_
  have g1 := h.1
  replace h := h.2
  refine Ev.putI dRe_balance_2 ⟨_, Or.inl ⟨fRe_115, (fun h => by cases h)⟩⟩ rfl ⟨rfl, rfl⟩ g1 ?_
  refine Ev.aload_n dRe_balance_5 rfl ?_
  refine Ev.aload_n dRe_balance_6 rfl ?_
  refine Ev.iload_n dRe_balance_7 rfl ?_
  exact Ev.vcV (z := mRe_isPerson) (ci := 11) [.int x1] [.ref a0] rfl dRe_balance_8 oRe_isPerson rfl w1618 iRe_isPerson sRe_isPerson (by decide) rfl g1 (Nat.le_of_ble_eq_true rfl) h
theorem bRe_balance_11 {l : Launch} {G : Gx} {d : Nat} {bc bs : Nat} {Φ : OutV → Mm → Prop} (M : Mm) (a0 : Nat) (x1 : Int32) (r0 : Nat) (s1 : Int32)
    (h : (¬ s1 = 0 → ((m_sh M r0).1 = 11) ∧ CallVC l G d mRe_balance 23 [.ref a0, .int x1] [] mRe_bad [.ref r0, .int 0, .int 1] M bc bs Φ) ∧ (s1 = 0 → ((m_sh M r0).1 = 11) ∧ CallVC l G d mRe_balance 23 [.ref a0, .int x1] [] mRe_bad [.ref r0, .int 1, .int 1] M bc bs Φ)) :
    Ev l G d mRe_balance 11 [.ref a0, .int x1] [.int s1, .ref r0] M bc bs Φ := by
  refine Ev.if_ne 18 (by decide) dRe_balance_11 (fun c => ?_) (fun c => ?_)
  · replace h := h.1 c
    refine Ev.iconst (v := 0) dRe_balance_18 (by decide) ?_
    refine Ev.iconst (v := 1) dRe_balance_19 (by decide) ?_
    have g1 := h.1
    replace h := h.2
    exact Ev.vcV (z := mRe_bad) (ci := 11) [.int 0, .int 1] [] rfl dRe_balance_20 oRe_bad rfl w1479 iRe_bad sRe_bad (by decide) rfl g1 (Nat.le_of_ble_eq_true rfl) h
  · replace h := h.2 c
    refine Ev.iconst (v := 1) dRe_balance_14 (by decide) ?_
    refine Ev.goto 19 dRe_balance_15 (by decide) ?_
    refine Ev.iconst (v := 1) dRe_balance_19 (by decide) ?_
    have g2 := h.1
    replace h := h.2
    exact Ev.vcV (z := mRe_bad) (ci := 11) [.int 1, .int 1] [] rfl dRe_balance_20 oRe_bad rfl w1479 iRe_bad sRe_bad (by decide) rfl g2 (Nat.le_of_ble_eq_true rfl) h
theorem bRe_balance_23 {l : Launch} {G : Gx} {d : Nat} {bc bs : Nat} {Φ : OutV → Mm → Prop} (M : Mm) (a0 : Nat) (x1 : Int32) (s0 : Int32)
    (h : (s0 = 0 → ((m_sh M a0).1 = 11) ∧ CallVC l G d mRe_balance 32 [.ref a0, .int x1] [] mRe_asItIs [.ref a0] M bc bs Φ) ∧ (¬ s0 = 0 → Φ (.inl (some (.int 0))) M)) :
    Ev l G d mRe_balance 23 [.ref a0, .int x1] [.int s0] M bc bs Φ := by
  refine Ev.if_eq 28 (by decide) dRe_balance_23 (fun c => ?_) (fun c => ?_)
  · replace h := h.1 c
    refine Ev.aload_n dRe_balance_28 rfl ?_
    have g1 := h.1
    replace h := h.2
    exact Ev.vcV (z := mRe_asItIs) (ci := 11) [] [] rfl dRe_balance_29 oRe_asItIs rfl w1661 iRe_asItIs sRe_asItIs (by decide) rfl g1 (Nat.le_of_ble_eq_true rfl) h
  · replace h := h.2 c
    refine Ev.iconst (v := 0) dRe_balance_26 (by decide) ?_
    exact Ev.iret dRe_balance_27 rfl rfl h
theorem bRe_balance_32 {l : Launch} {G : Gx} {d : Nat} {bc bs : Nat} {Φ : OutV → Mm → Prop} (M : Mm) (a0 : Nat) (x1 : Int32)
    (h : ((m_sh M a0).1 = 11) ∧ CallVC l G d mRe_balance 41 [.ref a0, .int x1] [] mRe_balanceOf [.ref a0, .int x1, .int (m_i M a0 43)] M bc bs Φ) :
    Ev l G d mRe_balance 32 [.ref a0, .int x1] [] M bc bs Φ := by
  refine Ev.aload_n dRe_balance_32 rfl ?_
  refine Ev.iload_n dRe_balance_33 rfl ?_
  refine Ev.aload_n dRe_balance_34 rfl ?_
  have g1 := h.1
  replace h := h.2
  refine Ev.getI dRe_balance_35 (Or.inl fRe_320) rfl g1 ?_
  exact Ev.vcV (z := mRe_balanceOf) (ci := 11) [.int x1, .int (m_i M a0 43)] [] rfl dRe_balance_38 oRe_balanceOf rfl w1689 iRe_balanceOf sRe_balanceOf (by decide) rfl g1 (Nat.le_of_ble_eq_true rfl) h
theorem bRe_balance_41 {l : Launch} {G : Gx} {d : Nat} {bc bs : Nat} {Φ : OutV → Mm → Prop} (M : Mm) (a0 : Nat) (x1 : Int32) (s0 : Int32)
    (h : Φ (.inl (some (.int s0))) M) :
    Ev l G d mRe_balance 41 [.ref a0, .int x1] [.int s0] M bc bs Φ := by
  exact Ev.iret dRe_balance_41 rfl rfl h
def mRe_book : MR := (⟨"BowingRowModel", "book", "(II)I"⟩, prog_14_method_66_code, 3, (Option.some .int))
theorem oRe_book : MOK mRe_book 2 := ⟨lwg_of 1724 (by decide +kernel) (by decide +kernel), lwg_of 103 (by decide +kernel) (by decide +kernel), ⟨by decide +kernel, by decide +kernel⟩, by decide +kernel, by decide⟩
theorem iRe_book : Cond.instanceMethod mRe_book.1 ∈ lwg := lwg_of 1722 (by decide +kernel) (by decide +kernel)
theorem sRe_book : Cond.selects mRe_book.1.cls mRe_book.1 mRe_book.1 ∈ lwg := lwg_of 1723 (by decide +kernel) (by decide +kernel)
theorem dRe_book_0 : decode mRe_book.2.1 0 = .ok (.aload_n 0, 1) := by decide +kernel
theorem dRe_book_1 : decode mRe_book.2.1 1 = .ok (.iconst 0, 1) := by decide +kernel
theorem dRe_book_2 : decode mRe_book.2.1 2 = .ok (.putfield 115, 3) := by decide +kernel
theorem dRe_book_5 : decode mRe_book.2.1 5 = .ok (.aload_n 0, 1) := by decide +kernel
theorem dRe_book_6 : decode mRe_book.2.1 6 = .ok (.aload_n 0, 1) := by decide +kernel
theorem dRe_book_7 : decode mRe_book.2.1 7 = .ok (.iload_n 1, 1) := by decide +kernel
theorem dRe_book_8 : decode mRe_book.2.1 8 = .ok (.invokevirtual 285, 3) := by decide +kernel
theorem dRe_book_11 : decode mRe_book.2.1 11 = .ok (.ifCond .eq 11, 3) := by decide +kernel
theorem dRe_book_14 : decode mRe_book.2.1 14 = .ok (.aload_n 0, 1) := by decide +kernel
theorem dRe_book_15 : decode mRe_book.2.1 15 = .ok (.iload_n 2, 1) := by decide +kernel
theorem dRe_book_16 : decode mRe_book.2.1 16 = .ok (.invokevirtual 285, 3) := by decide +kernel
theorem dRe_book_19 : decode mRe_book.2.1 19 = .ok (.ifCond .ne 7, 3) := by decide +kernel
theorem dRe_book_22 : decode mRe_book.2.1 22 = .ok (.iconst 1, 1) := by decide +kernel
theorem dRe_book_23 : decode mRe_book.2.1 23 = .ok (.goto 4, 3) := by decide +kernel
theorem dRe_book_26 : decode mRe_book.2.1 26 = .ok (.iconst 0, 1) := by decide +kernel
theorem dRe_book_27 : decode mRe_book.2.1 27 = .ok (.iconst 1, 1) := by decide +kernel
theorem dRe_book_28 : decode mRe_book.2.1 28 = .ok (.invokevirtual 196, 3) := by decide +kernel
theorem dRe_book_31 : decode mRe_book.2.1 31 = .ok (.ifCond .eq 5, 3) := by decide +kernel
theorem dRe_book_34 : decode mRe_book.2.1 34 = .ok (.iconst 0, 1) := by decide +kernel
theorem dRe_book_35 : decode mRe_book.2.1 35 = .ok (.ireturn, 1) := by decide +kernel
theorem dRe_book_36 : decode mRe_book.2.1 36 = .ok (.aload_n 0, 1) := by decide +kernel
theorem dRe_book_37 : decode mRe_book.2.1 37 = .ok (.invokevirtual 362, 3) := by decide +kernel
theorem dRe_book_40 : decode mRe_book.2.1 40 = .ok (.aload_n 0, 1) := by decide +kernel
theorem dRe_book_41 : decode mRe_book.2.1 41 = .ok (.iload_n 1, 1) := by decide +kernel
theorem dRe_book_42 : decode mRe_book.2.1 42 = .ok (.iload_n 2, 1) := by decide +kernel
theorem dRe_book_43 : decode mRe_book.2.1 43 = .ok (.invokevirtual 365, 3) := by decide +kernel
theorem dRe_book_46 : decode mRe_book.2.1 46 = .ok (.ireturn, 1) := by decide +kernel
theorem bRe_book_0 {l : Launch} {G : Gx} {d : Nat} {bc bs : Nat} {Φ : OutV → Mm → Prop} (M : Mm) (a0 : Nat) (x1 : Int32) (x2 : Int32)
    (h : ((m_sh M a0).1 = 11) ∧ CallVC l G d mRe_book 11 [.ref a0, .int x1, .int x2] [.ref a0] mRe_isPerson [.ref a0, .int x1] (m_si M a0 0 0) bc bs Φ) :
    Ev l G d mRe_book 0 [.ref a0, .int x1, .int x2] [] M bc bs Φ := by
  refine Ev.aload_n dRe_book_0 rfl ?_
  refine Ev.iconst (v := 0) dRe_book_1 (by decide) ?_
  have g1 := h.1
  replace h := h.2
  refine Ev.putI dRe_book_2 ⟨_, Or.inl ⟨fRe_115, (fun h => by cases h)⟩⟩ rfl ⟨rfl, rfl⟩ g1 ?_
  refine Ev.aload_n dRe_book_5 rfl ?_
  refine Ev.aload_n dRe_book_6 rfl ?_
  refine Ev.iload_n dRe_book_7 rfl ?_
  exact Ev.vcV (z := mRe_isPerson) (ci := 11) [.int x1] [.ref a0] rfl dRe_book_8 oRe_isPerson rfl w1618 iRe_isPerson sRe_isPerson (by decide) rfl g1 (Nat.le_of_ble_eq_true rfl) h
theorem bRe_book_11 {l : Launch} {G : Gx} {d : Nat} {bc bs : Nat} {Φ : OutV → Mm → Prop} (M : Mm) (a0 : Nat) (x1 : Int32) (x2 : Int32) (r0 : Nat) (s1 : Int32)
    (h : (s1 = 0 → ((m_sh M r0).1 = 11) ∧ CallVC l G d mRe_book 31 [.ref a0, .int x1, .int x2] [] mRe_bad [.ref r0, .int 1, .int 1] M bc bs Φ) ∧ (¬ s1 = 0 → ((m_sh M a0).1 = 11) ∧ CallVC l G d mRe_book 19 [.ref a0, .int x1, .int x2] [.ref r0] mRe_isPerson [.ref a0, .int x2] M bc bs Φ)) :
    Ev l G d mRe_book 11 [.ref a0, .int x1, .int x2] [.int s1, .ref r0] M bc bs Φ := by
  refine Ev.if_eq 22 (by decide) dRe_book_11 (fun c => ?_) (fun c => ?_)
  · replace h := h.1 c
    refine Ev.iconst (v := 1) dRe_book_22 (by decide) ?_
    refine Ev.goto 27 dRe_book_23 (by decide) ?_
    refine Ev.iconst (v := 1) dRe_book_27 (by decide) ?_
    have g1 := h.1
    replace h := h.2
    exact Ev.vcV (z := mRe_bad) (ci := 11) [.int 1, .int 1] [] rfl dRe_book_28 oRe_bad rfl w1479 iRe_bad sRe_bad (by decide) rfl g1 (Nat.le_of_ble_eq_true rfl) h
  · replace h := h.2 c
    refine Ev.aload_n dRe_book_14 rfl ?_
    refine Ev.iload_n dRe_book_15 rfl ?_
    have g2 := h.1
    replace h := h.2
    exact Ev.vcV (z := mRe_isPerson) (ci := 11) [.int x2] [.ref r0] rfl dRe_book_16 oRe_isPerson rfl w1618 iRe_isPerson sRe_isPerson (by decide) rfl g2 (Nat.le_of_ble_eq_true rfl) h
theorem bRe_book_19 {l : Launch} {G : Gx} {d : Nat} {bc bs : Nat} {Φ : OutV → Mm → Prop} (M : Mm) (a0 : Nat) (x1 : Int32) (x2 : Int32) (r0 : Nat) (s1 : Int32)
    (h : (¬ s1 = 0 → ((m_sh M r0).1 = 11) ∧ CallVC l G d mRe_book 31 [.ref a0, .int x1, .int x2] [] mRe_bad [.ref r0, .int 0, .int 1] M bc bs Φ) ∧ (s1 = 0 → ((m_sh M r0).1 = 11) ∧ CallVC l G d mRe_book 31 [.ref a0, .int x1, .int x2] [] mRe_bad [.ref r0, .int 1, .int 1] M bc bs Φ)) :
    Ev l G d mRe_book 19 [.ref a0, .int x1, .int x2] [.int s1, .ref r0] M bc bs Φ := by
  refine Ev.if_ne 26 (by decide) dRe_book_19 (fun c => ?_) (fun c => ?_)
  · replace h := h.1 c
    refine Ev.iconst (v := 0) dRe_book_26 (by decide) ?_
    refine Ev.iconst (v := 1) dRe_book_27 (by decide) ?_
    have g1 := h.1
    replace h := h.2
    exact Ev.vcV (z := mRe_bad) (ci := 11) [.int 0, .int 1] [] rfl dRe_book_28 oRe_bad rfl w1479 iRe_bad sRe_bad (by decide) rfl g1 (Nat.le_of_ble_eq_true rfl) h
  · replace h := h.2 c
    refine Ev.iconst (v := 1) dRe_book_22 (by decide) ?_
    refine Ev.goto 27 dRe_book_23 (by decide) ?_
    refine Ev.iconst (v := 1) dRe_book_27 (by decide) ?_
    have g2 := h.1
    replace h := h.2
    exact Ev.vcV (z := mRe_bad) (ci := 11) [.int 1, .int 1] [] rfl dRe_book_28 oRe_bad rfl w1479 iRe_bad sRe_bad (by decide) rfl g2 (Nat.le_of_ble_eq_true rfl) h
theorem bRe_book_31 {l : Launch} {G : Gx} {d : Nat} {bc bs : Nat} {Φ : OutV → Mm → Prop} (M : Mm) (a0 : Nat) (x1 : Int32) (x2 : Int32) (s0 : Int32)
    (h : (s0 = 0 → ((m_sh M a0).1 = 11) ∧ CallVC l G d mRe_book 40 [.ref a0, .int x1, .int x2] [] mRe_asItIs [.ref a0] M bc bs Φ) ∧ (¬ s0 = 0 → Φ (.inl (some (.int 0))) M)) :
    Ev l G d mRe_book 31 [.ref a0, .int x1, .int x2] [.int s0] M bc bs Φ := by
  refine Ev.if_eq 36 (by decide) dRe_book_31 (fun c => ?_) (fun c => ?_)
  · replace h := h.1 c
    refine Ev.aload_n dRe_book_36 rfl ?_
    have g1 := h.1
    replace h := h.2
    exact Ev.vcV (z := mRe_asItIs) (ci := 11) [] [] rfl dRe_book_37 oRe_asItIs rfl w1661 iRe_asItIs sRe_asItIs (by decide) rfl g1 (Nat.le_of_ble_eq_true rfl) h
  · replace h := h.2 c
    refine Ev.iconst (v := 0) dRe_book_34 (by decide) ?_
    exact Ev.iret dRe_book_35 rfl rfl h
def mRe_bookOf : MR := (⟨"BowingRowModel", "bookOf", "(II)I"⟩, prog_14_method_65_code, 5, (Option.some .int))
theorem oRe_bookOf : MOK mRe_bookOf 2 := ⟨lwg_of 1728 (by decide +kernel) (by decide +kernel), lwg_of 103 (by decide +kernel) (by decide +kernel), ⟨by decide +kernel, by decide +kernel⟩, by decide +kernel, by decide⟩
theorem iRe_bookOf : Cond.instanceMethod mRe_bookOf.1 ∈ lwg := lwg_of 1727 (by decide +kernel) (by decide +kernel)
theorem sRe_bookOf : Cond.selects mRe_bookOf.1.cls mRe_bookOf.1 mRe_bookOf.1 ∈ lwg := lwg_of 81 (by decide +kernel) (by decide +kernel)
theorem w1725 : Cond.methodLink "BowingRowModel" 365 ⟨"BowingRowModel", "bookOf", "(II)I"⟩ ∈ lwg := lwg_of 1725 (by decide +kernel) (by decide +kernel)
theorem bRe_book_40 {l : Launch} {G : Gx} {d : Nat} {bc bs : Nat} {Φ : OutV → Mm → Prop} (M : Mm) (a0 : Nat) (x1 : Int32) (x2 : Int32)
    (h : ((m_sh M a0).1 = 11) ∧ CallVC l G d mRe_book 46 [.ref a0, .int x1, .int x2] [] mRe_bookOf [.ref a0, .int x1, .int x2] M bc bs Φ) :
    Ev l G d mRe_book 40 [.ref a0, .int x1, .int x2] [] M bc bs Φ := by
  refine Ev.aload_n dRe_book_40 rfl ?_
  refine Ev.iload_n dRe_book_41 rfl ?_
  refine Ev.iload_n dRe_book_42 rfl ?_
  have g1 := h.1
  replace h := h.2
  exact Ev.vcV (z := mRe_bookOf) (ci := 11) [.int x1, .int x2] [] rfl dRe_book_43 oRe_bookOf rfl w1725 iRe_bookOf sRe_bookOf (by decide) rfl g1 (Nat.le_of_ble_eq_true rfl) h
theorem bRe_book_46 {l : Launch} {G : Gx} {d : Nat} {bc bs : Nat} {Φ : OutV → Mm → Prop} (M : Mm) (a0 : Nat) (x1 : Int32) (x2 : Int32) (s0 : Int32)
    (h : Φ (.inl (some (.int s0))) M) :
    Ev l G d mRe_book 46 [.ref a0, .int x1, .int x2] [.int s0] M bc bs Φ := by
  exact Ev.iret dRe_book_46 rfl rfl h
theorem dRe_bookOf_0 : decode mRe_bookOf.2.1 0 = .ok (.iconst 0, 1) := by decide +kernel
theorem dRe_bookOf_1 : decode mRe_bookOf.2.1 1 = .ok (.istore_n 3, 1) := by decide +kernel
theorem dRe_bookOf_2 : decode mRe_bookOf.2.1 2 = .ok (.iconst 0, 1) := by decide +kernel
theorem dRe_bookOf_3 : decode mRe_bookOf.2.1 3 = .ok (.istore 4, 2) := by decide +kernel
theorem dRe_bookOf_5 : decode mRe_bookOf.2.1 5 = .ok (.iload 4, 2) := by decide +kernel
theorem dRe_bookOf_7 : decode mRe_bookOf.2.1 7 = .ok (.aload_n 0, 1) := by decide +kernel
theorem dRe_bookOf_8 : decode mRe_bookOf.2.1 8 = .ok (.getfield 301, 3) := by decide +kernel
theorem dRe_bookOf_11 : decode mRe_bookOf.2.1 11 = .ok (.if_icmp .ge 51, 3) := by decide +kernel
theorem dRe_bookOf_14 : decode mRe_bookOf.2.1 14 = .ok (.iload_n 3, 1) := by decide +kernel
theorem dRe_bookOf_15 : decode mRe_bookOf.2.1 15 = .ok (.aload_n 0, 1) := by decide +kernel
theorem dRe_bookOf_16 : decode mRe_bookOf.2.1 16 = .ok (.getfield 97, 3) := by decide +kernel
theorem dRe_bookOf_19 : decode mRe_bookOf.2.1 19 = .ok (.iload 4, 2) := by decide +kernel
theorem dRe_bookOf_21 : decode mRe_bookOf.2.1 21 = .ok (.aaload, 1) := by decide +kernel
theorem dRe_bookOf_22 : decode mRe_bookOf.2.1 22 = .ok (.iconst 0, 1) := by decide +kernel
theorem dRe_bookOf_23 : decode mRe_bookOf.2.1 23 = .ok (.iaload, 1) := by decide +kernel
theorem dRe_bookOf_24 : decode mRe_bookOf.2.1 24 = .ok (.iload_n 1, 1) := by decide +kernel
theorem dRe_bookOf_25 : decode mRe_bookOf.2.1 25 = .ok (.if_icmp .ne 28, 3) := by decide +kernel
theorem dRe_bookOf_28 : decode mRe_bookOf.2.1 28 = .ok (.aload_n 0, 1) := by decide +kernel
theorem dRe_bookOf_29 : decode mRe_bookOf.2.1 29 = .ok (.getfield 97, 3) := by decide +kernel
theorem dRe_bookOf_32 : decode mRe_bookOf.2.1 32 = .ok (.iload 4, 2) := by decide +kernel
theorem dRe_bookOf_34 : decode mRe_bookOf.2.1 34 = .ok (.aaload, 1) := by decide +kernel
theorem dRe_bookOf_35 : decode mRe_bookOf.2.1 35 = .ok (.iconst 1, 1) := by decide +kernel
theorem dRe_bookOf_36 : decode mRe_bookOf.2.1 36 = .ok (.iaload, 1) := by decide +kernel
theorem dRe_bookOf_37 : decode mRe_bookOf.2.1 37 = .ok (.iload_n 2, 1) := by decide +kernel
theorem dRe_bookOf_38 : decode mRe_bookOf.2.1 38 = .ok (.if_icmp .ne 15, 3) := by decide +kernel
theorem dRe_bookOf_41 : decode mRe_bookOf.2.1 41 = .ok (.aload_n 0, 1) := by decide +kernel
theorem dRe_bookOf_42 : decode mRe_bookOf.2.1 42 = .ok (.getfield 97, 3) := by decide +kernel
theorem dRe_bookOf_45 : decode mRe_bookOf.2.1 45 = .ok (.iload 4, 2) := by decide +kernel
theorem dRe_bookOf_47 : decode mRe_bookOf.2.1 47 = .ok (.aaload, 1) := by decide +kernel
theorem dRe_bookOf_48 : decode mRe_bookOf.2.1 48 = .ok (.iconst 2, 1) := by decide +kernel
theorem dRe_bookOf_49 : decode mRe_bookOf.2.1 49 = .ok (.iaload, 1) := by decide +kernel
theorem dRe_bookOf_50 : decode mRe_bookOf.2.1 50 = .ok (.goto 4, 3) := by decide +kernel
theorem dRe_bookOf_53 : decode mRe_bookOf.2.1 53 = .ok (.iconst 0, 1) := by decide +kernel
theorem dRe_bookOf_54 : decode mRe_bookOf.2.1 54 = .ok (.iadd, 1) := by decide +kernel
theorem dRe_bookOf_55 : decode mRe_bookOf.2.1 55 = .ok (.istore_n 3, 1) := by decide +kernel
theorem dRe_bookOf_56 : decode mRe_bookOf.2.1 56 = .ok (.iinc 4 1, 3) := by decide +kernel
theorem dRe_bookOf_59 : decode mRe_bookOf.2.1 59 = .ok (.goto (-54), 3) := by decide +kernel
theorem dRe_bookOf_62 : decode mRe_bookOf.2.1 62 = .ok (.iload_n 3, 1) := by decide +kernel
theorem dRe_bookOf_63 : decode mRe_bookOf.2.1 63 = .ok (.ireturn, 1) := by decide +kernel
theorem bRe_bookOf_0 {l : Launch} {G : Gx} {d : Nat} {bc bs : Nat} {Φ : OutV → Mm → Prop} (M : Mm) (a0 : Nat) (x1 : Int32) (x2 : Int32)
    (h : Ev l G d mRe_bookOf 5 [.ref a0, .int x1, .int x2, .int 0, .int 0] [] M bc bs Φ) :
    Ev l G d mRe_bookOf 0 [.ref a0, .int x1, .int x2, .null, .null] [] M bc bs Φ := by
  refine Ev.iconst (v := 0) dRe_bookOf_0 (by decide) ?_
  refine Ev.istore_n dRe_bookOf_1 (by decide) ?_
  show Ev l G d mRe_bookOf (_ + _) [.ref a0, .int x1, .int x2, .int 0, .null] [] M bc bs Φ
  refine Ev.iconst (v := 0) dRe_bookOf_2 (by decide) ?_
  refine Ev.istore dRe_bookOf_3 (by decide) ?_
  show Ev l G d mRe_bookOf (_ + _) [.ref a0, .int x1, .int x2, .int 0, .int 0] [] M bc bs Φ
  exact h
theorem bRe_bookOf_5 {l : Launch} {G : Gx} {d : Nat} {bc bs : Nat} {Φ : OutV → Mm → Prop} (M : Mm) (a0 : Nat) (x1 : Int32) (x2 : Int32) (x3 : Int32) (x4 : Int32)
    (h : ((m_sh M a0).1 = 11) ∧ ((m_i M a0 41) ≤ x4 → Φ (.inl (some (.int x3))) M) ∧ (¬ (m_i M a0 41) ≤ x4 → ((m_sh M (m_r M a0 53)).1 = 33) ∧ (vp_in x4 (m_sh M (m_r M a0 53)).2) ∧ ((m_sh M (m_r M (m_r M a0 53) x4.toNatClampNeg)).1 = 20) ∧ (vp_in 0 (m_sh M (m_r M (m_r M a0 53) x4.toNatClampNeg)).2) ∧ (¬ (m_i M (m_r M (m_r M a0 53) x4.toNatClampNeg) (0 : Int32).toNatClampNeg) = x1 → Ev l G d mRe_bookOf 5 [.ref a0, .int x1, .int x2, .int (x3 + 0), .int (x4 + 1)] [] M bc bs Φ) ∧ ((m_i M (m_r M (m_r M a0 53) x4.toNatClampNeg) (0 : Int32).toNatClampNeg) = x1 → (vp_in 1 (m_sh M (m_r M (m_r M a0 53) x4.toNatClampNeg)).2) ∧ (¬ (m_i M (m_r M (m_r M a0 53) x4.toNatClampNeg) (1 : Int32).toNatClampNeg) = x2 → Ev l G d mRe_bookOf 5 [.ref a0, .int x1, .int x2, .int (x3 + 0), .int (x4 + 1)] [] M bc bs Φ) ∧ ((m_i M (m_r M (m_r M a0 53) x4.toNatClampNeg) (1 : Int32).toNatClampNeg) = x2 → (vp_in 2 (m_sh M (m_r M (m_r M a0 53) x4.toNatClampNeg)).2) ∧ Ev l G d mRe_bookOf 5 [.ref a0, .int x1, .int x2, .int (x3 + (m_i M (m_r M (m_r M a0 53) x4.toNatClampNeg) (2 : Int32).toNatClampNeg)), .int (x4 + 1)] [] M bc bs Φ)))) :
    Ev l G d mRe_bookOf 5 [.ref a0, .int x1, .int x2, .int x3, .int x4] [] M bc bs Φ := by
  refine Ev.iload dRe_bookOf_5 rfl ?_
  refine Ev.aload_n dRe_bookOf_7 rfl ?_
  have g1 := h.1
  replace h := h.2
  refine Ev.getI dRe_bookOf_8 (Or.inl fRe_301) rfl g1 ?_
  refine Ev.icmp_ge 62 (by decide) dRe_bookOf_11 (fun c => ?_) (fun c => ?_)
  · replace h := h.1 c
    refine Ev.iload_n dRe_bookOf_62 rfl ?_
    exact Ev.iret dRe_bookOf_63 rfl rfl h
  · replace h := h.2 c
    refine Ev.iload_n dRe_bookOf_14 rfl ?_
    refine Ev.aload_n dRe_bookOf_15 rfl ?_
    refine Ev.getR dRe_bookOf_16 (Or.inl fRe_97) rfl g1 ?_
    refine Ev.iload dRe_bookOf_19 rfl ?_
    have g2 := h.1
    replace h := h.2
    have g3 := h.1
    replace h := h.2
    refine Ev.aald2 33 (by decide) dRe_bookOf_21 g2 g3 ?_
    refine Ev.iconst (v := 0) dRe_bookOf_22 (by decide) ?_
    have g4 := h.1
    replace h := h.2
    have g5 := h.1
    replace h := h.2
    refine Ev.iald2 dRe_bookOf_23 g4 g5 ?_
    refine Ev.iload_n dRe_bookOf_24 rfl ?_
    refine Ev.icmp_ne 53 (by decide) dRe_bookOf_25 (fun c => ?_) (fun c => ?_)
    · replace h := h.1 c
      refine Ev.iconst (v := 0) dRe_bookOf_53 (by decide) ?_
      refine Ev.iadd dRe_bookOf_54 ?_
      refine Ev.istore_n dRe_bookOf_55 (by decide) ?_
      show Ev l G d mRe_bookOf (_ + _) [.ref a0, .int x1, .int x2, .int (x3 + 0), .int x4] [] M bc bs Φ
      refine Ev.iinc (v := x4 + 1) dRe_bookOf_56 (by decide) rfl rfl ?_
      show Ev l G d mRe_bookOf (_ + _) [.ref a0, .int x1, .int x2, .int (x3 + 0), .int (x4 + 1)] [] M bc bs Φ
      refine Ev.goto 5 dRe_bookOf_59 (by decide) ?_
      exact h
    · replace h := h.2 c
      refine Ev.aload_n dRe_bookOf_28 rfl ?_
      refine Ev.getR dRe_bookOf_29 (Or.inl fRe_97) rfl g1 ?_
      refine Ev.iload dRe_bookOf_32 rfl ?_
      refine Ev.aald2 33 (by decide) dRe_bookOf_34 g2 g3 ?_
      refine Ev.iconst (v := 1) dRe_bookOf_35 (by decide) ?_
      have g6 := h.1
      replace h := h.2
      refine Ev.iald2 dRe_bookOf_36 g4 g6 ?_
      refine Ev.iload_n dRe_bookOf_37 rfl ?_
      refine Ev.icmp_ne 53 (by decide) dRe_bookOf_38 (fun c => ?_) (fun c => ?_)
      · replace h := h.1 c
        refine Ev.iconst (v := 0) dRe_bookOf_53 (by decide) ?_
        refine Ev.iadd dRe_bookOf_54 ?_
        refine Ev.istore_n dRe_bookOf_55 (by decide) ?_
        show Ev l G d mRe_bookOf (_ + _) [.ref a0, .int x1, .int x2, .int (x3 + 0), .int x4] [] M bc bs Φ
        refine Ev.iinc (v := x4 + 1) dRe_bookOf_56 (by decide) rfl rfl ?_
        show Ev l G d mRe_bookOf (_ + _) [.ref a0, .int x1, .int x2, .int (x3 + 0), .int (x4 + 1)] [] M bc bs Φ
        refine Ev.goto 5 dRe_bookOf_59 (by decide) ?_
        exact h
      · replace h := h.2 c
        refine Ev.aload_n dRe_bookOf_41 rfl ?_
        refine Ev.getR dRe_bookOf_42 (Or.inl fRe_97) rfl g1 ?_
        refine Ev.iload dRe_bookOf_45 rfl ?_
        refine Ev.aald2 33 (by decide) dRe_bookOf_47 g2 g3 ?_
        refine Ev.iconst (v := 2) dRe_bookOf_48 (by decide) ?_
        have g7 := h.1
        replace h := h.2
        refine Ev.iald2 dRe_bookOf_49 g4 g7 ?_
        refine Ev.goto 54 dRe_bookOf_50 (by decide) ?_
        refine Ev.iadd dRe_bookOf_54 ?_
        refine Ev.istore_n dRe_bookOf_55 (by decide) ?_
        show Ev l G d mRe_bookOf (_ + _) [.ref a0, .int x1, .int x2, .int (x3 + (m_i M (m_r M (m_r M a0 53) x4.toNatClampNeg) (2 : Int32).toNatClampNeg)), .int x4] [] M bc bs Φ
        refine Ev.iinc (v := x4 + 1) dRe_bookOf_56 (by decide) rfl rfl ?_
        show Ev l G d mRe_bookOf (_ + _) [.ref a0, .int x1, .int x2, .int (x3 + (m_i M (m_r M (m_r M a0 53) x4.toNatClampNeg) (2 : Int32).toNatClampNeg)), .int (x4 + 1)] [] M bc bs Φ
        refine Ev.goto 5 dRe_bookOf_59 (by decide) ?_
        exact h
def mRe_owed : MR := (⟨"BowingRowModel", "owed", "(II)I"⟩, prog_14_method_68_code, 6, (Option.some .int))
theorem oRe_owed : MOK mRe_owed 2 := ⟨lwg_of 1732 (by decide +kernel) (by decide +kernel), lwg_of 103 (by decide +kernel) (by decide +kernel), ⟨by decide +kernel, by decide +kernel⟩, by decide +kernel, by decide⟩
theorem iRe_owed : Cond.instanceMethod mRe_owed.1 ∈ lwg := lwg_of 1730 (by decide +kernel) (by decide +kernel)
theorem sRe_owed : Cond.selects mRe_owed.1.cls mRe_owed.1 mRe_owed.1 ∈ lwg := lwg_of 1731 (by decide +kernel) (by decide +kernel)
theorem dRe_owed_0 : decode mRe_owed.2.1 0 = .ok (.aload_n 0, 1) := by decide +kernel
theorem dRe_owed_1 : decode mRe_owed.2.1 1 = .ok (.iconst 0, 1) := by decide +kernel
theorem dRe_owed_2 : decode mRe_owed.2.1 2 = .ok (.putfield 115, 3) := by decide +kernel
theorem dRe_owed_5 : decode mRe_owed.2.1 5 = .ok (.aload_n 0, 1) := by decide +kernel
theorem dRe_owed_6 : decode mRe_owed.2.1 6 = .ok (.aload_n 0, 1) := by decide +kernel
theorem dRe_owed_7 : decode mRe_owed.2.1 7 = .ok (.iload_n 1, 1) := by decide +kernel
theorem dRe_owed_8 : decode mRe_owed.2.1 8 = .ok (.invokevirtual 285, 3) := by decide +kernel
theorem dRe_owed_11 : decode mRe_owed.2.1 11 = .ok (.ifCond .eq 11, 3) := by decide +kernel
theorem dRe_owed_14 : decode mRe_owed.2.1 14 = .ok (.aload_n 0, 1) := by decide +kernel
theorem dRe_owed_15 : decode mRe_owed.2.1 15 = .ok (.iload_n 2, 1) := by decide +kernel
theorem dRe_owed_16 : decode mRe_owed.2.1 16 = .ok (.invokevirtual 285, 3) := by decide +kernel
theorem dRe_owed_19 : decode mRe_owed.2.1 19 = .ok (.ifCond .ne 7, 3) := by decide +kernel
theorem dRe_owed_22 : decode mRe_owed.2.1 22 = .ok (.iconst 1, 1) := by decide +kernel
theorem dRe_owed_23 : decode mRe_owed.2.1 23 = .ok (.goto 4, 3) := by decide +kernel
theorem dRe_owed_26 : decode mRe_owed.2.1 26 = .ok (.iconst 0, 1) := by decide +kernel
theorem dRe_owed_27 : decode mRe_owed.2.1 27 = .ok (.iconst 1, 1) := by decide +kernel
theorem dRe_owed_28 : decode mRe_owed.2.1 28 = .ok (.invokevirtual 196, 3) := by decide +kernel
theorem dRe_owed_31 : decode mRe_owed.2.1 31 = .ok (.ifCond .eq 5, 3) := by decide +kernel
theorem dRe_owed_34 : decode mRe_owed.2.1 34 = .ok (.iconst 0, 1) := by decide +kernel
theorem dRe_owed_35 : decode mRe_owed.2.1 35 = .ok (.ireturn, 1) := by decide +kernel
theorem dRe_owed_36 : decode mRe_owed.2.1 36 = .ok (.aload_n 0, 1) := by decide +kernel
theorem dRe_owed_37 : decode mRe_owed.2.1 37 = .ok (.invokevirtual 362, 3) := by decide +kernel
theorem dRe_owed_40 : decode mRe_owed.2.1 40 = .ok (.iconst 0, 1) := by decide +kernel
theorem dRe_owed_41 : decode mRe_owed.2.1 41 = .ok (.istore_n 3, 1) := by decide +kernel
theorem dRe_owed_42 : decode mRe_owed.2.1 42 = .ok (.iload_n 3, 1) := by decide +kernel
theorem dRe_owed_43 : decode mRe_owed.2.1 43 = .ok (.aload_n 0, 1) := by decide +kernel
theorem dRe_owed_44 : decode mRe_owed.2.1 44 = .ok (.getfield 206, 3) := by decide +kernel
theorem dRe_owed_47 : decode mRe_owed.2.1 47 = .ok (.if_icmp .ge 64, 3) := by decide +kernel
theorem dRe_owed_50 : decode mRe_owed.2.1 50 = .ok (.iconst 0, 1) := by decide +kernel
theorem dRe_owed_51 : decode mRe_owed.2.1 51 = .ok (.istore 4, 2) := by decide +kernel
theorem dRe_owed_53 : decode mRe_owed.2.1 53 = .ok (.iload 4, 2) := by decide +kernel
theorem dRe_owed_55 : decode mRe_owed.2.1 55 = .ok (.aload_n 0, 1) := by decide +kernel
theorem dRe_owed_56 : decode mRe_owed.2.1 56 = .ok (.getfield 206, 3) := by decide +kernel
theorem dRe_owed_59 : decode mRe_owed.2.1 59 = .ok (.if_icmp .ge 46, 3) := by decide +kernel
theorem dRe_owed_62 : decode mRe_owed.2.1 62 = .ok (.aload_n 0, 1) := by decide +kernel
theorem dRe_owed_63 : decode mRe_owed.2.1 63 = .ok (.iload_n 3, 1) := by decide +kernel
theorem dRe_owed_64 : decode mRe_owed.2.1 64 = .ok (.iload 4, 2) := by decide +kernel
theorem dRe_owed_66 : decode mRe_owed.2.1 66 = .ok (.invokevirtual 365, 3) := by decide +kernel
theorem dRe_owed_69 : decode mRe_owed.2.1 69 = .ok (.aload_n 0, 1) := by decide +kernel
theorem dRe_owed_70 : decode mRe_owed.2.1 70 = .ok (.iload 4, 2) := by decide +kernel
theorem dRe_owed_72 : decode mRe_owed.2.1 72 = .ok (.iload_n 3, 1) := by decide +kernel
theorem dRe_owed_73 : decode mRe_owed.2.1 73 = .ok (.invokevirtual 365, 3) := by decide +kernel
theorem dRe_owed_76 : decode mRe_owed.2.1 76 = .ok (.isub, 1) := by decide +kernel
theorem dRe_owed_77 : decode mRe_owed.2.1 77 = .ok (.istore 5, 2) := by decide +kernel
theorem dRe_owed_79 : decode mRe_owed.2.1 79 = .ok (.aload_n 0, 1) := by decide +kernel
theorem dRe_owed_80 : decode mRe_owed.2.1 80 = .ok (.getfield 109, 3) := by decide +kernel
theorem dRe_owed_83 : decode mRe_owed.2.1 83 = .ok (.iload_n 3, 1) := by decide +kernel
theorem dRe_owed_84 : decode mRe_owed.2.1 84 = .ok (.aaload, 1) := by decide +kernel
theorem dRe_owed_85 : decode mRe_owed.2.1 85 = .ok (.iload 4, 2) := by decide +kernel
theorem dRe_owed_87 : decode mRe_owed.2.1 87 = .ok (.iload 5, 2) := by decide +kernel
theorem dRe_owed_89 : decode mRe_owed.2.1 89 = .ok (.ifCond .le 8, 3) := by decide +kernel
theorem dRe_owed_92 : decode mRe_owed.2.1 92 = .ok (.iload 5, 2) := by decide +kernel
theorem dRe_owed_94 : decode mRe_owed.2.1 94 = .ok (.goto 4, 3) := by decide +kernel
theorem dRe_owed_97 : decode mRe_owed.2.1 97 = .ok (.iconst 0, 1) := by decide +kernel
theorem dRe_owed_98 : decode mRe_owed.2.1 98 = .ok (.iastore, 1) := by decide +kernel
theorem dRe_owed_99 : decode mRe_owed.2.1 99 = .ok (.iinc 4 1, 3) := by decide +kernel
theorem dRe_owed_102 : decode mRe_owed.2.1 102 = .ok (.goto (-49), 3) := by decide +kernel
theorem dRe_owed_105 : decode mRe_owed.2.1 105 = .ok (.iinc 3 1, 3) := by decide +kernel
theorem dRe_owed_108 : decode mRe_owed.2.1 108 = .ok (.goto (-66), 3) := by decide +kernel
theorem dRe_owed_111 : decode mRe_owed.2.1 111 = .ok (.iconst 1, 1) := by decide +kernel
theorem dRe_owed_112 : decode mRe_owed.2.1 112 = .ok (.istore_n 3, 1) := by decide +kernel
theorem dRe_owed_113 : decode mRe_owed.2.1 113 = .ok (.iload_n 3, 1) := by decide +kernel
theorem dRe_owed_114 : decode mRe_owed.2.1 114 = .ok (.ifCond .eq 11, 3) := by decide +kernel
theorem dRe_owed_117 : decode mRe_owed.2.1 117 = .ok (.aload_n 0, 1) := by decide +kernel
theorem dRe_owed_118 : decode mRe_owed.2.1 118 = .ok (.invokevirtual 368, 3) := by decide +kernel
theorem dRe_owed_121 : decode mRe_owed.2.1 121 = .ok (.istore_n 3, 1) := by decide +kernel
theorem dRe_owed_122 : decode mRe_owed.2.1 122 = .ok (.goto (-9), 3) := by decide +kernel
theorem dRe_owed_125 : decode mRe_owed.2.1 125 = .ok (.aload_n 0, 1) := by decide +kernel
theorem dRe_owed_126 : decode mRe_owed.2.1 126 = .ok (.getfield 109, 3) := by decide +kernel
theorem dRe_owed_129 : decode mRe_owed.2.1 129 = .ok (.iload_n 1, 1) := by decide +kernel
theorem dRe_owed_130 : decode mRe_owed.2.1 130 = .ok (.aaload, 1) := by decide +kernel
theorem dRe_owed_131 : decode mRe_owed.2.1 131 = .ok (.iload_n 2, 1) := by decide +kernel
theorem dRe_owed_132 : decode mRe_owed.2.1 132 = .ok (.iaload, 1) := by decide +kernel
theorem dRe_owed_133 : decode mRe_owed.2.1 133 = .ok (.ireturn, 1) := by decide +kernel
theorem bRe_owed_0 {l : Launch} {G : Gx} {d : Nat} {bc bs : Nat} {Φ : OutV → Mm → Prop} (M : Mm) (a0 : Nat) (x1 : Int32) (x2 : Int32)
    (h : ((m_sh M a0).1 = 11) ∧ CallVC l G d mRe_owed 11 [.ref a0, .int x1, .int x2, .null, .null, .null] [.ref a0] mRe_isPerson [.ref a0, .int x1] (m_si M a0 0 0) bc bs Φ) :
    Ev l G d mRe_owed 0 [.ref a0, .int x1, .int x2, .null, .null, .null] [] M bc bs Φ := by
  refine Ev.aload_n dRe_owed_0 rfl ?_
  refine Ev.iconst (v := 0) dRe_owed_1 (by decide) ?_
  have g1 := h.1
  replace h := h.2
  refine Ev.putI dRe_owed_2 ⟨_, Or.inl ⟨fRe_115, (fun h => by cases h)⟩⟩ rfl ⟨rfl, rfl⟩ g1 ?_
  refine Ev.aload_n dRe_owed_5 rfl ?_
  refine Ev.aload_n dRe_owed_6 rfl ?_
  refine Ev.iload_n dRe_owed_7 rfl ?_
  exact Ev.vcV (z := mRe_isPerson) (ci := 11) [.int x1] [.ref a0] rfl dRe_owed_8 oRe_isPerson rfl w1618 iRe_isPerson sRe_isPerson (by decide) rfl g1 (Nat.le_of_ble_eq_true rfl) h
theorem bRe_owed_11 {l : Launch} {G : Gx} {d : Nat} {bc bs : Nat} {Φ : OutV → Mm → Prop} (M : Mm) (a0 : Nat) (x1 : Int32) (x2 : Int32) (u3 : Value) (u4 : Value) (u5 : Value) (r0 : Nat) (s1 : Int32)
    (h : (s1 = 0 → ((m_sh M r0).1 = 11) ∧ CallVC l G d mRe_owed 31 [.ref a0, .int x1, .int x2, u3, u4, u5] [] mRe_bad [.ref r0, .int 1, .int 1] M bc bs Φ) ∧ (¬ s1 = 0 → ((m_sh M a0).1 = 11) ∧ CallVC l G d mRe_owed 19 [.ref a0, .int x1, .int x2, u3, u4, u5] [.ref r0] mRe_isPerson [.ref a0, .int x2] M bc bs Φ)) :
    Ev l G d mRe_owed 11 [.ref a0, .int x1, .int x2, u3, u4, u5] [.int s1, .ref r0] M bc bs Φ := by
  refine Ev.if_eq 22 (by decide) dRe_owed_11 (fun c => ?_) (fun c => ?_)
  · replace h := h.1 c
    refine Ev.iconst (v := 1) dRe_owed_22 (by decide) ?_
    refine Ev.goto 27 dRe_owed_23 (by decide) ?_
    refine Ev.iconst (v := 1) dRe_owed_27 (by decide) ?_
    have g1 := h.1
    replace h := h.2
    exact Ev.vcV (z := mRe_bad) (ci := 11) [.int 1, .int 1] [] rfl dRe_owed_28 oRe_bad rfl w1479 iRe_bad sRe_bad (by decide) rfl g1 (Nat.le_of_ble_eq_true rfl) h
  · replace h := h.2 c
    refine Ev.aload_n dRe_owed_14 rfl ?_
    refine Ev.iload_n dRe_owed_15 rfl ?_
    have g2 := h.1
    replace h := h.2
    exact Ev.vcV (z := mRe_isPerson) (ci := 11) [.int x2] [.ref r0] rfl dRe_owed_16 oRe_isPerson rfl w1618 iRe_isPerson sRe_isPerson (by decide) rfl g2 (Nat.le_of_ble_eq_true rfl) h
theorem bRe_owed_19 {l : Launch} {G : Gx} {d : Nat} {bc bs : Nat} {Φ : OutV → Mm → Prop} (M : Mm) (a0 : Nat) (x1 : Int32) (x2 : Int32) (u3 : Value) (u4 : Value) (u5 : Value) (r0 : Nat) (s1 : Int32)
    (h : (¬ s1 = 0 → ((m_sh M r0).1 = 11) ∧ CallVC l G d mRe_owed 31 [.ref a0, .int x1, .int x2, u3, u4, u5] [] mRe_bad [.ref r0, .int 0, .int 1] M bc bs Φ) ∧ (s1 = 0 → ((m_sh M r0).1 = 11) ∧ CallVC l G d mRe_owed 31 [.ref a0, .int x1, .int x2, u3, u4, u5] [] mRe_bad [.ref r0, .int 1, .int 1] M bc bs Φ)) :
    Ev l G d mRe_owed 19 [.ref a0, .int x1, .int x2, u3, u4, u5] [.int s1, .ref r0] M bc bs Φ := by
  refine Ev.if_ne 26 (by decide) dRe_owed_19 (fun c => ?_) (fun c => ?_)
  · replace h := h.1 c
    refine Ev.iconst (v := 0) dRe_owed_26 (by decide) ?_
    refine Ev.iconst (v := 1) dRe_owed_27 (by decide) ?_
    have g1 := h.1
    replace h := h.2
    exact Ev.vcV (z := mRe_bad) (ci := 11) [.int 0, .int 1] [] rfl dRe_owed_28 oRe_bad rfl w1479 iRe_bad sRe_bad (by decide) rfl g1 (Nat.le_of_ble_eq_true rfl) h
  · replace h := h.2 c
    refine Ev.iconst (v := 1) dRe_owed_22 (by decide) ?_
    refine Ev.goto 27 dRe_owed_23 (by decide) ?_
    refine Ev.iconst (v := 1) dRe_owed_27 (by decide) ?_
    have g2 := h.1
    replace h := h.2
    exact Ev.vcV (z := mRe_bad) (ci := 11) [.int 1, .int 1] [] rfl dRe_owed_28 oRe_bad rfl w1479 iRe_bad sRe_bad (by decide) rfl g2 (Nat.le_of_ble_eq_true rfl) h
theorem bRe_owed_31 {l : Launch} {G : Gx} {d : Nat} {bc bs : Nat} {Φ : OutV → Mm → Prop} (M : Mm) (a0 : Nat) (x1 : Int32) (x2 : Int32) (u3 : Value) (u4 : Value) (u5 : Value) (s0 : Int32)
    (h : (s0 = 0 → ((m_sh M a0).1 = 11) ∧ CallVC l G d mRe_owed 40 [.ref a0, .int x1, .int x2, u3, u4, u5] [] mRe_asItIs [.ref a0] M bc bs Φ) ∧ (¬ s0 = 0 → Φ (.inl (some (.int 0))) M)) :
    Ev l G d mRe_owed 31 [.ref a0, .int x1, .int x2, u3, u4, u5] [.int s0] M bc bs Φ := by
  refine Ev.if_eq 36 (by decide) dRe_owed_31 (fun c => ?_) (fun c => ?_)
  · replace h := h.1 c
    refine Ev.aload_n dRe_owed_36 rfl ?_
    have g1 := h.1
    replace h := h.2
    exact Ev.vcV (z := mRe_asItIs) (ci := 11) [] [] rfl dRe_owed_37 oRe_asItIs rfl w1661 iRe_asItIs sRe_asItIs (by decide) rfl g1 (Nat.le_of_ble_eq_true rfl) h
  · replace h := h.2 c
    refine Ev.iconst (v := 0) dRe_owed_34 (by decide) ?_
    exact Ev.iret dRe_owed_35 rfl rfl h
theorem bRe_owed_40 {l : Launch} {G : Gx} {d : Nat} {bc bs : Nat} {Φ : OutV → Mm → Prop} (M : Mm) (a0 : Nat) (x1 : Int32) (x2 : Int32) (u3 : Value) (u4 : Value) (u5 : Value)
    (h : Ev l G d mRe_owed 42 [.ref a0, .int x1, .int x2, .int 0, u4, u5] [] M bc bs Φ) :
    Ev l G d mRe_owed 40 [.ref a0, .int x1, .int x2, u3, u4, u5] [] M bc bs Φ := by
  refine Ev.iconst (v := 0) dRe_owed_40 (by decide) ?_
  refine Ev.istore_n dRe_owed_41 (by decide) ?_
  show Ev l G d mRe_owed (_ + _) [.ref a0, .int x1, .int x2, .int 0, u4, u5] [] M bc bs Φ
  exact h
theorem bRe_owed_42 {l : Launch} {G : Gx} {d : Nat} {bc bs : Nat} {Φ : OutV → Mm → Prop} (M : Mm) (a0 : Nat) (x1 : Int32) (x2 : Int32) (x3 : Int32) (u4 : Value) (u5 : Value)
    (h : ((m_sh M a0).1 = 11) ∧ ((m_i M a0 11) ≤ x3 → Ev l G d mRe_owed 113 [.ref a0, .int x1, .int x2, .int 1, u4, u5] [] M bc bs Φ) ∧ (¬ (m_i M a0 11) ≤ x3 → Ev l G d mRe_owed 53 [.ref a0, .int x1, .int x2, .int x3, .int 0, u5] [] M bc bs Φ)) :
    Ev l G d mRe_owed 42 [.ref a0, .int x1, .int x2, .int x3, u4, u5] [] M bc bs Φ := by
  refine Ev.iload_n dRe_owed_42 rfl ?_
  refine Ev.aload_n dRe_owed_43 rfl ?_
  have g1 := h.1
  replace h := h.2
  refine Ev.getI dRe_owed_44 (Or.inl fRe_206) rfl g1 ?_
  refine Ev.icmp_ge 111 (by decide) dRe_owed_47 (fun c => ?_) (fun c => ?_)
  · replace h := h.1 c
    refine Ev.iconst (v := 1) dRe_owed_111 (by decide) ?_
    refine Ev.istore_n dRe_owed_112 (by decide) ?_
    show Ev l G d mRe_owed (_ + _) [.ref a0, .int x1, .int x2, .int 1, u4, u5] [] M bc bs Φ
    exact h
  · replace h := h.2 c
    refine Ev.iconst (v := 0) dRe_owed_50 (by decide) ?_
    refine Ev.istore dRe_owed_51 (by decide) ?_
    show Ev l G d mRe_owed (_ + _) [.ref a0, .int x1, .int x2, .int x3, .int 0, u5] [] M bc bs Φ
    exact h
theorem bRe_owed_53 {l : Launch} {G : Gx} {d : Nat} {bc bs : Nat} {Φ : OutV → Mm → Prop} (M : Mm) (a0 : Nat) (x1 : Int32) (x2 : Int32) (x3 : Int32) (x4 : Int32) (u5 : Value)
    (h : ((m_sh M a0).1 = 11) ∧ ((m_i M a0 11) ≤ x4 → Ev l G d mRe_owed 42 [.ref a0, .int x1, .int x2, .int (x3 + 1), .int x4, u5] [] M bc bs Φ) ∧ (¬ (m_i M a0 11) ≤ x4 → CallVC l G d mRe_owed 69 [.ref a0, .int x1, .int x2, .int x3, .int x4, u5] [] mRe_bookOf [.ref a0, .int x3, .int x4] M bc bs Φ)) :
    Ev l G d mRe_owed 53 [.ref a0, .int x1, .int x2, .int x3, .int x4, u5] [] M bc bs Φ := by
  refine Ev.iload dRe_owed_53 rfl ?_
  refine Ev.aload_n dRe_owed_55 rfl ?_
  have g1 := h.1
  replace h := h.2
  refine Ev.getI dRe_owed_56 (Or.inl fRe_206) rfl g1 ?_
  refine Ev.icmp_ge 105 (by decide) dRe_owed_59 (fun c => ?_) (fun c => ?_)
  · replace h := h.1 c
    refine Ev.iinc (v := x3 + 1) dRe_owed_105 (by decide) rfl rfl ?_
    show Ev l G d mRe_owed (_ + _) [.ref a0, .int x1, .int x2, .int (x3 + 1), .int x4, u5] [] M bc bs Φ
    refine Ev.goto 42 dRe_owed_108 (by decide) ?_
    exact h
  · replace h := h.2 c
    refine Ev.aload_n dRe_owed_62 rfl ?_
    refine Ev.iload_n dRe_owed_63 rfl ?_
    refine Ev.iload dRe_owed_64 rfl ?_
    exact Ev.vcV (z := mRe_bookOf) (ci := 11) [.int x3, .int x4] [] rfl dRe_owed_66 oRe_bookOf rfl w1725 iRe_bookOf sRe_bookOf (by decide) rfl g1 (Nat.le_of_ble_eq_true rfl) h
theorem bRe_owed_69 {l : Launch} {G : Gx} {d : Nat} {bc bs : Nat} {Φ : OutV → Mm → Prop} (M : Mm) (a0 : Nat) (x1 : Int32) (x2 : Int32) (x3 : Int32) (x4 : Int32) (u5 : Value) (s0 : Int32)
    (h : ((m_sh M a0).1 = 11) ∧ CallVC l G d mRe_owed 76 [.ref a0, .int x1, .int x2, .int x3, .int x4, u5] [.int s0] mRe_bookOf [.ref a0, .int x4, .int x3] M bc bs Φ) :
    Ev l G d mRe_owed 69 [.ref a0, .int x1, .int x2, .int x3, .int x4, u5] [.int s0] M bc bs Φ := by
  refine Ev.aload_n dRe_owed_69 rfl ?_
  refine Ev.iload dRe_owed_70 rfl ?_
  refine Ev.iload_n dRe_owed_72 rfl ?_
  have g1 := h.1
  replace h := h.2
  exact Ev.vcV (z := mRe_bookOf) (ci := 11) [.int x4, .int x3] [.int s0] rfl dRe_owed_73 oRe_bookOf rfl w1725 iRe_bookOf sRe_bookOf (by decide) rfl g1 (Nat.le_of_ble_eq_true rfl) h
theorem bRe_owed_76 {l : Launch} {G : Gx} {d : Nat} {bc bs : Nat} {Φ : OutV → Mm → Prop} (M : Mm) (a0 : Nat) (x1 : Int32) (x2 : Int32) (x3 : Int32) (x4 : Int32) (u5 : Value) (s0 : Int32) (s1 : Int32)
    (h : ((m_sh M a0).1 = 11) ∧ ((m_sh M (m_r M a0 58)).1 = 33) ∧ (vp_in x3 (m_sh M (m_r M a0 58)).2) ∧ ((s0 - s1) ≤ 0 → ((m_sh M (m_r M (m_r M a0 58) x3.toNatClampNeg)).1 = 20) ∧ (vp_in x4 (m_sh M (m_r M (m_r M a0 58) x3.toNatClampNeg)).2) ∧ Ev l G d mRe_owed 53 [.ref a0, .int x1, .int x2, .int x3, .int (x4 + 1), .int (s0 - s1)] [] (m_si M (m_r M (m_r M a0 58) x3.toNatClampNeg) x4.toNatClampNeg 0) bc bs Φ) ∧ (¬ (s0 - s1) ≤ 0 → ((m_sh M (m_r M (m_r M a0 58) x3.toNatClampNeg)).1 = 20) ∧ (vp_in x4 (m_sh M (m_r M (m_r M a0 58) x3.toNatClampNeg)).2) ∧ Ev l G d mRe_owed 53 [.ref a0, .int x1, .int x2, .int x3, .int (x4 + 1), .int (s0 - s1)] [] (m_si M (m_r M (m_r M a0 58) x3.toNatClampNeg) x4.toNatClampNeg (s0 - s1)) bc bs Φ)) :
    Ev l G d mRe_owed 76 [.ref a0, .int x1, .int x2, .int x3, .int x4, u5] [.int s1, .int s0] M bc bs Φ := by
  refine Ev.isub dRe_owed_76 ?_
  refine Ev.istore dRe_owed_77 (by decide) ?_
  show Ev l G d mRe_owed (_ + _) [.ref a0, .int x1, .int x2, .int x3, .int x4, .int (s0 - s1)] [] M bc bs Φ
  refine Ev.aload_n dRe_owed_79 rfl ?_
  have g1 := h.1
  replace h := h.2
  refine Ev.getR dRe_owed_80 (Or.inl fRe_109) rfl g1 ?_
  refine Ev.iload_n dRe_owed_83 rfl ?_
  have g2 := h.1
  replace h := h.2
  have g3 := h.1
  replace h := h.2
  refine Ev.aald2 33 (by decide) dRe_owed_84 g2 g3 ?_
  refine Ev.iload dRe_owed_85 rfl ?_
  refine Ev.iload dRe_owed_87 rfl ?_
  refine Ev.if_le 97 (by decide) dRe_owed_89 (fun c => ?_) (fun c => ?_)
  · replace h := h.1 c
    refine Ev.iconst (v := 0) dRe_owed_97 (by decide) ?_
    have g4 := h.1
    replace h := h.2
    have g5 := h.1
    replace h := h.2
    refine Ev.iast2 dRe_owed_98 g4 g5 ?_
    refine Ev.iinc (v := x4 + 1) dRe_owed_99 (by decide) rfl rfl ?_
    show Ev l G d mRe_owed (_ + _) [.ref a0, .int x1, .int x2, .int x3, .int (x4 + 1), .int (s0 - s1)] [] (m_si M (m_r M (m_r M a0 58) x3.toNatClampNeg) x4.toNatClampNeg 0) bc bs Φ
    refine Ev.goto 53 dRe_owed_102 (by decide) ?_
    exact h
  · replace h := h.2 c
    refine Ev.iload dRe_owed_92 rfl ?_
    refine Ev.goto 98 dRe_owed_94 (by decide) ?_
    have g6 := h.1
    replace h := h.2
    have g7 := h.1
    replace h := h.2
    refine Ev.iast2 dRe_owed_98 g6 g7 ?_
    refine Ev.iinc (v := x4 + 1) dRe_owed_99 (by decide) rfl rfl ?_
    show Ev l G d mRe_owed (_ + _) [.ref a0, .int x1, .int x2, .int x3, .int (x4 + 1), .int (s0 - s1)] [] (m_si M (m_r M (m_r M a0 58) x3.toNatClampNeg) x4.toNatClampNeg (s0 - s1)) bc bs Φ
    refine Ev.goto 53 dRe_owed_102 (by decide) ?_
    exact h
def mRe_setsOff : MR := (⟨"BowingRowModel", "setsOff", "()Z"⟩, prog_14_method_67_code, 8, (Option.some .boolean))
theorem oRe_setsOff : MOK mRe_setsOff 0 := ⟨lwg_of 1736 (by decide +kernel) (by decide +kernel), lwg_of 103 (by decide +kernel) (by decide +kernel), ⟨by decide +kernel, by decide +kernel⟩, by decide +kernel, by decide⟩
theorem iRe_setsOff : Cond.instanceMethod mRe_setsOff.1 ∈ lwg := lwg_of 1735 (by decide +kernel) (by decide +kernel)
theorem sRe_setsOff : Cond.selects mRe_setsOff.1.cls mRe_setsOff.1 mRe_setsOff.1 ∈ lwg := lwg_of 82 (by decide +kernel) (by decide +kernel)
theorem w1733 : Cond.methodLink "BowingRowModel" 368 ⟨"BowingRowModel", "setsOff", "()Z"⟩ ∈ lwg := lwg_of 1733 (by decide +kernel) (by decide +kernel)
theorem bRe_owed_113 {l : Launch} {G : Gx} {d : Nat} {bc bs : Nat} {Φ : OutV → Mm → Prop} (M : Mm) (a0 : Nat) (x1 : Int32) (x2 : Int32) (x3 : Int32) (u4 : Value) (u5 : Value)
    (h : (x3 = 0 → ((m_sh M a0).1 = 11) ∧ ((m_sh M (m_r M a0 58)).1 = 33) ∧ (vp_in x1 (m_sh M (m_r M a0 58)).2) ∧ ((m_sh M (m_r M (m_r M a0 58) x1.toNatClampNeg)).1 = 20) ∧ (vp_in x2 (m_sh M (m_r M (m_r M a0 58) x1.toNatClampNeg)).2) ∧ Φ (.inl (some (.int (m_i M (m_r M (m_r M a0 58) x1.toNatClampNeg) x2.toNatClampNeg)))) M) ∧ (¬ x3 = 0 → ((m_sh M a0).1 = 11) ∧ CallVC l G d mRe_owed 121 [.ref a0, .int x1, .int x2, .int x3, u4, u5] [] mRe_setsOff [.ref a0] M bc bs Φ)) :
    Ev l G d mRe_owed 113 [.ref a0, .int x1, .int x2, .int x3, u4, u5] [] M bc bs Φ := by
  refine Ev.iload_n dRe_owed_113 rfl ?_
  refine Ev.if_eq 125 (by decide) dRe_owed_114 (fun c => ?_) (fun c => ?_)
  · replace h := h.1 c
    refine Ev.aload_n dRe_owed_125 rfl ?_
    have g1 := h.1
    replace h := h.2
    refine Ev.getR dRe_owed_126 (Or.inl fRe_109) rfl g1 ?_
    refine Ev.iload_n dRe_owed_129 rfl ?_
    have g2 := h.1
    replace h := h.2
    have g3 := h.1
    replace h := h.2
    refine Ev.aald2 33 (by decide) dRe_owed_130 g2 g3 ?_
    refine Ev.iload_n dRe_owed_131 rfl ?_
    have g4 := h.1
    replace h := h.2
    have g5 := h.1
    replace h := h.2
    refine Ev.iald2 dRe_owed_132 g4 g5 ?_
    exact Ev.iret dRe_owed_133 rfl rfl h
  · replace h := h.2 c
    refine Ev.aload_n dRe_owed_117 rfl ?_
    have g6 := h.1
    replace h := h.2
    exact Ev.vcV (z := mRe_setsOff) (ci := 11) [] [] rfl dRe_owed_118 oRe_setsOff rfl w1733 iRe_setsOff sRe_setsOff (by decide) rfl g6 (Nat.le_of_ble_eq_true rfl) h
theorem bRe_owed_121 {l : Launch} {G : Gx} {d : Nat} {bc bs : Nat} {Φ : OutV → Mm → Prop} (M : Mm) (a0 : Nat) (x1 : Int32) (x2 : Int32) (x3 : Int32) (u4 : Value) (u5 : Value) (s0 : Int32)
    (h : Ev l G d mRe_owed 113 [.ref a0, .int x1, .int x2, .int s0, u4, u5] [] M bc bs Φ) :
    Ev l G d mRe_owed 121 [.ref a0, .int x1, .int x2, .int x3, u4, u5] [.int s0] M bc bs Φ := by
  refine Ev.istore_n dRe_owed_121 (by decide) ?_
  show Ev l G d mRe_owed (_ + _) [.ref a0, .int x1, .int x2, .int s0, u4, u5] [] M bc bs Φ
  refine Ev.goto 113 dRe_owed_122 (by decide) ?_
  exact h
theorem dRe_setsOff_0 : decode mRe_setsOff.2.1 0 = .ok (.iconst 0, 1) := by decide +kernel
theorem dRe_setsOff_1 : decode mRe_setsOff.2.1 1 = .ok (.istore_n 1, 1) := by decide +kernel
theorem dRe_setsOff_2 : decode mRe_setsOff.2.1 2 = .ok (.iload_n 1, 1) := by decide +kernel
theorem dRe_setsOff_3 : decode mRe_setsOff.2.1 3 = .ok (.aload_n 0, 1) := by decide +kernel
theorem dRe_setsOff_4 : decode mRe_setsOff.2.1 4 = .ok (.getfield 206, 3) := by decide +kernel
theorem dRe_setsOff_7 : decode mRe_setsOff.2.1 7 = .ok (.if_icmp .ge 161, 3) := by decide +kernel
theorem dRe_setsOff_10 : decode mRe_setsOff.2.1 10 = .ok (.iload_n 1, 1) := by decide +kernel
theorem dRe_setsOff_11 : decode mRe_setsOff.2.1 11 = .ok (.iconst 1, 1) := by decide +kernel
theorem dRe_setsOff_12 : decode mRe_setsOff.2.1 12 = .ok (.iadd, 1) := by decide +kernel
theorem dRe_setsOff_13 : decode mRe_setsOff.2.1 13 = .ok (.istore_n 2, 1) := by decide +kernel
theorem dRe_setsOff_14 : decode mRe_setsOff.2.1 14 = .ok (.iload_n 2, 1) := by decide +kernel
theorem dRe_setsOff_15 : decode mRe_setsOff.2.1 15 = .ok (.aload_n 0, 1) := by decide +kernel
theorem dRe_setsOff_16 : decode mRe_setsOff.2.1 16 = .ok (.getfield 206, 3) := by decide +kernel
theorem dRe_setsOff_19 : decode mRe_setsOff.2.1 19 = .ok (.if_icmp .ge 143, 3) := by decide +kernel
theorem dRe_setsOff_22 : decode mRe_setsOff.2.1 22 = .ok (.iload_n 1, 1) := by decide +kernel
theorem dRe_setsOff_23 : decode mRe_setsOff.2.1 23 = .ok (.iconst 1, 1) := by decide +kernel
theorem dRe_setsOff_24 : decode mRe_setsOff.2.1 24 = .ok (.iadd, 1) := by decide +kernel
theorem dRe_setsOff_25 : decode mRe_setsOff.2.1 25 = .ok (.istore_n 3, 1) := by decide +kernel
theorem dRe_setsOff_26 : decode mRe_setsOff.2.1 26 = .ok (.iload_n 3, 1) := by decide +kernel
theorem dRe_setsOff_27 : decode mRe_setsOff.2.1 27 = .ok (.aload_n 0, 1) := by decide +kernel
theorem dRe_setsOff_28 : decode mRe_setsOff.2.1 28 = .ok (.getfield 206, 3) := by decide +kernel
theorem dRe_setsOff_31 : decode mRe_setsOff.2.1 31 = .ok (.if_icmp .ge 125, 3) := by decide +kernel
theorem dRe_setsOff_34 : decode mRe_setsOff.2.1 34 = .ok (.aload_n 0, 1) := by decide +kernel
theorem dRe_setsOff_35 : decode mRe_setsOff.2.1 35 = .ok (.getfield 109, 3) := by decide +kernel
theorem dRe_setsOff_38 : decode mRe_setsOff.2.1 38 = .ok (.iload_n 2, 1) := by decide +kernel
theorem dRe_setsOff_39 : decode mRe_setsOff.2.1 39 = .ok (.aaload, 1) := by decide +kernel
theorem dRe_setsOff_40 : decode mRe_setsOff.2.1 40 = .ok (.iload_n 1, 1) := by decide +kernel
theorem dRe_setsOff_41 : decode mRe_setsOff.2.1 41 = .ok (.iaload, 1) := by decide +kernel
theorem dRe_setsOff_42 : decode mRe_setsOff.2.1 42 = .ok (.istore 4, 2) := by decide +kernel
theorem dRe_setsOff_44 : decode mRe_setsOff.2.1 44 = .ok (.aload_n 0, 1) := by decide +kernel
theorem dRe_setsOff_45 : decode mRe_setsOff.2.1 45 = .ok (.getfield 109, 3) := by decide +kernel
theorem dRe_setsOff_48 : decode mRe_setsOff.2.1 48 = .ok (.iload_n 3, 1) := by decide +kernel
theorem dRe_setsOff_49 : decode mRe_setsOff.2.1 49 = .ok (.aaload, 1) := by decide +kernel
theorem dRe_setsOff_50 : decode mRe_setsOff.2.1 50 = .ok (.iload_n 2, 1) := by decide +kernel
theorem dRe_setsOff_51 : decode mRe_setsOff.2.1 51 = .ok (.iaload, 1) := by decide +kernel
theorem dRe_setsOff_52 : decode mRe_setsOff.2.1 52 = .ok (.istore 5, 2) := by decide +kernel
theorem dRe_setsOff_54 : decode mRe_setsOff.2.1 54 = .ok (.aload_n 0, 1) := by decide +kernel
theorem dRe_setsOff_55 : decode mRe_setsOff.2.1 55 = .ok (.getfield 109, 3) := by decide +kernel
theorem dRe_setsOff_58 : decode mRe_setsOff.2.1 58 = .ok (.iload_n 1, 1) := by decide +kernel
theorem dRe_setsOff_59 : decode mRe_setsOff.2.1 59 = .ok (.aaload, 1) := by decide +kernel
theorem dRe_setsOff_60 : decode mRe_setsOff.2.1 60 = .ok (.iload_n 3, 1) := by decide +kernel
theorem dRe_setsOff_61 : decode mRe_setsOff.2.1 61 = .ok (.iaload, 1) := by decide +kernel
theorem dRe_setsOff_62 : decode mRe_setsOff.2.1 62 = .ok (.istore 6, 2) := by decide +kernel
theorem dRe_setsOff_64 : decode mRe_setsOff.2.1 64 = .ok (.iload 4, 2) := by decide +kernel
theorem dRe_setsOff_66 : decode mRe_setsOff.2.1 66 = .ok (.iload 5, 2) := by decide +kernel
theorem dRe_setsOff_68 : decode mRe_setsOff.2.1 68 = .ok (.if_icmp .ge 8, 3) := by decide +kernel
theorem dRe_setsOff_71 : decode mRe_setsOff.2.1 71 = .ok (.iload 4, 2) := by decide +kernel
theorem dRe_setsOff_73 : decode mRe_setsOff.2.1 73 = .ok (.goto 5, 3) := by decide +kernel
theorem dRe_setsOff_76 : decode mRe_setsOff.2.1 76 = .ok (.iload 5, 2) := by decide +kernel
theorem dRe_setsOff_78 : decode mRe_setsOff.2.1 78 = .ok (.istore 7, 2) := by decide +kernel
theorem dRe_setsOff_80 : decode mRe_setsOff.2.1 80 = .ok (.iload 6, 2) := by decide +kernel
theorem dRe_setsOff_82 : decode mRe_setsOff.2.1 82 = .ok (.iload 7, 2) := by decide +kernel
theorem dRe_setsOff_84 : decode mRe_setsOff.2.1 84 = .ok (.if_icmp .ge 8, 3) := by decide +kernel
theorem dRe_setsOff_87 : decode mRe_setsOff.2.1 87 = .ok (.iload 6, 2) := by decide +kernel
theorem dRe_setsOff_89 : decode mRe_setsOff.2.1 89 = .ok (.goto 5, 3) := by decide +kernel
theorem dRe_setsOff_92 : decode mRe_setsOff.2.1 92 = .ok (.iload 7, 2) := by decide +kernel
theorem dRe_setsOff_94 : decode mRe_setsOff.2.1 94 = .ok (.istore 7, 2) := by decide +kernel
theorem dRe_setsOff_96 : decode mRe_setsOff.2.1 96 = .ok (.iload_n 2, 1) := by decide +kernel
theorem dRe_setsOff_97 : decode mRe_setsOff.2.1 97 = .ok (.iload_n 3, 1) := by decide +kernel
theorem dRe_setsOff_98 : decode mRe_setsOff.2.1 98 = .ok (.if_icmp .eq 52, 3) := by decide +kernel
theorem dRe_setsOff_101 : decode mRe_setsOff.2.1 101 = .ok (.iload 7, 2) := by decide +kernel
theorem dRe_setsOff_103 : decode mRe_setsOff.2.1 103 = .ok (.ifCond .ne 6, 3) := by decide +kernel
theorem dRe_setsOff_106 : decode mRe_setsOff.2.1 106 = .ok (.goto 44, 3) := by decide +kernel
theorem dRe_setsOff_109 : decode mRe_setsOff.2.1 109 = .ok (.aload_n 0, 1) := by decide +kernel
theorem dRe_setsOff_110 : decode mRe_setsOff.2.1 110 = .ok (.getfield 109, 3) := by decide +kernel
theorem dRe_setsOff_113 : decode mRe_setsOff.2.1 113 = .ok (.iload_n 2, 1) := by decide +kernel
theorem dRe_setsOff_114 : decode mRe_setsOff.2.1 114 = .ok (.aaload, 1) := by decide +kernel
theorem dRe_setsOff_115 : decode mRe_setsOff.2.1 115 = .ok (.iload_n 1, 1) := by decide +kernel
theorem dRe_setsOff_116 : decode mRe_setsOff.2.1 116 = .ok (.dup2, 1) := by decide +kernel
theorem dRe_setsOff_117 : decode mRe_setsOff.2.1 117 = .ok (.iaload, 1) := by decide +kernel
theorem dRe_setsOff_118 : decode mRe_setsOff.2.1 118 = .ok (.iload 7, 2) := by decide +kernel
theorem dRe_setsOff_120 : decode mRe_setsOff.2.1 120 = .ok (.isub, 1) := by decide +kernel
theorem dRe_setsOff_121 : decode mRe_setsOff.2.1 121 = .ok (.iastore, 1) := by decide +kernel
theorem dRe_setsOff_122 : decode mRe_setsOff.2.1 122 = .ok (.aload_n 0, 1) := by decide +kernel
theorem dRe_setsOff_123 : decode mRe_setsOff.2.1 123 = .ok (.getfield 109, 3) := by decide +kernel
theorem dRe_setsOff_126 : decode mRe_setsOff.2.1 126 = .ok (.iload_n 3, 1) := by decide +kernel
theorem dRe_setsOff_127 : decode mRe_setsOff.2.1 127 = .ok (.aaload, 1) := by decide +kernel
theorem dRe_setsOff_128 : decode mRe_setsOff.2.1 128 = .ok (.iload_n 2, 1) := by decide +kernel
theorem dRe_setsOff_129 : decode mRe_setsOff.2.1 129 = .ok (.dup2, 1) := by decide +kernel
theorem dRe_setsOff_130 : decode mRe_setsOff.2.1 130 = .ok (.iaload, 1) := by decide +kernel
theorem dRe_setsOff_131 : decode mRe_setsOff.2.1 131 = .ok (.iload 7, 2) := by decide +kernel
theorem dRe_setsOff_133 : decode mRe_setsOff.2.1 133 = .ok (.isub, 1) := by decide +kernel
theorem dRe_setsOff_134 : decode mRe_setsOff.2.1 134 = .ok (.iastore, 1) := by decide +kernel
theorem dRe_setsOff_135 : decode mRe_setsOff.2.1 135 = .ok (.aload_n 0, 1) := by decide +kernel
theorem dRe_setsOff_136 : decode mRe_setsOff.2.1 136 = .ok (.getfield 109, 3) := by decide +kernel
theorem dRe_setsOff_139 : decode mRe_setsOff.2.1 139 = .ok (.iload_n 1, 1) := by decide +kernel
theorem dRe_setsOff_140 : decode mRe_setsOff.2.1 140 = .ok (.aaload, 1) := by decide +kernel
theorem dRe_setsOff_141 : decode mRe_setsOff.2.1 141 = .ok (.iload_n 3, 1) := by decide +kernel
theorem dRe_setsOff_142 : decode mRe_setsOff.2.1 142 = .ok (.dup2, 1) := by decide +kernel
theorem dRe_setsOff_143 : decode mRe_setsOff.2.1 143 = .ok (.iaload, 1) := by decide +kernel
theorem dRe_setsOff_144 : decode mRe_setsOff.2.1 144 = .ok (.iload 7, 2) := by decide +kernel
theorem dRe_setsOff_146 : decode mRe_setsOff.2.1 146 = .ok (.isub, 1) := by decide +kernel
theorem dRe_setsOff_147 : decode mRe_setsOff.2.1 147 = .ok (.iastore, 1) := by decide +kernel
theorem dRe_setsOff_148 : decode mRe_setsOff.2.1 148 = .ok (.iconst 1, 1) := by decide +kernel
theorem dRe_setsOff_149 : decode mRe_setsOff.2.1 149 = .ok (.ireturn, 1) := by decide +kernel
theorem dRe_setsOff_150 : decode mRe_setsOff.2.1 150 = .ok (.iinc 3 1, 3) := by decide +kernel
theorem dRe_setsOff_153 : decode mRe_setsOff.2.1 153 = .ok (.goto (-127), 3) := by decide +kernel
theorem dRe_setsOff_156 : decode mRe_setsOff.2.1 156 = .ok (.iinc 2 1, 3) := by decide +kernel
theorem dRe_setsOff_159 : decode mRe_setsOff.2.1 159 = .ok (.goto (-145), 3) := by decide +kernel
theorem dRe_setsOff_162 : decode mRe_setsOff.2.1 162 = .ok (.iinc 1 1, 3) := by decide +kernel
theorem dRe_setsOff_165 : decode mRe_setsOff.2.1 165 = .ok (.goto (-163), 3) := by decide +kernel
theorem dRe_setsOff_168 : decode mRe_setsOff.2.1 168 = .ok (.iconst 0, 1) := by decide +kernel
theorem dRe_setsOff_169 : decode mRe_setsOff.2.1 169 = .ok (.ireturn, 1) := by decide +kernel
theorem bRe_setsOff_0 {l : Launch} {G : Gx} {d : Nat} {bc bs : Nat} {Φ : OutV → Mm → Prop} (M : Mm) (a0 : Nat)
    (h : Ev l G d mRe_setsOff 2 [.ref a0, .int 0, .null, .null, .null, .null, .null, .null] [] M bc bs Φ) :
    Ev l G d mRe_setsOff 0 [.ref a0, .null, .null, .null, .null, .null, .null, .null] [] M bc bs Φ := by
  refine Ev.iconst (v := 0) dRe_setsOff_0 (by decide) ?_
  refine Ev.istore_n dRe_setsOff_1 (by decide) ?_
  show Ev l G d mRe_setsOff (_ + _) [.ref a0, .int 0, .null, .null, .null, .null, .null, .null] [] M bc bs Φ
  exact h
theorem bRe_setsOff_2 {l : Launch} {G : Gx} {d : Nat} {bc bs : Nat} {Φ : OutV → Mm → Prop} (M : Mm) (a0 : Nat) (x1 : Int32) (u2 : Value) (u3 : Value) (u4 : Value) (u5 : Value) (u6 : Value) (u7 : Value)
    (h : ((m_sh M a0).1 = 11) ∧ ((m_i M a0 11) ≤ x1 → Φ (.inl (some (.int 0))) M) ∧ (¬ (m_i M a0 11) ≤ x1 → Ev l G d mRe_setsOff 14 [.ref a0, .int x1, .int (x1 + 1), u3, u4, u5, u6, u7] [] M bc bs Φ)) :
    Ev l G d mRe_setsOff 2 [.ref a0, .int x1, u2, u3, u4, u5, u6, u7] [] M bc bs Φ := by
  refine Ev.iload_n dRe_setsOff_2 rfl ?_
  refine Ev.aload_n dRe_setsOff_3 rfl ?_
  have g1 := h.1
  replace h := h.2
  refine Ev.getI dRe_setsOff_4 (Or.inl fRe_206) rfl g1 ?_
  refine Ev.icmp_ge 168 (by decide) dRe_setsOff_7 (fun c => ?_) (fun c => ?_)
  · replace h := h.1 c
    refine Ev.iconst (v := 0) dRe_setsOff_168 (by decide) ?_
    exact Ev.iret dRe_setsOff_169 rfl rfl h
  · replace h := h.2 c
    refine Ev.iload_n dRe_setsOff_10 rfl ?_
    refine Ev.iconst (v := 1) dRe_setsOff_11 (by decide) ?_
    refine Ev.iadd dRe_setsOff_12 ?_
    refine Ev.istore_n dRe_setsOff_13 (by decide) ?_
    show Ev l G d mRe_setsOff (_ + _) [.ref a0, .int x1, .int (x1 + 1), u3, u4, u5, u6, u7] [] M bc bs Φ
    exact h
theorem bRe_setsOff_14 {l : Launch} {G : Gx} {d : Nat} {bc bs : Nat} {Φ : OutV → Mm → Prop} (M : Mm) (a0 : Nat) (x1 : Int32) (x2 : Int32) (u3 : Value) (u4 : Value) (u5 : Value) (u6 : Value) (u7 : Value)
    (h : ((m_sh M a0).1 = 11) ∧ ((m_i M a0 11) ≤ x2 → Ev l G d mRe_setsOff 2 [.ref a0, .int (x1 + 1), .int x2, u3, u4, u5, u6, u7] [] M bc bs Φ) ∧ (¬ (m_i M a0 11) ≤ x2 → Ev l G d mRe_setsOff 26 [.ref a0, .int x1, .int x2, .int (x1 + 1), u4, u5, u6, u7] [] M bc bs Φ)) :
    Ev l G d mRe_setsOff 14 [.ref a0, .int x1, .int x2, u3, u4, u5, u6, u7] [] M bc bs Φ := by
  refine Ev.iload_n dRe_setsOff_14 rfl ?_
  refine Ev.aload_n dRe_setsOff_15 rfl ?_
  have g1 := h.1
  replace h := h.2
  refine Ev.getI dRe_setsOff_16 (Or.inl fRe_206) rfl g1 ?_
  refine Ev.icmp_ge 162 (by decide) dRe_setsOff_19 (fun c => ?_) (fun c => ?_)
  · replace h := h.1 c
    refine Ev.iinc (v := x1 + 1) dRe_setsOff_162 (by decide) rfl rfl ?_
    show Ev l G d mRe_setsOff (_ + _) [.ref a0, .int (x1 + 1), .int x2, u3, u4, u5, u6, u7] [] M bc bs Φ
    refine Ev.goto 2 dRe_setsOff_165 (by decide) ?_
    exact h
  · replace h := h.2 c
    refine Ev.iload_n dRe_setsOff_22 rfl ?_
    refine Ev.iconst (v := 1) dRe_setsOff_23 (by decide) ?_
    refine Ev.iadd dRe_setsOff_24 ?_
    refine Ev.istore_n dRe_setsOff_25 (by decide) ?_
    show Ev l G d mRe_setsOff (_ + _) [.ref a0, .int x1, .int x2, .int (x1 + 1), u4, u5, u6, u7] [] M bc bs Φ
    exact h
theorem bRe_setsOff_26 {l : Launch} {G : Gx} {d : Nat} {bc bs : Nat} {Φ : OutV → Mm → Prop} (M : Mm) (a0 : Nat) (x1 : Int32) (x2 : Int32) (x3 : Int32) (u4 : Value) (u5 : Value) (u6 : Value) (u7 : Value)
    (h : ((m_sh M a0).1 = 11) ∧ ((m_i M a0 11) ≤ x3 → Ev l G d mRe_setsOff 14 [.ref a0, .int x1, .int (x2 + 1), .int x3, u4, u5, u6, u7] [] M bc bs Φ) ∧ (¬ (m_i M a0 11) ≤ x3 → ((m_sh M (m_r M a0 58)).1 = 33) ∧ (vp_in x2 (m_sh M (m_r M a0 58)).2) ∧ ((m_sh M (m_r M (m_r M a0 58) x2.toNatClampNeg)).1 = 20) ∧ (vp_in x1 (m_sh M (m_r M (m_r M a0 58) x2.toNatClampNeg)).2) ∧ (vp_in x3 (m_sh M (m_r M a0 58)).2) ∧ ((m_sh M (m_r M (m_r M a0 58) x3.toNatClampNeg)).1 = 20) ∧ (vp_in x2 (m_sh M (m_r M (m_r M a0 58) x3.toNatClampNeg)).2) ∧ (vp_in x1 (m_sh M (m_r M a0 58)).2) ∧ ((m_sh M (m_r M (m_r M a0 58) x1.toNatClampNeg)).1 = 20) ∧ (vp_in x3 (m_sh M (m_r M (m_r M a0 58) x1.toNatClampNeg)).2) ∧ ((m_i M (m_r M (m_r M a0 58) x3.toNatClampNeg) x2.toNatClampNeg) ≤ (m_i M (m_r M (m_r M a0 58) x2.toNatClampNeg) x1.toNatClampNeg) → ((m_i M (m_r M (m_r M a0 58) x3.toNatClampNeg) x2.toNatClampNeg) ≤ (m_i M (m_r M (m_r M a0 58) x1.toNatClampNeg) x3.toNatClampNeg) → (x2 = x3 → Ev l G d mRe_setsOff 150 [.ref a0, .int x1, .int x2, .int x3, .int (m_i M (m_r M (m_r M a0 58) x2.toNatClampNeg) x1.toNatClampNeg), .int (m_i M (m_r M (m_r M a0 58) x3.toNatClampNeg) x2.toNatClampNeg), .int (m_i M (m_r M (m_r M a0 58) x1.toNatClampNeg) x3.toNatClampNeg), .int (m_i M (m_r M (m_r M a0 58) x3.toNatClampNeg) x2.toNatClampNeg)] [] M bc bs Φ) ∧ (¬ x2 = x3 → (¬ (m_i M (m_r M (m_r M a0 58) x3.toNatClampNeg) x2.toNatClampNeg) = 0 → Ev l G d mRe_setsOff 135 [.ref a0, .int x1, .int x2, .int x3, .int (m_i M (m_r M (m_r M a0 58) x2.toNatClampNeg) x1.toNatClampNeg), .int (m_i M (m_r M (m_r M a0 58) x3.toNatClampNeg) x2.toNatClampNeg), .int (m_i M (m_r M (m_r M a0 58) x1.toNatClampNeg) x3.toNatClampNeg), .int (m_i M (m_r M (m_r M a0 58) x3.toNatClampNeg) x2.toNatClampNeg)] [] (m_si (m_si M (m_r M (m_r M a0 58) x2.toNatClampNeg) x1.toNatClampNeg ((m_i M (m_r M (m_r M a0 58) x2.toNatClampNeg) x1.toNatClampNeg) - (m_i M (m_r M (m_r M a0 58) x3.toNatClampNeg) x2.toNatClampNeg))) (m_r M (m_r M a0 58) x3.toNatClampNeg) x2.toNatClampNeg ((m_i (m_si M (m_r M (m_r M a0 58) x2.toNatClampNeg) x1.toNatClampNeg ((m_i M (m_r M (m_r M a0 58) x2.toNatClampNeg) x1.toNatClampNeg) - (m_i M (m_r M (m_r M a0 58) x3.toNatClampNeg) x2.toNatClampNeg))) (m_r M (m_r M a0 58) x3.toNatClampNeg) x2.toNatClampNeg) - (m_i M (m_r M (m_r M a0 58) x3.toNatClampNeg) x2.toNatClampNeg))) bc bs Φ) ∧ ((m_i M (m_r M (m_r M a0 58) x3.toNatClampNeg) x2.toNatClampNeg) = 0 → Ev l G d mRe_setsOff 150 [.ref a0, .int x1, .int x2, .int x3, .int (m_i M (m_r M (m_r M a0 58) x2.toNatClampNeg) x1.toNatClampNeg), .int (m_i M (m_r M (m_r M a0 58) x3.toNatClampNeg) x2.toNatClampNeg), .int (m_i M (m_r M (m_r M a0 58) x1.toNatClampNeg) x3.toNatClampNeg), .int (m_i M (m_r M (m_r M a0 58) x3.toNatClampNeg) x2.toNatClampNeg)] [] M bc bs Φ))) ∧ (¬ (m_i M (m_r M (m_r M a0 58) x3.toNatClampNeg) x2.toNatClampNeg) ≤ (m_i M (m_r M (m_r M a0 58) x1.toNatClampNeg) x3.toNatClampNeg) → (x2 = x3 → Ev l G d mRe_setsOff 150 [.ref a0, .int x1, .int x2, .int x3, .int (m_i M (m_r M (m_r M a0 58) x2.toNatClampNeg) x1.toNatClampNeg), .int (m_i M (m_r M (m_r M a0 58) x3.toNatClampNeg) x2.toNatClampNeg), .int (m_i M (m_r M (m_r M a0 58) x1.toNatClampNeg) x3.toNatClampNeg), .int (m_i M (m_r M (m_r M a0 58) x1.toNatClampNeg) x3.toNatClampNeg)] [] M bc bs Φ) ∧ (¬ x2 = x3 → (¬ (m_i M (m_r M (m_r M a0 58) x1.toNatClampNeg) x3.toNatClampNeg) = 0 → Ev l G d mRe_setsOff 135 [.ref a0, .int x1, .int x2, .int x3, .int (m_i M (m_r M (m_r M a0 58) x2.toNatClampNeg) x1.toNatClampNeg), .int (m_i M (m_r M (m_r M a0 58) x3.toNatClampNeg) x2.toNatClampNeg), .int (m_i M (m_r M (m_r M a0 58) x1.toNatClampNeg) x3.toNatClampNeg), .int (m_i M (m_r M (m_r M a0 58) x1.toNatClampNeg) x3.toNatClampNeg)] [] (m_si (m_si M (m_r M (m_r M a0 58) x2.toNatClampNeg) x1.toNatClampNeg ((m_i M (m_r M (m_r M a0 58) x2.toNatClampNeg) x1.toNatClampNeg) - (m_i M (m_r M (m_r M a0 58) x1.toNatClampNeg) x3.toNatClampNeg))) (m_r M (m_r M a0 58) x3.toNatClampNeg) x2.toNatClampNeg ((m_i (m_si M (m_r M (m_r M a0 58) x2.toNatClampNeg) x1.toNatClampNeg ((m_i M (m_r M (m_r M a0 58) x2.toNatClampNeg) x1.toNatClampNeg) - (m_i M (m_r M (m_r M a0 58) x1.toNatClampNeg) x3.toNatClampNeg))) (m_r M (m_r M a0 58) x3.toNatClampNeg) x2.toNatClampNeg) - (m_i M (m_r M (m_r M a0 58) x1.toNatClampNeg) x3.toNatClampNeg))) bc bs Φ) ∧ ((m_i M (m_r M (m_r M a0 58) x1.toNatClampNeg) x3.toNatClampNeg) = 0 → Ev l G d mRe_setsOff 150 [.ref a0, .int x1, .int x2, .int x3, .int (m_i M (m_r M (m_r M a0 58) x2.toNatClampNeg) x1.toNatClampNeg), .int (m_i M (m_r M (m_r M a0 58) x3.toNatClampNeg) x2.toNatClampNeg), .int (m_i M (m_r M (m_r M a0 58) x1.toNatClampNeg) x3.toNatClampNeg), .int (m_i M (m_r M (m_r M a0 58) x1.toNatClampNeg) x3.toNatClampNeg)] [] M bc bs Φ)))) ∧ (¬ (m_i M (m_r M (m_r M a0 58) x3.toNatClampNeg) x2.toNatClampNeg) ≤ (m_i M (m_r M (m_r M a0 58) x2.toNatClampNeg) x1.toNatClampNeg) → ((m_i M (m_r M (m_r M a0 58) x2.toNatClampNeg) x1.toNatClampNeg) ≤ (m_i M (m_r M (m_r M a0 58) x1.toNatClampNeg) x3.toNatClampNeg) → (x2 = x3 → Ev l G d mRe_setsOff 150 [.ref a0, .int x1, .int x2, .int x3, .int (m_i M (m_r M (m_r M a0 58) x2.toNatClampNeg) x1.toNatClampNeg), .int (m_i M (m_r M (m_r M a0 58) x3.toNatClampNeg) x2.toNatClampNeg), .int (m_i M (m_r M (m_r M a0 58) x1.toNatClampNeg) x3.toNatClampNeg), .int (m_i M (m_r M (m_r M a0 58) x2.toNatClampNeg) x1.toNatClampNeg)] [] M bc bs Φ) ∧ (¬ x2 = x3 → (¬ (m_i M (m_r M (m_r M a0 58) x2.toNatClampNeg) x1.toNatClampNeg) = 0 → Ev l G d mRe_setsOff 135 [.ref a0, .int x1, .int x2, .int x3, .int (m_i M (m_r M (m_r M a0 58) x2.toNatClampNeg) x1.toNatClampNeg), .int (m_i M (m_r M (m_r M a0 58) x3.toNatClampNeg) x2.toNatClampNeg), .int (m_i M (m_r M (m_r M a0 58) x1.toNatClampNeg) x3.toNatClampNeg), .int (m_i M (m_r M (m_r M a0 58) x2.toNatClampNeg) x1.toNatClampNeg)] [] (m_si (m_si M (m_r M (m_r M a0 58) x2.toNatClampNeg) x1.toNatClampNeg ((m_i M (m_r M (m_r M a0 58) x2.toNatClampNeg) x1.toNatClampNeg) - (m_i M (m_r M (m_r M a0 58) x2.toNatClampNeg) x1.toNatClampNeg))) (m_r M (m_r M a0 58) x3.toNatClampNeg) x2.toNatClampNeg ((m_i (m_si M (m_r M (m_r M a0 58) x2.toNatClampNeg) x1.toNatClampNeg ((m_i M (m_r M (m_r M a0 58) x2.toNatClampNeg) x1.toNatClampNeg) - (m_i M (m_r M (m_r M a0 58) x2.toNatClampNeg) x1.toNatClampNeg))) (m_r M (m_r M a0 58) x3.toNatClampNeg) x2.toNatClampNeg) - (m_i M (m_r M (m_r M a0 58) x2.toNatClampNeg) x1.toNatClampNeg))) bc bs Φ) ∧ ((m_i M (m_r M (m_r M a0 58) x2.toNatClampNeg) x1.toNatClampNeg) = 0 → Ev l G d mRe_setsOff 150 [.ref a0, .int x1, .int x2, .int x3, .int (m_i M (m_r M (m_r M a0 58) x2.toNatClampNeg) x1.toNatClampNeg), .int (m_i M (m_r M (m_r M a0 58) x3.toNatClampNeg) x2.toNatClampNeg), .int (m_i M (m_r M (m_r M a0 58) x1.toNatClampNeg) x3.toNatClampNeg), .int (m_i M (m_r M (m_r M a0 58) x2.toNatClampNeg) x1.toNatClampNeg)] [] M bc bs Φ))) ∧ (¬ (m_i M (m_r M (m_r M a0 58) x2.toNatClampNeg) x1.toNatClampNeg) ≤ (m_i M (m_r M (m_r M a0 58) x1.toNatClampNeg) x3.toNatClampNeg) → (x2 = x3 → Ev l G d mRe_setsOff 150 [.ref a0, .int x1, .int x2, .int x3, .int (m_i M (m_r M (m_r M a0 58) x2.toNatClampNeg) x1.toNatClampNeg), .int (m_i M (m_r M (m_r M a0 58) x3.toNatClampNeg) x2.toNatClampNeg), .int (m_i M (m_r M (m_r M a0 58) x1.toNatClampNeg) x3.toNatClampNeg), .int (m_i M (m_r M (m_r M a0 58) x1.toNatClampNeg) x3.toNatClampNeg)] [] M bc bs Φ) ∧ (¬ x2 = x3 → (¬ (m_i M (m_r M (m_r M a0 58) x1.toNatClampNeg) x3.toNatClampNeg) = 0 → Ev l G d mRe_setsOff 135 [.ref a0, .int x1, .int x2, .int x3, .int (m_i M (m_r M (m_r M a0 58) x2.toNatClampNeg) x1.toNatClampNeg), .int (m_i M (m_r M (m_r M a0 58) x3.toNatClampNeg) x2.toNatClampNeg), .int (m_i M (m_r M (m_r M a0 58) x1.toNatClampNeg) x3.toNatClampNeg), .int (m_i M (m_r M (m_r M a0 58) x1.toNatClampNeg) x3.toNatClampNeg)] [] (m_si (m_si M (m_r M (m_r M a0 58) x2.toNatClampNeg) x1.toNatClampNeg ((m_i M (m_r M (m_r M a0 58) x2.toNatClampNeg) x1.toNatClampNeg) - (m_i M (m_r M (m_r M a0 58) x1.toNatClampNeg) x3.toNatClampNeg))) (m_r M (m_r M a0 58) x3.toNatClampNeg) x2.toNatClampNeg ((m_i (m_si M (m_r M (m_r M a0 58) x2.toNatClampNeg) x1.toNatClampNeg ((m_i M (m_r M (m_r M a0 58) x2.toNatClampNeg) x1.toNatClampNeg) - (m_i M (m_r M (m_r M a0 58) x1.toNatClampNeg) x3.toNatClampNeg))) (m_r M (m_r M a0 58) x3.toNatClampNeg) x2.toNatClampNeg) - (m_i M (m_r M (m_r M a0 58) x1.toNatClampNeg) x3.toNatClampNeg))) bc bs Φ) ∧ ((m_i M (m_r M (m_r M a0 58) x1.toNatClampNeg) x3.toNatClampNeg) = 0 → Ev l G d mRe_setsOff 150 [.ref a0, .int x1, .int x2, .int x3, .int (m_i M (m_r M (m_r M a0 58) x2.toNatClampNeg) x1.toNatClampNeg), .int (m_i M (m_r M (m_r M a0 58) x3.toNatClampNeg) x2.toNatClampNeg), .int (m_i M (m_r M (m_r M a0 58) x1.toNatClampNeg) x3.toNatClampNeg), .int (m_i M (m_r M (m_r M a0 58) x1.toNatClampNeg) x3.toNatClampNeg)] [] M bc bs Φ)))))) :
    Ev l G d mRe_setsOff 26 [.ref a0, .int x1, .int x2, .int x3, u4, u5, u6, u7] [] M bc bs Φ := by
  refine Ev.iload_n dRe_setsOff_26 rfl ?_
  refine Ev.aload_n dRe_setsOff_27 rfl ?_
  have g1 := h.1
  replace h := h.2
  refine Ev.getI dRe_setsOff_28 (Or.inl fRe_206) rfl g1 ?_
  refine Ev.icmp_ge 156 (by decide) dRe_setsOff_31 (fun c => ?_) (fun c => ?_)
  · replace h := h.1 c
    refine Ev.iinc (v := x2 + 1) dRe_setsOff_156 (by decide) rfl rfl ?_
    show Ev l G d mRe_setsOff (_ + _) [.ref a0, .int x1, .int (x2 + 1), .int x3, u4, u5, u6, u7] [] M bc bs Φ
    refine Ev.goto 14 dRe_setsOff_159 (by decide) ?_
    exact h
  · replace h := h.2 c
    refine Ev.aload_n dRe_setsOff_34 rfl ?_
    refine Ev.getR dRe_setsOff_35 (Or.inl fRe_109) rfl g1 ?_
    refine Ev.iload_n dRe_setsOff_38 rfl ?_
    have g2 := h.1
    replace h := h.2
    have g3 := h.1
    replace h := h.2
    refine Ev.aald2 33 (by decide) dRe_setsOff_39 g2 g3 ?_
    refine Ev.iload_n dRe_setsOff_40 rfl ?_
    have g4 := h.1
    replace h := h.2
    have g5 := h.1
    replace h := h.2
    refine Ev.iald2 dRe_setsOff_41 g4 g5 ?_
    refine Ev.istore dRe_setsOff_42 (by decide) ?_
    show Ev l G d mRe_setsOff (_ + _) [.ref a0, .int x1, .int x2, .int x3, .int (m_i M (m_r M (m_r M a0 58) x2.toNatClampNeg) x1.toNatClampNeg), u5, u6, u7] [] M bc bs Φ
    refine Ev.aload_n dRe_setsOff_44 rfl ?_
    refine Ev.getR dRe_setsOff_45 (Or.inl fRe_109) rfl g1 ?_
    refine Ev.iload_n dRe_setsOff_48 rfl ?_
    have g6 := h.1
    replace h := h.2
    refine Ev.aald2 33 (by decide) dRe_setsOff_49 g2 g6 ?_
    refine Ev.iload_n dRe_setsOff_50 rfl ?_
    have g7 := h.1
    replace h := h.2
    have g8 := h.1
    replace h := h.2
    refine Ev.iald2 dRe_setsOff_51 g7 g8 ?_
    refine Ev.istore dRe_setsOff_52 (by decide) ?_
    show Ev l G d mRe_setsOff (_ + _) [.ref a0, .int x1, .int x2, .int x3, .int (m_i M (m_r M (m_r M a0 58) x2.toNatClampNeg) x1.toNatClampNeg), .int (m_i M (m_r M (m_r M a0 58) x3.toNatClampNeg) x2.toNatClampNeg), u6, u7] [] M bc bs Φ
    refine Ev.aload_n dRe_setsOff_54 rfl ?_
    refine Ev.getR dRe_setsOff_55 (Or.inl fRe_109) rfl g1 ?_
    refine Ev.iload_n dRe_setsOff_58 rfl ?_
    have g9 := h.1
    replace h := h.2
    refine Ev.aald2 33 (by decide) dRe_setsOff_59 g2 g9 ?_
    refine Ev.iload_n dRe_setsOff_60 rfl ?_
    have g10 := h.1
    replace h := h.2
    have g11 := h.1
    replace h := h.2
    refine Ev.iald2 dRe_setsOff_61 g10 g11 ?_
    refine Ev.istore dRe_setsOff_62 (by decide) ?_
    show Ev l G d mRe_setsOff (_ + _) [.ref a0, .int x1, .int x2, .int x3, .int (m_i M (m_r M (m_r M a0 58) x2.toNatClampNeg) x1.toNatClampNeg), .int (m_i M (m_r M (m_r M a0 58) x3.toNatClampNeg) x2.toNatClampNeg), .int (m_i M (m_r M (m_r M a0 58) x1.toNatClampNeg) x3.toNatClampNeg), u7] [] M bc bs Φ
    refine Ev.iload dRe_setsOff_64 rfl ?_
    refine Ev.iload dRe_setsOff_66 rfl ?_
    refine Ev.icmp_ge 76 (by decide) dRe_setsOff_68 (fun c => ?_) (fun c => ?_)
    · replace h := h.1 c
      refine Ev.iload dRe_setsOff_76 rfl ?_
      refine Ev.istore dRe_setsOff_78 (by decide) ?_
      show Ev l G d mRe_setsOff (_ + _) [.ref a0, .int x1, .int x2, .int x3, .int (m_i M (m_r M (m_r M a0 58) x2.toNatClampNeg) x1.toNatClampNeg), .int (m_i M (m_r M (m_r M a0 58) x3.toNatClampNeg) x2.toNatClampNeg), .int (m_i M (m_r M (m_r M a0 58) x1.toNatClampNeg) x3.toNatClampNeg), .int (m_i M (m_r M (m_r M a0 58) x3.toNatClampNeg) x2.toNatClampNeg)] [] M bc bs Φ
      refine Ev.iload dRe_setsOff_80 rfl ?_
      refine Ev.iload dRe_setsOff_82 rfl ?_
      refine Ev.icmp_ge 92 (by decide) dRe_setsOff_84 (fun c => ?_) (fun c => ?_)
      · replace h := h.1 c
        refine Ev.iload dRe_setsOff_92 rfl ?_
        refine Ev.istore dRe_setsOff_94 (by decide) ?_
        show Ev l G d mRe_setsOff (_ + _) [.ref a0, .int x1, .int x2, .int x3, .int (m_i M (m_r M (m_r M a0 58) x2.toNatClampNeg) x1.toNatClampNeg), .int (m_i M (m_r M (m_r M a0 58) x3.toNatClampNeg) x2.toNatClampNeg), .int (m_i M (m_r M (m_r M a0 58) x1.toNatClampNeg) x3.toNatClampNeg), .int (m_i M (m_r M (m_r M a0 58) x3.toNatClampNeg) x2.toNatClampNeg)] [] M bc bs Φ
        refine Ev.iload_n dRe_setsOff_96 rfl ?_
        refine Ev.iload_n dRe_setsOff_97 rfl ?_
        refine Ev.icmp_eq 150 (by decide) dRe_setsOff_98 (fun c => ?_) (fun c => ?_)
        · replace h := h.1 c
          exact h
        · replace h := h.2 c
          refine Ev.iload dRe_setsOff_101 rfl ?_
          refine Ev.if_ne 109 (by decide) dRe_setsOff_103 (fun c => ?_) (fun c => ?_)
          · replace h := h.1 c
            refine Ev.aload_n dRe_setsOff_109 rfl ?_
            refine Ev.getR dRe_setsOff_110 (Or.inl fRe_109) rfl g1 ?_
            refine Ev.iload_n dRe_setsOff_113 rfl ?_
            refine Ev.aald2 33 (by decide) dRe_setsOff_114 g2 g3 ?_
            refine Ev.iload_n dRe_setsOff_115 rfl ?_
            refine Ev.dup2 dRe_setsOff_116 rfl rfl ?_
            refine Ev.iald2 dRe_setsOff_117 g4 g5 ?_
            refine Ev.iload dRe_setsOff_118 rfl ?_
            refine Ev.isub dRe_setsOff_120 ?_
            refine Ev.iast2 dRe_setsOff_121 g4 g5 ?_
            refine Ev.aload_n dRe_setsOff_122 rfl ?_
            refine Ev.getR dRe_setsOff_123 (Or.inl fRe_109) rfl g1 ?_
            refine Ev.iload_n dRe_setsOff_126 rfl ?_
            refine Ev.aald2 33 (by decide) dRe_setsOff_127 g2 g6 ?_
            refine Ev.iload_n dRe_setsOff_128 rfl ?_
            refine Ev.dup2 dRe_setsOff_129 rfl rfl ?_
            refine Ev.iald2 dRe_setsOff_130 g7 g8 ?_
            refine Ev.iload dRe_setsOff_131 rfl ?_
            refine Ev.isub dRe_setsOff_133 ?_
            refine Ev.iast2 dRe_setsOff_134 g7 g8 ?_
            exact h
          · replace h := h.2 c
            refine Ev.goto 150 dRe_setsOff_106 (by decide) ?_
            exact h
      · replace h := h.2 c
        refine Ev.iload dRe_setsOff_87 rfl ?_
        refine Ev.goto 94 dRe_setsOff_89 (by decide) ?_
        refine Ev.istore dRe_setsOff_94 (by decide) ?_
        show Ev l G d mRe_setsOff (_ + _) [.ref a0, .int x1, .int x2, .int x3, .int (m_i M (m_r M (m_r M a0 58) x2.toNatClampNeg) x1.toNatClampNeg), .int (m_i M (m_r M (m_r M a0 58) x3.toNatClampNeg) x2.toNatClampNeg), .int (m_i M (m_r M (m_r M a0 58) x1.toNatClampNeg) x3.toNatClampNeg), .int (m_i M (m_r M (m_r M a0 58) x1.toNatClampNeg) x3.toNatClampNeg)] [] M bc bs Φ
        refine Ev.iload_n dRe_setsOff_96 rfl ?_
        refine Ev.iload_n dRe_setsOff_97 rfl ?_
        refine Ev.icmp_eq 150 (by decide) dRe_setsOff_98 (fun c => ?_) (fun c => ?_)
        · replace h := h.1 c
          exact h
        · replace h := h.2 c
          refine Ev.iload dRe_setsOff_101 rfl ?_
          refine Ev.if_ne 109 (by decide) dRe_setsOff_103 (fun c => ?_) (fun c => ?_)
          · replace h := h.1 c
            refine Ev.aload_n dRe_setsOff_109 rfl ?_
            refine Ev.getR dRe_setsOff_110 (Or.inl fRe_109) rfl g1 ?_
            refine Ev.iload_n dRe_setsOff_113 rfl ?_
            refine Ev.aald2 33 (by decide) dRe_setsOff_114 g2 g3 ?_
            refine Ev.iload_n dRe_setsOff_115 rfl ?_
            refine Ev.dup2 dRe_setsOff_116 rfl rfl ?_
            refine Ev.iald2 dRe_setsOff_117 g4 g5 ?_
            refine Ev.iload dRe_setsOff_118 rfl ?_
            refine Ev.isub dRe_setsOff_120 ?_
            refine Ev.iast2 dRe_setsOff_121 g4 g5 ?_
            refine Ev.aload_n dRe_setsOff_122 rfl ?_
            refine Ev.getR dRe_setsOff_123 (Or.inl fRe_109) rfl g1 ?_
            refine Ev.iload_n dRe_setsOff_126 rfl ?_
            refine Ev.aald2 33 (by decide) dRe_setsOff_127 g2 g6 ?_
            refine Ev.iload_n dRe_setsOff_128 rfl ?_
            refine Ev.dup2 dRe_setsOff_129 rfl rfl ?_
            refine Ev.iald2 dRe_setsOff_130 g7 g8 ?_
            refine Ev.iload dRe_setsOff_131 rfl ?_
            refine Ev.isub dRe_setsOff_133 ?_
            refine Ev.iast2 dRe_setsOff_134 g7 g8 ?_
            exact h
          · replace h := h.2 c
            refine Ev.goto 150 dRe_setsOff_106 (by decide) ?_
            exact h
    · replace h := h.2 c
      refine Ev.iload dRe_setsOff_71 rfl ?_
      refine Ev.goto 78 dRe_setsOff_73 (by decide) ?_
      refine Ev.istore dRe_setsOff_78 (by decide) ?_
      show Ev l G d mRe_setsOff (_ + _) [.ref a0, .int x1, .int x2, .int x3, .int (m_i M (m_r M (m_r M a0 58) x2.toNatClampNeg) x1.toNatClampNeg), .int (m_i M (m_r M (m_r M a0 58) x3.toNatClampNeg) x2.toNatClampNeg), .int (m_i M (m_r M (m_r M a0 58) x1.toNatClampNeg) x3.toNatClampNeg), .int (m_i M (m_r M (m_r M a0 58) x2.toNatClampNeg) x1.toNatClampNeg)] [] M bc bs Φ
      refine Ev.iload dRe_setsOff_80 rfl ?_
      refine Ev.iload dRe_setsOff_82 rfl ?_
      refine Ev.icmp_ge 92 (by decide) dRe_setsOff_84 (fun c => ?_) (fun c => ?_)
      · replace h := h.1 c
        refine Ev.iload dRe_setsOff_92 rfl ?_
        refine Ev.istore dRe_setsOff_94 (by decide) ?_
        show Ev l G d mRe_setsOff (_ + _) [.ref a0, .int x1, .int x2, .int x3, .int (m_i M (m_r M (m_r M a0 58) x2.toNatClampNeg) x1.toNatClampNeg), .int (m_i M (m_r M (m_r M a0 58) x3.toNatClampNeg) x2.toNatClampNeg), .int (m_i M (m_r M (m_r M a0 58) x1.toNatClampNeg) x3.toNatClampNeg), .int (m_i M (m_r M (m_r M a0 58) x2.toNatClampNeg) x1.toNatClampNeg)] [] M bc bs Φ
        refine Ev.iload_n dRe_setsOff_96 rfl ?_
        refine Ev.iload_n dRe_setsOff_97 rfl ?_
        refine Ev.icmp_eq 150 (by decide) dRe_setsOff_98 (fun c => ?_) (fun c => ?_)
        · replace h := h.1 c
          exact h
        · replace h := h.2 c
          refine Ev.iload dRe_setsOff_101 rfl ?_
          refine Ev.if_ne 109 (by decide) dRe_setsOff_103 (fun c => ?_) (fun c => ?_)
          · replace h := h.1 c
            refine Ev.aload_n dRe_setsOff_109 rfl ?_
            refine Ev.getR dRe_setsOff_110 (Or.inl fRe_109) rfl g1 ?_
            refine Ev.iload_n dRe_setsOff_113 rfl ?_
            refine Ev.aald2 33 (by decide) dRe_setsOff_114 g2 g3 ?_
            refine Ev.iload_n dRe_setsOff_115 rfl ?_
            refine Ev.dup2 dRe_setsOff_116 rfl rfl ?_
            refine Ev.iald2 dRe_setsOff_117 g4 g5 ?_
            refine Ev.iload dRe_setsOff_118 rfl ?_
            refine Ev.isub dRe_setsOff_120 ?_
            refine Ev.iast2 dRe_setsOff_121 g4 g5 ?_
            refine Ev.aload_n dRe_setsOff_122 rfl ?_
            refine Ev.getR dRe_setsOff_123 (Or.inl fRe_109) rfl g1 ?_
            refine Ev.iload_n dRe_setsOff_126 rfl ?_
            refine Ev.aald2 33 (by decide) dRe_setsOff_127 g2 g6 ?_
            refine Ev.iload_n dRe_setsOff_128 rfl ?_
            refine Ev.dup2 dRe_setsOff_129 rfl rfl ?_
            refine Ev.iald2 dRe_setsOff_130 g7 g8 ?_
            refine Ev.iload dRe_setsOff_131 rfl ?_
            refine Ev.isub dRe_setsOff_133 ?_
            refine Ev.iast2 dRe_setsOff_134 g7 g8 ?_
            exact h
          · replace h := h.2 c
            refine Ev.goto 150 dRe_setsOff_106 (by decide) ?_
            exact h
      · replace h := h.2 c
        refine Ev.iload dRe_setsOff_87 rfl ?_
        refine Ev.goto 94 dRe_setsOff_89 (by decide) ?_
        refine Ev.istore dRe_setsOff_94 (by decide) ?_
        show Ev l G d mRe_setsOff (_ + _) [.ref a0, .int x1, .int x2, .int x3, .int (m_i M (m_r M (m_r M a0 58) x2.toNatClampNeg) x1.toNatClampNeg), .int (m_i M (m_r M (m_r M a0 58) x3.toNatClampNeg) x2.toNatClampNeg), .int (m_i M (m_r M (m_r M a0 58) x1.toNatClampNeg) x3.toNatClampNeg), .int (m_i M (m_r M (m_r M a0 58) x1.toNatClampNeg) x3.toNatClampNeg)] [] M bc bs Φ
        refine Ev.iload_n dRe_setsOff_96 rfl ?_
        refine Ev.iload_n dRe_setsOff_97 rfl ?_
        refine Ev.icmp_eq 150 (by decide) dRe_setsOff_98 (fun c => ?_) (fun c => ?_)
        · replace h := h.1 c
          exact h
        · replace h := h.2 c
          refine Ev.iload dRe_setsOff_101 rfl ?_
          refine Ev.if_ne 109 (by decide) dRe_setsOff_103 (fun c => ?_) (fun c => ?_)
          · replace h := h.1 c
            refine Ev.aload_n dRe_setsOff_109 rfl ?_
            refine Ev.getR dRe_setsOff_110 (Or.inl fRe_109) rfl g1 ?_
            refine Ev.iload_n dRe_setsOff_113 rfl ?_
            refine Ev.aald2 33 (by decide) dRe_setsOff_114 g2 g3 ?_
            refine Ev.iload_n dRe_setsOff_115 rfl ?_
            refine Ev.dup2 dRe_setsOff_116 rfl rfl ?_
            refine Ev.iald2 dRe_setsOff_117 g4 g5 ?_
            refine Ev.iload dRe_setsOff_118 rfl ?_
            refine Ev.isub dRe_setsOff_120 ?_
            refine Ev.iast2 dRe_setsOff_121 g4 g5 ?_
            refine Ev.aload_n dRe_setsOff_122 rfl ?_
            refine Ev.getR dRe_setsOff_123 (Or.inl fRe_109) rfl g1 ?_
            refine Ev.iload_n dRe_setsOff_126 rfl ?_
            refine Ev.aald2 33 (by decide) dRe_setsOff_127 g2 g6 ?_
            refine Ev.iload_n dRe_setsOff_128 rfl ?_
            refine Ev.dup2 dRe_setsOff_129 rfl rfl ?_
            refine Ev.iald2 dRe_setsOff_130 g7 g8 ?_
            refine Ev.iload dRe_setsOff_131 rfl ?_
            refine Ev.isub dRe_setsOff_133 ?_
            refine Ev.iast2 dRe_setsOff_134 g7 g8 ?_
            exact h
          · replace h := h.2 c
            refine Ev.goto 150 dRe_setsOff_106 (by decide) ?_
            exact h
theorem bRe_setsOff_135 {l : Launch} {G : Gx} {d : Nat} {bc bs : Nat} {Φ : OutV → Mm → Prop} (M : Mm) (a0 : Nat) (x1 : Int32) (x2 : Int32) (x3 : Int32) (x4 : Int32) (x5 : Int32) (x6 : Int32) (x7 : Int32)
    (h : ((m_sh M a0).1 = 11) ∧ ((m_sh M (m_r M a0 58)).1 = 33) ∧ (vp_in x1 (m_sh M (m_r M a0 58)).2) ∧ ((m_sh M (m_r M (m_r M a0 58) x1.toNatClampNeg)).1 = 20) ∧ (vp_in x3 (m_sh M (m_r M (m_r M a0 58) x1.toNatClampNeg)).2) ∧ Φ (.inl (some (.int 1))) (m_si M (m_r M (m_r M a0 58) x1.toNatClampNeg) x3.toNatClampNeg ((m_i M (m_r M (m_r M a0 58) x1.toNatClampNeg) x3.toNatClampNeg) - x7))) :
    Ev l G d mRe_setsOff 135 [.ref a0, .int x1, .int x2, .int x3, .int x4, .int x5, .int x6, .int x7] [] M bc bs Φ := by
  refine Ev.aload_n dRe_setsOff_135 rfl ?_
  have g1 := h.1
  replace h := h.2
  refine Ev.getR dRe_setsOff_136 (Or.inl fRe_109) rfl g1 ?_
  refine Ev.iload_n dRe_setsOff_139 rfl ?_
  have g2 := h.1
  replace h := h.2
  have g3 := h.1
  replace h := h.2
  refine Ev.aald2 33 (by decide) dRe_setsOff_140 g2 g3 ?_
  refine Ev.iload_n dRe_setsOff_141 rfl ?_
  refine Ev.dup2 dRe_setsOff_142 rfl rfl ?_
  have g4 := h.1
  replace h := h.2
  have g5 := h.1
  replace h := h.2
  refine Ev.iald2 dRe_setsOff_143 g4 g5 ?_
  refine Ev.iload dRe_setsOff_144 rfl ?_
  refine Ev.isub dRe_setsOff_146 ?_
  refine Ev.iast2 dRe_setsOff_147 g4 g5 ?_
  refine Ev.iconst (v := 1) dRe_setsOff_148 (by decide) ?_
  exact Ev.iret dRe_setsOff_149 rfl rfl h
theorem bRe_setsOff_150 {l : Launch} {G : Gx} {d : Nat} {bc bs : Nat} {Φ : OutV → Mm → Prop} (M : Mm) (a0 : Nat) (x1 : Int32) (x2 : Int32) (x3 : Int32) (x4 : Int32) (x5 : Int32) (x6 : Int32) (x7 : Int32)
    (h : Ev l G d mRe_setsOff 26 [.ref a0, .int x1, .int x2, .int (x3 + 1), .int x4, .int x5, .int x6, .int x7] [] M bc bs Φ) :
    Ev l G d mRe_setsOff 150 [.ref a0, .int x1, .int x2, .int x3, .int x4, .int x5, .int x6, .int x7] [] M bc bs Φ := by
  refine Ev.iinc (v := x3 + 1) dRe_setsOff_150 (by decide) rfl rfl ?_
  show Ev l G d mRe_setsOff (_ + _) [.ref a0, .int x1, .int x2, .int (x3 + 1), .int x4, .int x5, .int x6, .int x7] [] M bc bs Φ
  refine Ev.goto 26 dRe_setsOff_153 (by decide) ?_
  exact h
def mRe_tell : MR := (⟨"BowingRowModel", "tell", "(I)I"⟩, prog_14_method_69_code, 2, (Option.some .int))
theorem oRe_tell : MOK mRe_tell 1 := ⟨lwg_of 1740 (by decide +kernel) (by decide +kernel), lwg_of 103 (by decide +kernel) (by decide +kernel), ⟨by decide +kernel, by decide +kernel⟩, by decide +kernel, by decide⟩
theorem iRe_tell : Cond.instanceMethod mRe_tell.1 ∈ lwg := lwg_of 1738 (by decide +kernel) (by decide +kernel)
theorem sRe_tell : Cond.selects mRe_tell.1.cls mRe_tell.1 mRe_tell.1 ∈ lwg := lwg_of 1739 (by decide +kernel) (by decide +kernel)
theorem dRe_tell_0 : decode mRe_tell.2.1 0 = .ok (.aload_n 0, 1) := by decide +kernel
theorem dRe_tell_1 : decode mRe_tell.2.1 1 = .ok (.iconst 0, 1) := by decide +kernel
theorem dRe_tell_2 : decode mRe_tell.2.1 2 = .ok (.putfield 115, 3) := by decide +kernel
theorem dRe_tell_5 : decode mRe_tell.2.1 5 = .ok (.aload_n 0, 1) := by decide +kernel
theorem dRe_tell_6 : decode mRe_tell.2.1 6 = .ok (.aload_n 0, 1) := by decide +kernel
theorem dRe_tell_7 : decode mRe_tell.2.1 7 = .ok (.iload_n 1, 1) := by decide +kernel
theorem dRe_tell_8 : decode mRe_tell.2.1 8 = .ok (.invokevirtual 285, 3) := by decide +kernel
theorem dRe_tell_11 : decode mRe_tell.2.1 11 = .ok (.ifCond .ne 7, 3) := by decide +kernel
theorem dRe_tell_14 : decode mRe_tell.2.1 14 = .ok (.iconst 1, 1) := by decide +kernel
theorem dRe_tell_15 : decode mRe_tell.2.1 15 = .ok (.goto 4, 3) := by decide +kernel
theorem dRe_tell_18 : decode mRe_tell.2.1 18 = .ok (.iconst 0, 1) := by decide +kernel
theorem dRe_tell_19 : decode mRe_tell.2.1 19 = .ok (.iconst 1, 1) := by decide +kernel
theorem dRe_tell_20 : decode mRe_tell.2.1 20 = .ok (.invokevirtual 196, 3) := by decide +kernel
theorem dRe_tell_23 : decode mRe_tell.2.1 23 = .ok (.ifCond .eq 5, 3) := by decide +kernel
theorem dRe_tell_26 : decode mRe_tell.2.1 26 = .ok (.iconst 0, 1) := by decide +kernel
theorem dRe_tell_27 : decode mRe_tell.2.1 27 = .ok (.ireturn, 1) := by decide +kernel
theorem dRe_tell_28 : decode mRe_tell.2.1 28 = .ok (.aload_n 0, 1) := by decide +kernel
theorem dRe_tell_29 : decode mRe_tell.2.1 29 = .ok (.getfield 209, 3) := by decide +kernel
theorem dRe_tell_32 : decode mRe_tell.2.1 32 = .ok (.bipush 8, 2) := by decide +kernel
theorem dRe_tell_34 : decode mRe_tell.2.1 34 = .ok (.if_icmp .ne 5, 3) := by decide +kernel
theorem dRe_tell_37 : decode mRe_tell.2.1 37 = .ok (.iconst (-1), 1) := by decide +kernel
theorem dRe_tell_38 : decode mRe_tell.2.1 38 = .ok (.ireturn, 1) := by decide +kernel
theorem dRe_tell_39 : decode mRe_tell.2.1 39 = .ok (.aload_n 0, 1) := by decide +kernel
theorem dRe_tell_40 : decode mRe_tell.2.1 40 = .ok (.getfield 55, 3) := by decide +kernel
theorem dRe_tell_43 : decode mRe_tell.2.1 43 = .ok (.aload_n 0, 1) := by decide +kernel
theorem dRe_tell_44 : decode mRe_tell.2.1 44 = .ok (.getfield 209, 3) := by decide +kernel
theorem dRe_tell_47 : decode mRe_tell.2.1 47 = .ok (.iload_n 1, 1) := by decide +kernel
theorem dRe_tell_48 : decode mRe_tell.2.1 48 = .ok (.iastore, 1) := by decide +kernel
theorem dRe_tell_49 : decode mRe_tell.2.1 49 = .ok (.aload_n 0, 1) := by decide +kernel
theorem dRe_tell_50 : decode mRe_tell.2.1 50 = .ok (.dup, 1) := by decide +kernel
theorem dRe_tell_51 : decode mRe_tell.2.1 51 = .ok (.getfield 209, 3) := by decide +kernel
theorem dRe_tell_54 : decode mRe_tell.2.1 54 = .ok (.iconst 1, 1) := by decide +kernel
theorem dRe_tell_55 : decode mRe_tell.2.1 55 = .ok (.iadd, 1) := by decide +kernel
theorem dRe_tell_56 : decode mRe_tell.2.1 56 = .ok (.putfield 209, 3) := by decide +kernel
theorem dRe_tell_59 : decode mRe_tell.2.1 59 = .ok (.aload_n 0, 1) := by decide +kernel
theorem dRe_tell_60 : decode mRe_tell.2.1 60 = .ok (.getfield 209, 3) := by decide +kernel
theorem dRe_tell_63 : decode mRe_tell.2.1 63 = .ok (.ireturn, 1) := by decide +kernel
theorem bRe_tell_0 {l : Launch} {G : Gx} {d : Nat} {bc bs : Nat} {Φ : OutV → Mm → Prop} (M : Mm) (a0 : Nat) (x1 : Int32)
    (h : ((m_sh M a0).1 = 11) ∧ CallVC l G d mRe_tell 11 [.ref a0, .int x1] [.ref a0] mRe_isPerson [.ref a0, .int x1] (m_si M a0 0 0) bc bs Φ) :
    Ev l G d mRe_tell 0 [.ref a0, .int x1] [] M bc bs Φ := by
  refine Ev.aload_n dRe_tell_0 rfl ?_
  refine Ev.iconst (v := 0) dRe_tell_1 (by decide) ?_
  have g1 := h.1
  replace h := h.2
  refine Ev.putI dRe_tell_2 ⟨_, Or.inl ⟨fRe_115, (fun h => by cases h)⟩⟩ rfl ⟨rfl, rfl⟩ g1 ?_
  refine Ev.aload_n dRe_tell_5 rfl ?_
  refine Ev.aload_n dRe_tell_6 rfl ?_
  refine Ev.iload_n dRe_tell_7 rfl ?_
  exact Ev.vcV (z := mRe_isPerson) (ci := 11) [.int x1] [.ref a0] rfl dRe_tell_8 oRe_isPerson rfl w1618 iRe_isPerson sRe_isPerson (by decide) rfl g1 (Nat.le_of_ble_eq_true rfl) h
theorem bRe_tell_11 {l : Launch} {G : Gx} {d : Nat} {bc bs : Nat} {Φ : OutV → Mm → Prop} (M : Mm) (a0 : Nat) (x1 : Int32) (r0 : Nat) (s1 : Int32)
    (h : (¬ s1 = 0 → ((m_sh M r0).1 = 11) ∧ CallVC l G d mRe_tell 23 [.ref a0, .int x1] [] mRe_bad [.ref r0, .int 0, .int 1] M bc bs Φ) ∧ (s1 = 0 → ((m_sh M r0).1 = 11) ∧ CallVC l G d mRe_tell 23 [.ref a0, .int x1] [] mRe_bad [.ref r0, .int 1, .int 1] M bc bs Φ)) :
    Ev l G d mRe_tell 11 [.ref a0, .int x1] [.int s1, .ref r0] M bc bs Φ := by
  refine Ev.if_ne 18 (by decide) dRe_tell_11 (fun c => ?_) (fun c => ?_)
  · replace h := h.1 c
    refine Ev.iconst (v := 0) dRe_tell_18 (by decide) ?_
    refine Ev.iconst (v := 1) dRe_tell_19 (by decide) ?_
    have g1 := h.1
    replace h := h.2
    exact Ev.vcV (z := mRe_bad) (ci := 11) [.int 0, .int 1] [] rfl dRe_tell_20 oRe_bad rfl w1479 iRe_bad sRe_bad (by decide) rfl g1 (Nat.le_of_ble_eq_true rfl) h
  · replace h := h.2 c
    refine Ev.iconst (v := 1) dRe_tell_14 (by decide) ?_
    refine Ev.goto 19 dRe_tell_15 (by decide) ?_
    refine Ev.iconst (v := 1) dRe_tell_19 (by decide) ?_
    have g2 := h.1
    replace h := h.2
    exact Ev.vcV (z := mRe_bad) (ci := 11) [.int 1, .int 1] [] rfl dRe_tell_20 oRe_bad rfl w1479 iRe_bad sRe_bad (by decide) rfl g2 (Nat.le_of_ble_eq_true rfl) h
theorem bRe_tell_23 {l : Launch} {G : Gx} {d : Nat} {bc bs : Nat} {Φ : OutV → Mm → Prop} (M : Mm) (a0 : Nat) (x1 : Int32) (s0 : Int32)
    (h : (s0 = 0 → ((m_sh M a0).1 = 11) ∧ (¬ (m_i M a0 27) = 8 → ((m_sh M (m_r M a0 29)).1 = 20) ∧ (vp_in (m_i M a0 27) (m_sh M (m_r M a0 29)).2) ∧ Ev l G d mRe_tell 59 [.ref a0, .int x1] [] (m_si (m_si M (m_r M a0 29) (m_i M a0 27).toNatClampNeg x1) a0 27 ((m_i (m_si M (m_r M a0 29) (m_i M a0 27).toNatClampNeg x1) a0 27) + 1)) bc bs Φ) ∧ ((m_i M a0 27) = 8 → Φ (.inl (some (.int ((-1))))) M)) ∧ (¬ s0 = 0 → Φ (.inl (some (.int 0))) M)) :
    Ev l G d mRe_tell 23 [.ref a0, .int x1] [.int s0] M bc bs Φ := by
  refine Ev.if_eq 28 (by decide) dRe_tell_23 (fun c => ?_) (fun c => ?_)
  · replace h := h.1 c
    refine Ev.aload_n dRe_tell_28 rfl ?_
    have g1 := h.1
    replace h := h.2
    refine Ev.getI dRe_tell_29 (Or.inl fRe_209) rfl g1 ?_
    refine Ev.bipush (v := 8) dRe_tell_32 (by decide) ?_
    refine Ev.icmp_ne 39 (by decide) dRe_tell_34 (fun c => ?_) (fun c => ?_)
    · replace h := h.1 c
      refine Ev.aload_n dRe_tell_39 rfl ?_
      refine Ev.getR dRe_tell_40 (Or.inl fRe_55) rfl g1 ?_
      refine Ev.aload_n dRe_tell_43 rfl ?_
      refine Ev.getI dRe_tell_44 (Or.inl fRe_209) rfl g1 ?_
      refine Ev.iload_n dRe_tell_47 rfl ?_
      have g2 := h.1
      replace h := h.2
      have g3 := h.1
      replace h := h.2
      refine Ev.iast2 dRe_tell_48 g2 g3 ?_
      refine Ev.aload_n dRe_tell_49 rfl ?_
      refine Ev.dup dRe_tell_50 rfl ?_
      refine Ev.getI dRe_tell_51 (Or.inl fRe_209) rfl g1 ?_
      refine Ev.iconst (v := 1) dRe_tell_54 (by decide) ?_
      refine Ev.iadd dRe_tell_55 ?_
      refine Ev.putI dRe_tell_56 ⟨_, Or.inl ⟨fRe_209, (fun h => by cases h)⟩⟩ rfl ⟨rfl, rfl⟩ g1 ?_
      exact h
    · replace h := h.2 c
      refine Ev.iconst (v := (-1)) dRe_tell_37 (by decide) ?_
      exact Ev.iret dRe_tell_38 rfl rfl h
  · replace h := h.2 c
    refine Ev.iconst (v := 0) dRe_tell_26 (by decide) ?_
    exact Ev.iret dRe_tell_27 rfl rfl h
theorem bRe_tell_59 {l : Launch} {G : Gx} {d : Nat} {bc bs : Nat} {Φ : OutV → Mm → Prop} (M : Mm) (a0 : Nat) (x1 : Int32)
    (h : ((m_sh M a0).1 = 11) ∧ Φ (.inl (some (.int (m_i M a0 27)))) M) :
    Ev l G d mRe_tell 59 [.ref a0, .int x1] [] M bc bs Φ := by
  refine Ev.aload_n dRe_tell_59 rfl ?_
  have g1 := h.1
  replace h := h.2
  refine Ev.getI dRe_tell_60 (Or.inl fRe_209) rfl g1 ?_
  exact Ev.iret dRe_tell_63 rfl rfl h
def mRe_forget : MR := (⟨"BowingRowModel", "forget", "()I"⟩, prog_14_method_70_code, 2, (Option.some .int))
theorem oRe_forget : MOK mRe_forget 0 := ⟨lwg_of 1744 (by decide +kernel) (by decide +kernel), lwg_of 103 (by decide +kernel) (by decide +kernel), ⟨by decide +kernel, by decide +kernel⟩, by decide +kernel, by decide⟩
theorem iRe_forget : Cond.instanceMethod mRe_forget.1 ∈ lwg := lwg_of 1742 (by decide +kernel) (by decide +kernel)
theorem sRe_forget : Cond.selects mRe_forget.1.cls mRe_forget.1 mRe_forget.1 ∈ lwg := lwg_of 1743 (by decide +kernel) (by decide +kernel)
theorem dRe_forget_0 : decode mRe_forget.2.1 0 = .ok (.aload_n 0, 1) := by decide +kernel
theorem dRe_forget_1 : decode mRe_forget.2.1 1 = .ok (.iconst 0, 1) := by decide +kernel
theorem dRe_forget_2 : decode mRe_forget.2.1 2 = .ok (.putfield 115, 3) := by decide +kernel
theorem dRe_forget_5 : decode mRe_forget.2.1 5 = .ok (.aload_n 0, 1) := by decide +kernel
theorem dRe_forget_6 : decode mRe_forget.2.1 6 = .ok (.getfield 209, 3) := by decide +kernel
theorem dRe_forget_9 : decode mRe_forget.2.1 9 = .ok (.istore_n 1, 1) := by decide +kernel
theorem dRe_forget_10 : decode mRe_forget.2.1 10 = .ok (.aload_n 0, 1) := by decide +kernel
theorem dRe_forget_11 : decode mRe_forget.2.1 11 = .ok (.iconst 0, 1) := by decide +kernel
theorem dRe_forget_12 : decode mRe_forget.2.1 12 = .ok (.putfield 209, 3) := by decide +kernel
theorem dRe_forget_15 : decode mRe_forget.2.1 15 = .ok (.iload_n 1, 1) := by decide +kernel
theorem dRe_forget_16 : decode mRe_forget.2.1 16 = .ok (.ireturn, 1) := by decide +kernel
theorem bRe_forget_0 {l : Launch} {G : Gx} {d : Nat} {bc bs : Nat} {Φ : OutV → Mm → Prop} (M : Mm) (a0 : Nat)
    (h : ((m_sh M a0).1 = 11) ∧ Φ (.inl (some (.int (m_i (m_si M a0 0 0) a0 27)))) (m_si (m_si M a0 0 0) a0 27 0)) :
    Ev l G d mRe_forget 0 [.ref a0, .null] [] M bc bs Φ := by
  refine Ev.aload_n dRe_forget_0 rfl ?_
  refine Ev.iconst (v := 0) dRe_forget_1 (by decide) ?_
  have g1 := h.1
  replace h := h.2
  refine Ev.putI dRe_forget_2 ⟨_, Or.inl ⟨fRe_115, (fun h => by cases h)⟩⟩ rfl ⟨rfl, rfl⟩ g1 ?_
  refine Ev.aload_n dRe_forget_5 rfl ?_
  refine Ev.getI dRe_forget_6 (Or.inl fRe_209) rfl g1 ?_
  refine Ev.istore_n dRe_forget_9 (by decide) ?_
  show Ev l G d mRe_forget (_ + _) [.ref a0, .int (m_i (m_si M a0 0 0) a0 27)] [] (m_si M a0 0 0) bc bs Φ
  refine Ev.aload_n dRe_forget_10 rfl ?_
  refine Ev.iconst (v := 0) dRe_forget_11 (by decide) ?_
  refine Ev.putI dRe_forget_12 ⟨_, Or.inl ⟨fRe_209, (fun h => by cases h)⟩⟩ rfl ⟨rfl, rfl⟩ g1 ?_
  refine Ev.iload_n dRe_forget_15 rfl ?_
  exact Ev.iret dRe_forget_16 rfl rfl h
def mRe_judge : MR := (⟨"BowingRowModel", "judge", "()I"⟩, prog_14_method_71_code, 2, (Option.some .int))
theorem oRe_judge : MOK mRe_judge 0 := ⟨lwg_of 1748 (by decide +kernel) (by decide +kernel), lwg_of 103 (by decide +kernel) (by decide +kernel), ⟨by decide +kernel, by decide +kernel⟩, by decide +kernel, by decide⟩
theorem iRe_judge : Cond.instanceMethod mRe_judge.1 ∈ lwg := lwg_of 1746 (by decide +kernel) (by decide +kernel)
theorem sRe_judge : Cond.selects mRe_judge.1.cls mRe_judge.1 mRe_judge.1 ∈ lwg := lwg_of 1747 (by decide +kernel) (by decide +kernel)
theorem dRe_judge_0 : decode mRe_judge.2.1 0 = .ok (.aload_n 0, 1) := by decide +kernel
theorem dRe_judge_1 : decode mRe_judge.2.1 1 = .ok (.iconst 0, 1) := by decide +kernel
theorem dRe_judge_2 : decode mRe_judge.2.1 2 = .ok (.putfield 115, 3) := by decide +kernel
theorem dRe_judge_5 : decode mRe_judge.2.1 5 = .ok (.aload_n 0, 1) := by decide +kernel
theorem dRe_judge_6 : decode mRe_judge.2.1 6 = .ok (.invokevirtual 362, 3) := by decide +kernel
theorem dRe_judge_9 : decode mRe_judge.2.1 9 = .ok (.iconst 0, 1) := by decide +kernel
theorem dRe_judge_10 : decode mRe_judge.2.1 10 = .ok (.istore_n 1, 1) := by decide +kernel
theorem dRe_judge_11 : decode mRe_judge.2.1 11 = .ok (.iload_n 1, 1) := by decide +kernel
theorem dRe_judge_12 : decode mRe_judge.2.1 12 = .ok (.aload_n 0, 1) := by decide +kernel
theorem dRe_judge_13 : decode mRe_judge.2.1 13 = .ok (.getfield 209, 3) := by decide +kernel
theorem dRe_judge_16 : decode mRe_judge.2.1 16 = .ok (.if_icmp .ge 34, 3) := by decide +kernel
theorem dRe_judge_19 : decode mRe_judge.2.1 19 = .ok (.iload_n 1, 1) := by decide +kernel
theorem dRe_judge_20 : decode mRe_judge.2.1 20 = .ok (.aload_n 0, 1) := by decide +kernel
theorem dRe_judge_21 : decode mRe_judge.2.1 21 = .ok (.getfield 307, 3) := by decide +kernel
theorem dRe_judge_24 : decode mRe_judge.2.1 24 = .ok (.if_icmp .ge 18, 3) := by decide +kernel
theorem dRe_judge_27 : decode mRe_judge.2.1 27 = .ok (.aload_n 0, 1) := by decide +kernel
theorem dRe_judge_28 : decode mRe_judge.2.1 28 = .ok (.getfield 73, 3) := by decide +kernel
theorem dRe_judge_31 : decode mRe_judge.2.1 31 = .ok (.iload_n 1, 1) := by decide +kernel
theorem dRe_judge_32 : decode mRe_judge.2.1 32 = .ok (.iaload, 1) := by decide +kernel
theorem dRe_judge_33 : decode mRe_judge.2.1 33 = .ok (.aload_n 0, 1) := by decide +kernel
theorem dRe_judge_34 : decode mRe_judge.2.1 34 = .ok (.getfield 55, 3) := by decide +kernel
theorem dRe_judge_37 : decode mRe_judge.2.1 37 = .ok (.iload_n 1, 1) := by decide +kernel
theorem dRe_judge_38 : decode mRe_judge.2.1 38 = .ok (.iaload, 1) := by decide +kernel
theorem dRe_judge_39 : decode mRe_judge.2.1 39 = .ok (.if_icmp .eq 5, 3) := by decide +kernel
theorem dRe_judge_42 : decode mRe_judge.2.1 42 = .ok (.iload_n 1, 1) := by decide +kernel
theorem dRe_judge_43 : decode mRe_judge.2.1 43 = .ok (.ireturn, 1) := by decide +kernel
theorem dRe_judge_44 : decode mRe_judge.2.1 44 = .ok (.iinc 1 1, 3) := by decide +kernel
theorem dRe_judge_47 : decode mRe_judge.2.1 47 = .ok (.goto (-36), 3) := by decide +kernel
theorem dRe_judge_50 : decode mRe_judge.2.1 50 = .ok (.iconst (-1), 1) := by decide +kernel
theorem dRe_judge_51 : decode mRe_judge.2.1 51 = .ok (.ireturn, 1) := by decide +kernel
theorem bRe_judge_0 {l : Launch} {G : Gx} {d : Nat} {bc bs : Nat} {Φ : OutV → Mm → Prop} (M : Mm) (a0 : Nat)
    (h : ((m_sh M a0).1 = 11) ∧ CallVC l G d mRe_judge 9 [.ref a0, .null] [] mRe_asItIs [.ref a0] (m_si M a0 0 0) bc bs Φ) :
    Ev l G d mRe_judge 0 [.ref a0, .null] [] M bc bs Φ := by
  refine Ev.aload_n dRe_judge_0 rfl ?_
  refine Ev.iconst (v := 0) dRe_judge_1 (by decide) ?_
  have g1 := h.1
  replace h := h.2
  refine Ev.putI dRe_judge_2 ⟨_, Or.inl ⟨fRe_115, (fun h => by cases h)⟩⟩ rfl ⟨rfl, rfl⟩ g1 ?_
  refine Ev.aload_n dRe_judge_5 rfl ?_
  exact Ev.vcV (z := mRe_asItIs) (ci := 11) [] [] rfl dRe_judge_6 oRe_asItIs rfl w1661 iRe_asItIs sRe_asItIs (by decide) rfl g1 (Nat.le_of_ble_eq_true rfl) h
theorem bRe_judge_9 {l : Launch} {G : Gx} {d : Nat} {bc bs : Nat} {Φ : OutV → Mm → Prop} (M : Mm) (a0 : Nat) (u1 : Value)
    (h : Ev l G d mRe_judge 11 [.ref a0, .int 0] [] M bc bs Φ) :
    Ev l G d mRe_judge 9 [.ref a0, u1] [] M bc bs Φ := by
  refine Ev.iconst (v := 0) dRe_judge_9 (by decide) ?_
  refine Ev.istore_n dRe_judge_10 (by decide) ?_
  show Ev l G d mRe_judge (_ + _) [.ref a0, .int 0] [] M bc bs Φ
  exact h
theorem bRe_judge_11 {l : Launch} {G : Gx} {d : Nat} {bc bs : Nat} {Φ : OutV → Mm → Prop} (M : Mm) (a0 : Nat) (x1 : Int32)
    (h : ((m_sh M a0).1 = 11) ∧ ((m_i M a0 27) ≤ x1 → Φ (.inl (some (.int ((-1))))) M) ∧ (¬ (m_i M a0 27) ≤ x1 → ((m_i M a0 40) ≤ x1 → Φ (.inl (some (.int x1))) M) ∧ (¬ (m_i M a0 40) ≤ x1 → ((m_sh M (m_r M a0 45)).1 = 20) ∧ (vp_in x1 (m_sh M (m_r M a0 45)).2) ∧ ((m_sh M (m_r M a0 29)).1 = 20) ∧ (vp_in x1 (m_sh M (m_r M a0 29)).2) ∧ ((m_i M (m_r M a0 45) x1.toNatClampNeg) = (m_i M (m_r M a0 29) x1.toNatClampNeg) → Ev l G d mRe_judge 11 [.ref a0, .int (x1 + 1)] [] M bc bs Φ) ∧ (¬ (m_i M (m_r M a0 45) x1.toNatClampNeg) = (m_i M (m_r M a0 29) x1.toNatClampNeg) → Φ (.inl (some (.int x1))) M)))) :
    Ev l G d mRe_judge 11 [.ref a0, .int x1] [] M bc bs Φ := by
  refine Ev.iload_n dRe_judge_11 rfl ?_
  refine Ev.aload_n dRe_judge_12 rfl ?_
  have g1 := h.1
  replace h := h.2
  refine Ev.getI dRe_judge_13 (Or.inl fRe_209) rfl g1 ?_
  refine Ev.icmp_ge 50 (by decide) dRe_judge_16 (fun c => ?_) (fun c => ?_)
  · replace h := h.1 c
    refine Ev.iconst (v := (-1)) dRe_judge_50 (by decide) ?_
    exact Ev.iret dRe_judge_51 rfl rfl h
  · replace h := h.2 c
    refine Ev.iload_n dRe_judge_19 rfl ?_
    refine Ev.aload_n dRe_judge_20 rfl ?_
    refine Ev.getI dRe_judge_21 (Or.inl fRe_307) rfl g1 ?_
    refine Ev.icmp_ge 42 (by decide) dRe_judge_24 (fun c => ?_) (fun c => ?_)
    · replace h := h.1 c
      refine Ev.iload_n dRe_judge_42 rfl ?_
      exact Ev.iret dRe_judge_43 rfl rfl h
    · replace h := h.2 c
      refine Ev.aload_n dRe_judge_27 rfl ?_
      refine Ev.getR dRe_judge_28 (Or.inl fRe_73) rfl g1 ?_
      refine Ev.iload_n dRe_judge_31 rfl ?_
      have g2 := h.1
      replace h := h.2
      have g3 := h.1
      replace h := h.2
      refine Ev.iald2 dRe_judge_32 g2 g3 ?_
      refine Ev.aload_n dRe_judge_33 rfl ?_
      refine Ev.getR dRe_judge_34 (Or.inl fRe_55) rfl g1 ?_
      refine Ev.iload_n dRe_judge_37 rfl ?_
      have g4 := h.1
      replace h := h.2
      have g5 := h.1
      replace h := h.2
      refine Ev.iald2 dRe_judge_38 g4 g5 ?_
      refine Ev.icmp_eq 44 (by decide) dRe_judge_39 (fun c => ?_) (fun c => ?_)
      · replace h := h.1 c
        refine Ev.iinc (v := x1 + 1) dRe_judge_44 (by decide) rfl rfl ?_
        show Ev l G d mRe_judge (_ + _) [.ref a0, .int (x1 + 1)] [] M bc bs Φ
        refine Ev.goto 11 dRe_judge_47 (by decide) ?_
        exact h
      · replace h := h.2 c
        refine Ev.iload_n dRe_judge_42 rfl ?_
        exact Ev.iret dRe_judge_43 rfl rfl h
def mRe_again : MR := (⟨"BowingRowModel", "again", "(III)I"⟩, prog_14_method_72_code, 4, (Option.some .int))
theorem oRe_again : MOK mRe_again 3 := ⟨lwg_of 1752 (by decide +kernel) (by decide +kernel), lwg_of 103 (by decide +kernel) (by decide +kernel), ⟨by decide +kernel, by decide +kernel⟩, by decide +kernel, by decide⟩
theorem iRe_again : Cond.instanceMethod mRe_again.1 ∈ lwg := lwg_of 1750 (by decide +kernel) (by decide +kernel)
theorem sRe_again : Cond.selects mRe_again.1.cls mRe_again.1 mRe_again.1 ∈ lwg := lwg_of 1751 (by decide +kernel) (by decide +kernel)
theorem dRe_again_0 : decode mRe_again.2.1 0 = .ok (.aload_n 0, 1) := by decide +kernel
theorem dRe_again_1 : decode mRe_again.2.1 1 = .ok (.iconst 0, 1) := by decide +kernel
theorem dRe_again_2 : decode mRe_again.2.1 2 = .ok (.putfield 115, 3) := by decide +kernel
theorem dRe_again_5 : decode mRe_again.2.1 5 = .ok (.aload_n 0, 1) := by decide +kernel
theorem dRe_again_6 : decode mRe_again.2.1 6 = .ok (.aload_n 0, 1) := by decide +kernel
theorem dRe_again_7 : decode mRe_again.2.1 7 = .ok (.iload_n 2, 1) := by decide +kernel
theorem dRe_again_8 : decode mRe_again.2.1 8 = .ok (.invokevirtual 285, 3) := by decide +kernel
theorem dRe_again_11 : decode mRe_again.2.1 11 = .ok (.ifCond .ne 7, 3) := by decide +kernel
theorem dRe_again_14 : decode mRe_again.2.1 14 = .ok (.iconst 1, 1) := by decide +kernel
theorem dRe_again_15 : decode mRe_again.2.1 15 = .ok (.goto 4, 3) := by decide +kernel
theorem dRe_again_18 : decode mRe_again.2.1 18 = .ok (.iconst 0, 1) := by decide +kernel
theorem dRe_again_19 : decode mRe_again.2.1 19 = .ok (.iconst 1, 1) := by decide +kernel
theorem dRe_again_20 : decode mRe_again.2.1 20 = .ok (.invokevirtual 196, 3) := by decide +kernel
theorem dRe_again_23 : decode mRe_again.2.1 23 = .ok (.ifCond .ne 29, 3) := by decide +kernel
theorem dRe_again_26 : decode mRe_again.2.1 26 = .ok (.aload_n 0, 1) := by decide +kernel
theorem dRe_again_27 : decode mRe_again.2.1 27 = .ok (.iload_n 1, 1) := by decide +kernel
theorem dRe_again_28 : decode mRe_again.2.1 28 = .ok (.ifCond .lt 12, 3) := by decide +kernel
theorem dRe_again_31 : decode mRe_again.2.1 31 = .ok (.iload_n 3, 1) := by decide +kernel
theorem dRe_again_32 : decode mRe_again.2.1 32 = .ok (.iconst 0, 1) := by decide +kernel
theorem dRe_again_33 : decode mRe_again.2.1 33 = .ok (.iconst 4, 1) := by decide +kernel
theorem dRe_again_34 : decode mRe_again.2.1 34 = .ok (.invokestatic 149, 3) := by decide +kernel
theorem dRe_again_37 : decode mRe_again.2.1 37 = .ok (.ifCond .ne 7, 3) := by decide +kernel
theorem dRe_again_40 : decode mRe_again.2.1 40 = .ok (.iconst 1, 1) := by decide +kernel
theorem dRe_again_41 : decode mRe_again.2.1 41 = .ok (.goto 4, 3) := by decide +kernel
theorem dRe_again_44 : decode mRe_again.2.1 44 = .ok (.iconst 0, 1) := by decide +kernel
theorem dRe_again_45 : decode mRe_again.2.1 45 = .ok (.iconst 2, 1) := by decide +kernel
theorem dRe_again_46 : decode mRe_again.2.1 46 = .ok (.invokevirtual 196, 3) := by decide +kernel
theorem dRe_again_49 : decode mRe_again.2.1 49 = .ok (.ifCond .eq 5, 3) := by decide +kernel
theorem dRe_again_52 : decode mRe_again.2.1 52 = .ok (.iconst 0, 1) := by decide +kernel
theorem dRe_again_53 : decode mRe_again.2.1 53 = .ok (.ireturn, 1) := by decide +kernel
theorem dRe_again_54 : decode mRe_again.2.1 54 = .ok (.aload_n 0, 1) := by decide +kernel
theorem dRe_again_55 : decode mRe_again.2.1 55 = .ok (.iload_n 2, 1) := by decide +kernel
theorem dRe_again_56 : decode mRe_again.2.1 56 = .ok (.putfield 70, 3) := by decide +kernel
theorem dRe_again_59 : decode mRe_again.2.1 59 = .ok (.aload_n 0, 1) := by decide +kernel
theorem dRe_again_60 : decode mRe_again.2.1 60 = .ok (.iload_n 1, 1) := by decide +kernel
theorem dRe_again_61 : decode mRe_again.2.1 61 = .ok (.putfield 356, 3) := by decide +kernel
theorem dRe_again_64 : decode mRe_again.2.1 64 = .ok (.aload_n 0, 1) := by decide +kernel
theorem dRe_again_65 : decode mRe_again.2.1 65 = .ok (.iload_n 3, 1) := by decide +kernel
theorem dRe_again_66 : decode mRe_again.2.1 66 = .ok (.putfield 359, 3) := by decide +kernel
theorem dRe_again_69 : decode mRe_again.2.1 69 = .ok (.aload_n 0, 1) := by decide +kernel
theorem dRe_again_70 : decode mRe_again.2.1 70 = .ok (.invokevirtual 362, 3) := by decide +kernel
theorem dRe_again_73 : decode mRe_again.2.1 73 = .ok (.aload_n 0, 1) := by decide +kernel
theorem dRe_again_74 : decode mRe_again.2.1 74 = .ok (.iconst (-1), 1) := by decide +kernel
theorem dRe_again_75 : decode mRe_again.2.1 75 = .ok (.putfield 70, 3) := by decide +kernel
theorem dRe_again_78 : decode mRe_again.2.1 78 = .ok (.aload_n 0, 1) := by decide +kernel
theorem dRe_again_79 : decode mRe_again.2.1 79 = .ok (.getfield 91, 3) := by decide +kernel
theorem dRe_again_82 : decode mRe_again.2.1 82 = .ok (.iload_n 2, 1) := by decide +kernel
theorem dRe_again_83 : decode mRe_again.2.1 83 = .ok (.iaload, 1) := by decide +kernel
theorem dRe_again_84 : decode mRe_again.2.1 84 = .ok (.ireturn, 1) := by decide +kernel
theorem bRe_again_0 {l : Launch} {G : Gx} {d : Nat} {bc bs : Nat} {Φ : OutV → Mm → Prop} (M : Mm) (a0 : Nat) (x1 : Int32) (x2 : Int32) (x3 : Int32)
    (h : ((m_sh M a0).1 = 11) ∧ CallVC l G d mRe_again 11 [.ref a0, .int x1, .int x2, .int x3] [.ref a0] mRe_isPerson [.ref a0, .int x2] (m_si M a0 0 0) bc bs Φ) :
    Ev l G d mRe_again 0 [.ref a0, .int x1, .int x2, .int x3] [] M bc bs Φ := by
  refine Ev.aload_n dRe_again_0 rfl ?_
  refine Ev.iconst (v := 0) dRe_again_1 (by decide) ?_
  have g1 := h.1
  replace h := h.2
  refine Ev.putI dRe_again_2 ⟨_, Or.inl ⟨fRe_115, (fun h => by cases h)⟩⟩ rfl ⟨rfl, rfl⟩ g1 ?_
  refine Ev.aload_n dRe_again_5 rfl ?_
  refine Ev.aload_n dRe_again_6 rfl ?_
  refine Ev.iload_n dRe_again_7 rfl ?_
  exact Ev.vcV (z := mRe_isPerson) (ci := 11) [.int x2] [.ref a0] rfl dRe_again_8 oRe_isPerson rfl w1618 iRe_isPerson sRe_isPerson (by decide) rfl g1 (Nat.le_of_ble_eq_true rfl) h
theorem bRe_again_11 {l : Launch} {G : Gx} {d : Nat} {bc bs : Nat} {Φ : OutV → Mm → Prop} (M : Mm) (a0 : Nat) (x1 : Int32) (x2 : Int32) (x3 : Int32) (r0 : Nat) (s1 : Int32)
    (h : (¬ s1 = 0 → ((m_sh M r0).1 = 11) ∧ CallVC l G d mRe_again 23 [.ref a0, .int x1, .int x2, .int x3] [] mRe_bad [.ref r0, .int 0, .int 1] M bc bs Φ) ∧ (s1 = 0 → ((m_sh M r0).1 = 11) ∧ CallVC l G d mRe_again 23 [.ref a0, .int x1, .int x2, .int x3] [] mRe_bad [.ref r0, .int 1, .int 1] M bc bs Φ)) :
    Ev l G d mRe_again 11 [.ref a0, .int x1, .int x2, .int x3] [.int s1, .ref r0] M bc bs Φ := by
  refine Ev.if_ne 18 (by decide) dRe_again_11 (fun c => ?_) (fun c => ?_)
  · replace h := h.1 c
    refine Ev.iconst (v := 0) dRe_again_18 (by decide) ?_
    refine Ev.iconst (v := 1) dRe_again_19 (by decide) ?_
    have g1 := h.1
    replace h := h.2
    exact Ev.vcV (z := mRe_bad) (ci := 11) [.int 0, .int 1] [] rfl dRe_again_20 oRe_bad rfl w1479 iRe_bad sRe_bad (by decide) rfl g1 (Nat.le_of_ble_eq_true rfl) h
  · replace h := h.2 c
    refine Ev.iconst (v := 1) dRe_again_14 (by decide) ?_
    refine Ev.goto 19 dRe_again_15 (by decide) ?_
    refine Ev.iconst (v := 1) dRe_again_19 (by decide) ?_
    have g2 := h.1
    replace h := h.2
    exact Ev.vcV (z := mRe_bad) (ci := 11) [.int 1, .int 1] [] rfl dRe_again_20 oRe_bad rfl w1479 iRe_bad sRe_bad (by decide) rfl g2 (Nat.le_of_ble_eq_true rfl) h
theorem bRe_again_23 {l : Launch} {G : Gx} {d : Nat} {bc bs : Nat} {Φ : OutV → Mm → Prop} (M : Mm) (a0 : Nat) (x1 : Int32) (x2 : Int32) (x3 : Int32) (s0 : Int32)
    (h : (¬ s0 = 0 → Φ (.inl (some (.int 0))) M) ∧ (s0 = 0 → (x1 < 0 → ((m_sh M a0).1 = 11) ∧ CallVC l G d mRe_again 49 [.ref a0, .int x1, .int x2, .int x3] [] mRe_bad [.ref a0, .int 1, .int 2] M bc bs Φ) ∧ (¬ x1 < 0 → CallVC l G d mRe_again 37 [.ref a0, .int x1, .int x2, .int x3] [.ref a0] mRe_in [.int x3, .int 0, .int 4] M bc bs Φ))) :
    Ev l G d mRe_again 23 [.ref a0, .int x1, .int x2, .int x3] [.int s0] M bc bs Φ := by
  refine Ev.if_ne 52 (by decide) dRe_again_23 (fun c => ?_) (fun c => ?_)
  · replace h := h.1 c
    refine Ev.iconst (v := 0) dRe_again_52 (by decide) ?_
    exact Ev.iret dRe_again_53 rfl rfl h
  · replace h := h.2 c
    refine Ev.aload_n dRe_again_26 rfl ?_
    refine Ev.iload_n dRe_again_27 rfl ?_
    refine Ev.if_lt 40 (by decide) dRe_again_28 (fun c => ?_) (fun c => ?_)
    · replace h := h.1 c
      refine Ev.iconst (v := 1) dRe_again_40 (by decide) ?_
      refine Ev.goto 45 dRe_again_41 (by decide) ?_
      refine Ev.iconst (v := 2) dRe_again_45 (by decide) ?_
      have g1 := h.1
      replace h := h.2
      exact Ev.vcV (z := mRe_bad) (ci := 11) [.int 1, .int 2] [] rfl dRe_again_46 oRe_bad rfl w1479 iRe_bad sRe_bad (by decide) rfl g1 (Nat.le_of_ble_eq_true rfl) h
    · replace h := h.2 c
      refine Ev.iload_n dRe_again_31 rfl ?_
      refine Ev.iconst (v := 0) dRe_again_32 (by decide) ?_
      refine Ev.iconst (v := 4) dRe_again_33 (by decide) ?_
      exact Ev.vcS (z := mRe_in) [.int x3, .int 0, .int 4] [.ref a0] rfl dRe_again_34 oRe_in rfl w1476 iRe_in (Nat.le_of_ble_eq_true rfl) h
theorem bRe_again_37 {l : Launch} {G : Gx} {d : Nat} {bc bs : Nat} {Φ : OutV → Mm → Prop} (M : Mm) (a0 : Nat) (x1 : Int32) (x2 : Int32) (x3 : Int32) (r0 : Nat) (s1 : Int32)
    (h : (¬ s1 = 0 → ((m_sh M r0).1 = 11) ∧ CallVC l G d mRe_again 49 [.ref a0, .int x1, .int x2, .int x3] [] mRe_bad [.ref r0, .int 0, .int 2] M bc bs Φ) ∧ (s1 = 0 → ((m_sh M r0).1 = 11) ∧ CallVC l G d mRe_again 49 [.ref a0, .int x1, .int x2, .int x3] [] mRe_bad [.ref r0, .int 1, .int 2] M bc bs Φ)) :
    Ev l G d mRe_again 37 [.ref a0, .int x1, .int x2, .int x3] [.int s1, .ref r0] M bc bs Φ := by
  refine Ev.if_ne 44 (by decide) dRe_again_37 (fun c => ?_) (fun c => ?_)
  · replace h := h.1 c
    refine Ev.iconst (v := 0) dRe_again_44 (by decide) ?_
    refine Ev.iconst (v := 2) dRe_again_45 (by decide) ?_
    have g1 := h.1
    replace h := h.2
    exact Ev.vcV (z := mRe_bad) (ci := 11) [.int 0, .int 2] [] rfl dRe_again_46 oRe_bad rfl w1479 iRe_bad sRe_bad (by decide) rfl g1 (Nat.le_of_ble_eq_true rfl) h
  · replace h := h.2 c
    refine Ev.iconst (v := 1) dRe_again_40 (by decide) ?_
    refine Ev.goto 45 dRe_again_41 (by decide) ?_
    refine Ev.iconst (v := 2) dRe_again_45 (by decide) ?_
    have g2 := h.1
    replace h := h.2
    exact Ev.vcV (z := mRe_bad) (ci := 11) [.int 1, .int 2] [] rfl dRe_again_46 oRe_bad rfl w1479 iRe_bad sRe_bad (by decide) rfl g2 (Nat.le_of_ble_eq_true rfl) h
theorem bRe_again_49 {l : Launch} {G : Gx} {d : Nat} {bc bs : Nat} {Φ : OutV → Mm → Prop} (M : Mm) (a0 : Nat) (x1 : Int32) (x2 : Int32) (x3 : Int32) (s0 : Int32)
    (h : (s0 = 0 → ((m_sh M a0).1 = 11) ∧ Ev l G d mRe_again 64 [.ref a0, .int x1, .int x2, .int x3] [] (m_si (m_si M a0 37 x2) a0 38 x1) bc bs Φ) ∧ (¬ s0 = 0 → Φ (.inl (some (.int 0))) M)) :
    Ev l G d mRe_again 49 [.ref a0, .int x1, .int x2, .int x3] [.int s0] M bc bs Φ := by
  refine Ev.if_eq 54 (by decide) dRe_again_49 (fun c => ?_) (fun c => ?_)
  · replace h := h.1 c
    refine Ev.aload_n dRe_again_54 rfl ?_
    refine Ev.iload_n dRe_again_55 rfl ?_
    have g1 := h.1
    replace h := h.2
    refine Ev.putI dRe_again_56 ⟨_, Or.inl ⟨fRe_70, (fun h => by cases h)⟩⟩ rfl ⟨rfl, rfl⟩ g1 ?_
    refine Ev.aload_n dRe_again_59 rfl ?_
    refine Ev.iload_n dRe_again_60 rfl ?_
    refine Ev.putI dRe_again_61 ⟨_, Or.inl ⟨fRe_356, (fun h => by cases h)⟩⟩ rfl ⟨rfl, rfl⟩ g1 ?_
    exact h
  · replace h := h.2 c
    refine Ev.iconst (v := 0) dRe_again_52 (by decide) ?_
    exact Ev.iret dRe_again_53 rfl rfl h
theorem bRe_again_64 {l : Launch} {G : Gx} {d : Nat} {bc bs : Nat} {Φ : OutV → Mm → Prop} (M : Mm) (a0 : Nat) (x1 : Int32) (x2 : Int32) (x3 : Int32)
    (h : ((m_sh M a0).1 = 11) ∧ CallVC l G d mRe_again 73 [.ref a0, .int x1, .int x2, .int x3] [] mRe_asItIs [.ref a0] (m_si M a0 39 x3) bc bs Φ) :
    Ev l G d mRe_again 64 [.ref a0, .int x1, .int x2, .int x3] [] M bc bs Φ := by
  refine Ev.aload_n dRe_again_64 rfl ?_
  refine Ev.iload_n dRe_again_65 rfl ?_
  have g1 := h.1
  replace h := h.2
  refine Ev.putI dRe_again_66 ⟨_, Or.inl ⟨fRe_359, (fun h => by cases h)⟩⟩ rfl ⟨rfl, rfl⟩ g1 ?_
  refine Ev.aload_n dRe_again_69 rfl ?_
  exact Ev.vcV (z := mRe_asItIs) (ci := 11) [] [] rfl dRe_again_70 oRe_asItIs rfl w1661 iRe_asItIs sRe_asItIs (by decide) rfl g1 (Nat.le_of_ble_eq_true rfl) h
theorem bRe_again_73 {l : Launch} {G : Gx} {d : Nat} {bc bs : Nat} {Φ : OutV → Mm → Prop} (M : Mm) (a0 : Nat) (x1 : Int32) (x2 : Int32) (x3 : Int32)
    (h : ((m_sh M a0).1 = 11) ∧ ((m_sh M (m_r M a0 51)).1 = 20) ∧ (vp_in x2 (m_sh M (m_r M a0 51)).2) ∧ Φ (.inl (some (.int (m_i (m_si M a0 37 ((-1))) (m_r M a0 51) x2.toNatClampNeg)))) (m_si M a0 37 ((-1)))) :
    Ev l G d mRe_again 73 [.ref a0, .int x1, .int x2, .int x3] [] M bc bs Φ := by
  refine Ev.aload_n dRe_again_73 rfl ?_
  refine Ev.iconst (v := (-1)) dRe_again_74 (by decide) ?_
  have g1 := h.1
  replace h := h.2
  refine Ev.putI dRe_again_75 ⟨_, Or.inl ⟨fRe_70, (fun h => by cases h)⟩⟩ rfl ⟨rfl, rfl⟩ g1 ?_
  refine Ev.aload_n dRe_again_78 rfl ?_
  refine Ev.getR dRe_again_79 (Or.inl fRe_91) rfl g1 ?_
  refine Ev.iload_n dRe_again_82 rfl ?_
  have g2 := h.1
  replace h := h.2
  have g3 := h.1
  replace h := h.2
  refine Ev.iald2 dRe_again_83 g2 g3 ?_
  exact Ev.iret dRe_again_84 rfl rfl h
def mRe_plan : MR := (⟨"BowingRowModel", "plan", "(II)I"⟩, prog_14_method_74_code, 3, (Option.some .int))
theorem oRe_plan : MOK mRe_plan 2 := ⟨lwg_of 1756 (by decide +kernel) (by decide +kernel), lwg_of 103 (by decide +kernel) (by decide +kernel), ⟨by decide +kernel, by decide +kernel⟩, by decide +kernel, by decide⟩
theorem iRe_plan : Cond.instanceMethod mRe_plan.1 ∈ lwg := lwg_of 1754 (by decide +kernel) (by decide +kernel)
theorem sRe_plan : Cond.selects mRe_plan.1.cls mRe_plan.1 mRe_plan.1 ∈ lwg := lwg_of 1755 (by decide +kernel) (by decide +kernel)
theorem dRe_plan_0 : decode mRe_plan.2.1 0 = .ok (.aload_n 0, 1) := by decide +kernel
theorem dRe_plan_1 : decode mRe_plan.2.1 1 = .ok (.iconst 0, 1) := by decide +kernel
theorem dRe_plan_2 : decode mRe_plan.2.1 2 = .ok (.putfield 115, 3) := by decide +kernel
theorem dRe_plan_5 : decode mRe_plan.2.1 5 = .ok (.aload_n 0, 1) := by decide +kernel
theorem dRe_plan_6 : decode mRe_plan.2.1 6 = .ok (.aload_n 0, 1) := by decide +kernel
theorem dRe_plan_7 : decode mRe_plan.2.1 7 = .ok (.iload_n 1, 1) := by decide +kernel
theorem dRe_plan_8 : decode mRe_plan.2.1 8 = .ok (.invokevirtual 285, 3) := by decide +kernel
theorem dRe_plan_11 : decode mRe_plan.2.1 11 = .ok (.ifCond .ne 7, 3) := by decide +kernel
theorem dRe_plan_14 : decode mRe_plan.2.1 14 = .ok (.iconst 1, 1) := by decide +kernel
theorem dRe_plan_15 : decode mRe_plan.2.1 15 = .ok (.goto 4, 3) := by decide +kernel
theorem dRe_plan_18 : decode mRe_plan.2.1 18 = .ok (.iconst 0, 1) := by decide +kernel
theorem dRe_plan_19 : decode mRe_plan.2.1 19 = .ok (.iconst 1, 1) := by decide +kernel
theorem dRe_plan_20 : decode mRe_plan.2.1 20 = .ok (.invokevirtual 196, 3) := by decide +kernel
theorem dRe_plan_23 : decode mRe_plan.2.1 23 = .ok (.ifCond .ne 27, 3) := by decide +kernel
theorem dRe_plan_26 : decode mRe_plan.2.1 26 = .ok (.aload_n 0, 1) := by decide +kernel
theorem dRe_plan_27 : decode mRe_plan.2.1 27 = .ok (.iload_n 2, 1) := by decide +kernel
theorem dRe_plan_28 : decode mRe_plan.2.1 28 = .ok (.iconst 0, 1) := by decide +kernel
theorem dRe_plan_29 : decode mRe_plan.2.1 29 = .ok (.sipush 1023, 3) := by decide +kernel
theorem dRe_plan_32 : decode mRe_plan.2.1 32 = .ok (.invokestatic 149, 3) := by decide +kernel
theorem dRe_plan_35 : decode mRe_plan.2.1 35 = .ok (.ifCond .ne 7, 3) := by decide +kernel
theorem dRe_plan_38 : decode mRe_plan.2.1 38 = .ok (.iconst 1, 1) := by decide +kernel
theorem dRe_plan_39 : decode mRe_plan.2.1 39 = .ok (.goto 4, 3) := by decide +kernel
theorem dRe_plan_42 : decode mRe_plan.2.1 42 = .ok (.iconst 0, 1) := by decide +kernel
theorem dRe_plan_43 : decode mRe_plan.2.1 43 = .ok (.iconst 2, 1) := by decide +kernel
theorem dRe_plan_44 : decode mRe_plan.2.1 44 = .ok (.invokevirtual 196, 3) := by decide +kernel
theorem dRe_plan_47 : decode mRe_plan.2.1 47 = .ok (.ifCond .eq 5, 3) := by decide +kernel
theorem dRe_plan_50 : decode mRe_plan.2.1 50 = .ok (.iconst 0, 1) := by decide +kernel
theorem dRe_plan_51 : decode mRe_plan.2.1 51 = .ok (.ireturn, 1) := by decide +kernel
theorem dRe_plan_52 : decode mRe_plan.2.1 52 = .ok (.aload_n 0, 1) := by decide +kernel
theorem dRe_plan_53 : decode mRe_plan.2.1 53 = .ok (.iload_n 1, 1) := by decide +kernel
theorem dRe_plan_54 : decode mRe_plan.2.1 54 = .ok (.iload_n 2, 1) := by decide +kernel
theorem dRe_plan_55 : decode mRe_plan.2.1 55 = .ok (.invokevirtual 372, 3) := by decide +kernel
theorem dRe_plan_58 : decode mRe_plan.2.1 58 = .ok (.ireturn, 1) := by decide +kernel
theorem bRe_plan_0 {l : Launch} {G : Gx} {d : Nat} {bc bs : Nat} {Φ : OutV → Mm → Prop} (M : Mm) (a0 : Nat) (x1 : Int32) (x2 : Int32)
    (h : ((m_sh M a0).1 = 11) ∧ CallVC l G d mRe_plan 11 [.ref a0, .int x1, .int x2] [.ref a0] mRe_isPerson [.ref a0, .int x1] (m_si M a0 0 0) bc bs Φ) :
    Ev l G d mRe_plan 0 [.ref a0, .int x1, .int x2] [] M bc bs Φ := by
  refine Ev.aload_n dRe_plan_0 rfl ?_
  refine Ev.iconst (v := 0) dRe_plan_1 (by decide) ?_
  have g1 := h.1
  replace h := h.2
  refine Ev.putI dRe_plan_2 ⟨_, Or.inl ⟨fRe_115, (fun h => by cases h)⟩⟩ rfl ⟨rfl, rfl⟩ g1 ?_
  refine Ev.aload_n dRe_plan_5 rfl ?_
  refine Ev.aload_n dRe_plan_6 rfl ?_
  refine Ev.iload_n dRe_plan_7 rfl ?_
  exact Ev.vcV (z := mRe_isPerson) (ci := 11) [.int x1] [.ref a0] rfl dRe_plan_8 oRe_isPerson rfl w1618 iRe_isPerson sRe_isPerson (by decide) rfl g1 (Nat.le_of_ble_eq_true rfl) h
theorem bRe_plan_11 {l : Launch} {G : Gx} {d : Nat} {bc bs : Nat} {Φ : OutV → Mm → Prop} (M : Mm) (a0 : Nat) (x1 : Int32) (x2 : Int32) (r0 : Nat) (s1 : Int32)
    (h : (¬ s1 = 0 → ((m_sh M r0).1 = 11) ∧ CallVC l G d mRe_plan 23 [.ref a0, .int x1, .int x2] [] mRe_bad [.ref r0, .int 0, .int 1] M bc bs Φ) ∧ (s1 = 0 → ((m_sh M r0).1 = 11) ∧ CallVC l G d mRe_plan 23 [.ref a0, .int x1, .int x2] [] mRe_bad [.ref r0, .int 1, .int 1] M bc bs Φ)) :
    Ev l G d mRe_plan 11 [.ref a0, .int x1, .int x2] [.int s1, .ref r0] M bc bs Φ := by
  refine Ev.if_ne 18 (by decide) dRe_plan_11 (fun c => ?_) (fun c => ?_)
  · replace h := h.1 c
    refine Ev.iconst (v := 0) dRe_plan_18 (by decide) ?_
    refine Ev.iconst (v := 1) dRe_plan_19 (by decide) ?_
    have g1 := h.1
    replace h := h.2
    exact Ev.vcV (z := mRe_bad) (ci := 11) [.int 0, .int 1] [] rfl dRe_plan_20 oRe_bad rfl w1479 iRe_bad sRe_bad (by decide) rfl g1 (Nat.le_of_ble_eq_true rfl) h
  · replace h := h.2 c
    refine Ev.iconst (v := 1) dRe_plan_14 (by decide) ?_
    refine Ev.goto 19 dRe_plan_15 (by decide) ?_
    refine Ev.iconst (v := 1) dRe_plan_19 (by decide) ?_
    have g2 := h.1
    replace h := h.2
    exact Ev.vcV (z := mRe_bad) (ci := 11) [.int 1, .int 1] [] rfl dRe_plan_20 oRe_bad rfl w1479 iRe_bad sRe_bad (by decide) rfl g2 (Nat.le_of_ble_eq_true rfl) h
theorem bRe_plan_23 {l : Launch} {G : Gx} {d : Nat} {bc bs : Nat} {Φ : OutV → Mm → Prop} (M : Mm) (a0 : Nat) (x1 : Int32) (x2 : Int32) (s0 : Int32)
    (h : (¬ s0 = 0 → Φ (.inl (some (.int 0))) M) ∧ (s0 = 0 → CallVC l G d mRe_plan 35 [.ref a0, .int x1, .int x2] [.ref a0] mRe_in [.int x2, .int 0, .int 1023] M bc bs Φ)) :
    Ev l G d mRe_plan 23 [.ref a0, .int x1, .int x2] [.int s0] M bc bs Φ := by
  refine Ev.if_ne 50 (by decide) dRe_plan_23 (fun c => ?_) (fun c => ?_)
  · replace h := h.1 c
    refine Ev.iconst (v := 0) dRe_plan_50 (by decide) ?_
    exact Ev.iret dRe_plan_51 rfl rfl h
  · replace h := h.2 c
    refine Ev.aload_n dRe_plan_26 rfl ?_
    refine Ev.iload_n dRe_plan_27 rfl ?_
    refine Ev.iconst (v := 0) dRe_plan_28 (by decide) ?_
    refine Ev.sipush (v := 1023) dRe_plan_29 (by decide) ?_
    exact Ev.vcS (z := mRe_in) [.int x2, .int 0, .int 1023] [.ref a0] rfl dRe_plan_32 oRe_in rfl w1476 iRe_in (Nat.le_of_ble_eq_true rfl) h
theorem bRe_plan_35 {l : Launch} {G : Gx} {d : Nat} {bc bs : Nat} {Φ : OutV → Mm → Prop} (M : Mm) (a0 : Nat) (x1 : Int32) (x2 : Int32) (r0 : Nat) (s1 : Int32)
    (h : (¬ s1 = 0 → ((m_sh M r0).1 = 11) ∧ CallVC l G d mRe_plan 47 [.ref a0, .int x1, .int x2] [] mRe_bad [.ref r0, .int 0, .int 2] M bc bs Φ) ∧ (s1 = 0 → ((m_sh M r0).1 = 11) ∧ CallVC l G d mRe_plan 47 [.ref a0, .int x1, .int x2] [] mRe_bad [.ref r0, .int 1, .int 2] M bc bs Φ)) :
    Ev l G d mRe_plan 35 [.ref a0, .int x1, .int x2] [.int s1, .ref r0] M bc bs Φ := by
  refine Ev.if_ne 42 (by decide) dRe_plan_35 (fun c => ?_) (fun c => ?_)
  · replace h := h.1 c
    refine Ev.iconst (v := 0) dRe_plan_42 (by decide) ?_
    refine Ev.iconst (v := 2) dRe_plan_43 (by decide) ?_
    have g1 := h.1
    replace h := h.2
    exact Ev.vcV (z := mRe_bad) (ci := 11) [.int 0, .int 2] [] rfl dRe_plan_44 oRe_bad rfl w1479 iRe_bad sRe_bad (by decide) rfl g1 (Nat.le_of_ble_eq_true rfl) h
  · replace h := h.2 c
    refine Ev.iconst (v := 1) dRe_plan_38 (by decide) ?_
    refine Ev.goto 43 dRe_plan_39 (by decide) ?_
    refine Ev.iconst (v := 2) dRe_plan_43 (by decide) ?_
    have g2 := h.1
    replace h := h.2
    exact Ev.vcV (z := mRe_bad) (ci := 11) [.int 1, .int 2] [] rfl dRe_plan_44 oRe_bad rfl w1479 iRe_bad sRe_bad (by decide) rfl g2 (Nat.le_of_ble_eq_true rfl) h
def mRe_planEnds : MR := (⟨"BowingRowModel", "planEnds", "(II)I"⟩, prog_14_method_73_code, 3, (Option.some .int))
theorem oRe_planEnds : MOK mRe_planEnds 2 := ⟨lwg_of 1760 (by decide +kernel) (by decide +kernel), lwg_of 103 (by decide +kernel) (by decide +kernel), ⟨by decide +kernel, by decide +kernel⟩, by decide +kernel, by decide⟩
theorem iRe_planEnds : Cond.instanceMethod mRe_planEnds.1 ∈ lwg := lwg_of 1759 (by decide +kernel) (by decide +kernel)
theorem sRe_planEnds : Cond.selects mRe_planEnds.1.cls mRe_planEnds.1 mRe_planEnds.1 ∈ lwg := lwg_of 83 (by decide +kernel) (by decide +kernel)
theorem w1757 : Cond.methodLink "BowingRowModel" 372 ⟨"BowingRowModel", "planEnds", "(II)I"⟩ ∈ lwg := lwg_of 1757 (by decide +kernel) (by decide +kernel)
theorem bRe_plan_47 {l : Launch} {G : Gx} {d : Nat} {bc bs : Nat} {Φ : OutV → Mm → Prop} (M : Mm) (a0 : Nat) (x1 : Int32) (x2 : Int32) (s0 : Int32)
    (h : (s0 = 0 → ((m_sh M a0).1 = 11) ∧ CallVC l G d mRe_plan 58 [.ref a0, .int x1, .int x2] [] mRe_planEnds [.ref a0, .int x1, .int x2] M bc bs Φ) ∧ (¬ s0 = 0 → Φ (.inl (some (.int 0))) M)) :
    Ev l G d mRe_plan 47 [.ref a0, .int x1, .int x2] [.int s0] M bc bs Φ := by
  refine Ev.if_eq 52 (by decide) dRe_plan_47 (fun c => ?_) (fun c => ?_)
  · replace h := h.1 c
    refine Ev.aload_n dRe_plan_52 rfl ?_
    refine Ev.iload_n dRe_plan_53 rfl ?_
    refine Ev.iload_n dRe_plan_54 rfl ?_
    have g1 := h.1
    replace h := h.2
    exact Ev.vcV (z := mRe_planEnds) (ci := 11) [.int x1, .int x2] [] rfl dRe_plan_55 oRe_planEnds rfl w1757 iRe_planEnds sRe_planEnds (by decide) rfl g1 (Nat.le_of_ble_eq_true rfl) h
  · replace h := h.2 c
    refine Ev.iconst (v := 0) dRe_plan_50 (by decide) ?_
    exact Ev.iret dRe_plan_51 rfl rfl h
theorem bRe_plan_58 {l : Launch} {G : Gx} {d : Nat} {bc bs : Nat} {Φ : OutV → Mm → Prop} (M : Mm) (a0 : Nat) (x1 : Int32) (x2 : Int32) (s0 : Int32)
    (h : Φ (.inl (some (.int s0))) M) :
    Ev l G d mRe_plan 58 [.ref a0, .int x1, .int x2] [.int s0] M bc bs Φ := by
  exact Ev.iret dRe_plan_58 rfl rfl h
theorem dRe_planEnds_0 : decode mRe_planEnds.2.1 0 = .ok (.aload_n 0, 1) := by decide +kernel
theorem dRe_planEnds_1 : decode mRe_planEnds.2.1 1 = .ok (.iload_n 1, 1) := by decide +kernel
theorem dRe_planEnds_2 : decode mRe_planEnds.2.1 2 = .ok (.putfield 67, 3) := by decide +kernel
theorem dRe_planEnds_5 : decode mRe_planEnds.2.1 5 = .ok (.aload_n 0, 1) := by decide +kernel
theorem dRe_planEnds_6 : decode mRe_planEnds.2.1 6 = .ok (.iload_n 2, 1) := by decide +kernel
theorem dRe_planEnds_7 : decode mRe_planEnds.2.1 7 = .ok (.putfield 353, 3) := by decide +kernel
theorem dRe_planEnds_10 : decode mRe_planEnds.2.1 10 = .ok (.aload_n 0, 1) := by decide +kernel
theorem dRe_planEnds_11 : decode mRe_planEnds.2.1 11 = .ok (.invokevirtual 362, 3) := by decide +kernel
theorem dRe_planEnds_14 : decode mRe_planEnds.2.1 14 = .ok (.aload_n 0, 1) := by decide +kernel
theorem dRe_planEnds_15 : decode mRe_planEnds.2.1 15 = .ok (.iconst (-1), 1) := by decide +kernel
theorem dRe_planEnds_16 : decode mRe_planEnds.2.1 16 = .ok (.putfield 67, 3) := by decide +kernel
theorem dRe_planEnds_19 : decode mRe_planEnds.2.1 19 = .ok (.aload_n 0, 1) := by decide +kernel
theorem dRe_planEnds_20 : decode mRe_planEnds.2.1 20 = .ok (.getfield 91, 3) := by decide +kernel
theorem dRe_planEnds_23 : decode mRe_planEnds.2.1 23 = .ok (.iload_n 1, 1) := by decide +kernel
theorem dRe_planEnds_24 : decode mRe_planEnds.2.1 24 = .ok (.iaload, 1) := by decide +kernel
theorem dRe_planEnds_25 : decode mRe_planEnds.2.1 25 = .ok (.ireturn, 1) := by decide +kernel
theorem bRe_planEnds_0 {l : Launch} {G : Gx} {d : Nat} {bc bs : Nat} {Φ : OutV → Mm → Prop} (M : Mm) (a0 : Nat) (x1 : Int32) (x2 : Int32)
    (h : ((m_sh M a0).1 = 11) ∧ Ev l G d mRe_planEnds 10 [.ref a0, .int x1, .int x2] [] (m_si (m_si M a0 34 x1) a0 35 x2) bc bs Φ) :
    Ev l G d mRe_planEnds 0 [.ref a0, .int x1, .int x2] [] M bc bs Φ := by
  refine Ev.aload_n dRe_planEnds_0 rfl ?_
  refine Ev.iload_n dRe_planEnds_1 rfl ?_
  have g1 := h.1
  replace h := h.2
  refine Ev.putI dRe_planEnds_2 ⟨_, Or.inl ⟨fRe_67, (fun h => by cases h)⟩⟩ rfl ⟨rfl, rfl⟩ g1 ?_
  refine Ev.aload_n dRe_planEnds_5 rfl ?_
  refine Ev.iload_n dRe_planEnds_6 rfl ?_
  refine Ev.putI dRe_planEnds_7 ⟨_, Or.inl ⟨fRe_353, (fun h => by cases h)⟩⟩ rfl ⟨rfl, rfl⟩ g1 ?_
  exact h
theorem bRe_planEnds_10 {l : Launch} {G : Gx} {d : Nat} {bc bs : Nat} {Φ : OutV → Mm → Prop} (M : Mm) (a0 : Nat) (x1 : Int32) (x2 : Int32)
    (h : ((m_sh M a0).1 = 11) ∧ CallVC l G d mRe_planEnds 14 [.ref a0, .int x1, .int x2] [] mRe_asItIs [.ref a0] M bc bs Φ) :
    Ev l G d mRe_planEnds 10 [.ref a0, .int x1, .int x2] [] M bc bs Φ := by
  refine Ev.aload_n dRe_planEnds_10 rfl ?_
  have g1 := h.1
  replace h := h.2
  exact Ev.vcV (z := mRe_asItIs) (ci := 11) [] [] rfl dRe_planEnds_11 oRe_asItIs rfl w1661 iRe_asItIs sRe_asItIs (by decide) rfl g1 (Nat.le_of_ble_eq_true rfl) h
theorem bRe_planEnds_14 {l : Launch} {G : Gx} {d : Nat} {bc bs : Nat} {Φ : OutV → Mm → Prop} (M : Mm) (a0 : Nat) (x1 : Int32) (x2 : Int32)
    (h : ((m_sh M a0).1 = 11) ∧ ((m_sh M (m_r M a0 51)).1 = 20) ∧ (vp_in x1 (m_sh M (m_r M a0 51)).2) ∧ Φ (.inl (some (.int (m_i (m_si M a0 34 ((-1))) (m_r M a0 51) x1.toNatClampNeg)))) (m_si M a0 34 ((-1)))) :
    Ev l G d mRe_planEnds 14 [.ref a0, .int x1, .int x2] [] M bc bs Φ := by
  refine Ev.aload_n dRe_planEnds_14 rfl ?_
  refine Ev.iconst (v := (-1)) dRe_planEnds_15 (by decide) ?_
  have g1 := h.1
  replace h := h.2
  refine Ev.putI dRe_planEnds_16 ⟨_, Or.inl ⟨fRe_67, (fun h => by cases h)⟩⟩ rfl ⟨rfl, rfl⟩ g1 ?_
  refine Ev.aload_n dRe_planEnds_19 rfl ?_
  refine Ev.getR dRe_planEnds_20 (Or.inl fRe_91) rfl g1 ?_
  refine Ev.iload_n dRe_planEnds_23 rfl ?_
  have g2 := h.1
  replace h := h.2
  have g3 := h.1
  replace h := h.2
  refine Ev.iald2 dRe_planEnds_24 g2 g3 ?_
  exact Ev.iret dRe_planEnds_25 rfl rfl h
def mRe_best : MR := (⟨"BowingRowModel", "best", "(II)I"⟩, prog_14_method_75_code, 7, (Option.some .int))
theorem oRe_best : MOK mRe_best 2 := ⟨lwg_of 1764 (by decide +kernel) (by decide +kernel), lwg_of 103 (by decide +kernel) (by decide +kernel), ⟨by decide +kernel, by decide +kernel⟩, by decide +kernel, by decide⟩
theorem iRe_best : Cond.instanceMethod mRe_best.1 ∈ lwg := lwg_of 1762 (by decide +kernel) (by decide +kernel)
theorem sRe_best : Cond.selects mRe_best.1.cls mRe_best.1 mRe_best.1 ∈ lwg := lwg_of 1763 (by decide +kernel) (by decide +kernel)
theorem dRe_best_0 : decode mRe_best.2.1 0 = .ok (.aload_n 0, 1) := by decide +kernel
theorem dRe_best_1 : decode mRe_best.2.1 1 = .ok (.iconst 0, 1) := by decide +kernel
theorem dRe_best_2 : decode mRe_best.2.1 2 = .ok (.putfield 115, 3) := by decide +kernel
theorem dRe_best_5 : decode mRe_best.2.1 5 = .ok (.aload_n 0, 1) := by decide +kernel
theorem dRe_best_6 : decode mRe_best.2.1 6 = .ok (.aload_n 0, 1) := by decide +kernel
theorem dRe_best_7 : decode mRe_best.2.1 7 = .ok (.iload_n 1, 1) := by decide +kernel
theorem dRe_best_8 : decode mRe_best.2.1 8 = .ok (.invokevirtual 285, 3) := by decide +kernel
theorem dRe_best_11 : decode mRe_best.2.1 11 = .ok (.ifCond .ne 7, 3) := by decide +kernel
theorem dRe_best_14 : decode mRe_best.2.1 14 = .ok (.iconst 1, 1) := by decide +kernel
theorem dRe_best_15 : decode mRe_best.2.1 15 = .ok (.goto 4, 3) := by decide +kernel
theorem dRe_best_18 : decode mRe_best.2.1 18 = .ok (.iconst 0, 1) := by decide +kernel
theorem dRe_best_19 : decode mRe_best.2.1 19 = .ok (.iconst 1, 1) := by decide +kernel
theorem dRe_best_20 : decode mRe_best.2.1 20 = .ok (.invokevirtual 196, 3) := by decide +kernel
theorem dRe_best_23 : decode mRe_best.2.1 23 = .ok (.ifCond .ne 25, 3) := by decide +kernel
theorem dRe_best_26 : decode mRe_best.2.1 26 = .ok (.aload_n 0, 1) := by decide +kernel
theorem dRe_best_27 : decode mRe_best.2.1 27 = .ok (.iload_n 2, 1) := by decide +kernel
theorem dRe_best_28 : decode mRe_best.2.1 28 = .ok (.iconst 0, 1) := by decide +kernel
theorem dRe_best_29 : decode mRe_best.2.1 29 = .ok (.iconst 1, 1) := by decide +kernel
theorem dRe_best_30 : decode mRe_best.2.1 30 = .ok (.invokestatic 149, 3) := by decide +kernel
theorem dRe_best_33 : decode mRe_best.2.1 33 = .ok (.ifCond .ne 7, 3) := by decide +kernel
theorem dRe_best_36 : decode mRe_best.2.1 36 = .ok (.iconst 1, 1) := by decide +kernel
theorem dRe_best_37 : decode mRe_best.2.1 37 = .ok (.goto 4, 3) := by decide +kernel
theorem dRe_best_40 : decode mRe_best.2.1 40 = .ok (.iconst 0, 1) := by decide +kernel
theorem dRe_best_41 : decode mRe_best.2.1 41 = .ok (.iconst 2, 1) := by decide +kernel
theorem dRe_best_42 : decode mRe_best.2.1 42 = .ok (.invokevirtual 196, 3) := by decide +kernel
theorem dRe_best_45 : decode mRe_best.2.1 45 = .ok (.ifCond .eq 5, 3) := by decide +kernel
theorem dRe_best_48 : decode mRe_best.2.1 48 = .ok (.iconst 0, 1) := by decide +kernel
theorem dRe_best_49 : decode mRe_best.2.1 49 = .ok (.ireturn, 1) := by decide +kernel
theorem dRe_best_50 : decode mRe_best.2.1 50 = .ok (.iconst 0, 1) := by decide +kernel
theorem dRe_best_51 : decode mRe_best.2.1 51 = .ok (.istore_n 3, 1) := by decide +kernel
theorem dRe_best_52 : decode mRe_best.2.1 52 = .ok (.bipush (-2), 2) := by decide +kernel
theorem dRe_best_54 : decode mRe_best.2.1 54 = .ok (.istore 4, 2) := by decide +kernel
theorem dRe_best_56 : decode mRe_best.2.1 56 = .ok (.iconst 0, 1) := by decide +kernel
theorem dRe_best_57 : decode mRe_best.2.1 57 = .ok (.istore 5, 2) := by decide +kernel
theorem dRe_best_59 : decode mRe_best.2.1 59 = .ok (.iload 5, 2) := by decide +kernel
theorem dRe_best_61 : decode mRe_best.2.1 61 = .ok (.sipush 1024, 3) := by decide +kernel
theorem dRe_best_64 : decode mRe_best.2.1 64 = .ok (.if_icmp .ge 58, 3) := by decide +kernel
theorem dRe_best_67 : decode mRe_best.2.1 67 = .ok (.aload_n 0, 1) := by decide +kernel
theorem dRe_best_68 : decode mRe_best.2.1 68 = .ok (.iload_n 1, 1) := by decide +kernel
theorem dRe_best_69 : decode mRe_best.2.1 69 = .ok (.iload 5, 2) := by decide +kernel
theorem dRe_best_71 : decode mRe_best.2.1 71 = .ok (.invokevirtual 372, 3) := by decide +kernel
theorem dRe_best_74 : decode mRe_best.2.1 74 = .ok (.istore 6, 2) := by decide +kernel
theorem dRe_best_76 : decode mRe_best.2.1 76 = .ok (.iload 6, 2) := by decide +kernel
theorem dRe_best_78 : decode mRe_best.2.1 78 = .ok (.iconst (-1), 1) := by decide +kernel
theorem dRe_best_79 : decode mRe_best.2.1 79 = .ok (.if_icmp .ne 9, 3) := by decide +kernel
theorem dRe_best_82 : decode mRe_best.2.1 82 = .ok (.sipush 9999, 3) := by decide +kernel
theorem dRe_best_85 : decode mRe_best.2.1 85 = .ok (.goto 5, 3) := by decide +kernel
theorem dRe_best_88 : decode mRe_best.2.1 88 = .ok (.iload 6, 2) := by decide +kernel
theorem dRe_best_90 : decode mRe_best.2.1 90 = .ok (.istore 6, 2) := by decide +kernel
theorem dRe_best_92 : decode mRe_best.2.1 92 = .ok (.iload 4, 2) := by decide +kernel
theorem dRe_best_94 : decode mRe_best.2.1 94 = .ok (.bipush (-2), 2) := by decide +kernel
theorem dRe_best_96 : decode mRe_best.2.1 96 = .ok (.if_icmp .eq 13, 3) := by decide +kernel
theorem dRe_best_99 : decode mRe_best.2.1 99 = .ok (.iload 6, 2) := by decide +kernel
theorem dRe_best_101 : decode mRe_best.2.1 101 = .ok (.iload 4, 2) := by decide +kernel
theorem dRe_best_103 : decode mRe_best.2.1 103 = .ok (.if_icmp .lt 6, 3) := by decide +kernel
theorem dRe_best_106 : decode mRe_best.2.1 106 = .ok (.goto 10, 3) := by decide +kernel
theorem dRe_best_109 : decode mRe_best.2.1 109 = .ok (.iload 5, 2) := by decide +kernel
theorem dRe_best_111 : decode mRe_best.2.1 111 = .ok (.istore_n 3, 1) := by decide +kernel
theorem dRe_best_112 : decode mRe_best.2.1 112 = .ok (.iload 6, 2) := by decide +kernel
theorem dRe_best_114 : decode mRe_best.2.1 114 = .ok (.istore 4, 2) := by decide +kernel
theorem dRe_best_116 : decode mRe_best.2.1 116 = .ok (.iinc 5 1, 3) := by decide +kernel
theorem dRe_best_119 : decode mRe_best.2.1 119 = .ok (.goto (-60), 3) := by decide +kernel
theorem dRe_best_122 : decode mRe_best.2.1 122 = .ok (.iload_n 2, 1) := by decide +kernel
theorem dRe_best_123 : decode mRe_best.2.1 123 = .ok (.ifCond .ne 7, 3) := by decide +kernel
theorem dRe_best_126 : decode mRe_best.2.1 126 = .ok (.iload_n 3, 1) := by decide +kernel
theorem dRe_best_127 : decode mRe_best.2.1 127 = .ok (.goto 17, 3) := by decide +kernel
theorem dRe_best_130 : decode mRe_best.2.1 130 = .ok (.iload 4, 2) := by decide +kernel
theorem dRe_best_132 : decode mRe_best.2.1 132 = .ok (.sipush 9999, 3) := by decide +kernel
theorem dRe_best_135 : decode mRe_best.2.1 135 = .ok (.if_icmp .ne 7, 3) := by decide +kernel
theorem dRe_best_138 : decode mRe_best.2.1 138 = .ok (.iconst (-1), 1) := by decide +kernel
theorem dRe_best_139 : decode mRe_best.2.1 139 = .ok (.goto 5, 3) := by decide +kernel
theorem dRe_best_142 : decode mRe_best.2.1 142 = .ok (.iload 4, 2) := by decide +kernel
theorem dRe_best_144 : decode mRe_best.2.1 144 = .ok (.ireturn, 1) := by decide +kernel
theorem bRe_best_0 {l : Launch} {G : Gx} {d : Nat} {bc bs : Nat} {Φ : OutV → Mm → Prop} (M : Mm) (a0 : Nat) (x1 : Int32) (x2 : Int32)
    (h : ((m_sh M a0).1 = 11) ∧ CallVC l G d mRe_best 11 [.ref a0, .int x1, .int x2, .null, .null, .null, .null] [.ref a0] mRe_isPerson [.ref a0, .int x1] (m_si M a0 0 0) bc bs Φ) :
    Ev l G d mRe_best 0 [.ref a0, .int x1, .int x2, .null, .null, .null, .null] [] M bc bs Φ := by
  refine Ev.aload_n dRe_best_0 rfl ?_
  refine Ev.iconst (v := 0) dRe_best_1 (by decide) ?_
  have g1 := h.1
  replace h := h.2
  refine Ev.putI dRe_best_2 ⟨_, Or.inl ⟨fRe_115, (fun h => by cases h)⟩⟩ rfl ⟨rfl, rfl⟩ g1 ?_
  refine Ev.aload_n dRe_best_5 rfl ?_
  refine Ev.aload_n dRe_best_6 rfl ?_
  refine Ev.iload_n dRe_best_7 rfl ?_
  exact Ev.vcV (z := mRe_isPerson) (ci := 11) [.int x1] [.ref a0] rfl dRe_best_8 oRe_isPerson rfl w1618 iRe_isPerson sRe_isPerson (by decide) rfl g1 (Nat.le_of_ble_eq_true rfl) h
theorem bRe_best_11 {l : Launch} {G : Gx} {d : Nat} {bc bs : Nat} {Φ : OutV → Mm → Prop} (M : Mm) (a0 : Nat) (x1 : Int32) (x2 : Int32) (u3 : Value) (u4 : Value) (u5 : Value) (u6 : Value) (r0 : Nat) (s1 : Int32)
    (h : (¬ s1 = 0 → ((m_sh M r0).1 = 11) ∧ CallVC l G d mRe_best 23 [.ref a0, .int x1, .int x2, u3, u4, u5, u6] [] mRe_bad [.ref r0, .int 0, .int 1] M bc bs Φ) ∧ (s1 = 0 → ((m_sh M r0).1 = 11) ∧ CallVC l G d mRe_best 23 [.ref a0, .int x1, .int x2, u3, u4, u5, u6] [] mRe_bad [.ref r0, .int 1, .int 1] M bc bs Φ)) :
    Ev l G d mRe_best 11 [.ref a0, .int x1, .int x2, u3, u4, u5, u6] [.int s1, .ref r0] M bc bs Φ := by
  refine Ev.if_ne 18 (by decide) dRe_best_11 (fun c => ?_) (fun c => ?_)
  · replace h := h.1 c
    refine Ev.iconst (v := 0) dRe_best_18 (by decide) ?_
    refine Ev.iconst (v := 1) dRe_best_19 (by decide) ?_
    have g1 := h.1
    replace h := h.2
    exact Ev.vcV (z := mRe_bad) (ci := 11) [.int 0, .int 1] [] rfl dRe_best_20 oRe_bad rfl w1479 iRe_bad sRe_bad (by decide) rfl g1 (Nat.le_of_ble_eq_true rfl) h
  · replace h := h.2 c
    refine Ev.iconst (v := 1) dRe_best_14 (by decide) ?_
    refine Ev.goto 19 dRe_best_15 (by decide) ?_
    refine Ev.iconst (v := 1) dRe_best_19 (by decide) ?_
    have g2 := h.1
    replace h := h.2
    exact Ev.vcV (z := mRe_bad) (ci := 11) [.int 1, .int 1] [] rfl dRe_best_20 oRe_bad rfl w1479 iRe_bad sRe_bad (by decide) rfl g2 (Nat.le_of_ble_eq_true rfl) h
theorem bRe_best_23 {l : Launch} {G : Gx} {d : Nat} {bc bs : Nat} {Φ : OutV → Mm → Prop} (M : Mm) (a0 : Nat) (x1 : Int32) (x2 : Int32) (u3 : Value) (u4 : Value) (u5 : Value) (u6 : Value) (s0 : Int32)
    (h : (¬ s0 = 0 → Φ (.inl (some (.int 0))) M) ∧ (s0 = 0 → CallVC l G d mRe_best 33 [.ref a0, .int x1, .int x2, u3, u4, u5, u6] [.ref a0] mRe_in [.int x2, .int 0, .int 1] M bc bs Φ)) :
    Ev l G d mRe_best 23 [.ref a0, .int x1, .int x2, u3, u4, u5, u6] [.int s0] M bc bs Φ := by
  refine Ev.if_ne 48 (by decide) dRe_best_23 (fun c => ?_) (fun c => ?_)
  · replace h := h.1 c
    refine Ev.iconst (v := 0) dRe_best_48 (by decide) ?_
    exact Ev.iret dRe_best_49 rfl rfl h
  · replace h := h.2 c
    refine Ev.aload_n dRe_best_26 rfl ?_
    refine Ev.iload_n dRe_best_27 rfl ?_
    refine Ev.iconst (v := 0) dRe_best_28 (by decide) ?_
    refine Ev.iconst (v := 1) dRe_best_29 (by decide) ?_
    exact Ev.vcS (z := mRe_in) [.int x2, .int 0, .int 1] [.ref a0] rfl dRe_best_30 oRe_in rfl w1476 iRe_in (Nat.le_of_ble_eq_true rfl) h
theorem bRe_best_33 {l : Launch} {G : Gx} {d : Nat} {bc bs : Nat} {Φ : OutV → Mm → Prop} (M : Mm) (a0 : Nat) (x1 : Int32) (x2 : Int32) (u3 : Value) (u4 : Value) (u5 : Value) (u6 : Value) (r0 : Nat) (s1 : Int32)
    (h : (¬ s1 = 0 → ((m_sh M r0).1 = 11) ∧ CallVC l G d mRe_best 45 [.ref a0, .int x1, .int x2, u3, u4, u5, u6] [] mRe_bad [.ref r0, .int 0, .int 2] M bc bs Φ) ∧ (s1 = 0 → ((m_sh M r0).1 = 11) ∧ CallVC l G d mRe_best 45 [.ref a0, .int x1, .int x2, u3, u4, u5, u6] [] mRe_bad [.ref r0, .int 1, .int 2] M bc bs Φ)) :
    Ev l G d mRe_best 33 [.ref a0, .int x1, .int x2, u3, u4, u5, u6] [.int s1, .ref r0] M bc bs Φ := by
  refine Ev.if_ne 40 (by decide) dRe_best_33 (fun c => ?_) (fun c => ?_)
  · replace h := h.1 c
    refine Ev.iconst (v := 0) dRe_best_40 (by decide) ?_
    refine Ev.iconst (v := 2) dRe_best_41 (by decide) ?_
    have g1 := h.1
    replace h := h.2
    exact Ev.vcV (z := mRe_bad) (ci := 11) [.int 0, .int 2] [] rfl dRe_best_42 oRe_bad rfl w1479 iRe_bad sRe_bad (by decide) rfl g1 (Nat.le_of_ble_eq_true rfl) h
  · replace h := h.2 c
    refine Ev.iconst (v := 1) dRe_best_36 (by decide) ?_
    refine Ev.goto 41 dRe_best_37 (by decide) ?_
    refine Ev.iconst (v := 2) dRe_best_41 (by decide) ?_
    have g2 := h.1
    replace h := h.2
    exact Ev.vcV (z := mRe_bad) (ci := 11) [.int 1, .int 2] [] rfl dRe_best_42 oRe_bad rfl w1479 iRe_bad sRe_bad (by decide) rfl g2 (Nat.le_of_ble_eq_true rfl) h
theorem bRe_best_45 {l : Launch} {G : Gx} {d : Nat} {bc bs : Nat} {Φ : OutV → Mm → Prop} (M : Mm) (a0 : Nat) (x1 : Int32) (x2 : Int32) (u3 : Value) (u4 : Value) (u5 : Value) (u6 : Value) (s0 : Int32)
    (h : (s0 = 0 → Ev l G d mRe_best 59 [.ref a0, .int x1, .int x2, .int 0, .int ((-2)), .int 0, u6] [] M bc bs Φ) ∧ (¬ s0 = 0 → Φ (.inl (some (.int 0))) M)) :
    Ev l G d mRe_best 45 [.ref a0, .int x1, .int x2, u3, u4, u5, u6] [.int s0] M bc bs Φ := by
  refine Ev.if_eq 50 (by decide) dRe_best_45 (fun c => ?_) (fun c => ?_)
  · replace h := h.1 c
    refine Ev.iconst (v := 0) dRe_best_50 (by decide) ?_
    refine Ev.istore_n dRe_best_51 (by decide) ?_
    show Ev l G d mRe_best (_ + _) [.ref a0, .int x1, .int x2, .int 0, u4, u5, u6] [] M bc bs Φ
    refine Ev.bipush (v := (-2)) dRe_best_52 (by decide) ?_
    refine Ev.istore dRe_best_54 (by decide) ?_
    show Ev l G d mRe_best (_ + _) [.ref a0, .int x1, .int x2, .int 0, .int ((-2)), u5, u6] [] M bc bs Φ
    refine Ev.iconst (v := 0) dRe_best_56 (by decide) ?_
    refine Ev.istore dRe_best_57 (by decide) ?_
    show Ev l G d mRe_best (_ + _) [.ref a0, .int x1, .int x2, .int 0, .int ((-2)), .int 0, u6] [] M bc bs Φ
    exact h
  · replace h := h.2 c
    refine Ev.iconst (v := 0) dRe_best_48 (by decide) ?_
    exact Ev.iret dRe_best_49 rfl rfl h
theorem bRe_best_59 {l : Launch} {G : Gx} {d : Nat} {bc bs : Nat} {Φ : OutV → Mm → Prop} (M : Mm) (a0 : Nat) (x1 : Int32) (x2 : Int32) (x3 : Int32) (x4 : Int32) (x5 : Int32) (u6 : Value)
    (h : (1024 ≤ x5 → (¬ x2 = 0 → (¬ x4 = 9999 → Φ (.inl (some (.int x4))) M) ∧ (x4 = 9999 → Φ (.inl (some (.int ((-1))))) M)) ∧ (x2 = 0 → Φ (.inl (some (.int x3))) M)) ∧ (¬ 1024 ≤ x5 → ((m_sh M a0).1 = 11) ∧ CallVC l G d mRe_best 74 [.ref a0, .int x1, .int x2, .int x3, .int x4, .int x5, u6] [] mRe_planEnds [.ref a0, .int x1, .int x5] M bc bs Φ)) :
    Ev l G d mRe_best 59 [.ref a0, .int x1, .int x2, .int x3, .int x4, .int x5, u6] [] M bc bs Φ := by
  refine Ev.iload dRe_best_59 rfl ?_
  refine Ev.sipush (v := 1024) dRe_best_61 (by decide) ?_
  refine Ev.icmp_ge 122 (by decide) dRe_best_64 (fun c => ?_) (fun c => ?_)
  · replace h := h.1 c
    refine Ev.iload_n dRe_best_122 rfl ?_
    refine Ev.if_ne 130 (by decide) dRe_best_123 (fun c => ?_) (fun c => ?_)
    · replace h := h.1 c
      refine Ev.iload dRe_best_130 rfl ?_
      refine Ev.sipush (v := 9999) dRe_best_132 (by decide) ?_
      refine Ev.icmp_ne 142 (by decide) dRe_best_135 (fun c => ?_) (fun c => ?_)
      · replace h := h.1 c
        refine Ev.iload dRe_best_142 rfl ?_
        exact Ev.iret dRe_best_144 rfl rfl h
      · replace h := h.2 c
        refine Ev.iconst (v := (-1)) dRe_best_138 (by decide) ?_
        refine Ev.goto 144 dRe_best_139 (by decide) ?_
        exact Ev.iret dRe_best_144 rfl rfl h
    · replace h := h.2 c
      refine Ev.iload_n dRe_best_126 rfl ?_
      refine Ev.goto 144 dRe_best_127 (by decide) ?_
      exact Ev.iret dRe_best_144 rfl rfl h
  · replace h := h.2 c
    refine Ev.aload_n dRe_best_67 rfl ?_
    refine Ev.iload_n dRe_best_68 rfl ?_
    refine Ev.iload dRe_best_69 rfl ?_
    have g1 := h.1
    replace h := h.2
    exact Ev.vcV (z := mRe_planEnds) (ci := 11) [.int x1, .int x5] [] rfl dRe_best_71 oRe_planEnds rfl w1757 iRe_planEnds sRe_planEnds (by decide) rfl g1 (Nat.le_of_ble_eq_true rfl) h
theorem bRe_best_74 {l : Launch} {G : Gx} {d : Nat} {bc bs : Nat} {Φ : OutV → Mm → Prop} (M : Mm) (a0 : Nat) (x1 : Int32) (x2 : Int32) (x3 : Int32) (x4 : Int32) (x5 : Int32) (u6 : Value) (s0 : Int32)
    (h : (¬ s0 = ((-1)) → (x4 = ((-2)) → Ev l G d mRe_best 109 [.ref a0, .int x1, .int x2, .int x3, .int x4, .int x5, .int s0] [] M bc bs Φ) ∧ (¬ x4 = ((-2)) → (s0 < x4 → Ev l G d mRe_best 109 [.ref a0, .int x1, .int x2, .int x3, .int x4, .int x5, .int s0] [] M bc bs Φ) ∧ (¬ s0 < x4 → Ev l G d mRe_best 116 [.ref a0, .int x1, .int x2, .int x3, .int x4, .int x5, .int s0] [] M bc bs Φ))) ∧ (s0 = ((-1)) → (x4 = ((-2)) → Ev l G d mRe_best 109 [.ref a0, .int x1, .int x2, .int x3, .int x4, .int x5, .int 9999] [] M bc bs Φ) ∧ (¬ x4 = ((-2)) → (9999 < x4 → Ev l G d mRe_best 109 [.ref a0, .int x1, .int x2, .int x3, .int x4, .int x5, .int 9999] [] M bc bs Φ) ∧ (¬ 9999 < x4 → Ev l G d mRe_best 116 [.ref a0, .int x1, .int x2, .int x3, .int x4, .int x5, .int 9999] [] M bc bs Φ)))) :
    Ev l G d mRe_best 74 [.ref a0, .int x1, .int x2, .int x3, .int x4, .int x5, u6] [.int s0] M bc bs Φ := by
  refine Ev.istore dRe_best_74 (by decide) ?_
  show Ev l G d mRe_best (_ + _) [.ref a0, .int x1, .int x2, .int x3, .int x4, .int x5, .int s0] [] M bc bs Φ
  refine Ev.iload dRe_best_76 rfl ?_
  refine Ev.iconst (v := (-1)) dRe_best_78 (by decide) ?_
  refine Ev.icmp_ne 88 (by decide) dRe_best_79 (fun c => ?_) (fun c => ?_)
  · replace h := h.1 c
    refine Ev.iload dRe_best_88 rfl ?_
    refine Ev.istore dRe_best_90 (by decide) ?_
    show Ev l G d mRe_best (_ + _) [.ref a0, .int x1, .int x2, .int x3, .int x4, .int x5, .int s0] [] M bc bs Φ
    refine Ev.iload dRe_best_92 rfl ?_
    refine Ev.bipush (v := (-2)) dRe_best_94 (by decide) ?_
    refine Ev.icmp_eq 109 (by decide) dRe_best_96 (fun c => ?_) (fun c => ?_)
    · replace h := h.1 c
      exact h
    · replace h := h.2 c
      refine Ev.iload dRe_best_99 rfl ?_
      refine Ev.iload dRe_best_101 rfl ?_
      refine Ev.icmp_lt 109 (by decide) dRe_best_103 (fun c => ?_) (fun c => ?_)
      · replace h := h.1 c
        exact h
      · replace h := h.2 c
        refine Ev.goto 116 dRe_best_106 (by decide) ?_
        exact h
  · replace h := h.2 c
    refine Ev.sipush (v := 9999) dRe_best_82 (by decide) ?_
    refine Ev.goto 90 dRe_best_85 (by decide) ?_
    refine Ev.istore dRe_best_90 (by decide) ?_
    show Ev l G d mRe_best (_ + _) [.ref a0, .int x1, .int x2, .int x3, .int x4, .int x5, .int 9999] [] M bc bs Φ
    refine Ev.iload dRe_best_92 rfl ?_
    refine Ev.bipush (v := (-2)) dRe_best_94 (by decide) ?_
    refine Ev.icmp_eq 109 (by decide) dRe_best_96 (fun c => ?_) (fun c => ?_)
    · replace h := h.1 c
      exact h
    · replace h := h.2 c
      refine Ev.iload dRe_best_99 rfl ?_
      refine Ev.iload dRe_best_101 rfl ?_
      refine Ev.icmp_lt 109 (by decide) dRe_best_103 (fun c => ?_) (fun c => ?_)
      · replace h := h.1 c
        exact h
      · replace h := h.2 c
        refine Ev.goto 116 dRe_best_106 (by decide) ?_
        exact h
theorem bRe_best_109 {l : Launch} {G : Gx} {d : Nat} {bc bs : Nat} {Φ : OutV → Mm → Prop} (M : Mm) (a0 : Nat) (x1 : Int32) (x2 : Int32) (x3 : Int32) (x4 : Int32) (x5 : Int32) (x6 : Int32)
    (h : Ev l G d mRe_best 116 [.ref a0, .int x1, .int x2, .int x5, .int x6, .int x5, .int x6] [] M bc bs Φ) :
    Ev l G d mRe_best 109 [.ref a0, .int x1, .int x2, .int x3, .int x4, .int x5, .int x6] [] M bc bs Φ := by
  refine Ev.iload dRe_best_109 rfl ?_
  refine Ev.istore_n dRe_best_111 (by decide) ?_
  show Ev l G d mRe_best (_ + _) [.ref a0, .int x1, .int x2, .int x5, .int x4, .int x5, .int x6] [] M bc bs Φ
  refine Ev.iload dRe_best_112 rfl ?_
  refine Ev.istore dRe_best_114 (by decide) ?_
  show Ev l G d mRe_best (_ + _) [.ref a0, .int x1, .int x2, .int x5, .int x6, .int x5, .int x6] [] M bc bs Φ
  exact h
theorem bRe_best_116 {l : Launch} {G : Gx} {d : Nat} {bc bs : Nat} {Φ : OutV → Mm → Prop} (M : Mm) (a0 : Nat) (x1 : Int32) (x2 : Int32) (x3 : Int32) (x4 : Int32) (x5 : Int32) (x6 : Int32)
    (h : Ev l G d mRe_best 59 [.ref a0, .int x1, .int x2, .int x3, .int x4, .int (x5 + 1), .int x6] [] M bc bs Φ) :
    Ev l G d mRe_best 116 [.ref a0, .int x1, .int x2, .int x3, .int x4, .int x5, .int x6] [] M bc bs Φ := by
  refine Ev.iinc (v := x5 + 1) dRe_best_116 (by decide) rfl rfl ?_
  show Ev l G d mRe_best (_ + _) [.ref a0, .int x1, .int x2, .int x3, .int x4, .int (x5 + 1), .int x6] [] M bc bs Φ
  refine Ev.goto 59 dRe_best_119 (by decide) ?_
  exact h
def mRe_gain : MR := (⟨"BowingRowModel", "gain", "(II)I"⟩, prog_14_method_77_code, 4, (Option.some .int))
theorem oRe_gain : MOK mRe_gain 2 := ⟨lwg_of 1768 (by decide +kernel) (by decide +kernel), lwg_of 103 (by decide +kernel) (by decide +kernel), ⟨by decide +kernel, by decide +kernel⟩, by decide +kernel, by decide⟩
theorem iRe_gain : Cond.instanceMethod mRe_gain.1 ∈ lwg := lwg_of 1766 (by decide +kernel) (by decide +kernel)
theorem sRe_gain : Cond.selects mRe_gain.1.cls mRe_gain.1 mRe_gain.1 ∈ lwg := lwg_of 1767 (by decide +kernel) (by decide +kernel)
theorem dRe_gain_0 : decode mRe_gain.2.1 0 = .ok (.aload_n 0, 1) := by decide +kernel
theorem dRe_gain_1 : decode mRe_gain.2.1 1 = .ok (.iconst 0, 1) := by decide +kernel
theorem dRe_gain_2 : decode mRe_gain.2.1 2 = .ok (.putfield 115, 3) := by decide +kernel
theorem dRe_gain_5 : decode mRe_gain.2.1 5 = .ok (.aload_n 0, 1) := by decide +kernel
theorem dRe_gain_6 : decode mRe_gain.2.1 6 = .ok (.aload_n 0, 1) := by decide +kernel
theorem dRe_gain_7 : decode mRe_gain.2.1 7 = .ok (.iload_n 1, 1) := by decide +kernel
theorem dRe_gain_8 : decode mRe_gain.2.1 8 = .ok (.invokevirtual 285, 3) := by decide +kernel
theorem dRe_gain_11 : decode mRe_gain.2.1 11 = .ok (.ifCond .ne 7, 3) := by decide +kernel
theorem dRe_gain_14 : decode mRe_gain.2.1 14 = .ok (.iconst 1, 1) := by decide +kernel
theorem dRe_gain_15 : decode mRe_gain.2.1 15 = .ok (.goto 4, 3) := by decide +kernel
theorem dRe_gain_18 : decode mRe_gain.2.1 18 = .ok (.iconst 0, 1) := by decide +kernel
theorem dRe_gain_19 : decode mRe_gain.2.1 19 = .ok (.iconst 1, 1) := by decide +kernel
theorem dRe_gain_20 : decode mRe_gain.2.1 20 = .ok (.invokevirtual 196, 3) := by decide +kernel
theorem dRe_gain_23 : decode mRe_gain.2.1 23 = .ok (.ifCond .ne 25, 3) := by decide +kernel
theorem dRe_gain_26 : decode mRe_gain.2.1 26 = .ok (.aload_n 0, 1) := by decide +kernel
theorem dRe_gain_27 : decode mRe_gain.2.1 27 = .ok (.iload_n 2, 1) := by decide +kernel
theorem dRe_gain_28 : decode mRe_gain.2.1 28 = .ok (.iconst 0, 1) := by decide +kernel
theorem dRe_gain_29 : decode mRe_gain.2.1 29 = .ok (.iconst 4, 1) := by decide +kernel
theorem dRe_gain_30 : decode mRe_gain.2.1 30 = .ok (.invokestatic 149, 3) := by decide +kernel
theorem dRe_gain_33 : decode mRe_gain.2.1 33 = .ok (.ifCond .ne 7, 3) := by decide +kernel
theorem dRe_gain_36 : decode mRe_gain.2.1 36 = .ok (.iconst 1, 1) := by decide +kernel
theorem dRe_gain_37 : decode mRe_gain.2.1 37 = .ok (.goto 4, 3) := by decide +kernel
theorem dRe_gain_40 : decode mRe_gain.2.1 40 = .ok (.iconst 0, 1) := by decide +kernel
theorem dRe_gain_41 : decode mRe_gain.2.1 41 = .ok (.iconst 2, 1) := by decide +kernel
theorem dRe_gain_42 : decode mRe_gain.2.1 42 = .ok (.invokevirtual 196, 3) := by decide +kernel
theorem dRe_gain_45 : decode mRe_gain.2.1 45 = .ok (.ifCond .eq 5, 3) := by decide +kernel
theorem dRe_gain_48 : decode mRe_gain.2.1 48 = .ok (.iconst 0, 1) := by decide +kernel
theorem dRe_gain_49 : decode mRe_gain.2.1 49 = .ok (.ireturn, 1) := by decide +kernel
theorem dRe_gain_50 : decode mRe_gain.2.1 50 = .ok (.aload_n 0, 1) := by decide +kernel
theorem dRe_gain_51 : decode mRe_gain.2.1 51 = .ok (.invokevirtual 362, 3) := by decide +kernel
theorem dRe_gain_54 : decode mRe_gain.2.1 54 = .ok (.aload_n 0, 1) := by decide +kernel
theorem dRe_gain_55 : decode mRe_gain.2.1 55 = .ok (.iload_n 1, 1) := by decide +kernel
theorem dRe_gain_56 : decode mRe_gain.2.1 56 = .ok (.invokevirtual 375, 3) := by decide +kernel
theorem dRe_gain_59 : decode mRe_gain.2.1 59 = .ok (.istore_n 3, 1) := by decide +kernel
theorem dRe_gain_60 : decode mRe_gain.2.1 60 = .ok (.aload_n 0, 1) := by decide +kernel
theorem dRe_gain_61 : decode mRe_gain.2.1 61 = .ok (.invokevirtual 332, 3) := by decide +kernel
theorem dRe_gain_64 : decode mRe_gain.2.1 64 = .ok (.aload_n 0, 1) := by decide +kernel
theorem dRe_gain_65 : decode mRe_gain.2.1 65 = .ok (.getfield 64, 3) := by decide +kernel
theorem dRe_gain_68 : decode mRe_gain.2.1 68 = .ok (.iload_n 1, 1) := by decide +kernel
theorem dRe_gain_69 : decode mRe_gain.2.1 69 = .ok (.iload_n 2, 1) := by decide +kernel
theorem dRe_gain_70 : decode mRe_gain.2.1 70 = .ok (.iastore, 1) := by decide +kernel
theorem dRe_gain_71 : decode mRe_gain.2.1 71 = .ok (.aload_n 0, 1) := by decide +kernel
theorem dRe_gain_72 : decode mRe_gain.2.1 72 = .ok (.invokevirtual 335, 3) := by decide +kernel
theorem dRe_gain_75 : decode mRe_gain.2.1 75 = .ok (.iload_n 3, 1) := by decide +kernel
theorem dRe_gain_76 : decode mRe_gain.2.1 76 = .ok (.aload_n 0, 1) := by decide +kernel
theorem dRe_gain_77 : decode mRe_gain.2.1 77 = .ok (.iload_n 1, 1) := by decide +kernel
theorem dRe_gain_78 : decode mRe_gain.2.1 78 = .ok (.invokevirtual 375, 3) := by decide +kernel
theorem dRe_gain_81 : decode mRe_gain.2.1 81 = .ok (.isub, 1) := by decide +kernel
theorem dRe_gain_82 : decode mRe_gain.2.1 82 = .ok (.ireturn, 1) := by decide +kernel
theorem bRe_gain_0 {l : Launch} {G : Gx} {d : Nat} {bc bs : Nat} {Φ : OutV → Mm → Prop} (M : Mm) (a0 : Nat) (x1 : Int32) (x2 : Int32)
    (h : ((m_sh M a0).1 = 11) ∧ CallVC l G d mRe_gain 11 [.ref a0, .int x1, .int x2, .null] [.ref a0] mRe_isPerson [.ref a0, .int x1] (m_si M a0 0 0) bc bs Φ) :
    Ev l G d mRe_gain 0 [.ref a0, .int x1, .int x2, .null] [] M bc bs Φ := by
  refine Ev.aload_n dRe_gain_0 rfl ?_
  refine Ev.iconst (v := 0) dRe_gain_1 (by decide) ?_
  have g1 := h.1
  replace h := h.2
  refine Ev.putI dRe_gain_2 ⟨_, Or.inl ⟨fRe_115, (fun h => by cases h)⟩⟩ rfl ⟨rfl, rfl⟩ g1 ?_
  refine Ev.aload_n dRe_gain_5 rfl ?_
  refine Ev.aload_n dRe_gain_6 rfl ?_
  refine Ev.iload_n dRe_gain_7 rfl ?_
  exact Ev.vcV (z := mRe_isPerson) (ci := 11) [.int x1] [.ref a0] rfl dRe_gain_8 oRe_isPerson rfl w1618 iRe_isPerson sRe_isPerson (by decide) rfl g1 (Nat.le_of_ble_eq_true rfl) h
theorem bRe_gain_11 {l : Launch} {G : Gx} {d : Nat} {bc bs : Nat} {Φ : OutV → Mm → Prop} (M : Mm) (a0 : Nat) (x1 : Int32) (x2 : Int32) (u3 : Value) (r0 : Nat) (s1 : Int32)
    (h : (¬ s1 = 0 → ((m_sh M r0).1 = 11) ∧ CallVC l G d mRe_gain 23 [.ref a0, .int x1, .int x2, u3] [] mRe_bad [.ref r0, .int 0, .int 1] M bc bs Φ) ∧ (s1 = 0 → ((m_sh M r0).1 = 11) ∧ CallVC l G d mRe_gain 23 [.ref a0, .int x1, .int x2, u3] [] mRe_bad [.ref r0, .int 1, .int 1] M bc bs Φ)) :
    Ev l G d mRe_gain 11 [.ref a0, .int x1, .int x2, u3] [.int s1, .ref r0] M bc bs Φ := by
  refine Ev.if_ne 18 (by decide) dRe_gain_11 (fun c => ?_) (fun c => ?_)
  · replace h := h.1 c
    refine Ev.iconst (v := 0) dRe_gain_18 (by decide) ?_
    refine Ev.iconst (v := 1) dRe_gain_19 (by decide) ?_
    have g1 := h.1
    replace h := h.2
    exact Ev.vcV (z := mRe_bad) (ci := 11) [.int 0, .int 1] [] rfl dRe_gain_20 oRe_bad rfl w1479 iRe_bad sRe_bad (by decide) rfl g1 (Nat.le_of_ble_eq_true rfl) h
  · replace h := h.2 c
    refine Ev.iconst (v := 1) dRe_gain_14 (by decide) ?_
    refine Ev.goto 19 dRe_gain_15 (by decide) ?_
    refine Ev.iconst (v := 1) dRe_gain_19 (by decide) ?_
    have g2 := h.1
    replace h := h.2
    exact Ev.vcV (z := mRe_bad) (ci := 11) [.int 1, .int 1] [] rfl dRe_gain_20 oRe_bad rfl w1479 iRe_bad sRe_bad (by decide) rfl g2 (Nat.le_of_ble_eq_true rfl) h
theorem bRe_gain_23 {l : Launch} {G : Gx} {d : Nat} {bc bs : Nat} {Φ : OutV → Mm → Prop} (M : Mm) (a0 : Nat) (x1 : Int32) (x2 : Int32) (u3 : Value) (s0 : Int32)
    (h : (¬ s0 = 0 → Φ (.inl (some (.int 0))) M) ∧ (s0 = 0 → CallVC l G d mRe_gain 33 [.ref a0, .int x1, .int x2, u3] [.ref a0] mRe_in [.int x2, .int 0, .int 4] M bc bs Φ)) :
    Ev l G d mRe_gain 23 [.ref a0, .int x1, .int x2, u3] [.int s0] M bc bs Φ := by
  refine Ev.if_ne 48 (by decide) dRe_gain_23 (fun c => ?_) (fun c => ?_)
  · replace h := h.1 c
    refine Ev.iconst (v := 0) dRe_gain_48 (by decide) ?_
    exact Ev.iret dRe_gain_49 rfl rfl h
  · replace h := h.2 c
    refine Ev.aload_n dRe_gain_26 rfl ?_
    refine Ev.iload_n dRe_gain_27 rfl ?_
    refine Ev.iconst (v := 0) dRe_gain_28 (by decide) ?_
    refine Ev.iconst (v := 4) dRe_gain_29 (by decide) ?_
    exact Ev.vcS (z := mRe_in) [.int x2, .int 0, .int 4] [.ref a0] rfl dRe_gain_30 oRe_in rfl w1476 iRe_in (Nat.le_of_ble_eq_true rfl) h
theorem bRe_gain_33 {l : Launch} {G : Gx} {d : Nat} {bc bs : Nat} {Φ : OutV → Mm → Prop} (M : Mm) (a0 : Nat) (x1 : Int32) (x2 : Int32) (u3 : Value) (r0 : Nat) (s1 : Int32)
    (h : (¬ s1 = 0 → ((m_sh M r0).1 = 11) ∧ CallVC l G d mRe_gain 45 [.ref a0, .int x1, .int x2, u3] [] mRe_bad [.ref r0, .int 0, .int 2] M bc bs Φ) ∧ (s1 = 0 → ((m_sh M r0).1 = 11) ∧ CallVC l G d mRe_gain 45 [.ref a0, .int x1, .int x2, u3] [] mRe_bad [.ref r0, .int 1, .int 2] M bc bs Φ)) :
    Ev l G d mRe_gain 33 [.ref a0, .int x1, .int x2, u3] [.int s1, .ref r0] M bc bs Φ := by
  refine Ev.if_ne 40 (by decide) dRe_gain_33 (fun c => ?_) (fun c => ?_)
  · replace h := h.1 c
    refine Ev.iconst (v := 0) dRe_gain_40 (by decide) ?_
    refine Ev.iconst (v := 2) dRe_gain_41 (by decide) ?_
    have g1 := h.1
    replace h := h.2
    exact Ev.vcV (z := mRe_bad) (ci := 11) [.int 0, .int 2] [] rfl dRe_gain_42 oRe_bad rfl w1479 iRe_bad sRe_bad (by decide) rfl g1 (Nat.le_of_ble_eq_true rfl) h
  · replace h := h.2 c
    refine Ev.iconst (v := 1) dRe_gain_36 (by decide) ?_
    refine Ev.goto 41 dRe_gain_37 (by decide) ?_
    refine Ev.iconst (v := 2) dRe_gain_41 (by decide) ?_
    have g2 := h.1
    replace h := h.2
    exact Ev.vcV (z := mRe_bad) (ci := 11) [.int 1, .int 2] [] rfl dRe_gain_42 oRe_bad rfl w1479 iRe_bad sRe_bad (by decide) rfl g2 (Nat.le_of_ble_eq_true rfl) h
theorem bRe_gain_45 {l : Launch} {G : Gx} {d : Nat} {bc bs : Nat} {Φ : OutV → Mm → Prop} (M : Mm) (a0 : Nat) (x1 : Int32) (x2 : Int32) (u3 : Value) (s0 : Int32)
    (h : (s0 = 0 → ((m_sh M a0).1 = 11) ∧ CallVC l G d mRe_gain 54 [.ref a0, .int x1, .int x2, u3] [] mRe_asItIs [.ref a0] M bc bs Φ) ∧ (¬ s0 = 0 → Φ (.inl (some (.int 0))) M)) :
    Ev l G d mRe_gain 45 [.ref a0, .int x1, .int x2, u3] [.int s0] M bc bs Φ := by
  refine Ev.if_eq 50 (by decide) dRe_gain_45 (fun c => ?_) (fun c => ?_)
  · replace h := h.1 c
    refine Ev.aload_n dRe_gain_50 rfl ?_
    have g1 := h.1
    replace h := h.2
    exact Ev.vcV (z := mRe_asItIs) (ci := 11) [] [] rfl dRe_gain_51 oRe_asItIs rfl w1661 iRe_asItIs sRe_asItIs (by decide) rfl g1 (Nat.le_of_ble_eq_true rfl) h
  · replace h := h.2 c
    refine Ev.iconst (v := 0) dRe_gain_48 (by decide) ?_
    exact Ev.iret dRe_gain_49 rfl rfl h
def mRe_endOf : MR := (⟨"BowingRowModel", "endOf", "(I)I"⟩, prog_14_method_76_code, 2, (Option.some .int))
theorem oRe_endOf : MOK mRe_endOf 1 := ⟨lwg_of 1772 (by decide +kernel) (by decide +kernel), lwg_of 103 (by decide +kernel) (by decide +kernel), ⟨by decide +kernel, by decide +kernel⟩, by decide +kernel, by decide⟩
theorem iRe_endOf : Cond.instanceMethod mRe_endOf.1 ∈ lwg := lwg_of 1771 (by decide +kernel) (by decide +kernel)
theorem sRe_endOf : Cond.selects mRe_endOf.1.cls mRe_endOf.1 mRe_endOf.1 ∈ lwg := lwg_of 84 (by decide +kernel) (by decide +kernel)
theorem w1769 : Cond.methodLink "BowingRowModel" 375 ⟨"BowingRowModel", "endOf", "(I)I"⟩ ∈ lwg := lwg_of 1769 (by decide +kernel) (by decide +kernel)
theorem bRe_gain_54 {l : Launch} {G : Gx} {d : Nat} {bc bs : Nat} {Φ : OutV → Mm → Prop} (M : Mm) (a0 : Nat) (x1 : Int32) (x2 : Int32) (u3 : Value)
    (h : ((m_sh M a0).1 = 11) ∧ CallVC l G d mRe_gain 59 [.ref a0, .int x1, .int x2, u3] [] mRe_endOf [.ref a0, .int x1] M bc bs Φ) :
    Ev l G d mRe_gain 54 [.ref a0, .int x1, .int x2, u3] [] M bc bs Φ := by
  refine Ev.aload_n dRe_gain_54 rfl ?_
  refine Ev.iload_n dRe_gain_55 rfl ?_
  have g1 := h.1
  replace h := h.2
  exact Ev.vcV (z := mRe_endOf) (ci := 11) [.int x1] [] rfl dRe_gain_56 oRe_endOf rfl w1769 iRe_endOf sRe_endOf (by decide) rfl g1 (Nat.le_of_ble_eq_true rfl) h
theorem bRe_gain_59 {l : Launch} {G : Gx} {d : Nat} {bc bs : Nat} {Φ : OutV → Mm → Prop} (M : Mm) (a0 : Nat) (x1 : Int32) (x2 : Int32) (u3 : Value) (s0 : Int32)
    (h : ((m_sh M a0).1 = 11) ∧ CallVC l G d mRe_gain 64 [.ref a0, .int x1, .int x2, .int s0] [] mRe_layWays [.ref a0] M bc bs Φ) :
    Ev l G d mRe_gain 59 [.ref a0, .int x1, .int x2, u3] [.int s0] M bc bs Φ := by
  refine Ev.istore_n dRe_gain_59 (by decide) ?_
  show Ev l G d mRe_gain (_ + _) [.ref a0, .int x1, .int x2, .int s0] [] M bc bs Φ
  refine Ev.aload_n dRe_gain_60 rfl ?_
  have g1 := h.1
  replace h := h.2
  exact Ev.vcV (z := mRe_layWays) (ci := 11) [] [] rfl dRe_gain_61 oRe_layWays rfl w1665 iRe_layWays sRe_layWays (by decide) rfl g1 (Nat.le_of_ble_eq_true rfl) h
theorem bRe_gain_64 {l : Launch} {G : Gx} {d : Nat} {bc bs : Nat} {Φ : OutV → Mm → Prop} (M : Mm) (a0 : Nat) (x1 : Int32) (x2 : Int32) (x3 : Int32)
    (h : ((m_sh M a0).1 = 11) ∧ ((m_sh M (m_r M a0 32)).1 = 20) ∧ (vp_in x1 (m_sh M (m_r M a0 32)).2) ∧ CallVC l G d mRe_gain 75 [.ref a0, .int x1, .int x2, .int x3] [] mRe_day0 [.ref a0] (m_si M (m_r M a0 32) x1.toNatClampNeg x2) bc bs Φ) :
    Ev l G d mRe_gain 64 [.ref a0, .int x1, .int x2, .int x3] [] M bc bs Φ := by
  refine Ev.aload_n dRe_gain_64 rfl ?_
  have g1 := h.1
  replace h := h.2
  refine Ev.getR dRe_gain_65 (Or.inl fRe_64) rfl g1 ?_
  refine Ev.iload_n dRe_gain_68 rfl ?_
  refine Ev.iload_n dRe_gain_69 rfl ?_
  have g2 := h.1
  replace h := h.2
  have g3 := h.1
  replace h := h.2
  refine Ev.iast2 dRe_gain_70 g2 g3 ?_
  refine Ev.aload_n dRe_gain_71 rfl ?_
  exact Ev.vcV (z := mRe_day0) (ci := 11) [] [] rfl dRe_gain_72 oRe_day0 rfl w1669 iRe_day0 sRe_day0 (by decide) rfl g1 (Nat.le_of_ble_eq_true rfl) h
theorem bRe_gain_75 {l : Launch} {G : Gx} {d : Nat} {bc bs : Nat} {Φ : OutV → Mm → Prop} (M : Mm) (a0 : Nat) (x1 : Int32) (x2 : Int32) (x3 : Int32)
    (h : ((m_sh M a0).1 = 11) ∧ CallVC l G d mRe_gain 81 [.ref a0, .int x1, .int x2, .int x3] [.int x3] mRe_endOf [.ref a0, .int x1] M bc bs Φ) :
    Ev l G d mRe_gain 75 [.ref a0, .int x1, .int x2, .int x3] [] M bc bs Φ := by
  refine Ev.iload_n dRe_gain_75 rfl ?_
  refine Ev.aload_n dRe_gain_76 rfl ?_
  refine Ev.iload_n dRe_gain_77 rfl ?_
  have g1 := h.1
  replace h := h.2
  exact Ev.vcV (z := mRe_endOf) (ci := 11) [.int x1] [.int x3] rfl dRe_gain_78 oRe_endOf rfl w1769 iRe_endOf sRe_endOf (by decide) rfl g1 (Nat.le_of_ble_eq_true rfl) h
theorem bRe_gain_81 {l : Launch} {G : Gx} {d : Nat} {bc bs : Nat} {Φ : OutV → Mm → Prop} (M : Mm) (a0 : Nat) (x1 : Int32) (x2 : Int32) (x3 : Int32) (s0 : Int32) (s1 : Int32)
    (h : Φ (.inl (some (.int (s0 - s1)))) M) :
    Ev l G d mRe_gain 81 [.ref a0, .int x1, .int x2, .int x3] [.int s1, .int s0] M bc bs Φ := by
  refine Ev.isub dRe_gain_81 ?_
  exact Ev.iret dRe_gain_82 rfl rfl h
