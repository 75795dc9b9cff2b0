theorem dRe_endOf_0 : decode mRe_endOf.2.1 0 = .ok (.aload_n 0, 1) := by decide +kernel
theorem dRe_endOf_1 : decode mRe_endOf.2.1 1 = .ok (.getfield 91, 3) := by decide +kernel
theorem dRe_endOf_4 : decode mRe_endOf.2.1 4 = .ok (.iload_n 1, 1) := by decide +kernel
theorem dRe_endOf_5 : decode mRe_endOf.2.1 5 = .ok (.iaload, 1) := by decide +kernel
theorem dRe_endOf_6 : decode mRe_endOf.2.1 6 = .ok (.iconst (-1), 1) := by decide +kernel
theorem dRe_endOf_7 : decode mRe_endOf.2.1 7 = .ok (.if_icmp .ne 9, 3) := by decide +kernel
theorem dRe_endOf_10 : decode mRe_endOf.2.1 10 = .ok (.sipush 9999, 3) := by decide +kernel
theorem dRe_endOf_13 : decode mRe_endOf.2.1 13 = .ok (.goto 9, 3) := by decide +kernel
theorem dRe_endOf_16 : decode mRe_endOf.2.1 16 = .ok (.aload_n 0, 1) := by decide +kernel
theorem dRe_endOf_17 : decode mRe_endOf.2.1 17 = .ok (.getfield 91, 3) := by decide +kernel
theorem dRe_endOf_20 : decode mRe_endOf.2.1 20 = .ok (.iload_n 1, 1) := by decide +kernel
theorem dRe_endOf_21 : decode mRe_endOf.2.1 21 = .ok (.iaload, 1) := by decide +kernel
theorem dRe_endOf_22 : decode mRe_endOf.2.1 22 = .ok (.ireturn, 1) := by decide +kernel
theorem bRe_endOf_0 {l : Launch} {G : Gx} {d : Nat} {bc bs : Nat} {Φ : OutV → Mm → Prop} (M : Mm) (a0 : Nat) (x1 : Int32)
    (h : ((m_sh M a0).1 = 11) ∧ ((m_sh M (m_r M a0 51)).1 = 20) ∧ (vp_in x1 (m_sh M (m_r M a0 51)).2) ∧ (¬ (m_i M (m_r M a0 51) x1.toNatClampNeg) = ((-1)) → Φ (.inl (some (.int (m_i M (m_r M a0 51) x1.toNatClampNeg)))) M) ∧ ((m_i M (m_r M a0 51) x1.toNatClampNeg) = ((-1)) → Φ (.inl (some (.int 9999))) M)) :
    Ev l G d mRe_endOf 0 [.ref a0, .int x1] [] M bc bs Φ := by
  refine Ev.aload_n dRe_endOf_0 rfl ?_
  have g1 := h.1
  replace h := h.2
  refine Ev.getR dRe_endOf_1 (Or.inl fRe_91) rfl g1 ?_
  refine Ev.iload_n dRe_endOf_4 rfl ?_
  have g2 := h.1
  replace h := h.2
  have g3 := h.1
  replace h := h.2
  refine Ev.iald2 dRe_endOf_5 g2 g3 ?_
  refine Ev.iconst (v := (-1)) dRe_endOf_6 (by decide) ?_
  refine Ev.icmp_ne 16 (by decide) dRe_endOf_7 (fun c => ?_) (fun c => ?_)
  · replace h := h.1 c
    refine Ev.aload_n dRe_endOf_16 rfl ?_
    refine Ev.getR dRe_endOf_17 (Or.inl fRe_91) rfl g1 ?_
    refine Ev.iload_n dRe_endOf_20 rfl ?_
    refine Ev.iald2 dRe_endOf_21 g2 g3 ?_
    exact Ev.iret dRe_endOf_22 rfl rfl h
  · replace h := h.2 c
    refine Ev.sipush (v := 9999) dRe_endOf_10 (by decide) ?_
    refine Ev.goto 22 dRe_endOf_13 (by decide) ?_
    exact Ev.iret dRe_endOf_22 rfl rfl h
def mRe_rest : MR := (⟨"BowingRowModel", "rest", "(I)I"⟩, prog_14_method_82_code, 5, (Option.some .int))
theorem oRe_rest : MOK mRe_rest 1 := ⟨lwg_of 1776 (by decide +kernel) (by decide +kernel), lwg_of 103 (by decide +kernel) (by decide +kernel), ⟨by decide +kernel, by decide +kernel⟩, by decide +kernel, by decide⟩
theorem iRe_rest : Cond.instanceMethod mRe_rest.1 ∈ lwg := lwg_of 1774 (by decide +kernel) (by decide +kernel)
theorem sRe_rest : Cond.selects mRe_rest.1.cls mRe_rest.1 mRe_rest.1 ∈ lwg := lwg_of 1775 (by decide +kernel) (by decide +kernel)
theorem dRe_rest_0 : decode mRe_rest.2.1 0 = .ok (.aload_n 0, 1) := by decide +kernel
theorem dRe_rest_1 : decode mRe_rest.2.1 1 = .ok (.iconst 0, 1) := by decide +kernel
theorem dRe_rest_2 : decode mRe_rest.2.1 2 = .ok (.putfield 115, 3) := by decide +kernel
theorem dRe_rest_5 : decode mRe_rest.2.1 5 = .ok (.aload_n 0, 1) := by decide +kernel
theorem dRe_rest_6 : decode mRe_rest.2.1 6 = .ok (.iload_n 1, 1) := by decide +kernel
theorem dRe_rest_7 : decode mRe_rest.2.1 7 = .ok (.iconst 0, 1) := by decide +kernel
theorem dRe_rest_8 : decode mRe_rest.2.1 8 = .ok (.iconst 1, 1) := by decide +kernel
theorem dRe_rest_9 : decode mRe_rest.2.1 9 = .ok (.invokestatic 149, 3) := by decide +kernel
theorem dRe_rest_12 : decode mRe_rest.2.1 12 = .ok (.ifCond .ne 7, 3) := by decide +kernel
theorem dRe_rest_15 : decode mRe_rest.2.1 15 = .ok (.iconst 1, 1) := by decide +kernel
theorem dRe_rest_16 : decode mRe_rest.2.1 16 = .ok (.goto 4, 3) := by decide +kernel
theorem dRe_rest_19 : decode mRe_rest.2.1 19 = .ok (.iconst 0, 1) := by decide +kernel
theorem dRe_rest_20 : decode mRe_rest.2.1 20 = .ok (.iconst 1, 1) := by decide +kernel
theorem dRe_rest_21 : decode mRe_rest.2.1 21 = .ok (.invokevirtual 196, 3) := by decide +kernel
theorem dRe_rest_24 : decode mRe_rest.2.1 24 = .ok (.ifCond .ne 24, 3) := by decide +kernel
theorem dRe_rest_27 : decode mRe_rest.2.1 27 = .ok (.aload_n 0, 1) := by decide +kernel
theorem dRe_rest_28 : decode mRe_rest.2.1 28 = .ok (.aload_n 0, 1) := by decide +kernel
theorem dRe_rest_29 : decode mRe_rest.2.1 29 = .ok (.getfield 206, 3) := by decide +kernel
theorem dRe_rest_32 : decode mRe_rest.2.1 32 = .ok (.iconst 5, 1) := by decide +kernel
theorem dRe_rest_33 : decode mRe_rest.2.1 33 = .ok (.if_icmp .le 7, 3) := by decide +kernel
theorem dRe_rest_36 : decode mRe_rest.2.1 36 = .ok (.iconst 1, 1) := by decide +kernel
theorem dRe_rest_37 : decode mRe_rest.2.1 37 = .ok (.goto 4, 3) := by decide +kernel
theorem dRe_rest_40 : decode mRe_rest.2.1 40 = .ok (.iconst 0, 1) := by decide +kernel
theorem dRe_rest_41 : decode mRe_rest.2.1 41 = .ok (.iconst 2, 1) := by decide +kernel
theorem dRe_rest_42 : decode mRe_rest.2.1 42 = .ok (.invokevirtual 196, 3) := by decide +kernel
theorem dRe_rest_45 : decode mRe_rest.2.1 45 = .ok (.ifCond .eq 5, 3) := by decide +kernel
theorem dRe_rest_48 : decode mRe_rest.2.1 48 = .ok (.iconst 0, 1) := by decide +kernel
theorem dRe_rest_49 : decode mRe_rest.2.1 49 = .ok (.ireturn, 1) := by decide +kernel
theorem dRe_rest_50 : decode mRe_rest.2.1 50 = .ok (.aload_n 0, 1) := by decide +kernel
theorem dRe_rest_51 : decode mRe_rest.2.1 51 = .ok (.invokevirtual 384, 3) := by decide +kernel
theorem dRe_rest_54 : decode mRe_rest.2.1 54 = .ok (.iconst 0, 1) := by decide +kernel
theorem dRe_rest_55 : decode mRe_rest.2.1 55 = .ok (.istore_n 2, 1) := by decide +kernel
theorem dRe_rest_56 : decode mRe_rest.2.1 56 = .ok (.iconst (-1), 1) := by decide +kernel
theorem dRe_rest_57 : decode mRe_rest.2.1 57 = .ok (.istore_n 3, 1) := by decide +kernel
theorem dRe_rest_58 : decode mRe_rest.2.1 58 = .ok (.aload_n 0, 1) := by decide +kernel
theorem dRe_rest_59 : decode mRe_rest.2.1 59 = .ok (.invokevirtual 378, 3) := by decide +kernel
theorem dRe_rest_62 : decode mRe_rest.2.1 62 = .ok (.iconst 1, 1) := by decide +kernel
theorem dRe_rest_63 : decode mRe_rest.2.1 63 = .ok (.isub, 1) := by decide +kernel
theorem dRe_rest_64 : decode mRe_rest.2.1 64 = .ok (.istore 4, 2) := by decide +kernel
theorem dRe_rest_66 : decode mRe_rest.2.1 66 = .ok (.iload 4, 2) := by decide +kernel
theorem dRe_rest_68 : decode mRe_rest.2.1 68 = .ok (.ifCond .lt 27, 3) := by decide +kernel
theorem dRe_rest_71 : decode mRe_rest.2.1 71 = .ok (.aload_n 0, 1) := by decide +kernel
theorem dRe_rest_72 : decode mRe_rest.2.1 72 = .ok (.iload 4, 2) := by decide +kernel
theorem dRe_rest_74 : decode mRe_rest.2.1 74 = .ok (.invokevirtual 387, 3) := by decide +kernel
theorem dRe_rest_77 : decode mRe_rest.2.1 77 = .ok (.ifCond .ne 6, 3) := by decide +kernel
theorem dRe_rest_80 : decode mRe_rest.2.1 80 = .ok (.goto 9, 3) := by decide +kernel
theorem dRe_rest_83 : decode mRe_rest.2.1 83 = .ok (.iload 4, 2) := by decide +kernel
theorem dRe_rest_85 : decode mRe_rest.2.1 85 = .ok (.istore_n 3, 1) := by decide +kernel
theorem dRe_rest_86 : decode mRe_rest.2.1 86 = .ok (.iinc 2 1, 3) := by decide +kernel
theorem dRe_rest_89 : decode mRe_rest.2.1 89 = .ok (.iinc 4 (-1), 3) := by decide +kernel
theorem dRe_rest_92 : decode mRe_rest.2.1 92 = .ok (.goto (-26), 3) := by decide +kernel
theorem dRe_rest_95 : decode mRe_rest.2.1 95 = .ok (.iload_n 1, 1) := by decide +kernel
theorem dRe_rest_96 : decode mRe_rest.2.1 96 = .ok (.ifCond .ne 7, 3) := by decide +kernel
theorem dRe_rest_99 : decode mRe_rest.2.1 99 = .ok (.iload_n 2, 1) := by decide +kernel
theorem dRe_rest_100 : decode mRe_rest.2.1 100 = .ok (.goto 4, 3) := by decide +kernel
theorem dRe_rest_103 : decode mRe_rest.2.1 103 = .ok (.iload_n 3, 1) := by decide +kernel
theorem dRe_rest_104 : decode mRe_rest.2.1 104 = .ok (.ireturn, 1) := by decide +kernel
theorem bRe_rest_0 {l : Launch} {G : Gx} {d : Nat} {bc bs : Nat} {Φ : OutV → Mm → Prop} (M : Mm) (a0 : Nat) (x1 : Int32)
    (h : ((m_sh M a0).1 = 11) ∧ CallVC l G d mRe_rest 12 [.ref a0, .int x1, .null, .null, .null] [.ref a0] mRe_in [.int x1, .int 0, .int 1] (m_si M a0 0 0) bc bs Φ) :
    Ev l G d mRe_rest 0 [.ref a0, .int x1, .null, .null, .null] [] M bc bs Φ := by
  refine Ev.aload_n dRe_rest_0 rfl ?_
  refine Ev.iconst (v := 0) dRe_rest_1 (by decide) ?_
  have g1 := h.1
  replace h := h.2
  refine Ev.putI dRe_rest_2 ⟨_, Or.inl ⟨fRe_115, (fun h => by cases h)⟩⟩ rfl ⟨rfl, rfl⟩ g1 ?_
  refine Ev.aload_n dRe_rest_5 rfl ?_
  refine Ev.iload_n dRe_rest_6 rfl ?_
  refine Ev.iconst (v := 0) dRe_rest_7 (by decide) ?_
  refine Ev.iconst (v := 1) dRe_rest_8 (by decide) ?_
  exact Ev.vcS (z := mRe_in) [.int x1, .int 0, .int 1] [.ref a0] rfl dRe_rest_9 oRe_in rfl w1476 iRe_in (Nat.le_of_ble_eq_true rfl) h
theorem bRe_rest_12 {l : Launch} {G : Gx} {d : Nat} {bc bs : Nat} {Φ : OutV → Mm → Prop} (M : Mm) (a0 : Nat) (x1 : Int32) (u2 : Value) (u3 : Value) (u4 : Value) (r0 : Nat) (s1 : Int32)
    (h : (¬ s1 = 0 → ((m_sh M r0).1 = 11) ∧ CallVC l G d mRe_rest 24 [.ref a0, .int x1, u2, u3, u4] [] mRe_bad [.ref r0, .int 0, .int 1] M bc bs Φ) ∧ (s1 = 0 → ((m_sh M r0).1 = 11) ∧ CallVC l G d mRe_rest 24 [.ref a0, .int x1, u2, u3, u4] [] mRe_bad [.ref r0, .int 1, .int 1] M bc bs Φ)) :
    Ev l G d mRe_rest 12 [.ref a0, .int x1, u2, u3, u4] [.int s1, .ref r0] M bc bs Φ := by
  refine Ev.if_ne 19 (by decide) dRe_rest_12 (fun c => ?_) (fun c => ?_)
  · replace h := h.1 c
    refine Ev.iconst (v := 0) dRe_rest_19 (by decide) ?_
    refine Ev.iconst (v := 1) dRe_rest_20 (by decide) ?_
    have g1 := h.1
    replace h := h.2
    exact Ev.vcV (z := mRe_bad) (ci := 11) [.int 0, .int 1] [] rfl dRe_rest_21 oRe_bad rfl w1479 iRe_bad sRe_bad (by decide) rfl g1 (Nat.le_of_ble_eq_true rfl) h
  · replace h := h.2 c
    refine Ev.iconst (v := 1) dRe_rest_15 (by decide) ?_
    refine Ev.goto 20 dRe_rest_16 (by decide) ?_
    refine Ev.iconst (v := 1) dRe_rest_20 (by decide) ?_
    have g2 := h.1
    replace h := h.2
    exact Ev.vcV (z := mRe_bad) (ci := 11) [.int 1, .int 1] [] rfl dRe_rest_21 oRe_bad rfl w1479 iRe_bad sRe_bad (by decide) rfl g2 (Nat.le_of_ble_eq_true rfl) h
theorem bRe_rest_24 {l : Launch} {G : Gx} {d : Nat} {bc bs : Nat} {Φ : OutV → Mm → Prop} (M : Mm) (a0 : Nat) (x1 : Int32) (u2 : Value) (u3 : Value) (u4 : Value) (s0 : Int32)
    (h : (¬ s0 = 0 → Φ (.inl (some (.int 0))) M) ∧ (s0 = 0 → ((m_sh M a0).1 = 11) ∧ ((m_i M a0 11) ≤ 5 → CallVC l G d mRe_rest 45 [.ref a0, .int x1, u2, u3, u4] [] mRe_bad [.ref a0, .int 0, .int 2] M bc bs Φ) ∧ (¬ (m_i M a0 11) ≤ 5 → CallVC l G d mRe_rest 45 [.ref a0, .int x1, u2, u3, u4] [] mRe_bad [.ref a0, .int 1, .int 2] M bc bs Φ))) :
    Ev l G d mRe_rest 24 [.ref a0, .int x1, u2, u3, u4] [.int s0] M bc bs Φ := by
  refine Ev.if_ne 48 (by decide) dRe_rest_24 (fun c => ?_) (fun c => ?_)
  · replace h := h.1 c
    refine Ev.iconst (v := 0) dRe_rest_48 (by decide) ?_
    exact Ev.iret dRe_rest_49 rfl rfl h
  · replace h := h.2 c
    refine Ev.aload_n dRe_rest_27 rfl ?_
    refine Ev.aload_n dRe_rest_28 rfl ?_
    have g1 := h.1
    replace h := h.2
    refine Ev.getI dRe_rest_29 (Or.inl fRe_206) rfl g1 ?_
    refine Ev.iconst (v := 5) dRe_rest_32 (by decide) ?_
    refine Ev.icmp_le 40 (by decide) dRe_rest_33 (fun c => ?_) (fun c => ?_)
    · replace h := h.1 c
      refine Ev.iconst (v := 0) dRe_rest_40 (by decide) ?_
      refine Ev.iconst (v := 2) dRe_rest_41 (by decide) ?_
      exact Ev.vcV (z := mRe_bad) (ci := 11) [.int 0, .int 2] [] rfl dRe_rest_42 oRe_bad rfl w1479 iRe_bad sRe_bad (by decide) rfl g1 (Nat.le_of_ble_eq_true rfl) h
    · replace h := h.2 c
      refine Ev.iconst (v := 1) dRe_rest_36 (by decide) ?_
      refine Ev.goto 41 dRe_rest_37 (by decide) ?_
      refine Ev.iconst (v := 2) dRe_rest_41 (by decide) ?_
      exact Ev.vcV (z := mRe_bad) (ci := 11) [.int 1, .int 2] [] rfl dRe_rest_42 oRe_bad rfl w1479 iRe_bad sRe_bad (by decide) rfl g1 (Nat.le_of_ble_eq_true rfl) h
def mRe_layAll : MR := (⟨"BowingRowModel", "layAll", "()V"⟩, prog_14_method_80_code, 3, none)
theorem oRe_layAll : MOK mRe_layAll 0 := ⟨lwg_of 1780 (by decide +kernel) (by decide +kernel), lwg_of 103 (by decide +kernel) (by decide +kernel), ⟨by decide +kernel, by decide +kernel⟩, by decide +kernel, by decide⟩
theorem iRe_layAll : Cond.instanceMethod mRe_layAll.1 ∈ lwg := lwg_of 1779 (by decide +kernel) (by decide +kernel)
theorem sRe_layAll : Cond.selects mRe_layAll.1.cls mRe_layAll.1 mRe_layAll.1 ∈ lwg := lwg_of 85 (by decide +kernel) (by decide +kernel)
theorem w1777 : Cond.methodLink "BowingRowModel" 384 ⟨"BowingRowModel", "layAll", "()V"⟩ ∈ lwg := lwg_of 1777 (by decide +kernel) (by decide +kernel)
theorem bRe_rest_45 {l : Launch} {G : Gx} {d : Nat} {bc bs : Nat} {Φ : OutV → Mm → Prop} (M : Mm) (a0 : Nat) (x1 : Int32) (u2 : Value) (u3 : Value) (u4 : Value) (s0 : Int32)
    (h : (s0 = 0 → ((m_sh M a0).1 = 11) ∧ CallVC l G d mRe_rest 54 [.ref a0, .int x1, u2, u3, u4] [] mRe_layAll [.ref a0] M bc bs Φ) ∧ (¬ s0 = 0 → Φ (.inl (some (.int 0))) M)) :
    Ev l G d mRe_rest 45 [.ref a0, .int x1, u2, u3, u4] [.int s0] M bc bs Φ := by
  refine Ev.if_eq 50 (by decide) dRe_rest_45 (fun c => ?_) (fun c => ?_)
  · replace h := h.1 c
    refine Ev.aload_n dRe_rest_50 rfl ?_
    have g1 := h.1
    replace h := h.2
    exact Ev.vcV (z := mRe_layAll) (ci := 11) [] [] rfl dRe_rest_51 oRe_layAll rfl w1777 iRe_layAll sRe_layAll (by decide) rfl g1 (Nat.le_of_ble_eq_true rfl) h
  · replace h := h.2 c
    refine Ev.iconst (v := 0) dRe_rest_48 (by decide) ?_
    exact Ev.iret dRe_rest_49 rfl rfl h
def mRe_allRows : MR := (⟨"BowingRowModel", "allRows", "()I"⟩, prog_14_method_78_code, 3, (Option.some .int))
theorem oRe_allRows : MOK mRe_allRows 0 := ⟨lwg_of 1784 (by decide +kernel) (by decide +kernel), lwg_of 103 (by decide +kernel) (by decide +kernel), ⟨by decide +kernel, by decide +kernel⟩, by decide +kernel, by decide⟩
theorem iRe_allRows : Cond.instanceMethod mRe_allRows.1 ∈ lwg := lwg_of 1783 (by decide +kernel) (by decide +kernel)
theorem sRe_allRows : Cond.selects mRe_allRows.1.cls mRe_allRows.1 mRe_allRows.1 ∈ lwg := lwg_of 86 (by decide +kernel) (by decide +kernel)
theorem w1781 : Cond.methodLink "BowingRowModel" 378 ⟨"BowingRowModel", "allRows", "()I"⟩ ∈ lwg := lwg_of 1781 (by decide +kernel) (by decide +kernel)
theorem bRe_rest_54 {l : Launch} {G : Gx} {d : Nat} {bc bs : Nat} {Φ : OutV → Mm → Prop} (M : Mm) (a0 : Nat) (x1 : Int32) (u2 : Value) (u3 : Value) (u4 : Value)
    (h : ((m_sh M a0).1 = 11) ∧ CallVC l G d mRe_rest 62 [.ref a0, .int x1, .int 0, .int ((-1)), u4] [] mRe_allRows [.ref a0] M bc bs Φ) :
    Ev l G d mRe_rest 54 [.ref a0, .int x1, u2, u3, u4] [] M bc bs Φ := by
  refine Ev.iconst (v := 0) dRe_rest_54 (by decide) ?_
  refine Ev.istore_n dRe_rest_55 (by decide) ?_
  show Ev l G d mRe_rest (_ + _) [.ref a0, .int x1, .int 0, u3, u4] [] M bc bs Φ
  refine Ev.iconst (v := (-1)) dRe_rest_56 (by decide) ?_
  refine Ev.istore_n dRe_rest_57 (by decide) ?_
  show Ev l G d mRe_rest (_ + _) [.ref a0, .int x1, .int 0, .int ((-1)), u4] [] M bc bs Φ
  refine Ev.aload_n dRe_rest_58 rfl ?_
  have g1 := h.1
  replace h := h.2
  exact Ev.vcV (z := mRe_allRows) (ci := 11) [] [] rfl dRe_rest_59 oRe_allRows rfl w1781 iRe_allRows sRe_allRows (by decide) rfl g1 (Nat.le_of_ble_eq_true rfl) h
theorem bRe_rest_62 {l : Launch} {G : Gx} {d : Nat} {bc bs : Nat} {Φ : OutV → Mm → Prop} (M : Mm) (a0 : Nat) (x1 : Int32) (x2 : Int32) (x3 : Int32) (u4 : Value) (s0 : Int32)
    (h : Ev l G d mRe_rest 66 [.ref a0, .int x1, .int x2, .int x3, .int (s0 - 1)] [] M bc bs Φ) :
    Ev l G d mRe_rest 62 [.ref a0, .int x1, .int x2, .int x3, u4] [.int s0] M bc bs Φ := by
  refine Ev.iconst (v := 1) dRe_rest_62 (by decide) ?_
  refine Ev.isub dRe_rest_63 ?_
  refine Ev.istore dRe_rest_64 (by decide) ?_
  show Ev l G d mRe_rest (_ + _) [.ref a0, .int x1, .int x2, .int x3, .int (s0 - 1)] [] M bc bs Φ
  exact h
def mRe_isRest : MR := (⟨"BowingRowModel", "isRest", "(I)Z"⟩, prog_14_method_81_code, 6, (Option.some .boolean))
theorem oRe_isRest : MOK mRe_isRest 1 := ⟨lwg_of 1791 (by decide +kernel) (by decide +kernel), lwg_of 103 (by decide +kernel) (by decide +kernel), ⟨by decide +kernel, by decide +kernel⟩, by decide +kernel, by decide⟩
theorem iRe_isRest : Cond.instanceMethod mRe_isRest.1 ∈ lwg := lwg_of 1790 (by decide +kernel) (by decide +kernel)
theorem sRe_isRest : Cond.selects mRe_isRest.1.cls mRe_isRest.1 mRe_isRest.1 ∈ lwg := lwg_of 87 (by decide +kernel) (by decide +kernel)
theorem w1788 : Cond.methodLink "BowingRowModel" 387 ⟨"BowingRowModel", "isRest", "(I)Z"⟩ ∈ lwg := lwg_of 1788 (by decide +kernel) (by decide +kernel)
theorem bRe_rest_66 {l : Launch} {G : Gx} {d : Nat} {bc bs : Nat} {Φ : OutV → Mm → Prop} (M : Mm) (a0 : Nat) (x1 : Int32) (x2 : Int32) (x3 : Int32) (x4 : Int32)
    (h : (x4 < 0 → (¬ x1 = 0 → Φ (.inl (some (.int x3))) M) ∧ (x1 = 0 → Φ (.inl (some (.int x2))) M)) ∧ (¬ x4 < 0 → ((m_sh M a0).1 = 11) ∧ CallVC l G d mRe_rest 77 [.ref a0, .int x1, .int x2, .int x3, .int x4] [] mRe_isRest [.ref a0, .int x4] M bc bs Φ)) :
    Ev l G d mRe_rest 66 [.ref a0, .int x1, .int x2, .int x3, .int x4] [] M bc bs Φ := by
  refine Ev.iload dRe_rest_66 rfl ?_
  refine Ev.if_lt 95 (by decide) dRe_rest_68 (fun c => ?_) (fun c => ?_)
  · replace h := h.1 c
    refine Ev.iload_n dRe_rest_95 rfl ?_
    refine Ev.if_ne 103 (by decide) dRe_rest_96 (fun c => ?_) (fun c => ?_)
    · replace h := h.1 c
      refine Ev.iload_n dRe_rest_103 rfl ?_
      exact Ev.iret dRe_rest_104 rfl rfl h
    · replace h := h.2 c
      refine Ev.iload_n dRe_rest_99 rfl ?_
      refine Ev.goto 104 dRe_rest_100 (by decide) ?_
      exact Ev.iret dRe_rest_104 rfl rfl h
  · replace h := h.2 c
    refine Ev.aload_n dRe_rest_71 rfl ?_
    refine Ev.iload dRe_rest_72 rfl ?_
    have g1 := h.1
    replace h := h.2
    exact Ev.vcV (z := mRe_isRest) (ci := 11) [.int x4] [] rfl dRe_rest_74 oRe_isRest rfl w1788 iRe_isRest sRe_isRest (by decide) rfl g1 (Nat.le_of_ble_eq_true rfl) h
theorem bRe_rest_77 {l : Launch} {G : Gx} {d : Nat} {bc bs : Nat} {Φ : OutV → Mm → Prop} (M : Mm) (a0 : Nat) (x1 : Int32) (x2 : Int32) (x3 : Int32) (x4 : Int32) (s0 : Int32)
    (h : (¬ s0 = 0 → Ev l G d mRe_rest 89 [.ref a0, .int x1, .int (x2 + 1), .int x4, .int x4] [] M bc bs Φ) ∧ (s0 = 0 → Ev l G d mRe_rest 89 [.ref a0, .int x1, .int x2, .int x3, .int x4] [] M bc bs Φ)) :
    Ev l G d mRe_rest 77 [.ref a0, .int x1, .int x2, .int x3, .int x4] [.int s0] M bc bs Φ := by
  refine Ev.if_ne 83 (by decide) dRe_rest_77 (fun c => ?_) (fun c => ?_)
  · replace h := h.1 c
    refine Ev.iload dRe_rest_83 rfl ?_
    refine Ev.istore_n dRe_rest_85 (by decide) ?_
    show Ev l G d mRe_rest (_ + _) [.ref a0, .int x1, .int x2, .int x4, .int x4] [] M bc bs Φ
    refine Ev.iinc (v := x2 + 1) dRe_rest_86 (by decide) rfl rfl ?_
    show Ev l G d mRe_rest (_ + _) [.ref a0, .int x1, .int (x2 + 1), .int x4, .int x4] [] M bc bs Φ
    exact h
  · replace h := h.2 c
    refine Ev.goto 89 dRe_rest_80 (by decide) ?_
    exact h
theorem bRe_rest_89 {l : Launch} {G : Gx} {d : Nat} {bc bs : Nat} {Φ : OutV → Mm → Prop} (M : Mm) (a0 : Nat) (x1 : Int32) (x2 : Int32) (x3 : Int32) (x4 : Int32)
    (h : Ev l G d mRe_rest 66 [.ref a0, .int x1, .int x2, .int x3, .int (x4 + (-1))] [] M bc bs Φ) :
    Ev l G d mRe_rest 89 [.ref a0, .int x1, .int x2, .int x3, .int x4] [] M bc bs Φ := by
  refine Ev.iinc (v := x4 + (-1)) dRe_rest_89 (by decide) rfl rfl ?_
  show Ev l G d mRe_rest (_ + _) [.ref a0, .int x1, .int x2, .int x3, .int (x4 + (-1))] [] M bc bs Φ
  refine Ev.goto 66 dRe_rest_92 (by decide) ?_
  exact h
theorem dRe_layAll_0 : decode mRe_layAll.2.1 0 = .ok (.iconst 0, 1) := by decide +kernel
theorem dRe_layAll_1 : decode mRe_layAll.2.1 1 = .ok (.istore_n 1, 1) := by decide +kernel
theorem dRe_layAll_2 : decode mRe_layAll.2.1 2 = .ok (.iload_n 1, 1) := by decide +kernel
theorem dRe_layAll_3 : decode mRe_layAll.2.1 3 = .ok (.aload_n 0, 1) := by decide +kernel
theorem dRe_layAll_4 : decode mRe_layAll.2.1 4 = .ok (.invokevirtual 378, 3) := by decide +kernel
theorem dRe_layAll_7 : decode mRe_layAll.2.1 7 = .ok (.if_icmp .ge 83, 3) := by decide +kernel
theorem dRe_layAll_10 : decode mRe_layAll.2.1 10 = .ok (.aload_n 0, 1) := by decide +kernel
theorem dRe_layAll_11 : decode mRe_layAll.2.1 11 = .ok (.invokevirtual 332, 3) := by decide +kernel
theorem dRe_layAll_14 : decode mRe_layAll.2.1 14 = .ok (.iconst 0, 1) := by decide +kernel
theorem dRe_layAll_15 : decode mRe_layAll.2.1 15 = .ok (.istore_n 2, 1) := by decide +kernel
theorem dRe_layAll_16 : decode mRe_layAll.2.1 16 = .ok (.iload_n 2, 1) := by decide +kernel
theorem dRe_layAll_17 : decode mRe_layAll.2.1 17 = .ok (.aload_n 0, 1) := by decide +kernel
theorem dRe_layAll_18 : decode mRe_layAll.2.1 18 = .ok (.getfield 206, 3) := by decide +kernel
theorem dRe_layAll_21 : decode mRe_layAll.2.1 21 = .ok (.if_icmp .ge 30, 3) := by decide +kernel
theorem dRe_layAll_24 : decode mRe_layAll.2.1 24 = .ok (.aload_n 0, 1) := by decide +kernel
theorem dRe_layAll_25 : decode mRe_layAll.2.1 25 = .ok (.getfield 64, 3) := by decide +kernel
theorem dRe_layAll_28 : decode mRe_layAll.2.1 28 = .ok (.iload_n 2, 1) := by decide +kernel
theorem dRe_layAll_29 : decode mRe_layAll.2.1 29 = .ok (.iload_n 1, 1) := by decide +kernel
theorem dRe_layAll_30 : decode mRe_layAll.2.1 30 = .ok (.aload_n 0, 1) := by decide +kernel
theorem dRe_layAll_31 : decode mRe_layAll.2.1 31 = .ok (.getfield 206, 3) := by decide +kernel
theorem dRe_layAll_34 : decode mRe_layAll.2.1 34 = .ok (.iconst 1, 1) := by decide +kernel
theorem dRe_layAll_35 : decode mRe_layAll.2.1 35 = .ok (.isub, 1) := by decide +kernel
theorem dRe_layAll_36 : decode mRe_layAll.2.1 36 = .ok (.iload_n 2, 1) := by decide +kernel
theorem dRe_layAll_37 : decode mRe_layAll.2.1 37 = .ok (.isub, 1) := by decide +kernel
theorem dRe_layAll_38 : decode mRe_layAll.2.1 38 = .ok (.invokestatic 381, 3) := by decide +kernel
theorem dRe_layAll_41 : decode mRe_layAll.2.1 41 = .ok (.idiv, 1) := by decide +kernel
theorem dRe_layAll_42 : decode mRe_layAll.2.1 42 = .ok (.iconst 5, 1) := by decide +kernel
theorem dRe_layAll_43 : decode mRe_layAll.2.1 43 = .ok (.irem, 1) := by decide +kernel
theorem dRe_layAll_44 : decode mRe_layAll.2.1 44 = .ok (.iastore, 1) := by decide +kernel
theorem dRe_layAll_45 : decode mRe_layAll.2.1 45 = .ok (.iinc 2 1, 3) := by decide +kernel
theorem dRe_layAll_48 : decode mRe_layAll.2.1 48 = .ok (.goto (-32), 3) := by decide +kernel
theorem dRe_layAll_51 : decode mRe_layAll.2.1 51 = .ok (.aload_n 0, 1) := by decide +kernel
theorem dRe_layAll_52 : decode mRe_layAll.2.1 52 = .ok (.invokevirtual 335, 3) := by decide +kernel
theorem dRe_layAll_55 : decode mRe_layAll.2.1 55 = .ok (.iconst 0, 1) := by decide +kernel
theorem dRe_layAll_56 : decode mRe_layAll.2.1 56 = .ok (.istore_n 2, 1) := by decide +kernel
theorem dRe_layAll_57 : decode mRe_layAll.2.1 57 = .ok (.iload_n 2, 1) := by decide +kernel
theorem dRe_layAll_58 : decode mRe_layAll.2.1 58 = .ok (.aload_n 0, 1) := by decide +kernel
theorem dRe_layAll_59 : decode mRe_layAll.2.1 59 = .ok (.getfield 206, 3) := by decide +kernel
theorem dRe_layAll_62 : decode mRe_layAll.2.1 62 = .ok (.if_icmp .ge 22, 3) := by decide +kernel
theorem dRe_layAll_65 : decode mRe_layAll.2.1 65 = .ok (.aload_n 0, 1) := by decide +kernel
theorem dRe_layAll_66 : decode mRe_layAll.2.1 66 = .ok (.getfield 112, 3) := by decide +kernel
theorem dRe_layAll_69 : decode mRe_layAll.2.1 69 = .ok (.iload_n 1, 1) := by decide +kernel
theorem dRe_layAll_70 : decode mRe_layAll.2.1 70 = .ok (.aaload, 1) := by decide +kernel
theorem dRe_layAll_71 : decode mRe_layAll.2.1 71 = .ok (.iload_n 2, 1) := by decide +kernel
theorem dRe_layAll_72 : decode mRe_layAll.2.1 72 = .ok (.aload_n 0, 1) := by decide +kernel
theorem dRe_layAll_73 : decode mRe_layAll.2.1 73 = .ok (.iload_n 2, 1) := by decide +kernel
theorem dRe_layAll_74 : decode mRe_layAll.2.1 74 = .ok (.invokevirtual 375, 3) := by decide +kernel
theorem dRe_layAll_77 : decode mRe_layAll.2.1 77 = .ok (.iastore, 1) := by decide +kernel
theorem dRe_layAll_78 : decode mRe_layAll.2.1 78 = .ok (.iinc 2 1, 3) := by decide +kernel
theorem dRe_layAll_81 : decode mRe_layAll.2.1 81 = .ok (.goto (-24), 3) := by decide +kernel
theorem dRe_layAll_84 : decode mRe_layAll.2.1 84 = .ok (.iinc 1 1, 3) := by decide +kernel
theorem dRe_layAll_87 : decode mRe_layAll.2.1 87 = .ok (.goto (-85), 3) := by decide +kernel
theorem dRe_layAll_90 : decode mRe_layAll.2.1 90 = .ok (.return_, 1) := by decide +kernel
theorem bRe_layAll_0 {l : Launch} {G : Gx} {d : Nat} {bc bs : Nat} {Φ : OutV → Mm → Prop} (M : Mm) (a0 : Nat)
    (h : Ev l G d mRe_layAll 2 [.ref a0, .int 0, .null] [] M bc bs Φ) :
    Ev l G d mRe_layAll 0 [.ref a0, .null, .null] [] M bc bs Φ := by
  refine Ev.iconst (v := 0) dRe_layAll_0 (by decide) ?_
  refine Ev.istore_n dRe_layAll_1 (by decide) ?_
  show Ev l G d mRe_layAll (_ + _) [.ref a0, .int 0, .null] [] M bc bs Φ
  exact h
theorem bRe_layAll_2 {l : Launch} {G : Gx} {d : Nat} {bc bs : Nat} {Φ : OutV → Mm → Prop} (M : Mm) (a0 : Nat) (x1 : Int32) (u2 : Value)
    (h : ((m_sh M a0).1 = 11) ∧ CallVC l G d mRe_layAll 7 [.ref a0, .int x1, u2] [.int x1] mRe_allRows [.ref a0] M bc bs Φ) :
    Ev l G d mRe_layAll 2 [.ref a0, .int x1, u2] [] M bc bs Φ := by
  refine Ev.iload_n dRe_layAll_2 rfl ?_
  refine Ev.aload_n dRe_layAll_3 rfl ?_
  have g1 := h.1
  replace h := h.2
  exact Ev.vcV (z := mRe_allRows) (ci := 11) [] [.int x1] rfl dRe_layAll_4 oRe_allRows rfl w1781 iRe_allRows sRe_allRows (by decide) rfl g1 (Nat.le_of_ble_eq_true rfl) h
theorem bRe_layAll_7 {l : Launch} {G : Gx} {d : Nat} {bc bs : Nat} {Φ : OutV → Mm → Prop} (M : Mm) (a0 : Nat) (x1 : Int32) (u2 : Value) (s0 : Int32) (s1 : Int32)
    (h : (s1 ≤ s0 → Φ (.inl none) M) ∧ (¬ s1 ≤ s0 → ((m_sh M a0).1 = 11) ∧ CallVC l G d mRe_layAll 14 [.ref a0, .int x1, u2] [] mRe_layWays [.ref a0] M bc bs Φ)) :
    Ev l G d mRe_layAll 7 [.ref a0, .int x1, u2] [.int s1, .int s0] M bc bs Φ := by
  refine Ev.icmp_ge 90 (by decide) dRe_layAll_7 (fun c => ?_) (fun c => ?_)
  · replace h := h.1 c
    exact Ev.vret dRe_layAll_90 rfl h
  · replace h := h.2 c
    refine Ev.aload_n dRe_layAll_10 rfl ?_
    have g1 := h.1
    replace h := h.2
    exact Ev.vcV (z := mRe_layWays) (ci := 11) [] [] rfl dRe_layAll_11 oRe_layWays rfl w1665 iRe_layWays sRe_layWays (by decide) rfl g1 (Nat.le_of_ble_eq_true rfl) h
theorem bRe_layAll_14 {l : Launch} {G : Gx} {d : Nat} {bc bs : Nat} {Φ : OutV → Mm → Prop} (M : Mm) (a0 : Nat) (x1 : Int32) (u2 : Value)
    (h : Ev l G d mRe_layAll 16 [.ref a0, .int x1, .int 0] [] M bc bs Φ) :
    Ev l G d mRe_layAll 14 [.ref a0, .int x1, u2] [] M bc bs Φ := by
  refine Ev.iconst (v := 0) dRe_layAll_14 (by decide) ?_
  refine Ev.istore_n dRe_layAll_15 (by decide) ?_
  show Ev l G d mRe_layAll (_ + _) [.ref a0, .int x1, .int 0] [] M bc bs Φ
  exact h
def mRe_power : MR := (⟨"BowingRowModel", "power", "(I)I"⟩, prog_14_method_79_code, 3, (Option.some .int))
theorem oRe_power : MOK mRe_power 1 := ⟨lwg_of 1787 (by decide +kernel) (by decide +kernel), lwg_of 103 (by decide +kernel) (by decide +kernel), ⟨by decide +kernel, by decide +kernel⟩, by decide +kernel, by decide⟩
theorem iRe_power : Cond.static mRe_power.1 ∈ lwg := lwg_of 1786 (by decide +kernel) (by decide +kernel)
theorem w1785 : Cond.methodLink "BowingRowModel" 381 ⟨"BowingRowModel", "power", "(I)I"⟩ ∈ lwg := lwg_of 1785 (by decide +kernel) (by decide +kernel)
theorem bRe_layAll_16 {l : Launch} {G : Gx} {d : Nat} {bc bs : Nat} {Φ : OutV → Mm → Prop} (M : Mm) (a0 : Nat) (x1 : Int32) (x2 : Int32)
    (h : ((m_sh M a0).1 = 11) ∧ ((m_i M a0 11) ≤ x2 → CallVC l G d mRe_layAll 55 [.ref a0, .int x1, .int x2] [] mRe_day0 [.ref a0] M bc bs Φ) ∧ (¬ (m_i M a0 11) ≤ x2 → CallVC l G d mRe_layAll 41 [.ref a0, .int x1, .int x2] [.int x1, .int x2, .ref (m_r M a0 32)] mRe_power [.int (((m_i M a0 11) - 1) - x2)] M bc bs Φ)) :
    Ev l G d mRe_layAll 16 [.ref a0, .int x1, .int x2] [] M bc bs Φ := by
  refine Ev.iload_n dRe_layAll_16 rfl ?_
  refine Ev.aload_n dRe_layAll_17 rfl ?_
  have g1 := h.1
  replace h := h.2
  refine Ev.getI dRe_layAll_18 (Or.inl fRe_206) rfl g1 ?_
  refine Ev.icmp_ge 51 (by decide) dRe_layAll_21 (fun c => ?_) (fun c => ?_)
  · replace h := h.1 c
    refine Ev.aload_n dRe_layAll_51 rfl ?_
    exact Ev.vcV (z := mRe_day0) (ci := 11) [] [] rfl dRe_layAll_52 oRe_day0 rfl w1669 iRe_day0 sRe_day0 (by decide) rfl g1 (Nat.le_of_ble_eq_true rfl) h
  · replace h := h.2 c
    refine Ev.aload_n dRe_layAll_24 rfl ?_
    refine Ev.getR dRe_layAll_25 (Or.inl fRe_64) rfl g1 ?_
    refine Ev.iload_n dRe_layAll_28 rfl ?_
    refine Ev.iload_n dRe_layAll_29 rfl ?_
    refine Ev.aload_n dRe_layAll_30 rfl ?_
    refine Ev.getI dRe_layAll_31 (Or.inl fRe_206) rfl g1 ?_
    refine Ev.iconst (v := 1) dRe_layAll_34 (by decide) ?_
    refine Ev.isub dRe_layAll_35 ?_
    refine Ev.iload_n dRe_layAll_36 rfl ?_
    refine Ev.isub dRe_layAll_37 ?_
    exact Ev.vcS (z := mRe_power) [.int (((m_i M a0 11) - 1) - x2)] [.int x1, .int x2, .ref (m_r M a0 32)] rfl dRe_layAll_38 oRe_power rfl w1785 iRe_power (Nat.le_of_ble_eq_true rfl) h
theorem bRe_layAll_41 {l : Launch} {G : Gx} {d : Nat} {bc bs : Nat} {Φ : OutV → Mm → Prop} (M : Mm) (a0 : Nat) (x1 : Int32) (x2 : Int32) (r0 : Nat) (s1 : Int32) (s2 : Int32) (s3 : Int32)
    (h : (¬ s3 = 0) ∧ ((m_sh M r0).1 = 20) ∧ (vp_in s1 (m_sh M r0).2) ∧ Ev l G d mRe_layAll 16 [.ref a0, .int x1, .int (x2 + 1)] [] (m_si M r0 s1.toNatClampNeg ((s2 / s3) - (s2 / s3) / 5 * 5)) bc bs Φ) :
    Ev l G d mRe_layAll 41 [.ref a0, .int x1, .int x2] [.int s3, .int s2, .int s1, .ref r0] M bc bs Φ := by
  have g1 := h.1
  replace h := h.2
  refine Ev.idiv dRe_layAll_41 g1 ?_
  refine Ev.iconst (v := 5) dRe_layAll_42 (by decide) ?_
  refine Ev.irem dRe_layAll_43 (by decide) ?_
  have g2 := h.1
  replace h := h.2
  have g3 := h.1
  replace h := h.2
  refine Ev.iast2 dRe_layAll_44 g2 g3 ?_
  refine Ev.iinc (v := x2 + 1) dRe_layAll_45 (by decide) rfl rfl ?_
  show Ev l G d mRe_layAll (_ + _) [.ref a0, .int x1, .int (x2 + 1)] [] (m_si M r0 s1.toNatClampNeg ((s2 / s3) - (s2 / s3) / 5 * 5)) bc bs Φ
  refine Ev.goto 16 dRe_layAll_48 (by decide) ?_
  exact h
theorem bRe_layAll_55 {l : Launch} {G : Gx} {d : Nat} {bc bs : Nat} {Φ : OutV → Mm → Prop} (M : Mm) (a0 : Nat) (x1 : Int32) (x2 : Int32)
    (h : Ev l G d mRe_layAll 57 [.ref a0, .int x1, .int 0] [] M bc bs Φ) :
    Ev l G d mRe_layAll 55 [.ref a0, .int x1, .int x2] [] M bc bs Φ := by
  refine Ev.iconst (v := 0) dRe_layAll_55 (by decide) ?_
  refine Ev.istore_n dRe_layAll_56 (by decide) ?_
  show Ev l G d mRe_layAll (_ + _) [.ref a0, .int x1, .int 0] [] M bc bs Φ
  exact h
theorem bRe_layAll_57 {l : Launch} {G : Gx} {d : Nat} {bc bs : Nat} {Φ : OutV → Mm → Prop} (M : Mm) (a0 : Nat) (x1 : Int32) (x2 : Int32)
    (h : ((m_sh M a0).1 = 11) ∧ ((m_i M a0 11) ≤ x2 → Ev l G d mRe_layAll 2 [.ref a0, .int (x1 + 1), .int x2] [] M bc bs Φ) ∧ (¬ (m_i M a0 11) ≤ x2 → ((m_sh M (m_r M a0 59)).1 = 33) ∧ (vp_in x1 (m_sh M (m_r M a0 59)).2) ∧ CallVC l G d mRe_layAll 77 [.ref a0, .int x1, .int x2] [.int x2, .ref (m_r M (m_r M a0 59) x1.toNatClampNeg)] mRe_endOf [.ref a0, .int x2] M bc bs Φ)) :
    Ev l G d mRe_layAll 57 [.ref a0, .int x1, .int x2] [] M bc bs Φ := by
  refine Ev.iload_n dRe_layAll_57 rfl ?_
  refine Ev.aload_n dRe_layAll_58 rfl ?_
  have g1 := h.1
  replace h := h.2
  refine Ev.getI dRe_layAll_59 (Or.inl fRe_206) rfl g1 ?_
  refine Ev.icmp_ge 84 (by decide) dRe_layAll_62 (fun c => ?_) (fun c => ?_)
  · replace h := h.1 c
    refine Ev.iinc (v := x1 + 1) dRe_layAll_84 (by decide) rfl rfl ?_
    show Ev l G d mRe_layAll (_ + _) [.ref a0, .int (x1 + 1), .int x2] [] M bc bs Φ
    refine Ev.goto 2 dRe_layAll_87 (by decide) ?_
    exact h
  · replace h := h.2 c
    refine Ev.aload_n dRe_layAll_65 rfl ?_
    refine Ev.getR dRe_layAll_66 (Or.inl fRe_112) rfl g1 ?_
    refine Ev.iload_n dRe_layAll_69 rfl ?_
    have g2 := h.1
    replace h := h.2
    have g3 := h.1
    replace h := h.2
    refine Ev.aald2 33 (by decide) dRe_layAll_70 g2 g3 ?_
    refine Ev.iload_n dRe_layAll_71 rfl ?_
    refine Ev.aload_n dRe_layAll_72 rfl ?_
    refine Ev.iload_n dRe_layAll_73 rfl ?_
    exact Ev.vcV (z := mRe_endOf) (ci := 11) [.int x2] [.int x2, .ref (m_r M (m_r M a0 59) x1.toNatClampNeg)] rfl dRe_layAll_74 oRe_endOf rfl w1769 iRe_endOf sRe_endOf (by decide) rfl g1 (Nat.le_of_ble_eq_true rfl) h
theorem bRe_layAll_77 {l : Launch} {G : Gx} {d : Nat} {bc bs : Nat} {Φ : OutV → Mm → Prop} (M : Mm) (a0 : Nat) (x1 : Int32) (x2 : Int32) (r0 : Nat) (s1 : Int32) (s2 : Int32)
    (h : ((m_sh M r0).1 = 20) ∧ (vp_in s1 (m_sh M r0).2) ∧ Ev l G d mRe_layAll 57 [.ref a0, .int x1, .int (x2 + 1)] [] (m_si M r0 s1.toNatClampNeg s2) bc bs Φ) :
    Ev l G d mRe_layAll 77 [.ref a0, .int x1, .int x2] [.int s2, .int s1, .ref r0] M bc bs Φ := by
  have g1 := h.1
  replace h := h.2
  have g2 := h.1
  replace h := h.2
  refine Ev.iast2 dRe_layAll_77 g1 g2 ?_
  refine Ev.iinc (v := x2 + 1) dRe_layAll_78 (by decide) rfl rfl ?_
  show Ev l G d mRe_layAll (_ + _) [.ref a0, .int x1, .int (x2 + 1)] [] (m_si M r0 s1.toNatClampNeg s2) bc bs Φ
  refine Ev.goto 57 dRe_layAll_81 (by decide) ?_
  exact h
theorem dRe_allRows_0 : decode mRe_allRows.2.1 0 = .ok (.iconst 1, 1) := by decide +kernel
theorem dRe_allRows_1 : decode mRe_allRows.2.1 1 = .ok (.istore_n 1, 1) := by decide +kernel
theorem dRe_allRows_2 : decode mRe_allRows.2.1 2 = .ok (.iconst 0, 1) := by decide +kernel
theorem dRe_allRows_3 : decode mRe_allRows.2.1 3 = .ok (.istore_n 2, 1) := by decide +kernel
theorem dRe_allRows_4 : decode mRe_allRows.2.1 4 = .ok (.iload_n 2, 1) := by decide +kernel
theorem dRe_allRows_5 : decode mRe_allRows.2.1 5 = .ok (.aload_n 0, 1) := by decide +kernel
theorem dRe_allRows_6 : decode mRe_allRows.2.1 6 = .ok (.getfield 206, 3) := by decide +kernel
theorem dRe_allRows_9 : decode mRe_allRows.2.1 9 = .ok (.if_icmp .ge 13, 3) := by decide +kernel
theorem dRe_allRows_12 : decode mRe_allRows.2.1 12 = .ok (.iload_n 1, 1) := by decide +kernel
theorem dRe_allRows_13 : decode mRe_allRows.2.1 13 = .ok (.iconst 5, 1) := by decide +kernel
theorem dRe_allRows_14 : decode mRe_allRows.2.1 14 = .ok (.imul, 1) := by decide +kernel
theorem dRe_allRows_15 : decode mRe_allRows.2.1 15 = .ok (.istore_n 1, 1) := by decide +kernel
theorem dRe_allRows_16 : decode mRe_allRows.2.1 16 = .ok (.iinc 2 1, 3) := by decide +kernel
theorem dRe_allRows_19 : decode mRe_allRows.2.1 19 = .ok (.goto (-15), 3) := by decide +kernel
theorem dRe_allRows_22 : decode mRe_allRows.2.1 22 = .ok (.iload_n 1, 1) := by decide +kernel
theorem dRe_allRows_23 : decode mRe_allRows.2.1 23 = .ok (.ireturn, 1) := by decide +kernel
theorem bRe_allRows_0 {l : Launch} {G : Gx} {d : Nat} {bc bs : Nat} {Φ : OutV → Mm → Prop} (M : Mm) (a0 : Nat)
    (h : Ev l G d mRe_allRows 4 [.ref a0, .int 1, .int 0] [] M bc bs Φ) :
    Ev l G d mRe_allRows 0 [.ref a0, .null, .null] [] M bc bs Φ := by
  refine Ev.iconst (v := 1) dRe_allRows_0 (by decide) ?_
  refine Ev.istore_n dRe_allRows_1 (by decide) ?_
  show Ev l G d mRe_allRows (_ + _) [.ref a0, .int 1, .null] [] M bc bs Φ
  refine Ev.iconst (v := 0) dRe_allRows_2 (by decide) ?_
  refine Ev.istore_n dRe_allRows_3 (by decide) ?_
  show Ev l G d mRe_allRows (_ + _) [.ref a0, .int 1, .int 0] [] M bc bs Φ
  exact h
theorem bRe_allRows_4 {l : Launch} {G : Gx} {d : Nat} {bc bs : Nat} {Φ : OutV → Mm → Prop} (M : Mm) (a0 : Nat) (x1 : Int32) (x2 : Int32)
    (h : ((m_sh M a0).1 = 11) ∧ ((m_i M a0 11) ≤ x2 → Φ (.inl (some (.int x1))) M) ∧ (¬ (m_i M a0 11) ≤ x2 → Ev l G d mRe_allRows 4 [.ref a0, .int (x1 * 5), .int (x2 + 1)] [] M bc bs Φ)) :
    Ev l G d mRe_allRows 4 [.ref a0, .int x1, .int x2] [] M bc bs Φ := by
  refine Ev.iload_n dRe_allRows_4 rfl ?_
  refine Ev.aload_n dRe_allRows_5 rfl ?_
  have g1 := h.1
  replace h := h.2
  refine Ev.getI dRe_allRows_6 (Or.inl fRe_206) rfl g1 ?_
  refine Ev.icmp_ge 22 (by decide) dRe_allRows_9 (fun c => ?_) (fun c => ?_)
  · replace h := h.1 c
    refine Ev.iload_n dRe_allRows_22 rfl ?_
    exact Ev.iret dRe_allRows_23 rfl rfl h
  · replace h := h.2 c
    refine Ev.iload_n dRe_allRows_12 rfl ?_
    refine Ev.iconst (v := 5) dRe_allRows_13 (by decide) ?_
    refine Ev.imul dRe_allRows_14 ?_
    refine Ev.istore_n dRe_allRows_15 (by decide) ?_
    show Ev l G d mRe_allRows (_ + _) [.ref a0, .int (x1 * 5), .int x2] [] M bc bs Φ
    refine Ev.iinc (v := x2 + 1) dRe_allRows_16 (by decide) rfl rfl ?_
    show Ev l G d mRe_allRows (_ + _) [.ref a0, .int (x1 * 5), .int (x2 + 1)] [] M bc bs Φ
    refine Ev.goto 4 dRe_allRows_19 (by decide) ?_
    exact h
theorem dRe_power_0 : decode mRe_power.2.1 0 = .ok (.iconst 1, 1) := by decide +kernel
theorem dRe_power_1 : decode mRe_power.2.1 1 = .ok (.istore_n 1, 1) := by decide +kernel
theorem dRe_power_2 : decode mRe_power.2.1 2 = .ok (.iconst 0, 1) := by decide +kernel
theorem dRe_power_3 : decode mRe_power.2.1 3 = .ok (.istore_n 2, 1) := by decide +kernel
theorem dRe_power_4 : decode mRe_power.2.1 4 = .ok (.iload_n 2, 1) := by decide +kernel
theorem dRe_power_5 : decode mRe_power.2.1 5 = .ok (.iload_n 0, 1) := by decide +kernel
theorem dRe_power_6 : decode mRe_power.2.1 6 = .ok (.if_icmp .ge 13, 3) := by decide +kernel
theorem dRe_power_9 : decode mRe_power.2.1 9 = .ok (.iload_n 1, 1) := by decide +kernel
theorem dRe_power_10 : decode mRe_power.2.1 10 = .ok (.iconst 5, 1) := by decide +kernel
theorem dRe_power_11 : decode mRe_power.2.1 11 = .ok (.imul, 1) := by decide +kernel
theorem dRe_power_12 : decode mRe_power.2.1 12 = .ok (.istore_n 1, 1) := by decide +kernel
theorem dRe_power_13 : decode mRe_power.2.1 13 = .ok (.iinc 2 1, 3) := by decide +kernel
theorem dRe_power_16 : decode mRe_power.2.1 16 = .ok (.goto (-12), 3) := by decide +kernel
theorem dRe_power_19 : decode mRe_power.2.1 19 = .ok (.iload_n 1, 1) := by decide +kernel
theorem dRe_power_20 : decode mRe_power.2.1 20 = .ok (.ireturn, 1) := by decide +kernel
theorem bRe_power_0 {l : Launch} {G : Gx} {d : Nat} {bc bs : Nat} {Φ : OutV → Mm → Prop} (M : Mm) (x0 : Int32)
    (h : Ev l G d mRe_power 4 [.int x0, .int 1, .int 0] [] M bc bs Φ) :
    Ev l G d mRe_power 0 [.int x0, .null, .null] [] M bc bs Φ := by
  refine Ev.iconst (v := 1) dRe_power_0 (by decide) ?_
  refine Ev.istore_n dRe_power_1 (by decide) ?_
  show Ev l G d mRe_power (_ + _) [.int x0, .int 1, .null] [] M bc bs Φ
  refine Ev.iconst (v := 0) dRe_power_2 (by decide) ?_
  refine Ev.istore_n dRe_power_3 (by decide) ?_
  show Ev l G d mRe_power (_ + _) [.int x0, .int 1, .int 0] [] M bc bs Φ
  exact h
theorem bRe_power_4 {l : Launch} {G : Gx} {d : Nat} {bc bs : Nat} {Φ : OutV → Mm → Prop} (M : Mm) (x0 : Int32) (x1 : Int32) (x2 : Int32)
    (h : (x0 ≤ x2 → Φ (.inl (some (.int x1))) M) ∧ (¬ x0 ≤ x2 → Ev l G d mRe_power 4 [.int x0, .int (x1 * 5), .int (x2 + 1)] [] M bc bs Φ)) :
    Ev l G d mRe_power 4 [.int x0, .int x1, .int x2] [] M bc bs Φ := by
  refine Ev.iload_n dRe_power_4 rfl ?_
  refine Ev.iload_n dRe_power_5 rfl ?_
  refine Ev.icmp_ge 19 (by decide) dRe_power_6 (fun c => ?_) (fun c => ?_)
  · replace h := h.1 c
    refine Ev.iload_n dRe_power_19 rfl ?_
    exact Ev.iret dRe_power_20 rfl rfl h
  · replace h := h.2 c
    refine Ev.iload_n dRe_power_9 rfl ?_
    refine Ev.iconst (v := 5) dRe_power_10 (by decide) ?_
    refine Ev.imul dRe_power_11 ?_
    refine Ev.istore_n dRe_power_12 (by decide) ?_
    show Ev l G d mRe_power (_ + _) [.int x0, .int (x1 * 5), .int x2] [] M bc bs Φ
    refine Ev.iinc (v := x2 + 1) dRe_power_13 (by decide) rfl rfl ?_
    show Ev l G d mRe_power (_ + _) [.int x0, .int (x1 * 5), .int (x2 + 1)] [] M bc bs Φ
    refine Ev.goto 4 dRe_power_16 (by decide) ?_
    exact h
theorem dRe_isRest_0 : decode mRe_isRest.2.1 0 = .ok (.iconst 0, 1) := by decide +kernel
theorem dRe_isRest_1 : decode mRe_isRest.2.1 1 = .ok (.istore_n 2, 1) := by decide +kernel
theorem dRe_isRest_2 : decode mRe_isRest.2.1 2 = .ok (.iload_n 2, 1) := by decide +kernel
theorem dRe_isRest_3 : decode mRe_isRest.2.1 3 = .ok (.aload_n 0, 1) := by decide +kernel
theorem dRe_isRest_4 : decode mRe_isRest.2.1 4 = .ok (.getfield 206, 3) := by decide +kernel
theorem dRe_isRest_7 : decode mRe_isRest.2.1 7 = .ok (.if_icmp .ge 72, 3) := by decide +kernel
theorem dRe_isRest_10 : decode mRe_isRest.2.1 10 = .ok (.aload_n 0, 1) := by decide +kernel
theorem dRe_isRest_11 : decode mRe_isRest.2.1 11 = .ok (.getfield 206, 3) := by decide +kernel
theorem dRe_isRest_14 : decode mRe_isRest.2.1 14 = .ok (.iconst 1, 1) := by decide +kernel
theorem dRe_isRest_15 : decode mRe_isRest.2.1 15 = .ok (.isub, 1) := by decide +kernel
theorem dRe_isRest_16 : decode mRe_isRest.2.1 16 = .ok (.iload_n 2, 1) := by decide +kernel
theorem dRe_isRest_17 : decode mRe_isRest.2.1 17 = .ok (.isub, 1) := by decide +kernel
theorem dRe_isRest_18 : decode mRe_isRest.2.1 18 = .ok (.invokestatic 381, 3) := by decide +kernel
theorem dRe_isRest_21 : decode mRe_isRest.2.1 21 = .ok (.istore_n 3, 1) := by decide +kernel
theorem dRe_isRest_22 : decode mRe_isRest.2.1 22 = .ok (.iload_n 1, 1) := by decide +kernel
theorem dRe_isRest_23 : decode mRe_isRest.2.1 23 = .ok (.iload_n 3, 1) := by decide +kernel
theorem dRe_isRest_24 : decode mRe_isRest.2.1 24 = .ok (.idiv, 1) := by decide +kernel
theorem dRe_isRest_25 : decode mRe_isRest.2.1 25 = .ok (.iconst 5, 1) := by decide +kernel
theorem dRe_isRest_26 : decode mRe_isRest.2.1 26 = .ok (.irem, 1) := by decide +kernel
theorem dRe_isRest_27 : decode mRe_isRest.2.1 27 = .ok (.istore 4, 2) := by decide +kernel
theorem dRe_isRest_29 : decode mRe_isRest.2.1 29 = .ok (.iconst 0, 1) := by decide +kernel
theorem dRe_isRest_30 : decode mRe_isRest.2.1 30 = .ok (.istore 5, 2) := by decide +kernel
theorem dRe_isRest_32 : decode mRe_isRest.2.1 32 = .ok (.iload 5, 2) := by decide +kernel
theorem dRe_isRest_34 : decode mRe_isRest.2.1 34 = .ok (.iconst 5, 1) := by decide +kernel
theorem dRe_isRest_35 : decode mRe_isRest.2.1 35 = .ok (.if_icmp .ge 38, 3) := by decide +kernel
theorem dRe_isRest_38 : decode mRe_isRest.2.1 38 = .ok (.aload_n 0, 1) := by decide +kernel
theorem dRe_isRest_39 : decode mRe_isRest.2.1 39 = .ok (.getfield 112, 3) := by decide +kernel
theorem dRe_isRest_42 : decode mRe_isRest.2.1 42 = .ok (.iload_n 1, 1) := by decide +kernel
theorem dRe_isRest_43 : decode mRe_isRest.2.1 43 = .ok (.iload 5, 2) := by decide +kernel
theorem dRe_isRest_45 : decode mRe_isRest.2.1 45 = .ok (.iload 4, 2) := by decide +kernel
theorem dRe_isRest_47 : decode mRe_isRest.2.1 47 = .ok (.isub, 1) := by decide +kernel
theorem dRe_isRest_48 : decode mRe_isRest.2.1 48 = .ok (.iload_n 3, 1) := by decide +kernel
theorem dRe_isRest_49 : decode mRe_isRest.2.1 49 = .ok (.imul, 1) := by decide +kernel
theorem dRe_isRest_50 : decode mRe_isRest.2.1 50 = .ok (.iadd, 1) := by decide +kernel
theorem dRe_isRest_51 : decode mRe_isRest.2.1 51 = .ok (.aaload, 1) := by decide +kernel
theorem dRe_isRest_52 : decode mRe_isRest.2.1 52 = .ok (.iload_n 2, 1) := by decide +kernel
theorem dRe_isRest_53 : decode mRe_isRest.2.1 53 = .ok (.iaload, 1) := by decide +kernel
theorem dRe_isRest_54 : decode mRe_isRest.2.1 54 = .ok (.aload_n 0, 1) := by decide +kernel
theorem dRe_isRest_55 : decode mRe_isRest.2.1 55 = .ok (.getfield 112, 3) := by decide +kernel
theorem dRe_isRest_58 : decode mRe_isRest.2.1 58 = .ok (.iload_n 1, 1) := by decide +kernel
theorem dRe_isRest_59 : decode mRe_isRest.2.1 59 = .ok (.aaload, 1) := by decide +kernel
theorem dRe_isRest_60 : decode mRe_isRest.2.1 60 = .ok (.iload_n 2, 1) := by decide +kernel
theorem dRe_isRest_61 : decode mRe_isRest.2.1 61 = .ok (.iaload, 1) := by decide +kernel
theorem dRe_isRest_62 : decode mRe_isRest.2.1 62 = .ok (.if_icmp .ge 5, 3) := by decide +kernel
theorem dRe_isRest_65 : decode mRe_isRest.2.1 65 = .ok (.iconst 0, 1) := by decide +kernel
theorem dRe_isRest_66 : decode mRe_isRest.2.1 66 = .ok (.ireturn, 1) := by decide +kernel
theorem dRe_isRest_67 : decode mRe_isRest.2.1 67 = .ok (.iinc 5 1, 3) := by decide +kernel
theorem dRe_isRest_70 : decode mRe_isRest.2.1 70 = .ok (.goto (-38), 3) := by decide +kernel
theorem dRe_isRest_73 : decode mRe_isRest.2.1 73 = .ok (.iinc 2 1, 3) := by decide +kernel
theorem dRe_isRest_76 : decode mRe_isRest.2.1 76 = .ok (.goto (-74), 3) := by decide +kernel
theorem dRe_isRest_79 : decode mRe_isRest.2.1 79 = .ok (.iconst 1, 1) := by decide +kernel
theorem dRe_isRest_80 : decode mRe_isRest.2.1 80 = .ok (.ireturn, 1) := by decide +kernel
theorem bRe_isRest_0 {l : Launch} {G : Gx} {d : Nat} {bc bs : Nat} {Φ : OutV → Mm → Prop} (M : Mm) (a0 : Nat) (x1 : Int32)
    (h : Ev l G d mRe_isRest 2 [.ref a0, .int x1, .int 0, .null, .null, .null] [] M bc bs Φ) :
    Ev l G d mRe_isRest 0 [.ref a0, .int x1, .null, .null, .null, .null] [] M bc bs Φ := by
  refine Ev.iconst (v := 0) dRe_isRest_0 (by decide) ?_
  refine Ev.istore_n dRe_isRest_1 (by decide) ?_
  show Ev l G d mRe_isRest (_ + _) [.ref a0, .int x1, .int 0, .null, .null, .null] [] M bc bs Φ
  exact h
theorem bRe_isRest_2 {l : Launch} {G : Gx} {d : Nat} {bc bs : Nat} {Φ : OutV → Mm → Prop} (M : Mm) (a0 : Nat) (x1 : Int32) (x2 : Int32) (u3 : Value) (u4 : Value) (u5 : Value)
    (h : ((m_sh M a0).1 = 11) ∧ ((m_i M a0 11) ≤ x2 → Φ (.inl (some (.int 1))) M) ∧ (¬ (m_i M a0 11) ≤ x2 → CallVC l G d mRe_isRest 21 [.ref a0, .int x1, .int x2, u3, u4, u5] [] mRe_power [.int (((m_i M a0 11) - 1) - x2)] M bc bs Φ)) :
    Ev l G d mRe_isRest 2 [.ref a0, .int x1, .int x2, u3, u4, u5] [] M bc bs Φ := by
  refine Ev.iload_n dRe_isRest_2 rfl ?_
  refine Ev.aload_n dRe_isRest_3 rfl ?_
  have g1 := h.1
  replace h := h.2
  refine Ev.getI dRe_isRest_4 (Or.inl fRe_206) rfl g1 ?_
  refine Ev.icmp_ge 79 (by decide) dRe_isRest_7 (fun c => ?_) (fun c => ?_)
  · replace h := h.1 c
    refine Ev.iconst (v := 1) dRe_isRest_79 (by decide) ?_
    exact Ev.iret dRe_isRest_80 rfl rfl h
  · replace h := h.2 c
    refine Ev.aload_n dRe_isRest_10 rfl ?_
    refine Ev.getI dRe_isRest_11 (Or.inl fRe_206) rfl g1 ?_
    refine Ev.iconst (v := 1) dRe_isRest_14 (by decide) ?_
    refine Ev.isub dRe_isRest_15 ?_
    refine Ev.iload_n dRe_isRest_16 rfl ?_
    refine Ev.isub dRe_isRest_17 ?_
    exact Ev.vcS (z := mRe_power) [.int (((m_i M a0 11) - 1) - x2)] [] rfl dRe_isRest_18 oRe_power rfl w1785 iRe_power (Nat.le_of_ble_eq_true rfl) h
theorem bRe_isRest_21 {l : Launch} {G : Gx} {d : Nat} {bc bs : Nat} {Φ : OutV → Mm → Prop} (M : Mm) (a0 : Nat) (x1 : Int32) (x2 : Int32) (u3 : Value) (u4 : Value) (u5 : Value) (s0 : Int32)
    (h : (¬ s0 = 0) ∧ Ev l G d mRe_isRest 32 [.ref a0, .int x1, .int x2, .int s0, .int ((x1 / s0) - (x1 / s0) / 5 * 5), .int 0] [] M bc bs Φ) :
    Ev l G d mRe_isRest 21 [.ref a0, .int x1, .int x2, u3, u4, u5] [.int s0] M bc bs Φ := by
  refine Ev.istore_n dRe_isRest_21 (by decide) ?_
  show Ev l G d mRe_isRest (_ + _) [.ref a0, .int x1, .int x2, .int s0, u4, u5] [] M bc bs Φ
  refine Ev.iload_n dRe_isRest_22 rfl ?_
  refine Ev.iload_n dRe_isRest_23 rfl ?_
  have g1 := h.1
  replace h := h.2
  refine Ev.idiv dRe_isRest_24 g1 ?_
  refine Ev.iconst (v := 5) dRe_isRest_25 (by decide) ?_
  refine Ev.irem dRe_isRest_26 (by decide) ?_
  refine Ev.istore dRe_isRest_27 (by decide) ?_
  show Ev l G d mRe_isRest (_ + _) [.ref a0, .int x1, .int x2, .int s0, .int ((x1 / s0) - (x1 / s0) / 5 * 5), u5] [] M bc bs Φ
  refine Ev.iconst (v := 0) dRe_isRest_29 (by decide) ?_
  refine Ev.istore dRe_isRest_30 (by decide) ?_
  show Ev l G d mRe_isRest (_ + _) [.ref a0, .int x1, .int x2, .int s0, .int ((x1 / s0) - (x1 / s0) / 5 * 5), .int 0] [] M bc bs Φ
  exact h
theorem bRe_isRest_32 {l : Launch} {G : Gx} {d : Nat} {bc bs : Nat} {Φ : OutV → Mm → Prop} (M : Mm) (a0 : Nat) (x1 : Int32) (x2 : Int32) (x3 : Int32) (x4 : Int32) (x5 : Int32)
    (h : (5 ≤ x5 → Ev l G d mRe_isRest 2 [.ref a0, .int x1, .int (x2 + 1), .int x3, .int x4, .int x5] [] M bc bs Φ) ∧ (¬ 5 ≤ x5 → ((m_sh M a0).1 = 11) ∧ ((m_sh M (m_r M a0 59)).1 = 33) ∧ (vp_in (x1 + ((x5 - x4) * x3)) (m_sh M (m_r M a0 59)).2) ∧ ((m_sh M (m_r M (m_r M a0 59) (x1 + ((x5 - x4) * x3)).toNatClampNeg)).1 = 20) ∧ (vp_in x2 (m_sh M (m_r M (m_r M a0 59) (x1 + ((x5 - x4) * x3)).toNatClampNeg)).2) ∧ (vp_in x1 (m_sh M (m_r M a0 59)).2) ∧ ((m_sh M (m_r M (m_r M a0 59) x1.toNatClampNeg)).1 = 20) ∧ (vp_in x2 (m_sh M (m_r M (m_r M a0 59) x1.toNatClampNeg)).2) ∧ ((m_i M (m_r M (m_r M a0 59) x1.toNatClampNeg) x2.toNatClampNeg) ≤ (m_i M (m_r M (m_r M a0 59) (x1 + ((x5 - x4) * x3)).toNatClampNeg) x2.toNatClampNeg) → Ev l G d mRe_isRest 32 [.ref a0, .int x1, .int x2, .int x3, .int x4, .int (x5 + 1)] [] M bc bs Φ) ∧ (¬ (m_i M (m_r M (m_r M a0 59) x1.toNatClampNeg) x2.toNatClampNeg) ≤ (m_i M (m_r M (m_r M a0 59) (x1 + ((x5 - x4) * x3)).toNatClampNeg) x2.toNatClampNeg) → Φ (.inl (some (.int 0))) M))) :
    Ev l G d mRe_isRest 32 [.ref a0, .int x1, .int x2, .int x3, .int x4, .int x5] [] M bc bs Φ := by
  refine Ev.iload dRe_isRest_32 rfl ?_
  refine Ev.iconst (v := 5) dRe_isRest_34 (by decide) ?_
  refine Ev.icmp_ge 73 (by decide) dRe_isRest_35 (fun c => ?_) (fun c => ?_)
  · replace h := h.1 c
    refine Ev.iinc (v := x2 + 1) dRe_isRest_73 (by decide) rfl rfl ?_
    show Ev l G d mRe_isRest (_ + _) [.ref a0, .int x1, .int (x2 + 1), .int x3, .int x4, .int x5] [] M bc bs Φ
    refine Ev.goto 2 dRe_isRest_76 (by decide) ?_
    exact h
  · replace h := h.2 c
    refine Ev.aload_n dRe_isRest_38 rfl ?_
    have g1 := h.1
    replace h := h.2
    refine Ev.getR dRe_isRest_39 (Or.inl fRe_112) rfl g1 ?_
    refine Ev.iload_n dRe_isRest_42 rfl ?_
    refine Ev.iload dRe_isRest_43 rfl ?_
    refine Ev.iload dRe_isRest_45 rfl ?_
    refine Ev.isub dRe_isRest_47 ?_
    refine Ev.iload_n dRe_isRest_48 rfl ?_
    refine Ev.imul dRe_isRest_49 ?_
    refine Ev.iadd dRe_isRest_50 ?_
    have g2 := h.1
    replace h := h.2
    have g3 := h.1
    replace h := h.2
    refine Ev.aald2 33 (by decide) dRe_isRest_51 g2 g3 ?_
    refine Ev.iload_n dRe_isRest_52 rfl ?_
    have g4 := h.1
    replace h := h.2
    have g5 := h.1
    replace h := h.2
    refine Ev.iald2 dRe_isRest_53 g4 g5 ?_
    refine Ev.aload_n dRe_isRest_54 rfl ?_
    refine Ev.getR dRe_isRest_55 (Or.inl fRe_112) rfl g1 ?_
    refine Ev.iload_n dRe_isRest_58 rfl ?_
    have g6 := h.1
    replace h := h.2
    refine Ev.aald2 33 (by decide) dRe_isRest_59 g2 g6 ?_
    refine Ev.iload_n dRe_isRest_60 rfl ?_
    have g7 := h.1
    replace h := h.2
    have g8 := h.1
    replace h := h.2
    refine Ev.iald2 dRe_isRest_61 g7 g8 ?_
    refine Ev.icmp_ge 67 (by decide) dRe_isRest_62 (fun c => ?_) (fun c => ?_)
    · replace h := h.1 c
      refine Ev.iinc (v := x5 + 1) dRe_isRest_67 (by decide) rfl rfl ?_
      show Ev l G d mRe_isRest (_ + _) [.ref a0, .int x1, .int x2, .int x3, .int x4, .int (x5 + 1)] [] M bc bs Φ
      refine Ev.goto 32 dRe_isRest_70 (by decide) ?_
      exact h
    · replace h := h.2 c
      refine Ev.iconst (v := 0) dRe_isRest_65 (by decide) ?_
      exact Ev.iret dRe_isRest_66 rfl rfl h
def mRe_polite : MR := (⟨"BowingRowModel", "polite", "(I)I"⟩, prog_14_method_83_code, 7, (Option.some .int))
theorem oRe_polite : MOK mRe_polite 1 := ⟨lwg_of 1795 (by decide +kernel) (by decide +kernel), lwg_of 103 (by decide +kernel) (by decide +kernel), ⟨by decide +kernel, by decide +kernel⟩, by decide +kernel, by decide⟩
theorem iRe_polite : Cond.instanceMethod mRe_polite.1 ∈ lwg := lwg_of 1793 (by decide +kernel) (by decide +kernel)
theorem sRe_polite : Cond.selects mRe_polite.1.cls mRe_polite.1 mRe_polite.1 ∈ lwg := lwg_of 1794 (by decide +kernel) (by decide +kernel)
theorem dRe_polite_0 : decode mRe_polite.2.1 0 = .ok (.aload_n 0, 1) := by decide +kernel
theorem dRe_polite_1 : decode mRe_polite.2.1 1 = .ok (.iconst 0, 1) := by decide +kernel
theorem dRe_polite_2 : decode mRe_polite.2.1 2 = .ok (.putfield 115, 3) := by decide +kernel
theorem dRe_polite_5 : decode mRe_polite.2.1 5 = .ok (.aload_n 0, 1) := by decide +kernel
theorem dRe_polite_6 : decode mRe_polite.2.1 6 = .ok (.iload_n 1, 1) := by decide +kernel
theorem dRe_polite_7 : decode mRe_polite.2.1 7 = .ok (.iconst 0, 1) := by decide +kernel
theorem dRe_polite_8 : decode mRe_polite.2.1 8 = .ok (.iconst 1, 1) := by decide +kernel
theorem dRe_polite_9 : decode mRe_polite.2.1 9 = .ok (.invokestatic 149, 3) := by decide +kernel
theorem dRe_polite_12 : decode mRe_polite.2.1 12 = .ok (.ifCond .ne 7, 3) := by decide +kernel
theorem dRe_polite_15 : decode mRe_polite.2.1 15 = .ok (.iconst 1, 1) := by decide +kernel
theorem dRe_polite_16 : decode mRe_polite.2.1 16 = .ok (.goto 4, 3) := by decide +kernel
theorem dRe_polite_19 : decode mRe_polite.2.1 19 = .ok (.iconst 0, 1) := by decide +kernel
theorem dRe_polite_20 : decode mRe_polite.2.1 20 = .ok (.iconst 1, 1) := by decide +kernel
theorem dRe_polite_21 : decode mRe_polite.2.1 21 = .ok (.invokevirtual 196, 3) := by decide +kernel
theorem dRe_polite_24 : decode mRe_polite.2.1 24 = .ok (.ifCond .ne 24, 3) := by decide +kernel
theorem dRe_polite_27 : decode mRe_polite.2.1 27 = .ok (.aload_n 0, 1) := by decide +kernel
theorem dRe_polite_28 : decode mRe_polite.2.1 28 = .ok (.aload_n 0, 1) := by decide +kernel
theorem dRe_polite_29 : decode mRe_polite.2.1 29 = .ok (.getfield 206, 3) := by decide +kernel
theorem dRe_polite_32 : decode mRe_polite.2.1 32 = .ok (.iconst 5, 1) := by decide +kernel
theorem dRe_polite_33 : decode mRe_polite.2.1 33 = .ok (.if_icmp .le 7, 3) := by decide +kernel
theorem dRe_polite_36 : decode mRe_polite.2.1 36 = .ok (.iconst 1, 1) := by decide +kernel
theorem dRe_polite_37 : decode mRe_polite.2.1 37 = .ok (.goto 4, 3) := by decide +kernel
theorem dRe_polite_40 : decode mRe_polite.2.1 40 = .ok (.iconst 0, 1) := by decide +kernel
theorem dRe_polite_41 : decode mRe_polite.2.1 41 = .ok (.iconst 2, 1) := by decide +kernel
theorem dRe_polite_42 : decode mRe_polite.2.1 42 = .ok (.invokevirtual 196, 3) := by decide +kernel
theorem dRe_polite_45 : decode mRe_polite.2.1 45 = .ok (.ifCond .eq 5, 3) := by decide +kernel
theorem dRe_polite_48 : decode mRe_polite.2.1 48 = .ok (.iconst 0, 1) := by decide +kernel
theorem dRe_polite_49 : decode mRe_polite.2.1 49 = .ok (.ireturn, 1) := by decide +kernel
theorem dRe_polite_50 : decode mRe_polite.2.1 50 = .ok (.aload_n 0, 1) := by decide +kernel
theorem dRe_polite_51 : decode mRe_polite.2.1 51 = .ok (.invokevirtual 384, 3) := by decide +kernel
theorem dRe_polite_54 : decode mRe_polite.2.1 54 = .ok (.iconst (-1), 1) := by decide +kernel
theorem dRe_polite_55 : decode mRe_polite.2.1 55 = .ok (.istore_n 2, 1) := by decide +kernel
theorem dRe_polite_56 : decode mRe_polite.2.1 56 = .ok (.iconst 0, 1) := by decide +kernel
theorem dRe_polite_57 : decode mRe_polite.2.1 57 = .ok (.istore_n 3, 1) := by decide +kernel
theorem dRe_polite_58 : decode mRe_polite.2.1 58 = .ok (.iconst 0, 1) := by decide +kernel
theorem dRe_polite_59 : decode mRe_polite.2.1 59 = .ok (.istore 4, 2) := by decide +kernel
theorem dRe_polite_61 : decode mRe_polite.2.1 61 = .ok (.iload 4, 2) := by decide +kernel
theorem dRe_polite_63 : decode mRe_polite.2.1 63 = .ok (.aload_n 0, 1) := by decide +kernel
theorem dRe_polite_64 : decode mRe_polite.2.1 64 = .ok (.invokevirtual 378, 3) := by decide +kernel
theorem dRe_polite_67 : decode mRe_polite.2.1 67 = .ok (.if_icmp .ge 65, 3) := by decide +kernel
theorem dRe_polite_70 : decode mRe_polite.2.1 70 = .ok (.iconst 0, 1) := by decide +kernel
theorem dRe_polite_71 : decode mRe_polite.2.1 71 = .ok (.istore 5, 2) := by decide +kernel
theorem dRe_polite_73 : decode mRe_polite.2.1 73 = .ok (.iconst 0, 1) := by decide +kernel
theorem dRe_polite_74 : decode mRe_polite.2.1 74 = .ok (.istore 6, 2) := by decide +kernel
theorem dRe_polite_76 : decode mRe_polite.2.1 76 = .ok (.iload 6, 2) := by decide +kernel
theorem dRe_polite_78 : decode mRe_polite.2.1 78 = .ok (.aload_n 0, 1) := by decide +kernel
theorem dRe_polite_79 : decode mRe_polite.2.1 79 = .ok (.getfield 206, 3) := by decide +kernel
theorem dRe_polite_82 : decode mRe_polite.2.1 82 = .ok (.if_icmp .ge 24, 3) := by decide +kernel
theorem dRe_polite_85 : decode mRe_polite.2.1 85 = .ok (.iload 5, 2) := by decide +kernel
theorem dRe_polite_87 : decode mRe_polite.2.1 87 = .ok (.aload_n 0, 1) := by decide +kernel
theorem dRe_polite_88 : decode mRe_polite.2.1 88 = .ok (.getfield 112, 3) := by decide +kernel
theorem dRe_polite_91 : decode mRe_polite.2.1 91 = .ok (.iload 4, 2) := by decide +kernel
theorem dRe_polite_93 : decode mRe_polite.2.1 93 = .ok (.aaload, 1) := by decide +kernel
theorem dRe_polite_94 : decode mRe_polite.2.1 94 = .ok (.iload 6, 2) := by decide +kernel
theorem dRe_polite_96 : decode mRe_polite.2.1 96 = .ok (.iaload, 1) := by decide +kernel
theorem dRe_polite_97 : decode mRe_polite.2.1 97 = .ok (.iadd, 1) := by decide +kernel
theorem dRe_polite_98 : decode mRe_polite.2.1 98 = .ok (.istore 5, 2) := by decide +kernel
theorem dRe_polite_100 : decode mRe_polite.2.1 100 = .ok (.iinc 6 1, 3) := by decide +kernel
theorem dRe_polite_103 : decode mRe_polite.2.1 103 = .ok (.goto (-27), 3) := by decide +kernel
theorem dRe_polite_106 : decode mRe_polite.2.1 106 = .ok (.iload_n 2, 1) := by decide +kernel
theorem dRe_polite_107 : decode mRe_polite.2.1 107 = .ok (.iconst (-1), 1) := by decide +kernel
theorem dRe_polite_108 : decode mRe_polite.2.1 108 = .ok (.if_icmp .eq 12, 3) := by decide +kernel
theorem dRe_polite_111 : decode mRe_polite.2.1 111 = .ok (.iload 5, 2) := by decide +kernel
theorem dRe_polite_113 : decode mRe_polite.2.1 113 = .ok (.iload_n 3, 1) := by decide +kernel
theorem dRe_polite_114 : decode mRe_polite.2.1 114 = .ok (.if_icmp .lt 6, 3) := by decide +kernel
theorem dRe_polite_117 : decode mRe_polite.2.1 117 = .ok (.goto 9, 3) := by decide +kernel
theorem dRe_polite_120 : decode mRe_polite.2.1 120 = .ok (.iload 4, 2) := by decide +kernel
theorem dRe_polite_122 : decode mRe_polite.2.1 122 = .ok (.istore_n 2, 1) := by decide +kernel
theorem dRe_polite_123 : decode mRe_polite.2.1 123 = .ok (.iload 5, 2) := by decide +kernel
theorem dRe_polite_125 : decode mRe_polite.2.1 125 = .ok (.istore_n 3, 1) := by decide +kernel
theorem dRe_polite_126 : decode mRe_polite.2.1 126 = .ok (.iinc 4 1, 3) := by decide +kernel
theorem dRe_polite_129 : decode mRe_polite.2.1 129 = .ok (.goto (-68), 3) := by decide +kernel
theorem dRe_polite_132 : decode mRe_polite.2.1 132 = .ok (.iload_n 1, 1) := by decide +kernel
theorem dRe_polite_133 : decode mRe_polite.2.1 133 = .ok (.ifCond .ne 7, 3) := by decide +kernel
theorem dRe_polite_136 : decode mRe_polite.2.1 136 = .ok (.iload_n 2, 1) := by decide +kernel
theorem dRe_polite_137 : decode mRe_polite.2.1 137 = .ok (.goto 4, 3) := by decide +kernel
theorem dRe_polite_140 : decode mRe_polite.2.1 140 = .ok (.iload_n 3, 1) := by decide +kernel
theorem dRe_polite_141 : decode mRe_polite.2.1 141 = .ok (.ireturn, 1) := by decide +kernel
theorem bRe_polite_0 {l : Launch} {G : Gx} {d : Nat} {bc bs : Nat} {Φ : OutV → Mm → Prop} (M : Mm) (a0 : Nat) (x1 : Int32)
    (h : ((m_sh M a0).1 = 11) ∧ CallVC l G d mRe_polite 12 [.ref a0, .int x1, .null, .null, .null, .null, .null] [.ref a0] mRe_in [.int x1, .int 0, .int 1] (m_si M a0 0 0) bc bs Φ) :
    Ev l G d mRe_polite 0 [.ref a0, .int x1, .null, .null, .null, .null, .null] [] M bc bs Φ := by
  refine Ev.aload_n dRe_polite_0 rfl ?_
  refine Ev.iconst (v := 0) dRe_polite_1 (by decide) ?_
  have g1 := h.1
  replace h := h.2
  refine Ev.putI dRe_polite_2 ⟨_, Or.inl ⟨fRe_115, (fun h => by cases h)⟩⟩ rfl ⟨rfl, rfl⟩ g1 ?_
  refine Ev.aload_n dRe_polite_5 rfl ?_
  refine Ev.iload_n dRe_polite_6 rfl ?_
  refine Ev.iconst (v := 0) dRe_polite_7 (by decide) ?_
  refine Ev.iconst (v := 1) dRe_polite_8 (by decide) ?_
  exact Ev.vcS (z := mRe_in) [.int x1, .int 0, .int 1] [.ref a0] rfl dRe_polite_9 oRe_in rfl w1476 iRe_in (Nat.le_of_ble_eq_true rfl) h
theorem bRe_polite_12 {l : Launch} {G : Gx} {d : Nat} {bc bs : Nat} {Φ : OutV → Mm → Prop} (M : Mm) (a0 : Nat) (x1 : Int32) (u2 : Value) (u3 : Value) (u4 : Value) (u5 : Value) (u6 : Value) (r0 : Nat) (s1 : Int32)
    (h : (¬ s1 = 0 → ((m_sh M r0).1 = 11) ∧ CallVC l G d mRe_polite 24 [.ref a0, .int x1, u2, u3, u4, u5, u6] [] mRe_bad [.ref r0, .int 0, .int 1] M bc bs Φ) ∧ (s1 = 0 → ((m_sh M r0).1 = 11) ∧ CallVC l G d mRe_polite 24 [.ref a0, .int x1, u2, u3, u4, u5, u6] [] mRe_bad [.ref r0, .int 1, .int 1] M bc bs Φ)) :
    Ev l G d mRe_polite 12 [.ref a0, .int x1, u2, u3, u4, u5, u6] [.int s1, .ref r0] M bc bs Φ := by
  refine Ev.if_ne 19 (by decide) dRe_polite_12 (fun c => ?_) (fun c => ?_)
  · replace h := h.1 c
    refine Ev.iconst (v := 0) dRe_polite_19 (by decide) ?_
    refine Ev.iconst (v := 1) dRe_polite_20 (by decide) ?_
    have g1 := h.1
    replace h := h.2
    exact Ev.vcV (z := mRe_bad) (ci := 11) [.int 0, .int 1] [] rfl dRe_polite_21 oRe_bad rfl w1479 iRe_bad sRe_bad (by decide) rfl g1 (Nat.le_of_ble_eq_true rfl) h
  · replace h := h.2 c
    refine Ev.iconst (v := 1) dRe_polite_15 (by decide) ?_
    refine Ev.goto 20 dRe_polite_16 (by decide) ?_
    refine Ev.iconst (v := 1) dRe_polite_20 (by decide) ?_
    have g2 := h.1
    replace h := h.2
    exact Ev.vcV (z := mRe_bad) (ci := 11) [.int 1, .int 1] [] rfl dRe_polite_21 oRe_bad rfl w1479 iRe_bad sRe_bad (by decide) rfl g2 (Nat.le_of_ble_eq_true rfl) h
theorem bRe_polite_24 {l : Launch} {G : Gx} {d : Nat} {bc bs : Nat} {Φ : OutV → Mm → Prop} (M : Mm) (a0 : Nat) (x1 : Int32) (u2 : Value) (u3 : Value) (u4 : Value) (u5 : Value) (u6 : Value) (s0 : Int32)
    (h : (¬ s0 = 0 → Φ (.inl (some (.int 0))) M) ∧ (s0 = 0 → ((m_sh M a0).1 = 11) ∧ ((m_i M a0 11) ≤ 5 → CallVC l G d mRe_polite 45 [.ref a0, .int x1, u2, u3, u4, u5, u6] [] mRe_bad [.ref a0, .int 0, .int 2] M bc bs Φ) ∧ (¬ (m_i M a0 11) ≤ 5 → CallVC l G d mRe_polite 45 [.ref a0, .int x1, u2, u3, u4, u5, u6] [] mRe_bad [.ref a0, .int 1, .int 2] M bc bs Φ))) :
    Ev l G d mRe_polite 24 [.ref a0, .int x1, u2, u3, u4, u5, u6] [.int s0] M bc bs Φ := by
  refine Ev.if_ne 48 (by decide) dRe_polite_24 (fun c => ?_) (fun c => ?_)
  · replace h := h.1 c
    refine Ev.iconst (v := 0) dRe_polite_48 (by decide) ?_
    exact Ev.iret dRe_polite_49 rfl rfl h
  · replace h := h.2 c
    refine Ev.aload_n dRe_polite_27 rfl ?_
    refine Ev.aload_n dRe_polite_28 rfl ?_
    have g1 := h.1
    replace h := h.2
    refine Ev.getI dRe_polite_29 (Or.inl fRe_206) rfl g1 ?_
    refine Ev.iconst (v := 5) dRe_polite_32 (by decide) ?_
    refine Ev.icmp_le 40 (by decide) dRe_polite_33 (fun c => ?_) (fun c => ?_)
    · replace h := h.1 c
      refine Ev.iconst (v := 0) dRe_polite_40 (by decide) ?_
      refine Ev.iconst (v := 2) dRe_polite_41 (by decide) ?_
      exact Ev.vcV (z := mRe_bad) (ci := 11) [.int 0, .int 2] [] rfl dRe_polite_42 oRe_bad rfl w1479 iRe_bad sRe_bad (by decide) rfl g1 (Nat.le_of_ble_eq_true rfl) h
    · replace h := h.2 c
      refine Ev.iconst (v := 1) dRe_polite_36 (by decide) ?_
      refine Ev.goto 41 dRe_polite_37 (by decide) ?_
      refine Ev.iconst (v := 2) dRe_polite_41 (by decide) ?_
      exact Ev.vcV (z := mRe_bad) (ci := 11) [.int 1, .int 2] [] rfl dRe_polite_42 oRe_bad rfl w1479 iRe_bad sRe_bad (by decide) rfl g1 (Nat.le_of_ble_eq_true rfl) h
theorem bRe_polite_45 {l : Launch} {G : Gx} {d : Nat} {bc bs : Nat} {Φ : OutV → Mm → Prop} (M : Mm) (a0 : Nat) (x1 : Int32) (u2 : Value) (u3 : Value) (u4 : Value) (u5 : Value) (u6 : Value) (s0 : Int32)
    (h : (s0 = 0 → ((m_sh M a0).1 = 11) ∧ CallVC l G d mRe_polite 54 [.ref a0, .int x1, u2, u3, u4, u5, u6] [] mRe_layAll [.ref a0] M bc bs Φ) ∧ (¬ s0 = 0 → Φ (.inl (some (.int 0))) M)) :
    Ev l G d mRe_polite 45 [.ref a0, .int x1, u2, u3, u4, u5, u6] [.int s0] M bc bs Φ := by
  refine Ev.if_eq 50 (by decide) dRe_polite_45 (fun c => ?_) (fun c => ?_)
  · replace h := h.1 c
    refine Ev.aload_n dRe_polite_50 rfl ?_
    have g1 := h.1
    replace h := h.2
    exact Ev.vcV (z := mRe_layAll) (ci := 11) [] [] rfl dRe_polite_51 oRe_layAll rfl w1777 iRe_layAll sRe_layAll (by decide) rfl g1 (Nat.le_of_ble_eq_true rfl) h
  · replace h := h.2 c
    refine Ev.iconst (v := 0) dRe_polite_48 (by decide) ?_
    exact Ev.iret dRe_polite_49 rfl rfl h
theorem bRe_polite_54 {l : Launch} {G : Gx} {d : Nat} {bc bs : Nat} {Φ : OutV → Mm → Prop} (M : Mm) (a0 : Nat) (x1 : Int32) (u2 : Value) (u3 : Value) (u4 : Value) (u5 : Value) (u6 : Value)
    (h : Ev l G d mRe_polite 61 [.ref a0, .int x1, .int ((-1)), .int 0, .int 0, u5, u6] [] M bc bs Φ) :
    Ev l G d mRe_polite 54 [.ref a0, .int x1, u2, u3, u4, u5, u6] [] M bc bs Φ := by
  refine Ev.iconst (v := (-1)) dRe_polite_54 (by decide) ?_
  refine Ev.istore_n dRe_polite_55 (by decide) ?_
  show Ev l G d mRe_polite (_ + _) [.ref a0, .int x1, .int ((-1)), u3, u4, u5, u6] [] M bc bs Φ
  refine Ev.iconst (v := 0) dRe_polite_56 (by decide) ?_
  refine Ev.istore_n dRe_polite_57 (by decide) ?_
  show Ev l G d mRe_polite (_ + _) [.ref a0, .int x1, .int ((-1)), .int 0, u4, u5, u6] [] M bc bs Φ
  refine Ev.iconst (v := 0) dRe_polite_58 (by decide) ?_
  refine Ev.istore dRe_polite_59 (by decide) ?_
  show Ev l G d mRe_polite (_ + _) [.ref a0, .int x1, .int ((-1)), .int 0, .int 0, u5, u6] [] M bc bs Φ
  exact h
theorem bRe_polite_61 {l : Launch} {G : Gx} {d : Nat} {bc bs : Nat} {Φ : OutV → Mm → Prop} (M : Mm) (a0 : Nat) (x1 : Int32) (x2 : Int32) (x3 : Int32) (x4 : Int32) (u5 : Value) (u6 : Value)
    (h : ((m_sh M a0).1 = 11) ∧ CallVC l G d mRe_polite 67 [.ref a0, .int x1, .int x2, .int x3, .int x4, u5, u6] [.int x4] mRe_allRows [.ref a0] M bc bs Φ) :
    Ev l G d mRe_polite 61 [.ref a0, .int x1, .int x2, .int x3, .int x4, u5, u6] [] M bc bs Φ := by
  refine Ev.iload dRe_polite_61 rfl ?_
  refine Ev.aload_n dRe_polite_63 rfl ?_
  have g1 := h.1
  replace h := h.2
  exact Ev.vcV (z := mRe_allRows) (ci := 11) [] [.int x4] rfl dRe_polite_64 oRe_allRows rfl w1781 iRe_allRows sRe_allRows (by decide) rfl g1 (Nat.le_of_ble_eq_true rfl) h
theorem bRe_polite_67 {l : Launch} {G : Gx} {d : Nat} {bc bs : Nat} {Φ : OutV → Mm → Prop} (M : Mm) (a0 : Nat) (x1 : Int32) (x2 : Int32) (x3 : Int32) (x4 : Int32) (u5 : Value) (u6 : Value) (s0 : Int32) (s1 : Int32)
    (h : (s1 ≤ s0 → (¬ x1 = 0 → Φ (.inl (some (.int x3))) M) ∧ (x1 = 0 → Φ (.inl (some (.int x2))) M)) ∧ (¬ s1 ≤ s0 → Ev l G d mRe_polite 76 [.ref a0, .int x1, .int x2, .int x3, .int x4, .int 0, .int 0] [] M bc bs Φ)) :
    Ev l G d mRe_polite 67 [.ref a0, .int x1, .int x2, .int x3, .int x4, u5, u6] [.int s1, .int s0] M bc bs Φ := by
  refine Ev.icmp_ge 132 (by decide) dRe_polite_67 (fun c => ?_) (fun c => ?_)
  · replace h := h.1 c
    refine Ev.iload_n dRe_polite_132 rfl ?_
    refine Ev.if_ne 140 (by decide) dRe_polite_133 (fun c => ?_) (fun c => ?_)
    · replace h := h.1 c
      refine Ev.iload_n dRe_polite_140 rfl ?_
      exact Ev.iret dRe_polite_141 rfl rfl h
    · replace h := h.2 c
      refine Ev.iload_n dRe_polite_136 rfl ?_
      refine Ev.goto 141 dRe_polite_137 (by decide) ?_
      exact Ev.iret dRe_polite_141 rfl rfl h
  · replace h := h.2 c
    refine Ev.iconst (v := 0) dRe_polite_70 (by decide) ?_
    refine Ev.istore dRe_polite_71 (by decide) ?_
    show Ev l G d mRe_polite (_ + _) [.ref a0, .int x1, .int x2, .int x3, .int x4, .int 0, u6] [] M bc bs Φ
    refine Ev.iconst (v := 0) dRe_polite_73 (by decide) ?_
    refine Ev.istore dRe_polite_74 (by decide) ?_
    show Ev l G d mRe_polite (_ + _) [.ref a0, .int x1, .int x2, .int x3, .int x4, .int 0, .int 0] [] M bc bs Φ
    exact h
theorem bRe_polite_76 {l : Launch} {G : Gx} {d : Nat} {bc bs : Nat} {Φ : OutV → Mm → Prop} (M : Mm) (a0 : Nat) (x1 : Int32) (x2 : Int32) (x3 : Int32) (x4 : Int32) (x5 : Int32) (x6 : Int32)
    (h : ((m_sh M a0).1 = 11) ∧ ((m_i M a0 11) ≤ x6 → (x2 = ((-1)) → Ev l G d mRe_polite 120 [.ref a0, .int x1, .int x2, .int x3, .int x4, .int x5, .int x6] [] M bc bs Φ) ∧ (¬ x2 = ((-1)) → (x5 < x3 → Ev l G d mRe_polite 120 [.ref a0, .int x1, .int x2, .int x3, .int x4, .int x5, .int x6] [] M bc bs Φ) ∧ (¬ x5 < x3 → Ev l G d mRe_polite 126 [.ref a0, .int x1, .int x2, .int x3, .int x4, .int x5, .int x6] [] M bc bs Φ))) ∧ (¬ (m_i M a0 11) ≤ x6 → ((m_sh M (m_r M a0 59)).1 = 33) ∧ (vp_in x4 (m_sh M (m_r M a0 59)).2) ∧ ((m_sh M (m_r M (m_r M a0 59) x4.toNatClampNeg)).1 = 20) ∧ (vp_in x6 (m_sh M (m_r M (m_r M a0 59) x4.toNatClampNeg)).2) ∧ Ev l G d mRe_polite 76 [.ref a0, .int x1, .int x2, .int x3, .int x4, .int (x5 + (m_i M (m_r M (m_r M a0 59) x4.toNatClampNeg) x6.toNatClampNeg)), .int (x6 + 1)] [] M bc bs Φ)) :
    Ev l G d mRe_polite 76 [.ref a0, .int x1, .int x2, .int x3, .int x4, .int x5, .int x6] [] M bc bs Φ := by
  refine Ev.iload dRe_polite_76 rfl ?_
  refine Ev.aload_n dRe_polite_78 rfl ?_
  have g1 := h.1
  replace h := h.2
  refine Ev.getI dRe_polite_79 (Or.inl fRe_206) rfl g1 ?_
  refine Ev.icmp_ge 106 (by decide) dRe_polite_82 (fun c => ?_) (fun c => ?_)
  · replace h := h.1 c
    refine Ev.iload_n dRe_polite_106 rfl ?_
    refine Ev.iconst (v := (-1)) dRe_polite_107 (by decide) ?_
    refine Ev.icmp_eq 120 (by decide) dRe_polite_108 (fun c => ?_) (fun c => ?_)
    · replace h := h.1 c
      exact h
    · replace h := h.2 c
      refine Ev.iload dRe_polite_111 rfl ?_
      refine Ev.iload_n dRe_polite_113 rfl ?_
      refine Ev.icmp_lt 120 (by decide) dRe_polite_114 (fun c => ?_) (fun c => ?_)
      · replace h := h.1 c
        exact h
      · replace h := h.2 c
        refine Ev.goto 126 dRe_polite_117 (by decide) ?_
        exact h
  · replace h := h.2 c
    refine Ev.iload dRe_polite_85 rfl ?_
    refine Ev.aload_n dRe_polite_87 rfl ?_
    refine Ev.getR dRe_polite_88 (Or.inl fRe_112) rfl g1 ?_
    refine Ev.iload dRe_polite_91 rfl ?_
    have g2 := h.1
    replace h := h.2
    have g3 := h.1
    replace h := h.2
    refine Ev.aald2 33 (by decide) dRe_polite_93 g2 g3 ?_
    refine Ev.iload dRe_polite_94 rfl ?_
    have g4 := h.1
    replace h := h.2
    have g5 := h.1
    replace h := h.2
    refine Ev.iald2 dRe_polite_96 g4 g5 ?_
    refine Ev.iadd dRe_polite_97 ?_
    refine Ev.istore dRe_polite_98 (by decide) ?_
    show Ev l G d mRe_polite (_ + _) [.ref a0, .int x1, .int x2, .int x3, .int x4, .int (x5 + (m_i M (m_r M (m_r M a0 59) x4.toNatClampNeg) x6.toNatClampNeg)), .int x6] [] M bc bs Φ
    refine Ev.iinc (v := x6 + 1) dRe_polite_100 (by decide) rfl rfl ?_
    show Ev l G d mRe_polite (_ + _) [.ref a0, .int x1, .int x2, .int x3, .int x4, .int (x5 + (m_i M (m_r M (m_r M a0 59) x4.toNatClampNeg) x6.toNatClampNeg)), .int (x6 + 1)] [] M bc bs Φ
    refine Ev.goto 76 dRe_polite_103 (by decide) ?_
    exact h
theorem bRe_polite_120 {l : Launch} {G : Gx} {d : Nat} {bc bs : Nat} {Φ : OutV → Mm → Prop} (M : Mm) (a0 : Nat) (x1 : Int32) (x2 : Int32) (x3 : Int32) (x4 : Int32) (x5 : Int32) (x6 : Int32)
    (h : Ev l G d mRe_polite 126 [.ref a0, .int x1, .int x4, .int x5, .int x4, .int x5, .int x6] [] M bc bs Φ) :
    Ev l G d mRe_polite 120 [.ref a0, .int x1, .int x2, .int x3, .int x4, .int x5, .int x6] [] M bc bs Φ := by
  refine Ev.iload dRe_polite_120 rfl ?_
  refine Ev.istore_n dRe_polite_122 (by decide) ?_
  show Ev l G d mRe_polite (_ + _) [.ref a0, .int x1, .int x4, .int x3, .int x4, .int x5, .int x6] [] M bc bs Φ
  refine Ev.iload dRe_polite_123 rfl ?_
  refine Ev.istore_n dRe_polite_125 (by decide) ?_
  show Ev l G d mRe_polite (_ + _) [.ref a0, .int x1, .int x4, .int x5, .int x4, .int x5, .int x6] [] M bc bs Φ
  exact h
theorem bRe_polite_126 {l : Launch} {G : Gx} {d : Nat} {bc bs : Nat} {Φ : OutV → Mm → Prop} (M : Mm) (a0 : Nat) (x1 : Int32) (x2 : Int32) (x3 : Int32) (x4 : Int32) (x5 : Int32) (x6 : Int32)
    (h : Ev l G d mRe_polite 61 [.ref a0, .int x1, .int x2, .int x3, .int (x4 + 1), .int x5, .int x6] [] M bc bs Φ) :
    Ev l G d mRe_polite 126 [.ref a0, .int x1, .int x2, .int x3, .int x4, .int x5, .int x6] [] M bc bs Φ := by
  refine Ev.iinc (v := x4 + 1) dRe_polite_126 (by decide) rfl rfl ?_
  show Ev l G d mRe_polite (_ + _) [.ref a0, .int x1, .int x2, .int x3, .int (x4 + 1), .int x5, .int x6] [] M bc bs Φ
  refine Ev.goto 61 dRe_polite_129 (by decide) ?_
  exact h
def mRe_struck : MR := (⟨"BowingRowModel", "struck", "(I)I"⟩, prog_14_method_86_code, 4, (Option.some .int))
theorem oRe_struck : MOK mRe_struck 1 := ⟨lwg_of 1799 (by decide +kernel) (by decide +kernel), lwg_of 103 (by decide +kernel) (by decide +kernel), ⟨by decide +kernel, by decide +kernel⟩, by decide +kernel, by decide⟩
theorem iRe_struck : Cond.instanceMethod mRe_struck.1 ∈ lwg := lwg_of 1797 (by decide +kernel) (by decide +kernel)
theorem sRe_struck : Cond.selects mRe_struck.1.cls mRe_struck.1 mRe_struck.1 ∈ lwg := lwg_of 1798 (by decide +kernel) (by decide +kernel)
theorem dRe_struck_0 : decode mRe_struck.2.1 0 = .ok (.aload_n 0, 1) := by decide +kernel
theorem dRe_struck_1 : decode mRe_struck.2.1 1 = .ok (.iconst 0, 1) := by decide +kernel
theorem dRe_struck_2 : decode mRe_struck.2.1 2 = .ok (.putfield 115, 3) := by decide +kernel
theorem dRe_struck_5 : decode mRe_struck.2.1 5 = .ok (.aload_n 0, 1) := by decide +kernel
theorem dRe_struck_6 : decode mRe_struck.2.1 6 = .ok (.iload_n 1, 1) := by decide +kernel
theorem dRe_struck_7 : decode mRe_struck.2.1 7 = .ok (.iconst 0, 1) := by decide +kernel
theorem dRe_struck_8 : decode mRe_struck.2.1 8 = .ok (.iconst 1, 1) := by decide +kernel
theorem dRe_struck_9 : decode mRe_struck.2.1 9 = .ok (.invokestatic 149, 3) := by decide +kernel
theorem dRe_struck_12 : decode mRe_struck.2.1 12 = .ok (.ifCond .ne 7, 3) := by decide +kernel
theorem dRe_struck_15 : decode mRe_struck.2.1 15 = .ok (.iconst 1, 1) := by decide +kernel
theorem dRe_struck_16 : decode mRe_struck.2.1 16 = .ok (.goto 4, 3) := by decide +kernel
theorem dRe_struck_19 : decode mRe_struck.2.1 19 = .ok (.iconst 0, 1) := by decide +kernel
theorem dRe_struck_20 : decode mRe_struck.2.1 20 = .ok (.iconst 1, 1) := by decide +kernel
theorem dRe_struck_21 : decode mRe_struck.2.1 21 = .ok (.invokevirtual 196, 3) := by decide +kernel
theorem dRe_struck_24 : decode mRe_struck.2.1 24 = .ok (.ifCond .eq 5, 3) := by decide +kernel
theorem dRe_struck_27 : decode mRe_struck.2.1 27 = .ok (.iconst 0, 1) := by decide +kernel
theorem dRe_struck_28 : decode mRe_struck.2.1 28 = .ok (.ireturn, 1) := by decide +kernel
theorem dRe_struck_29 : decode mRe_struck.2.1 29 = .ok (.iconst (-1), 1) := by decide +kernel
theorem dRe_struck_30 : decode mRe_struck.2.1 30 = .ok (.istore_n 2, 1) := by decide +kernel
theorem dRe_struck_31 : decode mRe_struck.2.1 31 = .ok (.iconst 0, 1) := by decide +kernel
theorem dRe_struck_32 : decode mRe_struck.2.1 32 = .ok (.istore_n 3, 1) := by decide +kernel
theorem dRe_struck_33 : decode mRe_struck.2.1 33 = .ok (.iload_n 3, 1) := by decide +kernel
theorem dRe_struck_34 : decode mRe_struck.2.1 34 = .ok (.iconst 1, 1) := by decide +kernel
theorem dRe_struck_35 : decode mRe_struck.2.1 35 = .ok (.aload_n 0, 1) := by decide +kernel
theorem dRe_struck_36 : decode mRe_struck.2.1 36 = .ok (.getfield 234, 3) := by decide +kernel
theorem dRe_struck_39 : decode mRe_struck.2.1 39 = .ok (.ishl, 1) := by decide +kernel
theorem dRe_struck_40 : decode mRe_struck.2.1 40 = .ok (.if_icmp .ge 46, 3) := by decide +kernel
theorem dRe_struck_43 : decode mRe_struck.2.1 43 = .ok (.iload_n 2, 1) := by decide +kernel
theorem dRe_struck_44 : decode mRe_struck.2.1 44 = .ok (.iconst (-1), 1) := by decide +kernel
theorem dRe_struck_45 : decode mRe_struck.2.1 45 = .ok (.if_icmp .eq 17, 3) := by decide +kernel
theorem dRe_struck_48 : decode mRe_struck.2.1 48 = .ok (.iload_n 3, 1) := by decide +kernel
theorem dRe_struck_49 : decode mRe_struck.2.1 49 = .ok (.invokestatic 390, 3) := by decide +kernel
theorem dRe_struck_52 : decode mRe_struck.2.1 52 = .ok (.iload_n 2, 1) := by decide +kernel
theorem dRe_struck_53 : decode mRe_struck.2.1 53 = .ok (.invokestatic 390, 3) := by decide +kernel
theorem dRe_struck_56 : decode mRe_struck.2.1 56 = .ok (.if_icmp .lt 6, 3) := by decide +kernel
theorem dRe_struck_59 : decode mRe_struck.2.1 59 = .ok (.goto 21, 3) := by decide +kernel
theorem dRe_struck_62 : decode mRe_struck.2.1 62 = .ok (.aload_n 0, 1) := by decide +kernel
theorem dRe_struck_63 : decode mRe_struck.2.1 63 = .ok (.iload_n 3, 1) := by decide +kernel
theorem dRe_struck_64 : decode mRe_struck.2.1 64 = .ok (.invokevirtual 393, 3) := by decide +kernel
theorem dRe_struck_67 : decode mRe_struck.2.1 67 = .ok (.iconst 1, 1) := by decide +kernel
theorem dRe_struck_68 : decode mRe_struck.2.1 68 = .ok (.aload_n 0, 1) := by decide +kernel
theorem dRe_struck_69 : decode mRe_struck.2.1 69 = .ok (.getfield 206, 3) := by decide +kernel
theorem dRe_struck_72 : decode mRe_struck.2.1 72 = .ok (.ishl, 1) := by decide +kernel
theorem dRe_struck_73 : decode mRe_struck.2.1 73 = .ok (.iconst 1, 1) := by decide +kernel
theorem dRe_struck_74 : decode mRe_struck.2.1 74 = .ok (.isub, 1) := by decide +kernel
theorem dRe_struck_75 : decode mRe_struck.2.1 75 = .ok (.if_icmp .ne 5, 3) := by decide +kernel
theorem dRe_struck_78 : decode mRe_struck.2.1 78 = .ok (.iload_n 3, 1) := by decide +kernel
theorem dRe_struck_79 : decode mRe_struck.2.1 79 = .ok (.istore_n 2, 1) := by decide +kernel
theorem dRe_struck_80 : decode mRe_struck.2.1 80 = .ok (.iinc 3 1, 3) := by decide +kernel
theorem dRe_struck_83 : decode mRe_struck.2.1 83 = .ok (.goto (-50), 3) := by decide +kernel
theorem dRe_struck_86 : decode mRe_struck.2.1 86 = .ok (.iload_n 1, 1) := by decide +kernel
theorem dRe_struck_87 : decode mRe_struck.2.1 87 = .ok (.ifCond .eq 8, 3) := by decide +kernel
theorem dRe_struck_90 : decode mRe_struck.2.1 90 = .ok (.iload_n 2, 1) := by decide +kernel
theorem dRe_struck_91 : decode mRe_struck.2.1 91 = .ok (.iconst (-1), 1) := by decide +kernel
theorem dRe_struck_92 : decode mRe_struck.2.1 92 = .ok (.if_icmp .ne 7, 3) := by decide +kernel
theorem dRe_struck_95 : decode mRe_struck.2.1 95 = .ok (.iload_n 2, 1) := by decide +kernel
theorem dRe_struck_96 : decode mRe_struck.2.1 96 = .ok (.goto 7, 3) := by decide +kernel
theorem dRe_struck_99 : decode mRe_struck.2.1 99 = .ok (.iload_n 2, 1) := by decide +kernel
theorem dRe_struck_100 : decode mRe_struck.2.1 100 = .ok (.invokestatic 390, 3) := by decide +kernel
theorem dRe_struck_103 : decode mRe_struck.2.1 103 = .ok (.ireturn, 1) := by decide +kernel
theorem bRe_struck_0 {l : Launch} {G : Gx} {d : Nat} {bc bs : Nat} {Φ : OutV → Mm → Prop} (M : Mm) (a0 : Nat) (x1 : Int32)
    (h : ((m_sh M a0).1 = 11) ∧ CallVC l G d mRe_struck 12 [.ref a0, .int x1, .null, .null] [.ref a0] mRe_in [.int x1, .int 0, .int 1] (m_si M a0 0 0) bc bs Φ) :
    Ev l G d mRe_struck 0 [.ref a0, .int x1, .null, .null] [] M bc bs Φ := by
  refine Ev.aload_n dRe_struck_0 rfl ?_
  refine Ev.iconst (v := 0) dRe_struck_1 (by decide) ?_
  have g1 := h.1
  replace h := h.2
  refine Ev.putI dRe_struck_2 ⟨_, Or.inl ⟨fRe_115, (fun h => by cases h)⟩⟩ rfl ⟨rfl, rfl⟩ g1 ?_
  refine Ev.aload_n dRe_struck_5 rfl ?_
  refine Ev.iload_n dRe_struck_6 rfl ?_
  refine Ev.iconst (v := 0) dRe_struck_7 (by decide) ?_
  refine Ev.iconst (v := 1) dRe_struck_8 (by decide) ?_
  exact Ev.vcS (z := mRe_in) [.int x1, .int 0, .int 1] [.ref a0] rfl dRe_struck_9 oRe_in rfl w1476 iRe_in (Nat.le_of_ble_eq_true rfl) h
theorem bRe_struck_12 {l : Launch} {G : Gx} {d : Nat} {bc bs : Nat} {Φ : OutV → Mm → Prop} (M : Mm) (a0 : Nat) (x1 : Int32) (u2 : Value) (u3 : Value) (r0 : Nat) (s1 : Int32)
    (h : (¬ s1 = 0 → ((m_sh M r0).1 = 11) ∧ CallVC l G d mRe_struck 24 [.ref a0, .int x1, u2, u3] [] mRe_bad [.ref r0, .int 0, .int 1] M bc bs Φ) ∧ (s1 = 0 → ((m_sh M r0).1 = 11) ∧ CallVC l G d mRe_struck 24 [.ref a0, .int x1, u2, u3] [] mRe_bad [.ref r0, .int 1, .int 1] M bc bs Φ)) :
    Ev l G d mRe_struck 12 [.ref a0, .int x1, u2, u3] [.int s1, .ref r0] M bc bs Φ := by
  refine Ev.if_ne 19 (by decide) dRe_struck_12 (fun c => ?_) (fun c => ?_)
  · replace h := h.1 c
    refine Ev.iconst (v := 0) dRe_struck_19 (by decide) ?_
    refine Ev.iconst (v := 1) dRe_struck_20 (by decide) ?_
    have g1 := h.1
    replace h := h.2
    exact Ev.vcV (z := mRe_bad) (ci := 11) [.int 0, .int 1] [] rfl dRe_struck_21 oRe_bad rfl w1479 iRe_bad sRe_bad (by decide) rfl g1 (Nat.le_of_ble_eq_true rfl) h
  · replace h := h.2 c
    refine Ev.iconst (v := 1) dRe_struck_15 (by decide) ?_
    refine Ev.goto 20 dRe_struck_16 (by decide) ?_
    refine Ev.iconst (v := 1) dRe_struck_20 (by decide) ?_
    have g2 := h.1
    replace h := h.2
    exact Ev.vcV (z := mRe_bad) (ci := 11) [.int 1, .int 1] [] rfl dRe_struck_21 oRe_bad rfl w1479 iRe_bad sRe_bad (by decide) rfl g2 (Nat.le_of_ble_eq_true rfl) h
theorem bRe_struck_24 {l : Launch} {G : Gx} {d : Nat} {bc bs : Nat} {Φ : OutV → Mm → Prop} (M : Mm) (a0 : Nat) (x1 : Int32) (u2 : Value) (u3 : Value) (s0 : Int32)
    (h : (s0 = 0 → Ev l G d mRe_struck 33 [.ref a0, .int x1, .int ((-1)), .int 0] [] M bc bs Φ) ∧ (¬ s0 = 0 → Φ (.inl (some (.int 0))) M)) :
    Ev l G d mRe_struck 24 [.ref a0, .int x1, u2, u3] [.int s0] M bc bs Φ := by
  refine Ev.if_eq 29 (by decide) dRe_struck_24 (fun c => ?_) (fun c => ?_)
  · replace h := h.1 c
    refine Ev.iconst (v := (-1)) dRe_struck_29 (by decide) ?_
    refine Ev.istore_n dRe_struck_30 (by decide) ?_
    show Ev l G d mRe_struck (_ + _) [.ref a0, .int x1, .int ((-1)), u3] [] M bc bs Φ
    refine Ev.iconst (v := 0) dRe_struck_31 (by decide) ?_
    refine Ev.istore_n dRe_struck_32 (by decide) ?_
    show Ev l G d mRe_struck (_ + _) [.ref a0, .int x1, .int ((-1)), .int 0] [] M bc bs Φ
    exact h
  · replace h := h.2 c
    refine Ev.iconst (v := 0) dRe_struck_27 (by decide) ?_
    exact Ev.iret dRe_struck_28 rfl rfl h
def mRe_ones : MR := (⟨"BowingRowModel", "ones", "(I)I"⟩, prog_14_method_84_code, 3, (Option.some .int))
theorem oRe_ones : MOK mRe_ones 1 := ⟨lwg_of 1802 (by decide +kernel) (by decide +kernel), lwg_of 103 (by decide +kernel) (by decide +kernel), ⟨by decide +kernel, by decide +kernel⟩, by decide +kernel, by decide⟩
theorem iRe_ones : Cond.static mRe_ones.1 ∈ lwg := lwg_of 1801 (by decide +kernel) (by decide +kernel)
theorem w1800 : Cond.methodLink "BowingRowModel" 390 ⟨"BowingRowModel", "ones", "(I)I"⟩ ∈ lwg := lwg_of 1800 (by decide +kernel) (by decide +kernel)
theorem bRe_struck_33 {l : Launch} {G : Gx} {d : Nat} {bc bs : Nat} {Φ : OutV → Mm → Prop} (M : Mm) (a0 : Nat) (x1 : Int32) (x2 : Int32) (x3 : Int32)
    (h : ((m_sh M a0).1 = 11) ∧ ((1 <<< ((m_i M a0 15) &&& 31)) ≤ x3 → (x1 = 0 → Ev l G d mRe_struck 95 [.ref a0, .int x1, .int x2, .int x3] [] M bc bs Φ) ∧ (¬ x1 = 0 → (¬ x2 = ((-1)) → CallVC l G d mRe_struck 103 [.ref a0, .int x1, .int x2, .int x3] [] mRe_ones [.int x2] M bc bs Φ) ∧ (x2 = ((-1)) → Ev l G d mRe_struck 95 [.ref a0, .int x1, .int x2, .int x3] [] M bc bs Φ))) ∧ (¬ (1 <<< ((m_i M a0 15) &&& 31)) ≤ x3 → (x2 = ((-1)) → Ev l G d mRe_struck 62 [.ref a0, .int x1, .int x2, .int x3] [] M bc bs Φ) ∧ (¬ x2 = ((-1)) → CallVC l G d mRe_struck 52 [.ref a0, .int x1, .int x2, .int x3] [] mRe_ones [.int x3] M bc bs Φ))) :
    Ev l G d mRe_struck 33 [.ref a0, .int x1, .int x2, .int x3] [] M bc bs Φ := by
  refine Ev.iload_n dRe_struck_33 rfl ?_
  refine Ev.iconst (v := 1) dRe_struck_34 (by decide) ?_
  refine Ev.aload_n dRe_struck_35 rfl ?_
  have g1 := h.1
  replace h := h.2
  refine Ev.getI dRe_struck_36 (Or.inl fRe_234) rfl g1 ?_
  refine Ev.ishl dRe_struck_39 ?_
  refine Ev.icmp_ge 86 (by decide) dRe_struck_40 (fun c => ?_) (fun c => ?_)
  · replace h := h.1 c
    refine Ev.iload_n dRe_struck_86 rfl ?_
    refine Ev.if_eq 95 (by decide) dRe_struck_87 (fun c => ?_) (fun c => ?_)
    · replace h := h.1 c
      exact h
    · replace h := h.2 c
      refine Ev.iload_n dRe_struck_90 rfl ?_
      refine Ev.iconst (v := (-1)) dRe_struck_91 (by decide) ?_
      refine Ev.icmp_ne 99 (by decide) dRe_struck_92 (fun c => ?_) (fun c => ?_)
      · replace h := h.1 c
        refine Ev.iload_n dRe_struck_99 rfl ?_
        exact Ev.vcS (z := mRe_ones) [.int x2] [] rfl dRe_struck_100 oRe_ones rfl w1800 iRe_ones (Nat.le_of_ble_eq_true rfl) h
      · replace h := h.2 c
        exact h
  · replace h := h.2 c
    refine Ev.iload_n dRe_struck_43 rfl ?_
    refine Ev.iconst (v := (-1)) dRe_struck_44 (by decide) ?_
    refine Ev.icmp_eq 62 (by decide) dRe_struck_45 (fun c => ?_) (fun c => ?_)
    · replace h := h.1 c
      exact h
    · replace h := h.2 c
      refine Ev.iload_n dRe_struck_48 rfl ?_
      exact Ev.vcS (z := mRe_ones) [.int x3] [] rfl dRe_struck_49 oRe_ones rfl w1800 iRe_ones (Nat.le_of_ble_eq_true rfl) h
theorem bRe_struck_52 {l : Launch} {G : Gx} {d : Nat} {bc bs : Nat} {Φ : OutV → Mm → Prop} (M : Mm) (a0 : Nat) (x1 : Int32) (x2 : Int32) (x3 : Int32) (s0 : Int32)
    (h : CallVC l G d mRe_struck 56 [.ref a0, .int x1, .int x2, .int x3] [.int s0] mRe_ones [.int x2] M bc bs Φ) :
    Ev l G d mRe_struck 52 [.ref a0, .int x1, .int x2, .int x3] [.int s0] M bc bs Φ := by
  refine Ev.iload_n dRe_struck_52 rfl ?_
  exact Ev.vcS (z := mRe_ones) [.int x2] [.int s0] rfl dRe_struck_53 oRe_ones rfl w1800 iRe_ones (Nat.le_of_ble_eq_true rfl) h
theorem bRe_struck_56 {l : Launch} {G : Gx} {d : Nat} {bc bs : Nat} {Φ : OutV → Mm → Prop} (M : Mm) (a0 : Nat) (x1 : Int32) (x2 : Int32) (x3 : Int32) (s0 : Int32) (s1 : Int32)
    (h : (s0 < s1 → Ev l G d mRe_struck 62 [.ref a0, .int x1, .int x2, .int x3] [] M bc bs Φ) ∧ (¬ s0 < s1 → Ev l G d mRe_struck 80 [.ref a0, .int x1, .int x2, .int x3] [] M bc bs Φ)) :
    Ev l G d mRe_struck 56 [.ref a0, .int x1, .int x2, .int x3] [.int s1, .int s0] M bc bs Φ := by
  refine Ev.icmp_lt 62 (by decide) dRe_struck_56 (fun c => ?_) (fun c => ?_)
  · replace h := h.1 c
    exact h
  · replace h := h.2 c
    refine Ev.goto 80 dRe_struck_59 (by decide) ?_
    exact h
def mRe_servedWithout : MR := (⟨"BowingRowModel", "servedWithout", "(I)I"⟩, prog_14_method_85_code, 4, (Option.some .int))
theorem oRe_servedWithout : MOK mRe_servedWithout 1 := ⟨lwg_of 1806 (by decide +kernel) (by decide +kernel), lwg_of 103 (by decide +kernel) (by decide +kernel), ⟨by decide +kernel, by decide +kernel⟩, by decide +kernel, by decide⟩
theorem iRe_servedWithout : Cond.instanceMethod mRe_servedWithout.1 ∈ lwg := lwg_of 1805 (by decide +kernel) (by decide +kernel)
theorem sRe_servedWithout : Cond.selects mRe_servedWithout.1.cls mRe_servedWithout.1 mRe_servedWithout.1 ∈ lwg := lwg_of 88 (by decide +kernel) (by decide +kernel)
theorem w1803 : Cond.methodLink "BowingRowModel" 393 ⟨"BowingRowModel", "servedWithout", "(I)I"⟩ ∈ lwg := lwg_of 1803 (by decide +kernel) (by decide +kernel)
theorem bRe_struck_62 {l : Launch} {G : Gx} {d : Nat} {bc bs : Nat} {Φ : OutV → Mm → Prop} (M : Mm) (a0 : Nat) (x1 : Int32) (x2 : Int32) (x3 : Int32)
    (h : ((m_sh M a0).1 = 11) ∧ CallVC l G d mRe_struck 67 [.ref a0, .int x1, .int x2, .int x3] [] mRe_servedWithout [.ref a0, .int x3] M bc bs Φ) :
    Ev l G d mRe_struck 62 [.ref a0, .int x1, .int x2, .int x3] [] M bc bs Φ := by
  refine Ev.aload_n dRe_struck_62 rfl ?_
  refine Ev.iload_n dRe_struck_63 rfl ?_
  have g1 := h.1
  replace h := h.2
  exact Ev.vcV (z := mRe_servedWithout) (ci := 11) [.int x3] [] rfl dRe_struck_64 oRe_servedWithout rfl w1803 iRe_servedWithout sRe_servedWithout (by decide) rfl g1 (Nat.le_of_ble_eq_true rfl) h
theorem bRe_struck_67 {l : Launch} {G : Gx} {d : Nat} {bc bs : Nat} {Φ : OutV → Mm → Prop} (M : Mm) (a0 : Nat) (x1 : Int32) (x2 : Int32) (x3 : Int32) (s0 : Int32)
    (h : ((m_sh M a0).1 = 11) ∧ (¬ s0 = ((1 <<< ((m_i M a0 11) &&& 31)) - 1) → Ev l G d mRe_struck 80 [.ref a0, .int x1, .int x2, .int x3] [] M bc bs Φ) ∧ (s0 = ((1 <<< ((m_i M a0 11) &&& 31)) - 1) → Ev l G d mRe_struck 80 [.ref a0, .int x1, .int x3, .int x3] [] M bc bs Φ)) :
    Ev l G d mRe_struck 67 [.ref a0, .int x1, .int x2, .int x3] [.int s0] M bc bs Φ := by
  refine Ev.iconst (v := 1) dRe_struck_67 (by decide) ?_
  refine Ev.aload_n dRe_struck_68 rfl ?_
  have g1 := h.1
  replace h := h.2
  refine Ev.getI dRe_struck_69 (Or.inl fRe_206) rfl g1 ?_
  refine Ev.ishl dRe_struck_72 ?_
  refine Ev.iconst (v := 1) dRe_struck_73 (by decide) ?_
  refine Ev.isub dRe_struck_74 ?_
  refine Ev.icmp_ne 80 (by decide) dRe_struck_75 (fun c => ?_) (fun c => ?_)
  · replace h := h.1 c
    exact h
  · replace h := h.2 c
    refine Ev.iload_n dRe_struck_78 rfl ?_
    refine Ev.istore_n dRe_struck_79 (by decide) ?_
    show Ev l G d mRe_struck (_ + _) [.ref a0, .int x1, .int x3, .int x3] [] M bc bs Φ
    exact h
theorem bRe_struck_80 {l : Launch} {G : Gx} {d : Nat} {bc bs : Nat} {Φ : OutV → Mm → Prop} (M : Mm) (a0 : Nat) (x1 : Int32) (x2 : Int32) (x3 : Int32)
    (h : Ev l G d mRe_struck 33 [.ref a0, .int x1, .int x2, .int (x3 + 1)] [] M bc bs Φ) :
    Ev l G d mRe_struck 80 [.ref a0, .int x1, .int x2, .int x3] [] M bc bs Φ := by
  refine Ev.iinc (v := x3 + 1) dRe_struck_80 (by decide) rfl rfl ?_
  show Ev l G d mRe_struck (_ + _) [.ref a0, .int x1, .int x2, .int (x3 + 1)] [] M bc bs Φ
  refine Ev.goto 33 dRe_struck_83 (by decide) ?_
  exact h
theorem bRe_struck_95 {l : Launch} {G : Gx} {d : Nat} {bc bs : Nat} {Φ : OutV → Mm → Prop} (M : Mm) (a0 : Nat) (x1 : Int32) (x2 : Int32) (x3 : Int32)
    (h : Ev l G d mRe_struck 103 [.ref a0, .int x1, .int x2, .int x3] [.int x2] M bc bs Φ) :
    Ev l G d mRe_struck 95 [.ref a0, .int x1, .int x2, .int x3] [] M bc bs Φ := by
  refine Ev.iload_n dRe_struck_95 rfl ?_
  refine Ev.goto 103 dRe_struck_96 (by decide) ?_
  exact h
theorem bRe_struck_103 {l : Launch} {G : Gx} {d : Nat} {bc bs : Nat} {Φ : OutV → Mm → Prop} (M : Mm) (a0 : Nat) (x1 : Int32) (x2 : Int32) (x3 : Int32) (s0 : Int32)
    (h : Φ (.inl (some (.int s0))) M) :
    Ev l G d mRe_struck 103 [.ref a0, .int x1, .int x2, .int x3] [.int s0] M bc bs Φ := by
  exact Ev.iret dRe_struck_103 rfl rfl h
theorem dRe_ones_0 : decode mRe_ones.2.1 0 = .ok (.iconst 0, 1) := by decide +kernel
theorem dRe_ones_1 : decode mRe_ones.2.1 1 = .ok (.istore_n 1, 1) := by decide +kernel
theorem dRe_ones_2 : decode mRe_ones.2.1 2 = .ok (.iconst 0, 1) := by decide +kernel
theorem dRe_ones_3 : decode mRe_ones.2.1 3 = .ok (.istore_n 2, 1) := by decide +kernel
theorem dRe_ones_4 : decode mRe_ones.2.1 4 = .ok (.iload_n 2, 1) := by decide +kernel
theorem dRe_ones_5 : decode mRe_ones.2.1 5 = .ok (.bipush 10, 2) := by decide +kernel
theorem dRe_ones_7 : decode mRe_ones.2.1 7 = .ok (.if_icmp .ge 17, 3) := by decide +kernel
theorem dRe_ones_10 : decode mRe_ones.2.1 10 = .ok (.iload_n 1, 1) := by decide +kernel
theorem dRe_ones_11 : decode mRe_ones.2.1 11 = .ok (.iload_n 0, 1) := by decide +kernel
theorem dRe_ones_12 : decode mRe_ones.2.1 12 = .ok (.iload_n 2, 1) := by decide +kernel
theorem dRe_ones_13 : decode mRe_ones.2.1 13 = .ok (.ishr, 1) := by decide +kernel
theorem dRe_ones_14 : decode mRe_ones.2.1 14 = .ok (.iconst 1, 1) := by decide +kernel
theorem dRe_ones_15 : decode mRe_ones.2.1 15 = .ok (.iand, 1) := by decide +kernel
theorem dRe_ones_16 : decode mRe_ones.2.1 16 = .ok (.iadd, 1) := by decide +kernel
theorem dRe_ones_17 : decode mRe_ones.2.1 17 = .ok (.istore_n 1, 1) := by decide +kernel
theorem dRe_ones_18 : decode mRe_ones.2.1 18 = .ok (.iinc 2 1, 3) := by decide +kernel
theorem dRe_ones_21 : decode mRe_ones.2.1 21 = .ok (.goto (-17), 3) := by decide +kernel
theorem dRe_ones_24 : decode mRe_ones.2.1 24 = .ok (.iload_n 1, 1) := by decide +kernel
theorem dRe_ones_25 : decode mRe_ones.2.1 25 = .ok (.ireturn, 1) := by decide +kernel
theorem bRe_ones_0 {l : Launch} {G : Gx} {d : Nat} {bc bs : Nat} {Φ : OutV → Mm → Prop} (M : Mm) (x0 : Int32)
    (h : Ev l G d mRe_ones 4 [.int x0, .int 0, .int 0] [] M bc bs Φ) :
    Ev l G d mRe_ones 0 [.int x0, .null, .null] [] M bc bs Φ := by
  refine Ev.iconst (v := 0) dRe_ones_0 (by decide) ?_
  refine Ev.istore_n dRe_ones_1 (by decide) ?_
  show Ev l G d mRe_ones (_ + _) [.int x0, .int 0, .null] [] M bc bs Φ
  refine Ev.iconst (v := 0) dRe_ones_2 (by decide) ?_
  refine Ev.istore_n dRe_ones_3 (by decide) ?_
  show Ev l G d mRe_ones (_ + _) [.int x0, .int 0, .int 0] [] M bc bs Φ
  exact h
theorem bRe_ones_4 {l : Launch} {G : Gx} {d : Nat} {bc bs : Nat} {Φ : OutV → Mm → Prop} (M : Mm) (x0 : Int32) (x1 : Int32) (x2 : Int32)
    (h : (10 ≤ x2 → Φ (.inl (some (.int x1))) M) ∧ (¬ 10 ≤ x2 → Ev l G d mRe_ones 4 [.int x0, .int (x1 + ((x0 >>> (x2 &&& 31)) &&& 1)), .int (x2 + 1)] [] M bc bs Φ)) :
    Ev l G d mRe_ones 4 [.int x0, .int x1, .int x2] [] M bc bs Φ := by
  refine Ev.iload_n dRe_ones_4 rfl ?_
  refine Ev.bipush (v := 10) dRe_ones_5 (by decide) ?_
  refine Ev.icmp_ge 24 (by decide) dRe_ones_7 (fun c => ?_) (fun c => ?_)
  · replace h := h.1 c
    refine Ev.iload_n dRe_ones_24 rfl ?_
    exact Ev.iret dRe_ones_25 rfl rfl h
  · replace h := h.2 c
    refine Ev.iload_n dRe_ones_10 rfl ?_
    refine Ev.iload_n dRe_ones_11 rfl ?_
    refine Ev.iload_n dRe_ones_12 rfl ?_
    refine Ev.ishr dRe_ones_13 ?_
    refine Ev.iconst (v := 1) dRe_ones_14 (by decide) ?_
    refine Ev.iand dRe_ones_15 ?_
    refine Ev.iadd dRe_ones_16 ?_
    refine Ev.istore_n dRe_ones_17 (by decide) ?_
    show Ev l G d mRe_ones (_ + _) [.int x0, .int (x1 + ((x0 >>> (x2 &&& 31)) &&& 1)), .int x2] [] M bc bs Φ
    refine Ev.iinc (v := x2 + 1) dRe_ones_18 (by decide) rfl rfl ?_
    show Ev l G d mRe_ones (_ + _) [.int x0, .int (x1 + ((x0 >>> (x2 &&& 31)) &&& 1)), .int (x2 + 1)] [] M bc bs Φ
    refine Ev.goto 4 dRe_ones_21 (by decide) ?_
    exact h
theorem dRe_servedWithout_0 : decode mRe_servedWithout.2.1 0 = .ok (.aload_n 0, 1) := by decide +kernel
theorem dRe_servedWithout_1 : decode mRe_servedWithout.2.1 1 = .ok (.iload_n 1, 1) := by decide +kernel
theorem dRe_servedWithout_2 : decode mRe_servedWithout.2.1 2 = .ok (.putfield 275, 3) := by decide +kernel
theorem dRe_servedWithout_5 : decode mRe_servedWithout.2.1 5 = .ok (.aload_n 0, 1) := by decide +kernel
theorem dRe_servedWithout_6 : decode mRe_servedWithout.2.1 6 = .ok (.invokevirtual 362, 3) := by decide +kernel
theorem dRe_servedWithout_9 : decode mRe_servedWithout.2.1 9 = .ok (.aload_n 0, 1) := by decide +kernel
theorem dRe_servedWithout_10 : decode mRe_servedWithout.2.1 10 = .ok (.iconst 0, 1) := by decide +kernel
theorem dRe_servedWithout_11 : decode mRe_servedWithout.2.1 11 = .ok (.putfield 275, 3) := by decide +kernel
theorem dRe_servedWithout_14 : decode mRe_servedWithout.2.1 14 = .ok (.iconst 0, 1) := by decide +kernel
theorem dRe_servedWithout_15 : decode mRe_servedWithout.2.1 15 = .ok (.istore_n 2, 1) := by decide +kernel
theorem dRe_servedWithout_16 : decode mRe_servedWithout.2.1 16 = .ok (.iconst 0, 1) := by decide +kernel
theorem dRe_servedWithout_17 : decode mRe_servedWithout.2.1 17 = .ok (.istore_n 3, 1) := by decide +kernel
theorem dRe_servedWithout_18 : decode mRe_servedWithout.2.1 18 = .ok (.iload_n 3, 1) := by decide +kernel
theorem dRe_servedWithout_19 : decode mRe_servedWithout.2.1 19 = .ok (.aload_n 0, 1) := by decide +kernel
theorem dRe_servedWithout_20 : decode mRe_servedWithout.2.1 20 = .ok (.getfield 206, 3) := by decide +kernel
theorem dRe_servedWithout_23 : decode mRe_servedWithout.2.1 23 = .ok (.if_icmp .ge 29, 3) := by decide +kernel
theorem dRe_servedWithout_26 : decode mRe_servedWithout.2.1 26 = .ok (.iload_n 2, 1) := by decide +kernel
theorem dRe_servedWithout_27 : decode mRe_servedWithout.2.1 27 = .ok (.aload_n 0, 1) := by decide +kernel
theorem dRe_servedWithout_28 : decode mRe_servedWithout.2.1 28 = .ok (.getfield 91, 3) := by decide +kernel
theorem dRe_servedWithout_31 : decode mRe_servedWithout.2.1 31 = .ok (.iload_n 3, 1) := by decide +kernel
theorem dRe_servedWithout_32 : decode mRe_servedWithout.2.1 32 = .ok (.iaload, 1) := by decide +kernel
theorem dRe_servedWithout_33 : decode mRe_servedWithout.2.1 33 = .ok (.iconst (-1), 1) := by decide +kernel
theorem dRe_servedWithout_34 : decode mRe_servedWithout.2.1 34 = .ok (.if_icmp .ne 7, 3) := by decide +kernel
theorem dRe_servedWithout_37 : decode mRe_servedWithout.2.1 37 = .ok (.iconst 0, 1) := by decide +kernel
theorem dRe_servedWithout_38 : decode mRe_servedWithout.2.1 38 = .ok (.goto 6, 3) := by decide +kernel
theorem dRe_servedWithout_41 : decode mRe_servedWithout.2.1 41 = .ok (.iconst 1, 1) := by decide +kernel
theorem dRe_servedWithout_42 : decode mRe_servedWithout.2.1 42 = .ok (.iload_n 3, 1) := by decide +kernel
theorem dRe_servedWithout_43 : decode mRe_servedWithout.2.1 43 = .ok (.ishl, 1) := by decide +kernel
theorem dRe_servedWithout_44 : decode mRe_servedWithout.2.1 44 = .ok (.ior, 1) := by decide +kernel
theorem dRe_servedWithout_45 : decode mRe_servedWithout.2.1 45 = .ok (.istore_n 2, 1) := by decide +kernel
theorem dRe_servedWithout_46 : decode mRe_servedWithout.2.1 46 = .ok (.iinc 3 1, 3) := by decide +kernel
theorem dRe_servedWithout_49 : decode mRe_servedWithout.2.1 49 = .ok (.goto (-31), 3) := by decide +kernel
theorem dRe_servedWithout_52 : decode mRe_servedWithout.2.1 52 = .ok (.iload_n 2, 1) := by decide +kernel
theorem dRe_servedWithout_53 : decode mRe_servedWithout.2.1 53 = .ok (.ireturn, 1) := by decide +kernel
theorem bRe_servedWithout_0 {l : Launch} {G : Gx} {d : Nat} {bc bs : Nat} {Φ : OutV → Mm → Prop} (M : Mm) (a0 : Nat) (x1 : Int32)
    (h : ((m_sh M a0).1 = 11) ∧ CallVC l G d mRe_servedWithout 9 [.ref a0, .int x1, .null, .null] [] mRe_asItIs [.ref a0] (m_si M a0 33 x1) bc bs Φ) :
    Ev l G d mRe_servedWithout 0 [.ref a0, .int x1, .null, .null] [] M bc bs Φ := by
  refine Ev.aload_n dRe_servedWithout_0 rfl ?_
  refine Ev.iload_n dRe_servedWithout_1 rfl ?_
  have g1 := h.1
  replace h := h.2
  refine Ev.putI dRe_servedWithout_2 ⟨_, Or.inl ⟨fRe_275, (fun h => by cases h)⟩⟩ rfl ⟨rfl, rfl⟩ g1 ?_
  refine Ev.aload_n dRe_servedWithout_5 rfl ?_
  exact Ev.vcV (z := mRe_asItIs) (ci := 11) [] [] rfl dRe_servedWithout_6 oRe_asItIs rfl w1661 iRe_asItIs sRe_asItIs (by decide) rfl g1 (Nat.le_of_ble_eq_true rfl) h
theorem bRe_servedWithout_9 {l : Launch} {G : Gx} {d : Nat} {bc bs : Nat} {Φ : OutV → Mm → Prop} (M : Mm) (a0 : Nat) (x1 : Int32) (u2 : Value) (u3 : Value)
    (h : ((m_sh M a0).1 = 11) ∧ Ev l G d mRe_servedWithout 18 [.ref a0, .int x1, .int 0, .int 0] [] (m_si M a0 33 0) bc bs Φ) :
    Ev l G d mRe_servedWithout 9 [.ref a0, .int x1, u2, u3] [] M bc bs Φ := by
  refine Ev.aload_n dRe_servedWithout_9 rfl ?_
  refine Ev.iconst (v := 0) dRe_servedWithout_10 (by decide) ?_
  have g1 := h.1
  replace h := h.2
  refine Ev.putI dRe_servedWithout_11 ⟨_, Or.inl ⟨fRe_275, (fun h => by cases h)⟩⟩ rfl ⟨rfl, rfl⟩ g1 ?_
  refine Ev.iconst (v := 0) dRe_servedWithout_14 (by decide) ?_
  refine Ev.istore_n dRe_servedWithout_15 (by decide) ?_
  show Ev l G d mRe_servedWithout (_ + _) [.ref a0, .int x1, .int 0, u3] [] (m_si M a0 33 0) bc bs Φ
  refine Ev.iconst (v := 0) dRe_servedWithout_16 (by decide) ?_
  refine Ev.istore_n dRe_servedWithout_17 (by decide) ?_
  show Ev l G d mRe_servedWithout (_ + _) [.ref a0, .int x1, .int 0, .int 0] [] (m_si M a0 33 0) bc bs Φ
  exact h
theorem bRe_servedWithout_18 {l : Launch} {G : Gx} {d : Nat} {bc bs : Nat} {Φ : OutV → Mm → Prop} (M : Mm) (a0 : Nat) (x1 : Int32) (x2 : Int32) (x3 : Int32)
    (h : ((m_sh M a0).1 = 11) ∧ ((m_i M a0 11) ≤ x3 → Φ (.inl (some (.int x2))) M) ∧ (¬ (m_i M a0 11) ≤ x3 → ((m_sh M (m_r M a0 51)).1 = 20) ∧ (vp_in x3 (m_sh M (m_r M a0 51)).2) ∧ (¬ (m_i M (m_r M a0 51) x3.toNatClampNeg) = ((-1)) → Ev l G d mRe_servedWithout 18 [.ref a0, .int x1, .int (x2 ||| (1 <<< (x3 &&& 31))), .int (x3 + 1)] [] M bc bs Φ) ∧ ((m_i M (m_r M a0 51) x3.toNatClampNeg) = ((-1)) → Ev l G d mRe_servedWithout 18 [.ref a0, .int x1, .int (x2 ||| 0), .int (x3 + 1)] [] M bc bs Φ))) :
    Ev l G d mRe_servedWithout 18 [.ref a0, .int x1, .int x2, .int x3] [] M bc bs Φ := by
  refine Ev.iload_n dRe_servedWithout_18 rfl ?_
  refine Ev.aload_n dRe_servedWithout_19 rfl ?_
  have g1 := h.1
  replace h := h.2
  refine Ev.getI dRe_servedWithout_20 (Or.inl fRe_206) rfl g1 ?_
  refine Ev.icmp_ge 52 (by decide) dRe_servedWithout_23 (fun c => ?_) (fun c => ?_)
  · replace h := h.1 c
    refine Ev.iload_n dRe_servedWithout_52 rfl ?_
    exact Ev.iret dRe_servedWithout_53 rfl rfl h
  · replace h := h.2 c
    refine Ev.iload_n dRe_servedWithout_26 rfl ?_
    refine Ev.aload_n dRe_servedWithout_27 rfl ?_
    refine Ev.getR dRe_servedWithout_28 (Or.inl fRe_91) rfl g1 ?_
    refine Ev.iload_n dRe_servedWithout_31 rfl ?_
    have g2 := h.1
    replace h := h.2
    have g3 := h.1
    replace h := h.2
    refine Ev.iald2 dRe_servedWithout_32 g2 g3 ?_
    refine Ev.iconst (v := (-1)) dRe_servedWithout_33 (by decide) ?_
    refine Ev.icmp_ne 41 (by decide) dRe_servedWithout_34 (fun c => ?_) (fun c => ?_)
    · replace h := h.1 c
      refine Ev.iconst (v := 1) dRe_servedWithout_41 (by decide) ?_
      refine Ev.iload_n dRe_servedWithout_42 rfl ?_
      refine Ev.ishl dRe_servedWithout_43 ?_
      refine Ev.ior dRe_servedWithout_44 ?_
      refine Ev.istore_n dRe_servedWithout_45 (by decide) ?_
      show Ev l G d mRe_servedWithout (_ + _) [.ref a0, .int x1, .int (x2 ||| (1 <<< (x3 &&& 31))), .int x3] [] M bc bs Φ
      refine Ev.iinc (v := x3 + 1) dRe_servedWithout_46 (by decide) rfl rfl ?_
      show Ev l G d mRe_servedWithout (_ + _) [.ref a0, .int x1, .int (x2 ||| (1 <<< (x3 &&& 31))), .int (x3 + 1)] [] M bc bs Φ
      refine Ev.goto 18 dRe_servedWithout_49 (by decide) ?_
      exact h
    · replace h := h.2 c
      refine Ev.iconst (v := 0) dRe_servedWithout_37 (by decide) ?_
      refine Ev.goto 44 dRe_servedWithout_38 (by decide) ?_
      refine Ev.ior dRe_servedWithout_44 ?_
      refine Ev.istore_n dRe_servedWithout_45 (by decide) ?_
      show Ev l G d mRe_servedWithout (_ + _) [.ref a0, .int x1, .int (x2 ||| 0), .int x3] [] M bc bs Φ
      refine Ev.iinc (v := x3 + 1) dRe_servedWithout_46 (by decide) rfl rfl ?_
      show Ev l G d mRe_servedWithout (_ + _) [.ref a0, .int x1, .int (x2 ||| 0), .int (x3 + 1)] [] M bc bs Φ
      refine Ev.goto 18 dRe_servedWithout_49 (by decide) ?_
      exact h
def mRe_hopeless : MR := (⟨"BowingRowModel", "hopeless", "()I"⟩, prog_14_method_87_code, 3, (Option.some .int))
theorem oRe_hopeless : MOK mRe_hopeless 0 := ⟨lwg_of 1810 (by decide +kernel) (by decide +kernel), lwg_of 103 (by decide +kernel) (by decide +kernel), ⟨by decide +kernel, by decide +kernel⟩, by decide +kernel, by decide⟩
theorem iRe_hopeless : Cond.instanceMethod mRe_hopeless.1 ∈ lwg := lwg_of 1808 (by decide +kernel) (by decide +kernel)
theorem sRe_hopeless : Cond.selects mRe_hopeless.1.cls mRe_hopeless.1 mRe_hopeless.1 ∈ lwg := lwg_of 1809 (by decide +kernel) (by decide +kernel)
theorem dRe_hopeless_0 : decode mRe_hopeless.2.1 0 = .ok (.aload_n 0, 1) := by decide +kernel
theorem dRe_hopeless_1 : decode mRe_hopeless.2.1 1 = .ok (.iconst 0, 1) := by decide +kernel
theorem dRe_hopeless_2 : decode mRe_hopeless.2.1 2 = .ok (.putfield 115, 3) := by decide +kernel
theorem dRe_hopeless_5 : decode mRe_hopeless.2.1 5 = .ok (.iconst 0, 1) := by decide +kernel
theorem dRe_hopeless_6 : decode mRe_hopeless.2.1 6 = .ok (.istore_n 1, 1) := by decide +kernel
theorem dRe_hopeless_7 : decode mRe_hopeless.2.1 7 = .ok (.iconst 0, 1) := by decide +kernel
theorem dRe_hopeless_8 : decode mRe_hopeless.2.1 8 = .ok (.istore_n 2, 1) := by decide +kernel
theorem dRe_hopeless_9 : decode mRe_hopeless.2.1 9 = .ok (.iload_n 2, 1) := by decide +kernel
theorem dRe_hopeless_10 : decode mRe_hopeless.2.1 10 = .ok (.iconst 1, 1) := by decide +kernel
theorem dRe_hopeless_11 : decode mRe_hopeless.2.1 11 = .ok (.aload_n 0, 1) := by decide +kernel
theorem dRe_hopeless_12 : decode mRe_hopeless.2.1 12 = .ok (.getfield 234, 3) := by decide +kernel
theorem dRe_hopeless_15 : decode mRe_hopeless.2.1 15 = .ok (.ishl, 1) := by decide +kernel
theorem dRe_hopeless_16 : decode mRe_hopeless.2.1 16 = .ok (.if_icmp .ge 17, 3) := by decide +kernel
theorem dRe_hopeless_19 : decode mRe_hopeless.2.1 19 = .ok (.iload_n 1, 1) := by decide +kernel
theorem dRe_hopeless_20 : decode mRe_hopeless.2.1 20 = .ok (.aload_n 0, 1) := by decide +kernel
theorem dRe_hopeless_21 : decode mRe_hopeless.2.1 21 = .ok (.iload_n 2, 1) := by decide +kernel
theorem dRe_hopeless_22 : decode mRe_hopeless.2.1 22 = .ok (.invokevirtual 393, 3) := by decide +kernel
theorem dRe_hopeless_25 : decode mRe_hopeless.2.1 25 = .ok (.ior, 1) := by decide +kernel
theorem dRe_hopeless_26 : decode mRe_hopeless.2.1 26 = .ok (.istore_n 1, 1) := by decide +kernel
theorem dRe_hopeless_27 : decode mRe_hopeless.2.1 27 = .ok (.iinc 2 1, 3) := by decide +kernel
theorem dRe_hopeless_30 : decode mRe_hopeless.2.1 30 = .ok (.goto (-21), 3) := by decide +kernel
theorem dRe_hopeless_33 : decode mRe_hopeless.2.1 33 = .ok (.iconst 1, 1) := by decide +kernel
theorem dRe_hopeless_34 : decode mRe_hopeless.2.1 34 = .ok (.aload_n 0, 1) := by decide +kernel
theorem dRe_hopeless_35 : decode mRe_hopeless.2.1 35 = .ok (.getfield 206, 3) := by decide +kernel
theorem dRe_hopeless_38 : decode mRe_hopeless.2.1 38 = .ok (.ishl, 1) := by decide +kernel
theorem dRe_hopeless_39 : decode mRe_hopeless.2.1 39 = .ok (.iconst 1, 1) := by decide +kernel
theorem dRe_hopeless_40 : decode mRe_hopeless.2.1 40 = .ok (.isub, 1) := by decide +kernel
theorem dRe_hopeless_41 : decode mRe_hopeless.2.1 41 = .ok (.iload_n 1, 1) := by decide +kernel
theorem dRe_hopeless_42 : decode mRe_hopeless.2.1 42 = .ok (.iconst (-1), 1) := by decide +kernel
theorem dRe_hopeless_43 : decode mRe_hopeless.2.1 43 = .ok (.ixor, 1) := by decide +kernel
theorem dRe_hopeless_44 : decode mRe_hopeless.2.1 44 = .ok (.iand, 1) := by decide +kernel
theorem dRe_hopeless_45 : decode mRe_hopeless.2.1 45 = .ok (.ireturn, 1) := by decide +kernel
theorem bRe_hopeless_0 {l : Launch} {G : Gx} {d : Nat} {bc bs : Nat} {Φ : OutV → Mm → Prop} (M : Mm) (a0 : Nat)
    (h : ((m_sh M a0).1 = 11) ∧ Ev l G d mRe_hopeless 9 [.ref a0, .int 0, .int 0] [] (m_si M a0 0 0) bc bs Φ) :
    Ev l G d mRe_hopeless 0 [.ref a0, .null, .null] [] M bc bs Φ := by
  refine Ev.aload_n dRe_hopeless_0 rfl ?_
  refine Ev.iconst (v := 0) dRe_hopeless_1 (by decide) ?_
  have g1 := h.1
  replace h := h.2
  refine Ev.putI dRe_hopeless_2 ⟨_, Or.inl ⟨fRe_115, (fun h => by cases h)⟩⟩ rfl ⟨rfl, rfl⟩ g1 ?_
  refine Ev.iconst (v := 0) dRe_hopeless_5 (by decide) ?_
  refine Ev.istore_n dRe_hopeless_6 (by decide) ?_
  show Ev l G d mRe_hopeless (_ + _) [.ref a0, .int 0, .null] [] (m_si M a0 0 0) bc bs Φ
  refine Ev.iconst (v := 0) dRe_hopeless_7 (by decide) ?_
  refine Ev.istore_n dRe_hopeless_8 (by decide) ?_
  show Ev l G d mRe_hopeless (_ + _) [.ref a0, .int 0, .int 0] [] (m_si M a0 0 0) bc bs Φ
  exact h
theorem bRe_hopeless_9 {l : Launch} {G : Gx} {d : Nat} {bc bs : Nat} {Φ : OutV → Mm → Prop} (M : Mm) (a0 : Nat) (x1 : Int32) (x2 : Int32)
    (h : ((m_sh M a0).1 = 11) ∧ ((1 <<< ((m_i M a0 15) &&& 31)) ≤ x2 → Φ (.inl (some (.int (((1 <<< ((m_i M a0 11) &&& 31)) - 1) &&& (x1 ^^^ ((-1))))))) M) ∧ (¬ (1 <<< ((m_i M a0 15) &&& 31)) ≤ x2 → CallVC l G d mRe_hopeless 25 [.ref a0, .int x1, .int x2] [.int x1] mRe_servedWithout [.ref a0, .int x2] M bc bs Φ)) :
    Ev l G d mRe_hopeless 9 [.ref a0, .int x1, .int x2] [] M bc bs Φ := by
  refine Ev.iload_n dRe_hopeless_9 rfl ?_
  refine Ev.iconst (v := 1) dRe_hopeless_10 (by decide) ?_
  refine Ev.aload_n dRe_hopeless_11 rfl ?_
  have g1 := h.1
  replace h := h.2
  refine Ev.getI dRe_hopeless_12 (Or.inl fRe_234) rfl g1 ?_
  refine Ev.ishl dRe_hopeless_15 ?_
  refine Ev.icmp_ge 33 (by decide) dRe_hopeless_16 (fun c => ?_) (fun c => ?_)
  · replace h := h.1 c
    refine Ev.iconst (v := 1) dRe_hopeless_33 (by decide) ?_
    refine Ev.aload_n dRe_hopeless_34 rfl ?_
    refine Ev.getI dRe_hopeless_35 (Or.inl fRe_206) rfl g1 ?_
    refine Ev.ishl dRe_hopeless_38 ?_
    refine Ev.iconst (v := 1) dRe_hopeless_39 (by decide) ?_
    refine Ev.isub dRe_hopeless_40 ?_
    refine Ev.iload_n dRe_hopeless_41 rfl ?_
    refine Ev.iconst (v := (-1)) dRe_hopeless_42 (by decide) ?_
    refine Ev.ixor dRe_hopeless_43 ?_
    refine Ev.iand dRe_hopeless_44 ?_
    exact Ev.iret dRe_hopeless_45 rfl rfl h
  · replace h := h.2 c
    refine Ev.iload_n dRe_hopeless_19 rfl ?_
    refine Ev.aload_n dRe_hopeless_20 rfl ?_
    refine Ev.iload_n dRe_hopeless_21 rfl ?_
    exact Ev.vcV (z := mRe_servedWithout) (ci := 11) [.int x2] [.int x1] rfl dRe_hopeless_22 oRe_servedWithout rfl w1803 iRe_servedWithout sRe_servedWithout (by decide) rfl g1 (Nat.le_of_ble_eq_true rfl) h
theorem bRe_hopeless_25 {l : Launch} {G : Gx} {d : Nat} {bc bs : Nat} {Φ : OutV → Mm → Prop} (M : Mm) (a0 : Nat) (x1 : Int32) (x2 : Int32) (s0 : Int32) (s1 : Int32)
    (h : Ev l G d mRe_hopeless 9 [.ref a0, .int (s0 ||| s1), .int (x2 + 1)] [] M bc bs Φ) :
    Ev l G d mRe_hopeless 25 [.ref a0, .int x1, .int x2] [.int s1, .int s0] M bc bs Φ := by
  refine Ev.ior dRe_hopeless_25 ?_
  refine Ev.istore_n dRe_hopeless_26 (by decide) ?_
  show Ev l G d mRe_hopeless (_ + _) [.ref a0, .int (s0 ||| s1), .int x2] [] M bc bs Φ
  refine Ev.iinc (v := x2 + 1) dRe_hopeless_27 (by decide) rfl rfl ?_
  show Ev l G d mRe_hopeless (_ + _) [.ref a0, .int (s0 ||| s1), .int (x2 + 1)] [] M bc bs Φ
  refine Ev.goto 9 dRe_hopeless_30 (by decide) ?_
  exact h
def mRe_image : MR := (⟨"BowingRowModel", "image", "()I"⟩, prog_14_method_89_code, 1, (Option.some .int))
theorem oRe_image : MOK mRe_image 0 := ⟨lwg_of 1814 (by decide +kernel) (by decide +kernel), lwg_of 103 (by decide +kernel) (by decide +kernel), ⟨by decide +kernel, by decide +kernel⟩, by decide +kernel, by decide⟩
theorem iRe_image : Cond.instanceMethod mRe_image.1 ∈ lwg := lwg_of 1812 (by decide +kernel) (by decide +kernel)
theorem sRe_image : Cond.selects mRe_image.1.cls mRe_image.1 mRe_image.1 ∈ lwg := lwg_of 1813 (by decide +kernel) (by decide +kernel)
theorem dRe_image_0 : decode mRe_image.2.1 0 = .ok (.aload_n 0, 1) := by decide +kernel
theorem dRe_image_1 : decode mRe_image.2.1 1 = .ok (.iconst 0, 1) := by decide +kernel
theorem dRe_image_2 : decode mRe_image.2.1 2 = .ok (.putfield 115, 3) := by decide +kernel
theorem dRe_image_5 : decode mRe_image.2.1 5 = .ok (.aload_n 0, 1) := by decide +kernel
theorem dRe_image_6 : decode mRe_image.2.1 6 = .ok (.getfield 212, 3) := by decide +kernel
theorem dRe_image_9 : decode mRe_image.2.1 9 = .ok (.iconst 3, 1) := by decide +kernel
theorem dRe_image_10 : decode mRe_image.2.1 10 = .ok (.if_icmp .ne 5, 3) := by decide +kernel
theorem dRe_image_13 : decode mRe_image.2.1 13 = .ok (.iconst (-1), 1) := by decide +kernel
theorem dRe_image_14 : decode mRe_image.2.1 14 = .ok (.ireturn, 1) := by decide +kernel
theorem dRe_image_15 : decode mRe_image.2.1 15 = .ok (.aload_n 0, 1) := by decide +kernel
theorem dRe_image_16 : decode mRe_image.2.1 16 = .ok (.aload_n 0, 1) := by decide +kernel
theorem dRe_image_17 : decode mRe_image.2.1 17 = .ok (.getfield 58, 3) := by decide +kernel
theorem dRe_image_20 : decode mRe_image.2.1 20 = .ok (.aload_n 0, 1) := by decide +kernel
theorem dRe_image_21 : decode mRe_image.2.1 21 = .ok (.getfield 212, 3) := by decide +kernel
theorem dRe_image_24 : decode mRe_image.2.1 24 = .ok (.aaload, 1) := by decide +kernel
theorem dRe_image_25 : decode mRe_image.2.1 25 = .ok (.iconst 0, 1) := by decide +kernel
theorem dRe_image_26 : decode mRe_image.2.1 26 = .ok (.invokevirtual 396, 3) := by decide +kernel
theorem dRe_image_29 : decode mRe_image.2.1 29 = .ok (.aload_n 0, 1) := by decide +kernel
theorem dRe_image_30 : decode mRe_image.2.1 30 = .ok (.dup, 1) := by decide +kernel
theorem dRe_image_31 : decode mRe_image.2.1 31 = .ok (.getfield 212, 3) := by decide +kernel
theorem dRe_image_34 : decode mRe_image.2.1 34 = .ok (.iconst 1, 1) := by decide +kernel
theorem dRe_image_35 : decode mRe_image.2.1 35 = .ok (.iadd, 1) := by decide +kernel
theorem dRe_image_36 : decode mRe_image.2.1 36 = .ok (.putfield 212, 3) := by decide +kernel
theorem dRe_image_39 : decode mRe_image.2.1 39 = .ok (.aload_n 0, 1) := by decide +kernel
theorem dRe_image_40 : decode mRe_image.2.1 40 = .ok (.getfield 212, 3) := by decide +kernel
theorem dRe_image_43 : decode mRe_image.2.1 43 = .ok (.ireturn, 1) := by decide +kernel
def mRe_moves : MR := (⟨"BowingRowModel", "moves", "([IZ)V"⟩, prog_14_method_88_code, 4, none)
theorem oRe_moves : MOK mRe_moves 2 := ⟨lwg_of 1818 (by decide +kernel) (by decide +kernel), lwg_of 103 (by decide +kernel) (by decide +kernel), ⟨by decide +kernel, by decide +kernel⟩, by decide +kernel, by decide⟩
theorem iRe_moves : Cond.instanceMethod mRe_moves.1 ∈ lwg := lwg_of 1817 (by decide +kernel) (by decide +kernel)
theorem sRe_moves : Cond.selects mRe_moves.1.cls mRe_moves.1 mRe_moves.1 ∈ lwg := lwg_of 89 (by decide +kernel) (by decide +kernel)
theorem w1815 : Cond.methodLink "BowingRowModel" 396 ⟨"BowingRowModel", "moves", "([IZ)V"⟩ ∈ lwg := lwg_of 1815 (by decide +kernel) (by decide +kernel)
theorem bRe_image_0 {l : Launch} {G : Gx} {d : Nat} {bc bs : Nat} {Φ : OutV → Mm → Prop} (M : Mm) (a0 : Nat)
    (h : ((m_sh M a0).1 = 11) ∧ (¬ (m_i (m_si M a0 0 0) a0 28) = 3 → ((m_sh M (m_r M a0 30)).1 = 33) ∧ (vp_in (m_i (m_si M a0 0 0) a0 28) (m_sh M (m_r M a0 30)).2) ∧ CallVC l G d mRe_image 29 [.ref a0] [] mRe_moves [.ref a0, .ref (m_r M (m_r M a0 30) (m_i (m_si M a0 0 0) a0 28).toNatClampNeg), .int 0] (m_si M a0 0 0) bc bs Φ) ∧ ((m_i (m_si M a0 0 0) a0 28) = 3 → Φ (.inl (some (.int ((-1))))) (m_si M a0 0 0))) :
    Ev l G d mRe_image 0 [.ref a0] [] M bc bs Φ := by
  refine Ev.aload_n dRe_image_0 rfl ?_
  refine Ev.iconst (v := 0) dRe_image_1 (by decide) ?_
  have g1 := h.1
  replace h := h.2
  refine Ev.putI dRe_image_2 ⟨_, Or.inl ⟨fRe_115, (fun h => by cases h)⟩⟩ rfl ⟨rfl, rfl⟩ g1 ?_
  refine Ev.aload_n dRe_image_5 rfl ?_
  refine Ev.getI dRe_image_6 (Or.inl fRe_212) rfl g1 ?_
  refine Ev.iconst (v := 3) dRe_image_9 (by decide) ?_
  refine Ev.icmp_ne 15 (by decide) dRe_image_10 (fun c => ?_) (fun c => ?_)
  · replace h := h.1 c
    refine Ev.aload_n dRe_image_15 rfl ?_
    refine Ev.aload_n dRe_image_16 rfl ?_
    refine Ev.getR dRe_image_17 (Or.inl fRe_58) rfl g1 ?_
    refine Ev.aload_n dRe_image_20 rfl ?_
    refine Ev.getI dRe_image_21 (Or.inl fRe_212) rfl g1 ?_
    have g2 := h.1
    replace h := h.2
    have g3 := h.1
    replace h := h.2
    refine Ev.aald2 33 (by decide) dRe_image_24 g2 g3 ?_
    refine Ev.iconst (v := 0) dRe_image_25 (by decide) ?_
    exact Ev.vcV (z := mRe_moves) (ci := 11) [.ref (m_r M (m_r M a0 30) (m_i (m_si M a0 0 0) a0 28).toNatClampNeg), .int 0] [] rfl dRe_image_26 oRe_moves rfl w1815 iRe_moves sRe_moves (by decide) rfl g1 (Nat.le_of_ble_eq_true rfl) h
  · replace h := h.2 c
    refine Ev.iconst (v := (-1)) dRe_image_13 (by decide) ?_
    exact Ev.iret dRe_image_14 rfl rfl h
theorem bRe_image_29 {l : Launch} {G : Gx} {d : Nat} {bc bs : Nat} {Φ : OutV → Mm → Prop} (M : Mm) (a0 : Nat)
    (h : ((m_sh M a0).1 = 11) ∧ Φ (.inl (some (.int (m_i (m_si M a0 28 ((m_i M a0 28) + 1)) a0 28)))) (m_si M a0 28 ((m_i M a0 28) + 1))) :
    Ev l G d mRe_image 29 [.ref a0] [] M bc bs Φ := by
  refine Ev.aload_n dRe_image_29 rfl ?_
  refine Ev.dup dRe_image_30 rfl ?_
  have g1 := h.1
  replace h := h.2
  refine Ev.getI dRe_image_31 (Or.inl fRe_212) rfl g1 ?_
  refine Ev.iconst (v := 1) dRe_image_34 (by decide) ?_
  refine Ev.iadd dRe_image_35 ?_
  refine Ev.putI dRe_image_36 ⟨_, Or.inl ⟨fRe_212, (fun h => by cases h)⟩⟩ rfl ⟨rfl, rfl⟩ g1 ?_
  refine Ev.aload_n dRe_image_39 rfl ?_
  refine Ev.getI dRe_image_40 (Or.inl fRe_212) rfl g1 ?_
  exact Ev.iret dRe_image_43 rfl rfl h
theorem dRe_moves_0 : decode mRe_moves.2.1 0 = .ok (.iload_n 2, 1) := by decide +kernel
theorem dRe_moves_1 : decode mRe_moves.2.1 1 = .ok (.ifCond .ne 10, 3) := by decide +kernel
theorem dRe_moves_4 : decode mRe_moves.2.1 4 = .ok (.aload_n 1, 1) := by decide +kernel
theorem dRe_moves_5 : decode mRe_moves.2.1 5 = .ok (.iconst 0, 1) := by decide +kernel
theorem dRe_moves_6 : decode mRe_moves.2.1 6 = .ok (.aload_n 0, 1) := by decide +kernel
theorem dRe_moves_7 : decode mRe_moves.2.1 7 = .ok (.getfield 209, 3) := by decide +kernel
theorem dRe_moves_10 : decode mRe_moves.2.1 10 = .ok (.iastore, 1) := by decide +kernel
theorem dRe_moves_11 : decode mRe_moves.2.1 11 = .ok (.aload_n 0, 1) := by decide +kernel
theorem dRe_moves_12 : decode mRe_moves.2.1 12 = .ok (.aload_n 1, 1) := by decide +kernel
theorem dRe_moves_13 : decode mRe_moves.2.1 13 = .ok (.iconst 0, 1) := by decide +kernel
theorem dRe_moves_14 : decode mRe_moves.2.1 14 = .ok (.iaload, 1) := by decide +kernel
theorem dRe_moves_15 : decode mRe_moves.2.1 15 = .ok (.putfield 209, 3) := by decide +kernel
theorem dRe_moves_18 : decode mRe_moves.2.1 18 = .ok (.iconst 0, 1) := by decide +kernel
theorem dRe_moves_19 : decode mRe_moves.2.1 19 = .ok (.istore_n 3, 1) := by decide +kernel
theorem dRe_moves_20 : decode mRe_moves.2.1 20 = .ok (.iload_n 3, 1) := by decide +kernel
theorem dRe_moves_21 : decode mRe_moves.2.1 21 = .ok (.bipush 8, 2) := by decide +kernel
theorem dRe_moves_23 : decode mRe_moves.2.1 23 = .ok (.if_icmp .ge 93, 3) := by decide +kernel
theorem dRe_moves_26 : decode mRe_moves.2.1 26 = .ok (.iload_n 2, 1) := by decide +kernel
theorem dRe_moves_27 : decode mRe_moves.2.1 27 = .ok (.ifCond .ne 43, 3) := by decide +kernel
theorem dRe_moves_30 : decode mRe_moves.2.1 30 = .ok (.aload_n 1, 1) := by decide +kernel
theorem dRe_moves_31 : decode mRe_moves.2.1 31 = .ok (.iconst 1, 1) := by decide +kernel
theorem dRe_moves_32 : decode mRe_moves.2.1 32 = .ok (.iload_n 3, 1) := by decide +kernel
theorem dRe_moves_33 : decode mRe_moves.2.1 33 = .ok (.iadd, 1) := by decide +kernel
theorem dRe_moves_34 : decode mRe_moves.2.1 34 = .ok (.aload_n 0, 1) := by decide +kernel
theorem dRe_moves_35 : decode mRe_moves.2.1 35 = .ok (.getfield 55, 3) := by decide +kernel
theorem dRe_moves_38 : decode mRe_moves.2.1 38 = .ok (.iload_n 3, 1) := by decide +kernel
theorem dRe_moves_39 : decode mRe_moves.2.1 39 = .ok (.iaload, 1) := by decide +kernel
theorem dRe_moves_40 : decode mRe_moves.2.1 40 = .ok (.iastore, 1) := by decide +kernel
theorem dRe_moves_41 : decode mRe_moves.2.1 41 = .ok (.aload_n 1, 1) := by decide +kernel
theorem dRe_moves_42 : decode mRe_moves.2.1 42 = .ok (.bipush 9, 2) := by decide +kernel
theorem dRe_moves_44 : decode mRe_moves.2.1 44 = .ok (.iload_n 3, 1) := by decide +kernel
theorem dRe_moves_45 : decode mRe_moves.2.1 45 = .ok (.iadd, 1) := by decide +kernel
theorem dRe_moves_46 : decode mRe_moves.2.1 46 = .ok (.aload_n 0, 1) := by decide +kernel
theorem dRe_moves_47 : decode mRe_moves.2.1 47 = .ok (.getfield 22, 3) := by decide +kernel
theorem dRe_moves_50 : decode mRe_moves.2.1 50 = .ok (.iload_n 3, 1) := by decide +kernel
theorem dRe_moves_51 : decode mRe_moves.2.1 51 = .ok (.aaload, 1) := by decide +kernel
theorem dRe_moves_52 : decode mRe_moves.2.1 52 = .ok (.iconst 5, 1) := by decide +kernel
theorem dRe_moves_53 : decode mRe_moves.2.1 53 = .ok (.iaload, 1) := by decide +kernel
theorem dRe_moves_54 : decode mRe_moves.2.1 54 = .ok (.iastore, 1) := by decide +kernel
theorem dRe_moves_55 : decode mRe_moves.2.1 55 = .ok (.aload_n 1, 1) := by decide +kernel
theorem dRe_moves_56 : decode mRe_moves.2.1 56 = .ok (.bipush 17, 2) := by decide +kernel
theorem dRe_moves_58 : decode mRe_moves.2.1 58 = .ok (.iload_n 3, 1) := by decide +kernel
theorem dRe_moves_59 : decode mRe_moves.2.1 59 = .ok (.iadd, 1) := by decide +kernel
theorem dRe_moves_60 : decode mRe_moves.2.1 60 = .ok (.aload_n 0, 1) := by decide +kernel
theorem dRe_moves_61 : decode mRe_moves.2.1 61 = .ok (.getfield 22, 3) := by decide +kernel
theorem dRe_moves_64 : decode mRe_moves.2.1 64 = .ok (.iload_n 3, 1) := by decide +kernel
theorem dRe_moves_65 : decode mRe_moves.2.1 65 = .ok (.aaload, 1) := by decide +kernel
theorem dRe_moves_66 : decode mRe_moves.2.1 66 = .ok (.bipush 6, 2) := by decide +kernel
theorem dRe_moves_68 : decode mRe_moves.2.1 68 = .ok (.iaload, 1) := by decide +kernel
theorem dRe_moves_69 : decode mRe_moves.2.1 69 = .ok (.iastore, 1) := by decide +kernel
theorem dRe_moves_70 : decode mRe_moves.2.1 70 = .ok (.aload_n 0, 1) := by decide +kernel
theorem dRe_moves_71 : decode mRe_moves.2.1 71 = .ok (.getfield 55, 3) := by decide +kernel
theorem dRe_moves_74 : decode mRe_moves.2.1 74 = .ok (.iload_n 3, 1) := by decide +kernel
theorem dRe_moves_75 : decode mRe_moves.2.1 75 = .ok (.aload_n 1, 1) := by decide +kernel
theorem dRe_moves_76 : decode mRe_moves.2.1 76 = .ok (.iconst 1, 1) := by decide +kernel
theorem dRe_moves_77 : decode mRe_moves.2.1 77 = .ok (.iload_n 3, 1) := by decide +kernel
theorem dRe_moves_78 : decode mRe_moves.2.1 78 = .ok (.iadd, 1) := by decide +kernel
theorem dRe_moves_79 : decode mRe_moves.2.1 79 = .ok (.iaload, 1) := by decide +kernel
theorem dRe_moves_80 : decode mRe_moves.2.1 80 = .ok (.iastore, 1) := by decide +kernel
theorem dRe_moves_81 : decode mRe_moves.2.1 81 = .ok (.aload_n 0, 1) := by decide +kernel
theorem dRe_moves_82 : decode mRe_moves.2.1 82 = .ok (.getfield 22, 3) := by decide +kernel
theorem dRe_moves_85 : decode mRe_moves.2.1 85 = .ok (.iload_n 3, 1) := by decide +kernel
theorem dRe_moves_86 : decode mRe_moves.2.1 86 = .ok (.aaload, 1) := by decide +kernel
theorem dRe_moves_87 : decode mRe_moves.2.1 87 = .ok (.iconst 5, 1) := by decide +kernel
theorem dRe_moves_88 : decode mRe_moves.2.1 88 = .ok (.aload_n 1, 1) := by decide +kernel
theorem dRe_moves_89 : decode mRe_moves.2.1 89 = .ok (.bipush 9, 2) := by decide +kernel
theorem dRe_moves_91 : decode mRe_moves.2.1 91 = .ok (.iload_n 3, 1) := by decide +kernel
theorem dRe_moves_92 : decode mRe_moves.2.1 92 = .ok (.iadd, 1) := by decide +kernel
theorem dRe_moves_93 : decode mRe_moves.2.1 93 = .ok (.iaload, 1) := by decide +kernel
theorem dRe_moves_94 : decode mRe_moves.2.1 94 = .ok (.iastore, 1) := by decide +kernel
theorem dRe_moves_95 : decode mRe_moves.2.1 95 = .ok (.aload_n 0, 1) := by decide +kernel
theorem dRe_moves_96 : decode mRe_moves.2.1 96 = .ok (.getfield 22, 3) := by decide +kernel
theorem dRe_moves_99 : decode mRe_moves.2.1 99 = .ok (.iload_n 3, 1) := by decide +kernel
theorem dRe_moves_100 : decode mRe_moves.2.1 100 = .ok (.aaload, 1) := by decide +kernel
theorem dRe_moves_101 : decode mRe_moves.2.1 101 = .ok (.bipush 6, 2) := by decide +kernel
theorem dRe_moves_103 : decode mRe_moves.2.1 103 = .ok (.aload_n 1, 1) := by decide +kernel
theorem dRe_moves_104 : decode mRe_moves.2.1 104 = .ok (.bipush 17, 2) := by decide +kernel
theorem dRe_moves_106 : decode mRe_moves.2.1 106 = .ok (.iload_n 3, 1) := by decide +kernel
theorem dRe_moves_107 : decode mRe_moves.2.1 107 = .ok (.iadd, 1) := by decide +kernel
theorem dRe_moves_108 : decode mRe_moves.2.1 108 = .ok (.iaload, 1) := by decide +kernel
theorem dRe_moves_109 : decode mRe_moves.2.1 109 = .ok (.iastore, 1) := by decide +kernel
theorem dRe_moves_110 : decode mRe_moves.2.1 110 = .ok (.iinc 3 1, 3) := by decide +kernel
theorem dRe_moves_113 : decode mRe_moves.2.1 113 = .ok (.goto (-93), 3) := by decide +kernel
theorem dRe_moves_116 : decode mRe_moves.2.1 116 = .ok (.return_, 1) := by decide +kernel
theorem bRe_moves_0 {l : Launch} {G : Gx} {d : Nat} {bc bs : Nat} {Φ : OutV → Mm → Prop} (M : Mm) (a0 : Nat) (a1 : Nat) (x2 : Int32)
    (h : (¬ x2 = 0 → Ev l G d mRe_moves 11 [.ref a0, .ref a1, .int x2, .null] [] M bc bs Φ) ∧ (x2 = 0 → ((m_sh M a0).1 = 11) ∧ ((m_sh M a1).1 = 20) ∧ (vp_in 0 (m_sh M a1).2) ∧ Ev l G d mRe_moves 11 [.ref a0, .ref a1, .int x2, .null] [] (m_si M a1 (0 : Int32).toNatClampNeg (m_i M a0 27)) bc bs Φ)) :
    Ev l G d mRe_moves 0 [.ref a0, .ref a1, .int x2, .null] [] M bc bs Φ := by
  refine Ev.iload_n dRe_moves_0 rfl ?_
  refine Ev.if_ne 11 (by decide) dRe_moves_1 (fun c => ?_) (fun c => ?_)
  · replace h := h.1 c
    exact h
  · replace h := h.2 c
    refine Ev.aload_n dRe_moves_4 rfl ?_
    refine Ev.iconst (v := 0) dRe_moves_5 (by decide) ?_
    refine Ev.aload_n dRe_moves_6 rfl ?_
    have g1 := h.1
    replace h := h.2
    refine Ev.getI dRe_moves_7 (Or.inl fRe_209) rfl g1 ?_
    have g2 := h.1
    replace h := h.2
    have g3 := h.1
    replace h := h.2
    refine Ev.iast2 dRe_moves_10 g2 g3 ?_
    exact h
theorem bRe_moves_11 {l : Launch} {G : Gx} {d : Nat} {bc bs : Nat} {Φ : OutV → Mm → Prop} (M : Mm) (a0 : Nat) (a1 : Nat) (x2 : Int32) (u3 : Value)
    (h : ((m_sh M a1).1 = 20) ∧ (vp_in 0 (m_sh M a1).2) ∧ ((m_sh M a0).1 = 11) ∧ Ev l G d mRe_moves 20 [.ref a0, .ref a1, .int x2, .int 0] [] (m_si M a0 27 (m_i M a1 (0 : Int32).toNatClampNeg)) bc bs Φ) :
    Ev l G d mRe_moves 11 [.ref a0, .ref a1, .int x2, u3] [] M bc bs Φ := by
  refine Ev.aload_n dRe_moves_11 rfl ?_
  refine Ev.aload_n dRe_moves_12 rfl ?_
  refine Ev.iconst (v := 0) dRe_moves_13 (by decide) ?_
  have g1 := h.1
  replace h := h.2
  have g2 := h.1
  replace h := h.2
  refine Ev.iald2 dRe_moves_14 g1 g2 ?_
  have g3 := h.1
  replace h := h.2
  refine Ev.putI dRe_moves_15 ⟨_, Or.inl ⟨fRe_209, (fun h => by cases h)⟩⟩ rfl ⟨rfl, rfl⟩ g3 ?_
  refine Ev.iconst (v := 0) dRe_moves_18 (by decide) ?_
  refine Ev.istore_n dRe_moves_19 (by decide) ?_
  show Ev l G d mRe_moves (_ + _) [.ref a0, .ref a1, .int x2, .int 0] [] (m_si M a0 27 (m_i M a1 (0 : Int32).toNatClampNeg)) bc bs Φ
  exact h
theorem bRe_moves_20 {l : Launch} {G : Gx} {d : Nat} {bc bs : Nat} {Φ : OutV → Mm → Prop} (M : Mm) (a0 : Nat) (a1 : Nat) (x2 : Int32) (x3 : Int32)
    (h : (8 ≤ x3 → Φ (.inl none) M) ∧ (¬ 8 ≤ x3 → (¬ x2 = 0 → Ev l G d mRe_moves 70 [.ref a0, .ref a1, .int x2, .int x3] [] M bc bs Φ) ∧ (x2 = 0 → ((m_sh M a0).1 = 11) ∧ ((m_sh M (m_r M a0 29)).1 = 20) ∧ (vp_in x3 (m_sh M (m_r M a0 29)).2) ∧ ((m_sh M a1).1 = 20) ∧ (vp_in (1 + x3) (m_sh M a1).2) ∧ ((m_sh M (m_r M a0 13)).1 = 33) ∧ (vp_in x3 (m_sh M (m_r M a0 13)).2) ∧ ((m_sh M (m_r M (m_r M a0 13) x3.toNatClampNeg)).1 = 20) ∧ (vp_in 5 (m_sh M (m_r M (m_r M a0 13) x3.toNatClampNeg)).2) ∧ (vp_in (9 + x3) (m_sh M a1).2) ∧ Ev l G d mRe_moves 55 [.ref a0, .ref a1, .int x2, .int x3] [] (m_si (m_si M a1 (1 + x3).toNatClampNeg (m_i M (m_r M a0 29) x3.toNatClampNeg)) a1 (9 + x3).toNatClampNeg (m_i (m_si M a1 (1 + x3).toNatClampNeg (m_i M (m_r M a0 29) x3.toNatClampNeg)) (m_r M (m_r M a0 13) x3.toNatClampNeg) (5 : Int32).toNatClampNeg)) bc bs Φ))) :
    Ev l G d mRe_moves 20 [.ref a0, .ref a1, .int x2, .int x3] [] M bc bs Φ := by
  refine Ev.iload_n dRe_moves_20 rfl ?_
  refine Ev.bipush (v := 8) dRe_moves_21 (by decide) ?_
  refine Ev.icmp_ge 116 (by decide) dRe_moves_23 (fun c => ?_) (fun c => ?_)
  · replace h := h.1 c
    exact Ev.vret dRe_moves_116 rfl h
  · replace h := h.2 c
    refine Ev.iload_n dRe_moves_26 rfl ?_
    refine Ev.if_ne 70 (by decide) dRe_moves_27 (fun c => ?_) (fun c => ?_)
    · replace h := h.1 c
      exact h
    · replace h := h.2 c
      refine Ev.aload_n dRe_moves_30 rfl ?_
      refine Ev.iconst (v := 1) dRe_moves_31 (by decide) ?_
      refine Ev.iload_n dRe_moves_32 rfl ?_
      refine Ev.iadd dRe_moves_33 ?_
      refine Ev.aload_n dRe_moves_34 rfl ?_
      have g1 := h.1
      replace h := h.2
      refine Ev.getR dRe_moves_35 (Or.inl fRe_55) rfl g1 ?_
      refine Ev.iload_n dRe_moves_38 rfl ?_
      have g2 := h.1
      replace h := h.2
      have g3 := h.1
      replace h := h.2
      refine Ev.iald2 dRe_moves_39 g2 g3 ?_
      have g4 := h.1
      replace h := h.2
      have g5 := h.1
      replace h := h.2
      refine Ev.iast2 dRe_moves_40 g4 g5 ?_
      refine Ev.aload_n dRe_moves_41 rfl ?_
      refine Ev.bipush (v := 9) dRe_moves_42 (by decide) ?_
      refine Ev.iload_n dRe_moves_44 rfl ?_
      refine Ev.iadd dRe_moves_45 ?_
      refine Ev.aload_n dRe_moves_46 rfl ?_
      refine Ev.getR dRe_moves_47 (Or.inl fRe_22) rfl g1 ?_
      refine Ev.iload_n dRe_moves_50 rfl ?_
      have g6 := h.1
      replace h := h.2
      have g7 := h.1
      replace h := h.2
      refine Ev.aald2 33 (by decide) dRe_moves_51 g6 g7 ?_
      refine Ev.iconst (v := 5) dRe_moves_52 (by decide) ?_
      have g8 := h.1
      replace h := h.2
      have g9 := h.1
      replace h := h.2
      refine Ev.iald2 dRe_moves_53 g8 g9 ?_
      have g10 := h.1
      replace h := h.2
      refine Ev.iast2 dRe_moves_54 g4 g10 ?_
      exact h
theorem bRe_moves_55 {l : Launch} {G : Gx} {d : Nat} {bc bs : Nat} {Φ : OutV → Mm → Prop} (M : Mm) (a0 : Nat) (a1 : Nat) (x2 : Int32) (x3 : Int32)
    (h : ((m_sh M a0).1 = 11) ∧ ((m_sh M (m_r M a0 13)).1 = 33) ∧ (vp_in x3 (m_sh M (m_r M a0 13)).2) ∧ ((m_sh M (m_r M (m_r M a0 13) x3.toNatClampNeg)).1 = 20) ∧ (vp_in 6 (m_sh M (m_r M (m_r M a0 13) x3.toNatClampNeg)).2) ∧ ((m_sh M a1).1 = 20) ∧ (vp_in (17 + x3) (m_sh M a1).2) ∧ Ev l G d mRe_moves 70 [.ref a0, .ref a1, .int x2, .int x3] [] (m_si M a1 (17 + x3).toNatClampNeg (m_i M (m_r M (m_r M a0 13) x3.toNatClampNeg) (6 : Int32).toNatClampNeg)) bc bs Φ) :
    Ev l G d mRe_moves 55 [.ref a0, .ref a1, .int x2, .int x3] [] M bc bs Φ := by
  refine Ev.aload_n dRe_moves_55 rfl ?_
  refine Ev.bipush (v := 17) dRe_moves_56 (by decide) ?_
  refine Ev.iload_n dRe_moves_58 rfl ?_
  refine Ev.iadd dRe_moves_59 ?_
  refine Ev.aload_n dRe_moves_60 rfl ?_
  have g1 := h.1
  replace h := h.2
  refine Ev.getR dRe_moves_61 (Or.inl fRe_22) rfl g1 ?_
  refine Ev.iload_n dRe_moves_64 rfl ?_
  have g2 := h.1
  replace h := h.2
  have g3 := h.1
  replace h := h.2
  refine Ev.aald2 33 (by decide) dRe_moves_65 g2 g3 ?_
  refine Ev.bipush (v := 6) dRe_moves_66 (by decide) ?_
  have g4 := h.1
  replace h := h.2
  have g5 := h.1
  replace h := h.2
  refine Ev.iald2 dRe_moves_68 g4 g5 ?_
  have g6 := h.1
  replace h := h.2
  have g7 := h.1
  replace h := h.2
  refine Ev.iast2 dRe_moves_69 g6 g7 ?_
  exact h
theorem bRe_moves_70 {l : Launch} {G : Gx} {d : Nat} {bc bs : Nat} {Φ : OutV → Mm → Prop} (M : Mm) (a0 : Nat) (a1 : Nat) (x2 : Int32) (x3 : Int32)
    (h : ((m_sh M a0).1 = 11) ∧ ((m_sh M a1).1 = 20) ∧ (vp_in (1 + x3) (m_sh M a1).2) ∧ ((m_sh M (m_r M a0 29)).1 = 20) ∧ (vp_in x3 (m_sh M (m_r M a0 29)).2) ∧ ((m_sh M (m_r M a0 13)).1 = 33) ∧ (vp_in x3 (m_sh M (m_r M a0 13)).2) ∧ (vp_in (9 + x3) (m_sh M a1).2) ∧ ((m_sh M (m_r M (m_r M a0 13) x3.toNatClampNeg)).1 = 20) ∧ (vp_in 5 (m_sh M (m_r M (m_r M a0 13) x3.toNatClampNeg)).2) ∧ Ev l G d mRe_moves 95 [.ref a0, .ref a1, .int x2, .int x3] [] (m_si (m_si M (m_r M a0 29) x3.toNatClampNeg (m_i M a1 (1 + x3).toNatClampNeg)) (m_r M (m_r M a0 13) x3.toNatClampNeg) (5 : Int32).toNatClampNeg (m_i (m_si M (m_r M a0 29) x3.toNatClampNeg (m_i M a1 (1 + x3).toNatClampNeg)) a1 (9 + x3).toNatClampNeg)) bc bs Φ) :
    Ev l G d mRe_moves 70 [.ref a0, .ref a1, .int x2, .int x3] [] M bc bs Φ := by
  refine Ev.aload_n dRe_moves_70 rfl ?_
  have g1 := h.1
  replace h := h.2
  refine Ev.getR dRe_moves_71 (Or.inl fRe_55) rfl g1 ?_
  refine Ev.iload_n dRe_moves_74 rfl ?_
  refine Ev.aload_n dRe_moves_75 rfl ?_
  refine Ev.iconst (v := 1) dRe_moves_76 (by decide) ?_
  refine Ev.iload_n dRe_moves_77 rfl ?_
  refine Ev.iadd dRe_moves_78 ?_
  have g2 := h.1
  replace h := h.2
  have g3 := h.1
  replace h := h.2
  refine Ev.iald2 dRe_moves_79 g2 g3 ?_
  have g4 := h.1
  replace h := h.2
  have g5 := h.1
  replace h := h.2
  refine Ev.iast2 dRe_moves_80 g4 g5 ?_
  refine Ev.aload_n dRe_moves_81 rfl ?_
  refine Ev.getR dRe_moves_82 (Or.inl fRe_22) rfl g1 ?_
  refine Ev.iload_n dRe_moves_85 rfl ?_
  have g6 := h.1
  replace h := h.2
  have g7 := h.1
  replace h := h.2
  refine Ev.aald2 33 (by decide) dRe_moves_86 g6 g7 ?_
  refine Ev.iconst (v := 5) dRe_moves_87 (by decide) ?_
  refine Ev.aload_n dRe_moves_88 rfl ?_
  refine Ev.bipush (v := 9) dRe_moves_89 (by decide) ?_
  refine Ev.iload_n dRe_moves_91 rfl ?_
  refine Ev.iadd dRe_moves_92 ?_
  have g8 := h.1
  replace h := h.2
  refine Ev.iald2 dRe_moves_93 g2 g8 ?_
  have g9 := h.1
  replace h := h.2
  have g10 := h.1
  replace h := h.2
  refine Ev.iast2 dRe_moves_94 g9 g10 ?_
  exact h
theorem bRe_moves_95 {l : Launch} {G : Gx} {d : Nat} {bc bs : Nat} {Φ : OutV → Mm → Prop} (M : Mm) (a0 : Nat) (a1 : Nat) (x2 : Int32) (x3 : Int32)
    (h : ((m_sh M a0).1 = 11) ∧ ((m_sh M (m_r M a0 13)).1 = 33) ∧ (vp_in x3 (m_sh M (m_r M a0 13)).2) ∧ ((m_sh M a1).1 = 20) ∧ (vp_in (17 + x3) (m_sh M a1).2) ∧ ((m_sh M (m_r M (m_r M a0 13) x3.toNatClampNeg)).1 = 20) ∧ (vp_in 6 (m_sh M (m_r M (m_r M a0 13) x3.toNatClampNeg)).2) ∧ Ev l G d mRe_moves 20 [.ref a0, .ref a1, .int x2, .int (x3 + 1)] [] (m_si M (m_r M (m_r M a0 13) x3.toNatClampNeg) (6 : Int32).toNatClampNeg (m_i M a1 (17 + x3).toNatClampNeg)) bc bs Φ) :
    Ev l G d mRe_moves 95 [.ref a0, .ref a1, .int x2, .int x3] [] M bc bs Φ := by
  refine Ev.aload_n dRe_moves_95 rfl ?_
  have g1 := h.1
  replace h := h.2
  refine Ev.getR dRe_moves_96 (Or.inl fRe_22) rfl g1 ?_
  refine Ev.iload_n dRe_moves_99 rfl ?_
  have g2 := h.1
  replace h := h.2
  have g3 := h.1
  replace h := h.2
  refine Ev.aald2 33 (by decide) dRe_moves_100 g2 g3 ?_
  refine Ev.bipush (v := 6) dRe_moves_101 (by decide) ?_
  refine Ev.aload_n dRe_moves_103 rfl ?_
  refine Ev.bipush (v := 17) dRe_moves_104 (by decide) ?_
  refine Ev.iload_n dRe_moves_106 rfl ?_
  refine Ev.iadd dRe_moves_107 ?_
  have g4 := h.1
  replace h := h.2
  have g5 := h.1
  replace h := h.2
  refine Ev.iald2 dRe_moves_108 g4 g5 ?_
  have g6 := h.1
  replace h := h.2
  have g7 := h.1
  replace h := h.2
  refine Ev.iast2 dRe_moves_109 g6 g7 ?_
  refine Ev.iinc (v := x3 + 1) dRe_moves_110 (by decide) rfl rfl ?_
  show Ev l G d mRe_moves (_ + _) [.ref a0, .ref a1, .int x2, .int (x3 + 1)] [] (m_si M (m_r M (m_r M a0 13) x3.toNatClampNeg) (6 : Int32).toNatClampNeg (m_i M a1 (17 + x3).toNatClampNeg)) bc bs Φ
  refine Ev.goto 20 dRe_moves_113 (by decide) ?_
  exact h
def mRe_restore : MR := (⟨"BowingRowModel", "restore", "()I"⟩, prog_14_method_90_code, 1, (Option.some .int))
theorem oRe_restore : MOK mRe_restore 0 := ⟨lwg_of 1822 (by decide +kernel) (by decide +kernel), lwg_of 103 (by decide +kernel) (by decide +kernel), ⟨by decide +kernel, by decide +kernel⟩, by decide +kernel, by decide⟩
theorem iRe_restore : Cond.instanceMethod mRe_restore.1 ∈ lwg := lwg_of 1820 (by decide +kernel) (by decide +kernel)
theorem sRe_restore : Cond.selects mRe_restore.1.cls mRe_restore.1 mRe_restore.1 ∈ lwg := lwg_of 1821 (by decide +kernel) (by decide +kernel)
theorem dRe_restore_0 : decode mRe_restore.2.1 0 = .ok (.aload_n 0, 1) := by decide +kernel
theorem dRe_restore_1 : decode mRe_restore.2.1 1 = .ok (.iconst 0, 1) := by decide +kernel
theorem dRe_restore_2 : decode mRe_restore.2.1 2 = .ok (.putfield 115, 3) := by decide +kernel
theorem dRe_restore_5 : decode mRe_restore.2.1 5 = .ok (.aload_n 0, 1) := by decide +kernel
theorem dRe_restore_6 : decode mRe_restore.2.1 6 = .ok (.getfield 212, 3) := by decide +kernel
theorem dRe_restore_9 : decode mRe_restore.2.1 9 = .ok (.ifCond .ne 5, 3) := by decide +kernel
theorem dRe_restore_12 : decode mRe_restore.2.1 12 = .ok (.iconst (-1), 1) := by decide +kernel
theorem dRe_restore_13 : decode mRe_restore.2.1 13 = .ok (.ireturn, 1) := by decide +kernel
theorem dRe_restore_14 : decode mRe_restore.2.1 14 = .ok (.aload_n 0, 1) := by decide +kernel
theorem dRe_restore_15 : decode mRe_restore.2.1 15 = .ok (.dup, 1) := by decide +kernel
theorem dRe_restore_16 : decode mRe_restore.2.1 16 = .ok (.getfield 212, 3) := by decide +kernel
theorem dRe_restore_19 : decode mRe_restore.2.1 19 = .ok (.iconst 1, 1) := by decide +kernel
theorem dRe_restore_20 : decode mRe_restore.2.1 20 = .ok (.isub, 1) := by decide +kernel
theorem dRe_restore_21 : decode mRe_restore.2.1 21 = .ok (.putfield 212, 3) := by decide +kernel
theorem dRe_restore_24 : decode mRe_restore.2.1 24 = .ok (.aload_n 0, 1) := by decide +kernel
theorem dRe_restore_25 : decode mRe_restore.2.1 25 = .ok (.aload_n 0, 1) := by decide +kernel
theorem dRe_restore_26 : decode mRe_restore.2.1 26 = .ok (.getfield 58, 3) := by decide +kernel
theorem dRe_restore_29 : decode mRe_restore.2.1 29 = .ok (.aload_n 0, 1) := by decide +kernel
theorem dRe_restore_30 : decode mRe_restore.2.1 30 = .ok (.getfield 212, 3) := by decide +kernel
theorem dRe_restore_33 : decode mRe_restore.2.1 33 = .ok (.aaload, 1) := by decide +kernel
theorem dRe_restore_34 : decode mRe_restore.2.1 34 = .ok (.iconst 1, 1) := by decide +kernel
theorem dRe_restore_35 : decode mRe_restore.2.1 35 = .ok (.invokevirtual 396, 3) := by decide +kernel
theorem dRe_restore_38 : decode mRe_restore.2.1 38 = .ok (.aload_n 0, 1) := by decide +kernel
theorem dRe_restore_39 : decode mRe_restore.2.1 39 = .ok (.getfield 212, 3) := by decide +kernel
theorem dRe_restore_42 : decode mRe_restore.2.1 42 = .ok (.ireturn, 1) := by decide +kernel
theorem bRe_restore_0 {l : Launch} {G : Gx} {d : Nat} {bc bs : Nat} {Φ : OutV → Mm → Prop} (M : Mm) (a0 : Nat)
    (h : ((m_sh M a0).1 = 11) ∧ (¬ (m_i (m_si M a0 0 0) a0 28) = 0 → Ev l G d mRe_restore 24 [.ref a0] [] (m_si (m_si M a0 0 0) a0 28 ((m_i (m_si M a0 0 0) a0 28) - 1)) bc bs Φ) ∧ ((m_i (m_si M a0 0 0) a0 28) = 0 → Φ (.inl (some (.int ((-1))))) (m_si M a0 0 0))) :
    Ev l G d mRe_restore 0 [.ref a0] [] M bc bs Φ := by
  refine Ev.aload_n dRe_restore_0 rfl ?_
  refine Ev.iconst (v := 0) dRe_restore_1 (by decide) ?_
  have g1 := h.1
  replace h := h.2
  refine Ev.putI dRe_restore_2 ⟨_, Or.inl ⟨fRe_115, (fun h => by cases h)⟩⟩ rfl ⟨rfl, rfl⟩ g1 ?_
  refine Ev.aload_n dRe_restore_5 rfl ?_
  refine Ev.getI dRe_restore_6 (Or.inl fRe_212) rfl g1 ?_
  refine Ev.if_ne 14 (by decide) dRe_restore_9 (fun c => ?_) (fun c => ?_)
  · replace h := h.1 c
    refine Ev.aload_n dRe_restore_14 rfl ?_
    refine Ev.dup dRe_restore_15 rfl ?_
    refine Ev.getI dRe_restore_16 (Or.inl fRe_212) rfl g1 ?_
    refine Ev.iconst (v := 1) dRe_restore_19 (by decide) ?_
    refine Ev.isub dRe_restore_20 ?_
    refine Ev.putI dRe_restore_21 ⟨_, Or.inl ⟨fRe_212, (fun h => by cases h)⟩⟩ rfl ⟨rfl, rfl⟩ g1 ?_
    exact h
  · replace h := h.2 c
    refine Ev.iconst (v := (-1)) dRe_restore_12 (by decide) ?_
    exact Ev.iret dRe_restore_13 rfl rfl h
theorem bRe_restore_24 {l : Launch} {G : Gx} {d : Nat} {bc bs : Nat} {Φ : OutV → Mm → Prop} (M : Mm) (a0 : Nat)
    (h : ((m_sh M a0).1 = 11) ∧ ((m_sh M (m_r M a0 30)).1 = 33) ∧ (vp_in (m_i M a0 28) (m_sh M (m_r M a0 30)).2) ∧ CallVC l G d mRe_restore 38 [.ref a0] [] mRe_moves [.ref a0, .ref (m_r M (m_r M a0 30) (m_i M a0 28).toNatClampNeg), .int 1] M bc bs Φ) :
    Ev l G d mRe_restore 24 [.ref a0] [] M bc bs Φ := by
  refine Ev.aload_n dRe_restore_24 rfl ?_
  refine Ev.aload_n dRe_restore_25 rfl ?_
  have g1 := h.1
  replace h := h.2
  refine Ev.getR dRe_restore_26 (Or.inl fRe_58) rfl g1 ?_
  refine Ev.aload_n dRe_restore_29 rfl ?_
  refine Ev.getI dRe_restore_30 (Or.inl fRe_212) rfl g1 ?_
  have g2 := h.1
  replace h := h.2
  have g3 := h.1
  replace h := h.2
  refine Ev.aald2 33 (by decide) dRe_restore_33 g2 g3 ?_
  refine Ev.iconst (v := 1) dRe_restore_34 (by decide) ?_
  exact Ev.vcV (z := mRe_moves) (ci := 11) [.ref (m_r M (m_r M a0 30) (m_i M a0 28).toNatClampNeg), .int 1] [] rfl dRe_restore_35 oRe_moves rfl w1815 iRe_moves sRe_moves (by decide) rfl g1 (Nat.le_of_ble_eq_true rfl) h
theorem bRe_restore_38 {l : Launch} {G : Gx} {d : Nat} {bc bs : Nat} {Φ : OutV → Mm → Prop} (M : Mm) (a0 : Nat)
    (h : ((m_sh M a0).1 = 11) ∧ Φ (.inl (some (.int (m_i M a0 28)))) M) :
    Ev l G d mRe_restore 38 [.ref a0] [] M bc bs Φ := by
  refine Ev.aload_n dRe_restore_38 rfl ?_
  have g1 := h.1
  replace h := h.2
  refine Ev.getI dRe_restore_39 (Or.inl fRe_212) rfl g1 ?_
  exact Ev.iret dRe_restore_42 rfl rfl h
def mRe_count : MR := (⟨"BowingRowModel", "count", "(I)I"⟩, prog_14_method_91_code, 2, (Option.some .int))
theorem oRe_count : MOK mRe_count 1 := ⟨lwg_of 1826 (by decide +kernel) (by decide +kernel), lwg_of 103 (by decide +kernel) (by decide +kernel), ⟨by decide +kernel, by decide +kernel⟩, by decide +kernel, by decide⟩
theorem iRe_count : Cond.instanceMethod mRe_count.1 ∈ lwg := lwg_of 1824 (by decide +kernel) (by decide +kernel)
theorem sRe_count : Cond.selects mRe_count.1.cls mRe_count.1 mRe_count.1 ∈ lwg := lwg_of 1825 (by decide +kernel) (by decide +kernel)
theorem dRe_count_0 : decode mRe_count.2.1 0 = .ok (.aload_n 0, 1) := by decide +kernel
theorem dRe_count_1 : decode mRe_count.2.1 1 = .ok (.iconst 0, 1) := by decide +kernel
theorem dRe_count_2 : decode mRe_count.2.1 2 = .ok (.putfield 115, 3) := by decide +kernel
theorem dRe_count_5 : decode mRe_count.2.1 5 = .ok (.iload_n 1, 1) := by decide +kernel
theorem dRe_count_6 : decode mRe_count.2.1 6 = .ok (.ifCond .ne 10, 3) := by decide +kernel
theorem dRe_count_9 : decode mRe_count.2.1 9 = .ok (.aload_n 0, 1) := by decide +kernel
theorem dRe_count_10 : decode mRe_count.2.1 10 = .ok (.getfield 209, 3) := by decide +kernel
theorem dRe_count_13 : decode mRe_count.2.1 13 = .ok (.goto 28, 3) := by decide +kernel
theorem dRe_count_16 : decode mRe_count.2.1 16 = .ok (.iload_n 1, 1) := by decide +kernel
theorem dRe_count_17 : decode mRe_count.2.1 17 = .ok (.iconst 1, 1) := by decide +kernel
theorem dRe_count_18 : decode mRe_count.2.1 18 = .ok (.if_icmp .ne 10, 3) := by decide +kernel
theorem dRe_count_21 : decode mRe_count.2.1 21 = .ok (.aload_n 0, 1) := by decide +kernel
theorem dRe_count_22 : decode mRe_count.2.1 22 = .ok (.getfield 212, 3) := by decide +kernel
theorem dRe_count_25 : decode mRe_count.2.1 25 = .ok (.goto 16, 3) := by decide +kernel
theorem dRe_count_28 : decode mRe_count.2.1 28 = .ok (.iload_n 1, 1) := by decide +kernel
theorem dRe_count_29 : decode mRe_count.2.1 29 = .ok (.iconst 2, 1) := by decide +kernel
theorem dRe_count_30 : decode mRe_count.2.1 30 = .ok (.if_icmp .ne 10, 3) := by decide +kernel
theorem dRe_count_33 : decode mRe_count.2.1 33 = .ok (.aload_n 0, 1) := by decide +kernel
theorem dRe_count_34 : decode mRe_count.2.1 34 = .ok (.getfield 118, 3) := by decide +kernel
theorem dRe_count_37 : decode mRe_count.2.1 37 = .ok (.goto 4, 3) := by decide +kernel
theorem dRe_count_40 : decode mRe_count.2.1 40 = .ok (.iconst (-1), 1) := by decide +kernel
theorem dRe_count_41 : decode mRe_count.2.1 41 = .ok (.ireturn, 1) := by decide +kernel
theorem bRe_count_0 {l : Launch} {G : Gx} {d : Nat} {bc bs : Nat} {Φ : OutV → Mm → Prop} (M : Mm) (a0 : Nat) (x1 : Int32)
    (h : ((m_sh M a0).1 = 11) ∧ (¬ x1 = 0 → (¬ x1 = 1 → (¬ x1 = 2 → Φ (.inl (some (.int ((-1))))) (m_si M a0 0 0)) ∧ (x1 = 2 → Φ (.inl (some (.int (m_i (m_si M a0 0 0) a0 1)))) (m_si M a0 0 0))) ∧ (x1 = 1 → Φ (.inl (some (.int (m_i (m_si M a0 0 0) a0 28)))) (m_si M a0 0 0))) ∧ (x1 = 0 → Φ (.inl (some (.int (m_i (m_si M a0 0 0) a0 27)))) (m_si M a0 0 0))) :
    Ev l G d mRe_count 0 [.ref a0, .int x1] [] M bc bs Φ := by
  refine Ev.aload_n dRe_count_0 rfl ?_
  refine Ev.iconst (v := 0) dRe_count_1 (by decide) ?_
  have g1 := h.1
  replace h := h.2
  refine Ev.putI dRe_count_2 ⟨_, Or.inl ⟨fRe_115, (fun h => by cases h)⟩⟩ rfl ⟨rfl, rfl⟩ g1 ?_
  refine Ev.iload_n dRe_count_5 rfl ?_
  refine Ev.if_ne 16 (by decide) dRe_count_6 (fun c => ?_) (fun c => ?_)
  · replace h := h.1 c
    refine Ev.iload_n dRe_count_16 rfl ?_
    refine Ev.iconst (v := 1) dRe_count_17 (by decide) ?_
    refine Ev.icmp_ne 28 (by decide) dRe_count_18 (fun c => ?_) (fun c => ?_)
    · replace h := h.1 c
      refine Ev.iload_n dRe_count_28 rfl ?_
      refine Ev.iconst (v := 2) dRe_count_29 (by decide) ?_
      refine Ev.icmp_ne 40 (by decide) dRe_count_30 (fun c => ?_) (fun c => ?_)
      · replace h := h.1 c
        refine Ev.iconst (v := (-1)) dRe_count_40 (by decide) ?_
        exact Ev.iret dRe_count_41 rfl rfl h
      · replace h := h.2 c
        refine Ev.aload_n dRe_count_33 rfl ?_
        refine Ev.getI dRe_count_34 (Or.inl fRe_118) rfl g1 ?_
        refine Ev.goto 41 dRe_count_37 (by decide) ?_
        exact Ev.iret dRe_count_41 rfl rfl h
    · replace h := h.2 c
      refine Ev.aload_n dRe_count_21 rfl ?_
      refine Ev.getI dRe_count_22 (Or.inl fRe_212) rfl g1 ?_
      refine Ev.goto 41 dRe_count_25 (by decide) ?_
      exact Ev.iret dRe_count_41 rfl rfl h
  · replace h := h.2 c
    refine Ev.aload_n dRe_count_9 rfl ?_
    refine Ev.getI dRe_count_10 (Or.inl fRe_209) rfl g1 ?_
    refine Ev.goto 41 dRe_count_13 (by decide) ?_
    exact Ev.iret dRe_count_41 rfl rfl h
