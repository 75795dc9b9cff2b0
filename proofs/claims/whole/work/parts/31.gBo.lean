def mBo_book : MR := (⟨"BowingRow", "book", "(II)I"⟩, prog_1_method_17_code, 3, (Option.some .int))
theorem oBo_book : MOK mBo_book 2 := ⟨lwg_of 1138 (by decide +kernel) (by decide +kernel), lwg_of 91 (by decide +kernel) (by decide +kernel), ⟨by decide +kernel, by decide +kernel⟩, by decide +kernel, by decide⟩
theorem iBo_book : Cond.instanceMethod mBo_book.1 ∈ lwg := lwg_of 1136 (by decide +kernel) (by decide +kernel)
theorem sBo_book : Cond.selects mBo_book.1.cls mBo_book.1 mBo_book.1 ∈ lwg := lwg_of 1137 (by decide +kernel) (by decide +kernel)
theorem dBo_book_0 : decode mBo_book.2.1 0 = .ok (.aload_n 0, 1) := by decide +kernel
theorem dBo_book_1 : decode mBo_book.2.1 1 = .ok (.iload_n 1, 1) := by decide +kernel
theorem dBo_book_2 : decode mBo_book.2.1 2 = .ok (.invokevirtual 134, 3) := by decide +kernel
theorem dBo_book_5 : decode mBo_book.2.1 5 = .ok (.aload_n 0, 1) := by decide +kernel
theorem dBo_book_6 : decode mBo_book.2.1 6 = .ok (.iload_n 2, 1) := by decide +kernel
theorem dBo_book_7 : decode mBo_book.2.1 7 = .ok (.invokevirtual 134, 3) := by decide +kernel
theorem dBo_book_10 : decode mBo_book.2.1 10 = .ok (.aload_n 0, 1) := by decide +kernel
theorem dBo_book_11 : decode mBo_book.2.1 11 = .ok (.invokevirtual 162, 3) := by decide +kernel
theorem dBo_book_14 : decode mBo_book.2.1 14 = .ok (.getfield 182, 3) := by decide +kernel
theorem dBo_book_17 : decode mBo_book.2.1 17 = .ok (.iload_n 1, 1) := by decide +kernel
theorem dBo_book_18 : decode mBo_book.2.1 18 = .ok (.iload_n 2, 1) := by decide +kernel
theorem dBo_book_19 : decode mBo_book.2.1 19 = .ok (.invokevirtual 235, 3) := by decide +kernel
theorem dBo_book_22 : decode mBo_book.2.1 22 = .ok (.ireturn, 1) := by decide +kernel
theorem bBo_book_0 {l : Launch} {G : Gx} {d : Nat} {bc bs : Nat} {Φ : OutV → Mm → Prop} (M : Mm) (a0 : Nat) (x1 : Int32) (x2 : Int32)
    (h : ((m_sh M a0).1 = 10) ∧ CallVC l G d mBo_book 5 [.ref a0, .int x1, .int x2] [] mBo_checkPerson [.ref a0, .int x1] M bc bs Φ) :
    Ev l G d mBo_book 0 [.ref a0, .int x1, .int x2] [] M bc bs Φ := by
  refine Ev.aload_n dBo_book_0 rfl ?_
  refine Ev.iload_n dBo_book_1 rfl ?_
  have g1 := h.1
  replace h := h.2
  exact Ev.vcV (z := mBo_checkPerson) (ci := 10) [.int x1] [] rfl dBo_book_2 oBo_checkPerson rfl w1006 iBo_checkPerson sBo_checkPerson (by decide) rfl g1 (Nat.le_of_ble_eq_true rfl) h
theorem bBo_book_5 {l : Launch} {G : Gx} {d : Nat} {bc bs : Nat} {Φ : OutV → Mm → Prop} (M : Mm) (a0 : Nat) (x1 : Int32) (x2 : Int32)
    (h : ((m_sh M a0).1 = 10) ∧ CallVC l G d mBo_book 10 [.ref a0, .int x1, .int x2] [] mBo_checkPerson [.ref a0, .int x2] M bc bs Φ) :
    Ev l G d mBo_book 5 [.ref a0, .int x1, .int x2] [] M bc bs Φ := by
  refine Ev.aload_n dBo_book_5 rfl ?_
  refine Ev.iload_n dBo_book_6 rfl ?_
  have g1 := h.1
  replace h := h.2
  exact Ev.vcV (z := mBo_checkPerson) (ci := 10) [.int x2] [] rfl dBo_book_7 oBo_checkPerson rfl w1006 iBo_checkPerson sBo_checkPerson (by decide) rfl g1 (Nat.le_of_ble_eq_true rfl) h
theorem bBo_book_10 {l : Launch} {G : Gx} {d : Nat} {bc bs : Nat} {Φ : OutV → Mm → Prop} (M : Mm) (a0 : Nat) (x1 : Int32) (x2 : Int32)
    (h : ((m_sh M a0).1 = 10) ∧ CallVC l G d mBo_book 14 [.ref a0, .int x1, .int x2] [] mBo_dayAsItIs [.ref a0] M bc bs Φ) :
    Ev l G d mBo_book 10 [.ref a0, .int x1, .int x2] [] M bc bs Φ := by
  refine Ev.aload_n dBo_book_10 rfl ?_
  have g1 := h.1
  replace h := h.2
  exact Ev.vcV (z := mBo_dayAsItIs) (ci := 10) [] [] rfl dBo_book_11 oBo_dayAsItIs rfl w557 iBo_dayAsItIs sBo_dayAsItIs (by decide) rfl g1 (Nat.le_of_ble_eq_true rfl) h
theorem w1139 : Cond.methodLink "BowingRow" 235 ⟨"BowingRow$PassBook", "given", "(II)I"⟩ ∈ lwg := lwg_of 1139 (by decide +kernel) (by decide +kernel)
theorem bBo_book_14 {l : Launch} {G : Gx} {d : Nat} {bc bs : Nat} {Φ : OutV → Mm → Prop} (M : Mm) (a0 : Nat) (x1 : Int32) (x2 : Int32) (r0 : Nat)
    (h : ((m_sh M r0).1 = 1) ∧ ((m_sh M (m_r M r0 12)).1 = 5) ∧ CallVC l G d mBo_book 22 [.ref a0, .int x1, .int x2] [] mPb_given [.ref (m_r M r0 12), .int x1, .int x2] M bc bs Φ) :
    Ev l G d mBo_book 14 [.ref a0, .int x1, .int x2] [.ref r0] M bc bs Φ := by
  have g1 := h.1
  replace h := h.2
  refine Ev.getR dBo_book_14 (Or.inl fBo_182) rfl g1 ?_
  refine Ev.iload_n dBo_book_17 rfl ?_
  refine Ev.iload_n dBo_book_18 rfl ?_
  have g2 := h.1
  replace h := h.2
  exact Ev.vcV (z := mPb_given) (ci := 5) [.int x1, .int x2] [] rfl dBo_book_19 oPb_given rfl w1139 iPb_given sPb_given (by decide) rfl g2 (Nat.le_of_ble_eq_true rfl) h
theorem bBo_book_22 {l : Launch} {G : Gx} {d : Nat} {bc bs : Nat} {Φ : OutV → Mm → Prop} (M : Mm) (a0 : Nat) (x1 : Int32) (x2 : Int32) (s0 : Int32)
    (h : Φ (.inl (some (.int s0))) M) :
    Ev l G d mBo_book 22 [.ref a0, .int x1, .int x2] [.int s0] M bc bs Φ := by
  exact Ev.iret dBo_book_22 rfl rfl h
def mBo_owed : MR := (⟨"BowingRow", "owed", "(II)I"⟩, prog_1_method_18_code, 3, (Option.some .int))
theorem oBo_owed : MOK mBo_owed 2 := ⟨lwg_of 1149 (by decide +kernel) (by decide +kernel), lwg_of 91 (by decide +kernel) (by decide +kernel), ⟨by decide +kernel, by decide +kernel⟩, by decide +kernel, by decide⟩
theorem iBo_owed : Cond.instanceMethod mBo_owed.1 ∈ lwg := lwg_of 1147 (by decide +kernel) (by decide +kernel)
theorem sBo_owed : Cond.selects mBo_owed.1.cls mBo_owed.1 mBo_owed.1 ∈ lwg := lwg_of 1148 (by decide +kernel) (by decide +kernel)
theorem dBo_owed_0 : decode mBo_owed.2.1 0 = .ok (.aload_n 0, 1) := by decide +kernel
theorem dBo_owed_1 : decode mBo_owed.2.1 1 = .ok (.iload_n 1, 1) := by decide +kernel
theorem dBo_owed_2 : decode mBo_owed.2.1 2 = .ok (.invokevirtual 134, 3) := by decide +kernel
theorem dBo_owed_5 : decode mBo_owed.2.1 5 = .ok (.aload_n 0, 1) := by decide +kernel
theorem dBo_owed_6 : decode mBo_owed.2.1 6 = .ok (.iload_n 2, 1) := by decide +kernel
theorem dBo_owed_7 : decode mBo_owed.2.1 7 = .ok (.invokevirtual 134, 3) := by decide +kernel
theorem dBo_owed_10 : decode mBo_owed.2.1 10 = .ok (.aload_n 0, 1) := by decide +kernel
theorem dBo_owed_11 : decode mBo_owed.2.1 11 = .ok (.invokevirtual 162, 3) := by decide +kernel
theorem dBo_owed_14 : decode mBo_owed.2.1 14 = .ok (.getfield 182, 3) := by decide +kernel
theorem dBo_owed_17 : decode mBo_owed.2.1 17 = .ok (.iload_n 2, 1) := by decide +kernel
theorem dBo_owed_18 : decode mBo_owed.2.1 18 = .ok (.iload_n 1, 1) := by decide +kernel
theorem dBo_owed_19 : decode mBo_owed.2.1 19 = .ok (.invokevirtual 238, 3) := by decide +kernel
theorem dBo_owed_22 : decode mBo_owed.2.1 22 = .ok (.ireturn, 1) := by decide +kernel
theorem bBo_owed_0 {l : Launch} {G : Gx} {d : Nat} {bc bs : Nat} {Φ : OutV → Mm → Prop} (M : Mm) (a0 : Nat) (x1 : Int32) (x2 : Int32)
    (h : ((m_sh M a0).1 = 10) ∧ CallVC l G d mBo_owed 5 [.ref a0, .int x1, .int x2] [] mBo_checkPerson [.ref a0, .int x1] M bc bs Φ) :
    Ev l G d mBo_owed 0 [.ref a0, .int x1, .int x2] [] M bc bs Φ := by
  refine Ev.aload_n dBo_owed_0 rfl ?_
  refine Ev.iload_n dBo_owed_1 rfl ?_
  have g1 := h.1
  replace h := h.2
  exact Ev.vcV (z := mBo_checkPerson) (ci := 10) [.int x1] [] rfl dBo_owed_2 oBo_checkPerson rfl w1006 iBo_checkPerson sBo_checkPerson (by decide) rfl g1 (Nat.le_of_ble_eq_true rfl) h
theorem bBo_owed_5 {l : Launch} {G : Gx} {d : Nat} {bc bs : Nat} {Φ : OutV → Mm → Prop} (M : Mm) (a0 : Nat) (x1 : Int32) (x2 : Int32)
    (h : ((m_sh M a0).1 = 10) ∧ CallVC l G d mBo_owed 10 [.ref a0, .int x1, .int x2] [] mBo_checkPerson [.ref a0, .int x2] M bc bs Φ) :
    Ev l G d mBo_owed 5 [.ref a0, .int x1, .int x2] [] M bc bs Φ := by
  refine Ev.aload_n dBo_owed_5 rfl ?_
  refine Ev.iload_n dBo_owed_6 rfl ?_
  have g1 := h.1
  replace h := h.2
  exact Ev.vcV (z := mBo_checkPerson) (ci := 10) [.int x2] [] rfl dBo_owed_7 oBo_checkPerson rfl w1006 iBo_checkPerson sBo_checkPerson (by decide) rfl g1 (Nat.le_of_ble_eq_true rfl) h
theorem bBo_owed_10 {l : Launch} {G : Gx} {d : Nat} {bc bs : Nat} {Φ : OutV → Mm → Prop} (M : Mm) (a0 : Nat) (x1 : Int32) (x2 : Int32)
    (h : ((m_sh M a0).1 = 10) ∧ CallVC l G d mBo_owed 14 [.ref a0, .int x1, .int x2] [] mBo_dayAsItIs [.ref a0] M bc bs Φ) :
    Ev l G d mBo_owed 10 [.ref a0, .int x1, .int x2] [] M bc bs Φ := by
  refine Ev.aload_n dBo_owed_10 rfl ?_
  have g1 := h.1
  replace h := h.2
  exact Ev.vcV (z := mBo_dayAsItIs) (ci := 10) [] [] rfl dBo_owed_11 oBo_dayAsItIs rfl w557 iBo_dayAsItIs sBo_dayAsItIs (by decide) rfl g1 (Nat.le_of_ble_eq_true rfl) h
theorem w1150 : Cond.methodLink "BowingRow" 238 ⟨"BowingRow$PassBook", "debt", "(II)I"⟩ ∈ lwg := lwg_of 1150 (by decide +kernel) (by decide +kernel)
theorem bBo_owed_14 {l : Launch} {G : Gx} {d : Nat} {bc bs : Nat} {Φ : OutV → Mm → Prop} (M : Mm) (a0 : Nat) (x1 : Int32) (x2 : Int32) (r0 : Nat)
    (h : ((m_sh M r0).1 = 1) ∧ ((m_sh M (m_r M r0 12)).1 = 5) ∧ CallVC l G d mBo_owed 22 [.ref a0, .int x1, .int x2] [] mPb_debt [.ref (m_r M r0 12), .int x2, .int x1] M bc bs Φ) :
    Ev l G d mBo_owed 14 [.ref a0, .int x1, .int x2] [.ref r0] M bc bs Φ := by
  have g1 := h.1
  replace h := h.2
  refine Ev.getR dBo_owed_14 (Or.inl fBo_182) rfl g1 ?_
  refine Ev.iload_n dBo_owed_17 rfl ?_
  refine Ev.iload_n dBo_owed_18 rfl ?_
  have g2 := h.1
  replace h := h.2
  exact Ev.vcV (z := mPb_debt) (ci := 5) [.int x2, .int x1] [] rfl dBo_owed_19 oPb_debt rfl w1150 iPb_debt sPb_debt (by decide) rfl g2 (Nat.le_of_ble_eq_true rfl) h
theorem bBo_owed_22 {l : Launch} {G : Gx} {d : Nat} {bc bs : Nat} {Φ : OutV → Mm → Prop} (M : Mm) (a0 : Nat) (x1 : Int32) (x2 : Int32) (s0 : Int32)
    (h : Φ (.inl (some (.int s0))) M) :
    Ev l G d mBo_owed 22 [.ref a0, .int x1, .int x2] [.int s0] M bc bs Φ := by
  exact Ev.iret dBo_owed_22 rfl rfl h
def mBo_tell : MR := (⟨"BowingRow", "tell", "(I)I"⟩, prog_1_method_19_code, 2, (Option.some .int))
theorem oBo_tell : MOK mBo_tell 1 := ⟨lwg_of 1171 (by decide +kernel) (by decide +kernel), lwg_of 91 (by decide +kernel) (by decide +kernel), ⟨by decide +kernel, by decide +kernel⟩, by decide +kernel, by decide⟩
theorem iBo_tell : Cond.instanceMethod mBo_tell.1 ∈ lwg := lwg_of 1169 (by decide +kernel) (by decide +kernel)
theorem sBo_tell : Cond.selects mBo_tell.1.cls mBo_tell.1 mBo_tell.1 ∈ lwg := lwg_of 1170 (by decide +kernel) (by decide +kernel)
theorem dBo_tell_0 : decode mBo_tell.2.1 0 = .ok (.aload_n 0, 1) := by decide +kernel
theorem dBo_tell_1 : decode mBo_tell.2.1 1 = .ok (.iload_n 1, 1) := by decide +kernel
theorem dBo_tell_2 : decode mBo_tell.2.1 2 = .ok (.invokevirtual 134, 3) := by decide +kernel
theorem dBo_tell_5 : decode mBo_tell.2.1 5 = .ok (.aload_n 0, 1) := by decide +kernel
theorem dBo_tell_6 : decode mBo_tell.2.1 6 = .ok (.getfield 111, 3) := by decide +kernel
theorem dBo_tell_9 : decode mBo_tell.2.1 9 = .ok (.bipush 8, 2) := by decide +kernel
theorem dBo_tell_11 : decode mBo_tell.2.1 11 = .ok (.if_icmp .lt 5, 3) := by decide +kernel
theorem dBo_tell_14 : decode mBo_tell.2.1 14 = .ok (.iconst (-1), 1) := by decide +kernel
theorem dBo_tell_15 : decode mBo_tell.2.1 15 = .ok (.ireturn, 1) := by decide +kernel
theorem dBo_tell_16 : decode mBo_tell.2.1 16 = .ok (.aload_n 0, 1) := by decide +kernel
theorem dBo_tell_17 : decode mBo_tell.2.1 17 = .ok (.getfield 82, 3) := by decide +kernel
theorem dBo_tell_20 : decode mBo_tell.2.1 20 = .ok (.aload_n 0, 1) := by decide +kernel
theorem dBo_tell_21 : decode mBo_tell.2.1 21 = .ok (.getfield 111, 3) := by decide +kernel
theorem dBo_tell_24 : decode mBo_tell.2.1 24 = .ok (.iload_n 1, 1) := by decide +kernel
theorem dBo_tell_25 : decode mBo_tell.2.1 25 = .ok (.iastore, 1) := by decide +kernel
theorem dBo_tell_26 : decode mBo_tell.2.1 26 = .ok (.aload_n 0, 1) := by decide +kernel
theorem dBo_tell_27 : decode mBo_tell.2.1 27 = .ok (.dup, 1) := by decide +kernel
theorem dBo_tell_28 : decode mBo_tell.2.1 28 = .ok (.getfield 111, 3) := by decide +kernel
theorem dBo_tell_31 : decode mBo_tell.2.1 31 = .ok (.iconst 1, 1) := by decide +kernel
theorem dBo_tell_32 : decode mBo_tell.2.1 32 = .ok (.iadd, 1) := by decide +kernel
theorem dBo_tell_33 : decode mBo_tell.2.1 33 = .ok (.putfield 111, 3) := by decide +kernel
theorem dBo_tell_36 : decode mBo_tell.2.1 36 = .ok (.aload_n 0, 1) := by decide +kernel
theorem dBo_tell_37 : decode mBo_tell.2.1 37 = .ok (.getfield 111, 3) := by decide +kernel
theorem dBo_tell_40 : decode mBo_tell.2.1 40 = .ok (.ireturn, 1) := by decide +kernel
theorem bBo_tell_0 {l : Launch} {G : Gx} {d : Nat} {bc bs : Nat} {Φ : OutV → Mm → Prop} (M : Mm) (a0 : Nat) (x1 : Int32)
    (h : ((m_sh M a0).1 = 10) ∧ CallVC l G d mBo_tell 5 [.ref a0, .int x1] [] mBo_checkPerson [.ref a0, .int x1] M bc bs Φ) :
    Ev l G d mBo_tell 0 [.ref a0, .int x1] [] M bc bs Φ := by
  refine Ev.aload_n dBo_tell_0 rfl ?_
  refine Ev.iload_n dBo_tell_1 rfl ?_
  have g1 := h.1
  replace h := h.2
  exact Ev.vcV (z := mBo_checkPerson) (ci := 10) [.int x1] [] rfl dBo_tell_2 oBo_checkPerson rfl w1006 iBo_checkPerson sBo_checkPerson (by decide) rfl g1 (Nat.le_of_ble_eq_true rfl) h
theorem bBo_tell_5 {l : Launch} {G : Gx} {d : Nat} {bc bs : Nat} {Φ : OutV → Mm → Prop} (M : Mm) (a0 : Nat) (x1 : Int32)
    (h : ((m_sh M a0).1 = 10) ∧ ((m_i M a0 15) < 8 → ((m_sh M (m_r M a0 14)).1 = 20) ∧ (vp_in (m_i M a0 15) (m_sh M (m_r M a0 14)).2) ∧ Ev l G d mBo_tell 36 [.ref a0, .int x1] [] (m_si (m_si M (m_r M a0 14) (m_i M a0 15).toNatClampNeg x1) a0 15 ((m_i (m_si M (m_r M a0 14) (m_i M a0 15).toNatClampNeg x1) a0 15) + 1)) bc bs Φ) ∧ (¬ (m_i M a0 15) < 8 → Φ (.inl (some (.int ((-1))))) M)) :
    Ev l G d mBo_tell 5 [.ref a0, .int x1] [] M bc bs Φ := by
  refine Ev.aload_n dBo_tell_5 rfl ?_
  have g1 := h.1
  replace h := h.2
  refine Ev.getI dBo_tell_6 (Or.inl fBo_111) rfl g1 ?_
  refine Ev.bipush (v := 8) dBo_tell_9 (by decide) ?_
  refine Ev.icmp_lt 16 (by decide) dBo_tell_11 (fun c => ?_) (fun c => ?_)
  · replace h := h.1 c
    refine Ev.aload_n dBo_tell_16 rfl ?_
    refine Ev.getR dBo_tell_17 (Or.inl fBo_82) rfl g1 ?_
    refine Ev.aload_n dBo_tell_20 rfl ?_
    refine Ev.getI dBo_tell_21 (Or.inl fBo_111) rfl g1 ?_
    refine Ev.iload_n dBo_tell_24 rfl ?_
    have g2 := h.1
    replace h := h.2
    have g3 := h.1
    replace h := h.2
    refine Ev.iast2 dBo_tell_25 g2 g3 ?_
    refine Ev.aload_n dBo_tell_26 rfl ?_
    refine Ev.dup dBo_tell_27 rfl ?_
    refine Ev.getI dBo_tell_28 (Or.inl fBo_111) rfl g1 ?_
    refine Ev.iconst (v := 1) dBo_tell_31 (by decide) ?_
    refine Ev.iadd dBo_tell_32 ?_
    refine Ev.putI dBo_tell_33 ⟨_, Or.inl ⟨fBo_111, (fun h => by cases h)⟩⟩ rfl ⟨rfl, rfl⟩ g1 ?_
    exact h
  · replace h := h.2 c
    refine Ev.iconst (v := (-1)) dBo_tell_14 (by decide) ?_
    exact Ev.iret dBo_tell_15 rfl rfl h
theorem bBo_tell_36 {l : Launch} {G : Gx} {d : Nat} {bc bs : Nat} {Φ : OutV → Mm → Prop} (M : Mm) (a0 : Nat) (x1 : Int32)
    (h : ((m_sh M a0).1 = 10) ∧ Φ (.inl (some (.int (m_i M a0 15)))) M) :
    Ev l G d mBo_tell 36 [.ref a0, .int x1] [] M bc bs Φ := by
  refine Ev.aload_n dBo_tell_36 rfl ?_
  have g1 := h.1
  replace h := h.2
  refine Ev.getI dBo_tell_37 (Or.inl fBo_111) rfl g1 ?_
  exact Ev.iret dBo_tell_40 rfl rfl h
def mBo_again : MR := (⟨"BowingRow", "again", "(III)I"⟩, prog_1_method_22_code, 4, (Option.some .int))
theorem oBo_again : MOK mBo_again 3 := ⟨lwg_of 1178 (by decide +kernel) (by decide +kernel), lwg_of 91 (by decide +kernel) (by decide +kernel), ⟨by decide +kernel, by decide +kernel⟩, by decide +kernel, by decide⟩
theorem iBo_again : Cond.instanceMethod mBo_again.1 ∈ lwg := lwg_of 1176 (by decide +kernel) (by decide +kernel)
theorem sBo_again : Cond.selects mBo_again.1.cls mBo_again.1 mBo_again.1 ∈ lwg := lwg_of 1177 (by decide +kernel) (by decide +kernel)
theorem dBo_again_0 : decode mBo_again.2.1 0 = .ok (.aload_n 0, 1) := by decide +kernel
theorem dBo_again_1 : decode mBo_again.2.1 1 = .ok (.iload_n 2, 1) := by decide +kernel
theorem dBo_again_2 : decode mBo_again.2.1 2 = .ok (.invokevirtual 134, 3) := by decide +kernel
theorem dBo_again_5 : decode mBo_again.2.1 5 = .ok (.aload_n 0, 1) := by decide +kernel
theorem dBo_again_6 : decode mBo_again.2.1 6 = .ok (.iload_n 3, 1) := by decide +kernel
theorem dBo_again_7 : decode mBo_again.2.1 7 = .ok (.iconst 4, 1) := by decide +kernel
theorem dBo_again_8 : decode mBo_again.2.1 8 = .ok (.invokevirtual 127, 3) := by decide +kernel
theorem dBo_again_11 : decode mBo_again.2.1 11 = .ok (.iload_n 1, 1) := by decide +kernel
theorem dBo_again_12 : decode mBo_again.2.1 12 = .ok (.ifCond .ge 13, 3) := by decide +kernel
theorem dBo_again_15 : decode mBo_again.2.1 15 = .ok (.new 245, 3) := by decide +kernel
theorem dBo_again_18 : decode mBo_again.2.1 18 = .ok (.dup, 1) := by decide +kernel
theorem dBo_again_19 : decode mBo_again.2.1 19 = .ok (.ldc 247, 2) := by decide +kernel
theorem dBo_again_21 : decode mBo_again.2.1 21 = .ok (.invokespecial 249, 3) := by decide +kernel
theorem dBo_again_24 : decode mBo_again.2.1 24 = .ok (.athrow, 1) := by decide +kernel
theorem dBo_again_25 : decode mBo_again.2.1 25 = .ok (.aload_n 0, 1) := by decide +kernel
theorem dBo_again_26 : decode mBo_again.2.1 26 = .ok (.iload_n 1, 1) := by decide +kernel
theorem dBo_again_27 : decode mBo_again.2.1 27 = .ok (.iload_n 2, 1) := by decide +kernel
theorem dBo_again_28 : decode mBo_again.2.1 28 = .ok (.iload_n 3, 1) := by decide +kernel
theorem dBo_again_29 : decode mBo_again.2.1 29 = .ok (.invokevirtual 252, 3) := by decide +kernel
theorem dBo_again_32 : decode mBo_again.2.1 32 = .ok (.ireturn, 1) := by decide +kernel
theorem bBo_again_0 {l : Launch} {G : Gx} {d : Nat} {bc bs : Nat} {Φ : OutV → Mm → Prop} (M : Mm) (a0 : Nat) (x1 : Int32) (x2 : Int32) (x3 : Int32)
    (h : ((m_sh M a0).1 = 10) ∧ CallVC l G d mBo_again 5 [.ref a0, .int x1, .int x2, .int x3] [] mBo_checkPerson [.ref a0, .int x2] M bc bs Φ) :
    Ev l G d mBo_again 0 [.ref a0, .int x1, .int x2, .int x3] [] M bc bs Φ := by
  refine Ev.aload_n dBo_again_0 rfl ?_
  refine Ev.iload_n dBo_again_1 rfl ?_
  have g1 := h.1
  replace h := h.2
  exact Ev.vcV (z := mBo_checkPerson) (ci := 10) [.int x2] [] rfl dBo_again_2 oBo_checkPerson rfl w1006 iBo_checkPerson sBo_checkPerson (by decide) rfl g1 (Nat.le_of_ble_eq_true rfl) h
theorem bBo_again_5 {l : Launch} {G : Gx} {d : Nat} {bc bs : Nat} {Φ : OutV → Mm → Prop} (M : Mm) (a0 : Nat) (x1 : Int32) (x2 : Int32) (x3 : Int32)
    (h : ((m_sh M a0).1 = 10) ∧ CallVC l G d mBo_again 11 [.ref a0, .int x1, .int x2, .int x3] [] mBo_checkWhat [.ref a0, .int x3, .int 4] M bc bs Φ) :
    Ev l G d mBo_again 5 [.ref a0, .int x1, .int x2, .int x3] [] M bc bs Φ := by
  refine Ev.aload_n dBo_again_5 rfl ?_
  refine Ev.iload_n dBo_again_6 rfl ?_
  refine Ev.iconst (v := 4) dBo_again_7 (by decide) ?_
  have g1 := h.1
  replace h := h.2
  exact Ev.vcV (z := mBo_checkWhat) (ci := 10) [.int x3, .int 4] [] rfl dBo_again_8 oBo_checkWhat rfl w718 iBo_checkWhat sBo_checkWhat (by decide) rfl g1 (Nat.le_of_ble_eq_true rfl) h
def mBo_endTurning : MR := (⟨"BowingRow", "endTurning", "(III)I"⟩, prog_1_method_44_code, 4, (Option.some .int))
theorem oBo_endTurning : MOK mBo_endTurning 3 := ⟨lwg_of 1182 (by decide +kernel) (by decide +kernel), lwg_of 91 (by decide +kernel) (by decide +kernel), ⟨by decide +kernel, by decide +kernel⟩, by decide +kernel, by decide⟩
theorem iBo_endTurning : Cond.instanceMethod mBo_endTurning.1 ∈ lwg := lwg_of 1181 (by decide +kernel) (by decide +kernel)
theorem sBo_endTurning : Cond.selects mBo_endTurning.1.cls mBo_endTurning.1 mBo_endTurning.1 ∈ lwg := lwg_of 32 (by decide +kernel) (by decide +kernel)
theorem w1179 : Cond.methodLink "BowingRow" 252 ⟨"BowingRow", "endTurning", "(III)I"⟩ ∈ lwg := lwg_of 1179 (by decide +kernel) (by decide +kernel)
theorem bBo_again_11 {l : Launch} {G : Gx} {d : Nat} {bc bs : Nat} {Φ : OutV → Mm → Prop} (M : Mm) (a0 : Nat) (x1 : Int32) (x2 : Int32) (x3 : Int32)
    (h : (0 ≤ x1 → ((m_sh M a0).1 = 10) ∧ CallVC l G d mBo_again 32 [.ref a0, .int x1, .int x2, .int x3] [] mBo_endTurning [.ref a0, .int x1, .int x2, .int x3] M bc bs Φ) ∧ (¬ 0 ≤ x1 → l.stackTraces = false ∧ 6 ≤ d ∧ 1 ≤ bc ∧ 6 ≤ bs ∧ Φ (.inr "java/lang/IllegalArgumentException") M)) :
    Ev l G d mBo_again 11 [.ref a0, .int x1, .int x2, .int x3] [] M bc bs Φ := by
  refine Ev.iload_n dBo_again_11 rfl ?_
  refine Ev.if_ge 25 (by decide) dBo_again_12 (fun c => ?_) (fun c => ?_)
  · replace h := h.1 c
    refine Ev.aload_n dBo_again_25 rfl ?_
    refine Ev.iload_n dBo_again_26 rfl ?_
    refine Ev.iload_n dBo_again_27 rfl ?_
    refine Ev.iload_n dBo_again_28 rfl ?_
    have g1 := h.1
    replace h := h.2
    exact Ev.vcV (z := mBo_endTurning) (ci := 10) [.int x1, .int x2, .int x3] [] rfl dBo_again_29 oBo_endTurning rfl w1179 iBo_endTurning sBo_endTurning (by decide) rfl g1 (Nat.le_of_ble_eq_true rfl) h
  · replace h := h.2 c
    exact Ev.throwS (cls := "java/lang/IllegalArgumentException") (text := "no such call") (ik := 245) (is := 247) (ic := 249) h.1 (by decide +kernel) (w722) (w107) (by decide +kernel) tBo_249 dBo_again_15 dBo_again_18 (Or.inl ⟨dBo_again_19, dBo_again_21, dBo_again_24⟩) (Nat.le_of_ble_eq_true rfl) h.2.1 h.2.2.1 h.2.2.2.1 h.2.2.2.2
theorem bBo_again_32 {l : Launch} {G : Gx} {d : Nat} {bc bs : Nat} {Φ : OutV → Mm → Prop} (M : Mm) (a0 : Nat) (x1 : Int32) (x2 : Int32) (x3 : Int32) (s0 : Int32)
    (h : Φ (.inl (some (.int s0))) M) :
    Ev l G d mBo_again 32 [.ref a0, .int x1, .int x2, .int x3] [.int s0] M bc bs Φ := by
  exact Ev.iret dBo_again_32 rfl rfl h
theorem dBo_endTurning_0 : decode mBo_endTurning.2.1 0 = .ok (.aload_n 0, 1) := by decide +kernel
theorem dBo_endTurning_1 : decode mBo_endTurning.2.1 1 = .ok (.getfield 65, 3) := by decide +kernel
theorem dBo_endTurning_4 : decode mBo_endTurning.2.1 4 = .ok (.aload_n 0, 1) := by decide +kernel
theorem dBo_endTurning_5 : decode mBo_endTurning.2.1 5 = .ok (.getfield 27, 3) := by decide +kernel
theorem dBo_endTurning_8 : decode mBo_endTurning.2.1 8 = .ok (.aload_n 0, 1) := by decide +kernel
theorem dBo_endTurning_9 : decode mBo_endTurning.2.1 9 = .ok (.getfield 49, 3) := by decide +kernel
theorem dBo_endTurning_12 : decode mBo_endTurning.2.1 12 = .ok (.invokevirtual 326, 3) := by decide +kernel
theorem dBo_endTurning_15 : decode mBo_endTurning.2.1 15 = .ok (.aload_n 0, 1) := by decide +kernel
theorem dBo_endTurning_16 : decode mBo_endTurning.2.1 16 = .ok (.getfield 65, 3) := by decide +kernel
theorem dBo_endTurning_19 : decode mBo_endTurning.2.1 19 = .ok (.iload_n 2, 1) := by decide +kernel
theorem dBo_endTurning_20 : decode mBo_endTurning.2.1 20 = .ok (.putfield 335, 3) := by decide +kernel
theorem dBo_endTurning_23 : decode mBo_endTurning.2.1 23 = .ok (.aload_n 0, 1) := by decide +kernel
theorem dBo_endTurning_24 : decode mBo_endTurning.2.1 24 = .ok (.getfield 65, 3) := by decide +kernel
theorem dBo_endTurning_27 : decode mBo_endTurning.2.1 27 = .ok (.iload_n 1, 1) := by decide +kernel
theorem dBo_endTurning_28 : decode mBo_endTurning.2.1 28 = .ok (.putfield 338, 3) := by decide +kernel
theorem dBo_endTurning_31 : decode mBo_endTurning.2.1 31 = .ok (.aload_n 0, 1) := by decide +kernel
theorem dBo_endTurning_32 : decode mBo_endTurning.2.1 32 = .ok (.getfield 65, 3) := by decide +kernel
theorem dBo_endTurning_35 : decode mBo_endTurning.2.1 35 = .ok (.iload_n 3, 1) := by decide +kernel
theorem dBo_endTurning_36 : decode mBo_endTurning.2.1 36 = .ok (.putfield 341, 3) := by decide +kernel
theorem dBo_endTurning_39 : decode mBo_endTurning.2.1 39 = .ok (.aload_n 0, 1) := by decide +kernel
theorem dBo_endTurning_40 : decode mBo_endTurning.2.1 40 = .ok (.getfield 65, 3) := by decide +kernel
theorem dBo_endTurning_43 : decode mBo_endTurning.2.1 43 = .ok (.invokevirtual 329, 3) := by decide +kernel
theorem dBo_endTurning_46 : decode mBo_endTurning.2.1 46 = .ok (.aload_n 0, 1) := by decide +kernel
theorem dBo_endTurning_47 : decode mBo_endTurning.2.1 47 = .ok (.getfield 65, 3) := by decide +kernel
theorem dBo_endTurning_50 : decode mBo_endTurning.2.1 50 = .ok (.getfield 229, 3) := by decide +kernel
theorem dBo_endTurning_53 : decode mBo_endTurning.2.1 53 = .ok (.iload_n 2, 1) := by decide +kernel
theorem dBo_endTurning_54 : decode mBo_endTurning.2.1 54 = .ok (.iaload, 1) := by decide +kernel
theorem dBo_endTurning_55 : decode mBo_endTurning.2.1 55 = .ok (.ireturn, 1) := by decide +kernel
theorem bBo_endTurning_0 {l : Launch} {G : Gx} {d : Nat} {bc bs : Nat} {Φ : OutV → Mm → Prop} (M : Mm) (a0 : Nat) (x1 : Int32) (x2 : Int32) (x3 : Int32)
    (h : ((m_sh M a0).1 = 10) ∧ ((m_sh M (m_r M a0 11)).1 = 1) ∧ CallVC l G d mBo_endTurning 15 [.ref a0, .int x1, .int x2, .int x3] [] mDa_prepare [.ref (m_r M a0 11), .ref (m_r M a0 4), .ref (m_r M a0 8)] M bc bs Φ) :
    Ev l G d mBo_endTurning 0 [.ref a0, .int x1, .int x2, .int x3] [] M bc bs Φ := by
  refine Ev.aload_n dBo_endTurning_0 rfl ?_
  have g1 := h.1
  replace h := h.2
  refine Ev.getR dBo_endTurning_1 (Or.inl fBo_65) rfl g1 ?_
  refine Ev.aload_n dBo_endTurning_4 rfl ?_
  refine Ev.getR dBo_endTurning_5 (Or.inl fBo_27) rfl g1 ?_
  refine Ev.aload_n dBo_endTurning_8 rfl ?_
  refine Ev.getR dBo_endTurning_9 (Or.inl fBo_49) rfl g1 ?_
  have g2 := h.1
  replace h := h.2
  exact Ev.vcV (z := mDa_prepare) (ci := 1) [.ref (m_r M a0 4), .ref (m_r M a0 8)] [] rfl dBo_endTurning_12 oDa_prepare rfl w561 iDa_prepare sDa_prepare (by decide) rfl g2 (Nat.le_of_ble_eq_true rfl) h
theorem fBo_335 : FOK "BowingRow" 335 1 6 false := ⟨RX1, TX1, nFd 1, rfl, by decide, rfl, by decide, rfl, lwg_of 356 (by decide +kernel) (by decide +kernel)⟩
theorem fBo_338 : FOK "BowingRow" 338 1 7 false := ⟨RX1, TX1, nFd 1, rfl, by decide, rfl, by decide, rfl, lwg_of 358 (by decide +kernel) (by decide +kernel)⟩
theorem bBo_endTurning_15 {l : Launch} {G : Gx} {d : Nat} {bc bs : Nat} {Φ : OutV → Mm → Prop} (M : Mm) (a0 : Nat) (x1 : Int32) (x2 : Int32) (x3 : Int32)
    (h : ((m_sh M a0).1 = 10) ∧ ((m_sh M (m_r M a0 11)).1 = 1) ∧ Ev l G d mBo_endTurning 31 [.ref a0, .int x1, .int x2, .int x3] [] (m_si (m_si M (m_r M a0 11) 6 x2) (m_r M a0 11) 7 x1) bc bs Φ) :
    Ev l G d mBo_endTurning 15 [.ref a0, .int x1, .int x2, .int x3] [] M bc bs Φ := by
  refine Ev.aload_n dBo_endTurning_15 rfl ?_
  have g1 := h.1
  replace h := h.2
  refine Ev.getR dBo_endTurning_16 (Or.inl fBo_65) rfl g1 ?_
  refine Ev.iload_n dBo_endTurning_19 rfl ?_
  have g2 := h.1
  replace h := h.2
  refine Ev.putI dBo_endTurning_20 ⟨_, Or.inl ⟨fBo_335, (fun h => by cases h)⟩⟩ rfl ⟨rfl, rfl⟩ g2 ?_
  refine Ev.aload_n dBo_endTurning_23 rfl ?_
  refine Ev.getR dBo_endTurning_24 (Or.inl fBo_65) rfl g1 ?_
  refine Ev.iload_n dBo_endTurning_27 rfl ?_
  refine Ev.putI dBo_endTurning_28 ⟨_, Or.inl ⟨fBo_338, (fun h => by cases h)⟩⟩ rfl ⟨rfl, rfl⟩ g2 ?_
  exact h
theorem fBo_341 : FOK "BowingRow" 341 1 8 false := ⟨RX1, TX1, nFd 1, rfl, by decide, rfl, by decide, rfl, lwg_of 360 (by decide +kernel) (by decide +kernel)⟩
theorem bBo_endTurning_31 {l : Launch} {G : Gx} {d : Nat} {bc bs : Nat} {Φ : OutV → Mm → Prop} (M : Mm) (a0 : Nat) (x1 : Int32) (x2 : Int32) (x3 : Int32)
    (h : ((m_sh M a0).1 = 10) ∧ ((m_sh M (m_r M a0 11)).1 = 1) ∧ CallVC l G d mBo_endTurning 46 [.ref a0, .int x1, .int x2, .int x3] [] mDa_goThrough [.ref (m_r M a0 11)] (m_si M (m_r M a0 11) 8 x3) bc bs Φ) :
    Ev l G d mBo_endTurning 31 [.ref a0, .int x1, .int x2, .int x3] [] M bc bs Φ := by
  refine Ev.aload_n dBo_endTurning_31 rfl ?_
  have g1 := h.1
  replace h := h.2
  refine Ev.getR dBo_endTurning_32 (Or.inl fBo_65) rfl g1 ?_
  refine Ev.iload_n dBo_endTurning_35 rfl ?_
  have g2 := h.1
  replace h := h.2
  refine Ev.putI dBo_endTurning_36 ⟨_, Or.inl ⟨fBo_341, (fun h => by cases h)⟩⟩ rfl ⟨rfl, rfl⟩ g2 ?_
  refine Ev.aload_n dBo_endTurning_39 rfl ?_
  refine Ev.getR dBo_endTurning_40 (Or.inl fBo_65) rfl g1 ?_
  exact Ev.vcV (z := mDa_goThrough) (ci := 1) [] [] rfl dBo_endTurning_43 oDa_goThrough rfl w569 iDa_goThrough sDa_goThrough (by decide) rfl g2 (Nat.le_of_ble_eq_true rfl) h
theorem bBo_endTurning_46 {l : Launch} {G : Gx} {d : Nat} {bc bs : Nat} {Φ : OutV → Mm → Prop} (M : Mm) (a0 : Nat) (x1 : Int32) (x2 : Int32) (x3 : Int32)
    (h : ((m_sh M a0).1 = 10) ∧ ((m_sh M (m_r M a0 11)).1 = 1) ∧ ((m_sh M (m_r M (m_r M a0 11) 11)).1 = 20) ∧ (vp_in x2 (m_sh M (m_r M (m_r M a0 11) 11)).2) ∧ Φ (.inl (some (.int (m_i M (m_r M (m_r M a0 11) 11) x2.toNatClampNeg)))) M) :
    Ev l G d mBo_endTurning 46 [.ref a0, .int x1, .int x2, .int x3] [] M bc bs Φ := by
  refine Ev.aload_n dBo_endTurning_46 rfl ?_
  have g1 := h.1
  replace h := h.2
  refine Ev.getR dBo_endTurning_47 (Or.inl fBo_65) rfl g1 ?_
  have g2 := h.1
  replace h := h.2
  refine Ev.getR dBo_endTurning_50 (Or.inl fBo_229) rfl g2 ?_
  refine Ev.iload_n dBo_endTurning_53 rfl ?_
  have g3 := h.1
  replace h := h.2
  have g4 := h.1
  replace h := h.2
  refine Ev.iald2 dBo_endTurning_54 g3 g4 ?_
  exact Ev.iret dBo_endTurning_55 rfl rfl h
def mBo_plan : MR := (⟨"BowingRow", "plan", "(II)I"⟩, prog_1_method_23_code, 3, (Option.some .int))
theorem oBo_plan : MOK mBo_plan 2 := ⟨lwg_of 1189 (by decide +kernel) (by decide +kernel), lwg_of 91 (by decide +kernel) (by decide +kernel), ⟨by decide +kernel, by decide +kernel⟩, by decide +kernel, by decide⟩
theorem iBo_plan : Cond.instanceMethod mBo_plan.1 ∈ lwg := lwg_of 1187 (by decide +kernel) (by decide +kernel)
theorem sBo_plan : Cond.selects mBo_plan.1.cls mBo_plan.1 mBo_plan.1 ∈ lwg := lwg_of 1188 (by decide +kernel) (by decide +kernel)
theorem dBo_plan_0 : decode mBo_plan.2.1 0 = .ok (.aload_n 0, 1) := by decide +kernel
theorem dBo_plan_1 : decode mBo_plan.2.1 1 = .ok (.iload_n 1, 1) := by decide +kernel
theorem dBo_plan_2 : decode mBo_plan.2.1 2 = .ok (.invokevirtual 134, 3) := by decide +kernel
theorem dBo_plan_5 : decode mBo_plan.2.1 5 = .ok (.aload_n 0, 1) := by decide +kernel
theorem dBo_plan_6 : decode mBo_plan.2.1 6 = .ok (.iload_n 2, 1) := by decide +kernel
theorem dBo_plan_7 : decode mBo_plan.2.1 7 = .ok (.sipush 1023, 3) := by decide +kernel
theorem dBo_plan_10 : decode mBo_plan.2.1 10 = .ok (.invokevirtual 127, 3) := by decide +kernel
theorem dBo_plan_13 : decode mBo_plan.2.1 13 = .ok (.aload_n 0, 1) := by decide +kernel
theorem dBo_plan_14 : decode mBo_plan.2.1 14 = .ok (.iload_n 1, 1) := by decide +kernel
theorem dBo_plan_15 : decode mBo_plan.2.1 15 = .ok (.iload_n 2, 1) := by decide +kernel
theorem dBo_plan_16 : decode mBo_plan.2.1 16 = .ok (.invokevirtual 255, 3) := by decide +kernel
theorem dBo_plan_19 : decode mBo_plan.2.1 19 = .ok (.ireturn, 1) := by decide +kernel
theorem bBo_plan_0 {l : Launch} {G : Gx} {d : Nat} {bc bs : Nat} {Φ : OutV → Mm → Prop} (M : Mm) (a0 : Nat) (x1 : Int32) (x2 : Int32)
    (h : ((m_sh M a0).1 = 10) ∧ CallVC l G d mBo_plan 5 [.ref a0, .int x1, .int x2] [] mBo_checkPerson [.ref a0, .int x1] M bc bs Φ) :
    Ev l G d mBo_plan 0 [.ref a0, .int x1, .int x2] [] M bc bs Φ := by
  refine Ev.aload_n dBo_plan_0 rfl ?_
  refine Ev.iload_n dBo_plan_1 rfl ?_
  have g1 := h.1
  replace h := h.2
  exact Ev.vcV (z := mBo_checkPerson) (ci := 10) [.int x1] [] rfl dBo_plan_2 oBo_checkPerson rfl w1006 iBo_checkPerson sBo_checkPerson (by decide) rfl g1 (Nat.le_of_ble_eq_true rfl) h
theorem bBo_plan_5 {l : Launch} {G : Gx} {d : Nat} {bc bs : Nat} {Φ : OutV → Mm → Prop} (M : Mm) (a0 : Nat) (x1 : Int32) (x2 : Int32)
    (h : ((m_sh M a0).1 = 10) ∧ CallVC l G d mBo_plan 13 [.ref a0, .int x1, .int x2] [] mBo_checkWhat [.ref a0, .int x2, .int 1023] M bc bs Φ) :
    Ev l G d mBo_plan 5 [.ref a0, .int x1, .int x2] [] M bc bs Φ := by
  refine Ev.aload_n dBo_plan_5 rfl ?_
  refine Ev.iload_n dBo_plan_6 rfl ?_
  refine Ev.sipush (v := 1023) dBo_plan_7 (by decide) ?_
  have g1 := h.1
  replace h := h.2
  exact Ev.vcV (z := mBo_checkWhat) (ci := 10) [.int x2, .int 1023] [] rfl dBo_plan_10 oBo_checkWhat rfl w718 iBo_checkWhat sBo_checkWhat (by decide) rfl g1 (Nat.le_of_ble_eq_true rfl) h
def mBo_endPlanning : MR := (⟨"BowingRow", "endPlanning", "(II)I"⟩, prog_1_method_45_code, 3, (Option.some .int))
theorem oBo_endPlanning : MOK mBo_endPlanning 2 := ⟨lwg_of 1193 (by decide +kernel) (by decide +kernel), lwg_of 91 (by decide +kernel) (by decide +kernel), ⟨by decide +kernel, by decide +kernel⟩, by decide +kernel, by decide⟩
theorem iBo_endPlanning : Cond.instanceMethod mBo_endPlanning.1 ∈ lwg := lwg_of 1192 (by decide +kernel) (by decide +kernel)
theorem sBo_endPlanning : Cond.selects mBo_endPlanning.1.cls mBo_endPlanning.1 mBo_endPlanning.1 ∈ lwg := lwg_of 33 (by decide +kernel) (by decide +kernel)
theorem w1190 : Cond.methodLink "BowingRow" 255 ⟨"BowingRow", "endPlanning", "(II)I"⟩ ∈ lwg := lwg_of 1190 (by decide +kernel) (by decide +kernel)
theorem bBo_plan_13 {l : Launch} {G : Gx} {d : Nat} {bc bs : Nat} {Φ : OutV → Mm → Prop} (M : Mm) (a0 : Nat) (x1 : Int32) (x2 : Int32)
    (h : ((m_sh M a0).1 = 10) ∧ CallVC l G d mBo_plan 19 [.ref a0, .int x1, .int x2] [] mBo_endPlanning [.ref a0, .int x1, .int x2] M bc bs Φ) :
    Ev l G d mBo_plan 13 [.ref a0, .int x1, .int x2] [] M bc bs Φ := by
  refine Ev.aload_n dBo_plan_13 rfl ?_
  refine Ev.iload_n dBo_plan_14 rfl ?_
  refine Ev.iload_n dBo_plan_15 rfl ?_
  have g1 := h.1
  replace h := h.2
  exact Ev.vcV (z := mBo_endPlanning) (ci := 10) [.int x1, .int x2] [] rfl dBo_plan_16 oBo_endPlanning rfl w1190 iBo_endPlanning sBo_endPlanning (by decide) rfl g1 (Nat.le_of_ble_eq_true rfl) h
theorem bBo_plan_19 {l : Launch} {G : Gx} {d : Nat} {bc bs : Nat} {Φ : OutV → Mm → Prop} (M : Mm) (a0 : Nat) (x1 : Int32) (x2 : Int32) (s0 : Int32)
    (h : Φ (.inl (some (.int s0))) M) :
    Ev l G d mBo_plan 19 [.ref a0, .int x1, .int x2] [.int s0] M bc bs Φ := by
  exact Ev.iret dBo_plan_19 rfl rfl h
theorem dBo_endPlanning_0 : decode mBo_endPlanning.2.1 0 = .ok (.aload_n 0, 1) := by decide +kernel
theorem dBo_endPlanning_1 : decode mBo_endPlanning.2.1 1 = .ok (.getfield 65, 3) := by decide +kernel
theorem dBo_endPlanning_4 : decode mBo_endPlanning.2.1 4 = .ok (.aload_n 0, 1) := by decide +kernel
theorem dBo_endPlanning_5 : decode mBo_endPlanning.2.1 5 = .ok (.getfield 27, 3) := by decide +kernel
theorem dBo_endPlanning_8 : decode mBo_endPlanning.2.1 8 = .ok (.aload_n 0, 1) := by decide +kernel
theorem dBo_endPlanning_9 : decode mBo_endPlanning.2.1 9 = .ok (.getfield 49, 3) := by decide +kernel
theorem dBo_endPlanning_12 : decode mBo_endPlanning.2.1 12 = .ok (.invokevirtual 326, 3) := by decide +kernel
theorem dBo_endPlanning_15 : decode mBo_endPlanning.2.1 15 = .ok (.aload_n 0, 1) := by decide +kernel
theorem dBo_endPlanning_16 : decode mBo_endPlanning.2.1 16 = .ok (.getfield 65, 3) := by decide +kernel
theorem dBo_endPlanning_19 : decode mBo_endPlanning.2.1 19 = .ok (.iload_n 1, 1) := by decide +kernel
theorem dBo_endPlanning_20 : decode mBo_endPlanning.2.1 20 = .ok (.putfield 344, 3) := by decide +kernel
theorem dBo_endPlanning_23 : decode mBo_endPlanning.2.1 23 = .ok (.aload_n 0, 1) := by decide +kernel
theorem dBo_endPlanning_24 : decode mBo_endPlanning.2.1 24 = .ok (.getfield 65, 3) := by decide +kernel
theorem dBo_endPlanning_27 : decode mBo_endPlanning.2.1 27 = .ok (.iload_n 2, 1) := by decide +kernel
theorem dBo_endPlanning_28 : decode mBo_endPlanning.2.1 28 = .ok (.putfield 347, 3) := by decide +kernel
theorem dBo_endPlanning_31 : decode mBo_endPlanning.2.1 31 = .ok (.aload_n 0, 1) := by decide +kernel
theorem dBo_endPlanning_32 : decode mBo_endPlanning.2.1 32 = .ok (.getfield 65, 3) := by decide +kernel
theorem dBo_endPlanning_35 : decode mBo_endPlanning.2.1 35 = .ok (.invokevirtual 329, 3) := by decide +kernel
theorem dBo_endPlanning_38 : decode mBo_endPlanning.2.1 38 = .ok (.aload_n 0, 1) := by decide +kernel
theorem dBo_endPlanning_39 : decode mBo_endPlanning.2.1 39 = .ok (.getfield 65, 3) := by decide +kernel
theorem dBo_endPlanning_42 : decode mBo_endPlanning.2.1 42 = .ok (.getfield 229, 3) := by decide +kernel
theorem dBo_endPlanning_45 : decode mBo_endPlanning.2.1 45 = .ok (.iload_n 1, 1) := by decide +kernel
theorem dBo_endPlanning_46 : decode mBo_endPlanning.2.1 46 = .ok (.iaload, 1) := by decide +kernel
theorem dBo_endPlanning_47 : decode mBo_endPlanning.2.1 47 = .ok (.ireturn, 1) := by decide +kernel
theorem bBo_endPlanning_0 {l : Launch} {G : Gx} {d : Nat} {bc bs : Nat} {Φ : OutV → Mm → Prop} (M : Mm) (a0 : Nat) (x1 : Int32) (x2 : Int32)
    (h : ((m_sh M a0).1 = 10) ∧ ((m_sh M (m_r M a0 11)).1 = 1) ∧ CallVC l G d mBo_endPlanning 15 [.ref a0, .int x1, .int x2] [] mDa_prepare [.ref (m_r M a0 11), .ref (m_r M a0 4), .ref (m_r M a0 8)] M bc bs Φ) :
    Ev l G d mBo_endPlanning 0 [.ref a0, .int x1, .int x2] [] M bc bs Φ := by
  refine Ev.aload_n dBo_endPlanning_0 rfl ?_
  have g1 := h.1
  replace h := h.2
  refine Ev.getR dBo_endPlanning_1 (Or.inl fBo_65) rfl g1 ?_
  refine Ev.aload_n dBo_endPlanning_4 rfl ?_
  refine Ev.getR dBo_endPlanning_5 (Or.inl fBo_27) rfl g1 ?_
  refine Ev.aload_n dBo_endPlanning_8 rfl ?_
  refine Ev.getR dBo_endPlanning_9 (Or.inl fBo_49) rfl g1 ?_
  have g2 := h.1
  replace h := h.2
  exact Ev.vcV (z := mDa_prepare) (ci := 1) [.ref (m_r M a0 4), .ref (m_r M a0 8)] [] rfl dBo_endPlanning_12 oDa_prepare rfl w561 iDa_prepare sDa_prepare (by decide) rfl g2 (Nat.le_of_ble_eq_true rfl) h
theorem fBo_344 : FOK "BowingRow" 344 1 3 false := ⟨RX1, TX1, nFd 1, rfl, by decide, rfl, by decide, rfl, lwg_of 351 (by decide +kernel) (by decide +kernel)⟩
theorem fBo_347 : FOK "BowingRow" 347 1 4 false := ⟨RX1, TX1, nFd 1, rfl, by decide, rfl, by decide, rfl, lwg_of 353 (by decide +kernel) (by decide +kernel)⟩
theorem bBo_endPlanning_15 {l : Launch} {G : Gx} {d : Nat} {bc bs : Nat} {Φ : OutV → Mm → Prop} (M : Mm) (a0 : Nat) (x1 : Int32) (x2 : Int32)
    (h : ((m_sh M a0).1 = 10) ∧ ((m_sh M (m_r M a0 11)).1 = 1) ∧ Ev l G d mBo_endPlanning 31 [.ref a0, .int x1, .int x2] [] (m_si (m_si M (m_r M a0 11) 3 x1) (m_r M a0 11) 4 x2) bc bs Φ) :
    Ev l G d mBo_endPlanning 15 [.ref a0, .int x1, .int x2] [] M bc bs Φ := by
  refine Ev.aload_n dBo_endPlanning_15 rfl ?_
  have g1 := h.1
  replace h := h.2
  refine Ev.getR dBo_endPlanning_16 (Or.inl fBo_65) rfl g1 ?_
  refine Ev.iload_n dBo_endPlanning_19 rfl ?_
  have g2 := h.1
  replace h := h.2
  refine Ev.putI dBo_endPlanning_20 ⟨_, Or.inl ⟨fBo_344, (fun h => by cases h)⟩⟩ rfl ⟨rfl, rfl⟩ g2 ?_
  refine Ev.aload_n dBo_endPlanning_23 rfl ?_
  refine Ev.getR dBo_endPlanning_24 (Or.inl fBo_65) rfl g1 ?_
  refine Ev.iload_n dBo_endPlanning_27 rfl ?_
  refine Ev.putI dBo_endPlanning_28 ⟨_, Or.inl ⟨fBo_347, (fun h => by cases h)⟩⟩ rfl ⟨rfl, rfl⟩ g2 ?_
  exact h
theorem bBo_endPlanning_31 {l : Launch} {G : Gx} {d : Nat} {bc bs : Nat} {Φ : OutV → Mm → Prop} (M : Mm) (a0 : Nat) (x1 : Int32) (x2 : Int32)
    (h : ((m_sh M a0).1 = 10) ∧ ((m_sh M (m_r M a0 11)).1 = 1) ∧ CallVC l G d mBo_endPlanning 38 [.ref a0, .int x1, .int x2] [] mDa_goThrough [.ref (m_r M a0 11)] M bc bs Φ) :
    Ev l G d mBo_endPlanning 31 [.ref a0, .int x1, .int x2] [] M bc bs Φ := by
  refine Ev.aload_n dBo_endPlanning_31 rfl ?_
  have g1 := h.1
  replace h := h.2
  refine Ev.getR dBo_endPlanning_32 (Or.inl fBo_65) rfl g1 ?_
  have g2 := h.1
  replace h := h.2
  exact Ev.vcV (z := mDa_goThrough) (ci := 1) [] [] rfl dBo_endPlanning_35 oDa_goThrough rfl w569 iDa_goThrough sDa_goThrough (by decide) rfl g2 (Nat.le_of_ble_eq_true rfl) h
theorem bBo_endPlanning_38 {l : Launch} {G : Gx} {d : Nat} {bc bs : Nat} {Φ : OutV → Mm → Prop} (M : Mm) (a0 : Nat) (x1 : Int32) (x2 : Int32)
    (h : ((m_sh M a0).1 = 10) ∧ ((m_sh M (m_r M a0 11)).1 = 1) ∧ ((m_sh M (m_r M (m_r M a0 11) 11)).1 = 20) ∧ (vp_in x1 (m_sh M (m_r M (m_r M a0 11) 11)).2) ∧ Φ (.inl (some (.int (m_i M (m_r M (m_r M a0 11) 11) x1.toNatClampNeg)))) M) :
    Ev l G d mBo_endPlanning 38 [.ref a0, .int x1, .int x2] [] M bc bs Φ := by
  refine Ev.aload_n dBo_endPlanning_38 rfl ?_
  have g1 := h.1
  replace h := h.2
  refine Ev.getR dBo_endPlanning_39 (Or.inl fBo_65) rfl g1 ?_
  have g2 := h.1
  replace h := h.2
  refine Ev.getR dBo_endPlanning_42 (Or.inl fBo_229) rfl g2 ?_
  refine Ev.iload_n dBo_endPlanning_45 rfl ?_
  have g3 := h.1
  replace h := h.2
  have g4 := h.1
  replace h := h.2
  refine Ev.iald2 dBo_endPlanning_46 g3 g4 ?_
  exact Ev.iret dBo_endPlanning_47 rfl rfl h
def mBo_best : MR := (⟨"BowingRow", "best", "(II)I"⟩, prog_1_method_24_code, 8, (Option.some .int))
theorem oBo_best : MOK mBo_best 2 := ⟨lwg_of 1200 (by decide +kernel) (by decide +kernel), lwg_of 91 (by decide +kernel) (by decide +kernel), ⟨by decide +kernel, by decide +kernel⟩, by decide +kernel, by decide⟩
theorem iBo_best : Cond.instanceMethod mBo_best.1 ∈ lwg := lwg_of 1198 (by decide +kernel) (by decide +kernel)
theorem sBo_best : Cond.selects mBo_best.1.cls mBo_best.1 mBo_best.1 ∈ lwg := lwg_of 1199 (by decide +kernel) (by decide +kernel)
theorem dBo_best_0 : decode mBo_best.2.1 0 = .ok (.aload_n 0, 1) := by decide +kernel
theorem dBo_best_1 : decode mBo_best.2.1 1 = .ok (.iload_n 1, 1) := by decide +kernel
theorem dBo_best_2 : decode mBo_best.2.1 2 = .ok (.invokevirtual 134, 3) := by decide +kernel
theorem dBo_best_5 : decode mBo_best.2.1 5 = .ok (.aload_n 0, 1) := by decide +kernel
theorem dBo_best_6 : decode mBo_best.2.1 6 = .ok (.iload_n 2, 1) := by decide +kernel
theorem dBo_best_7 : decode mBo_best.2.1 7 = .ok (.iconst 1, 1) := by decide +kernel
theorem dBo_best_8 : decode mBo_best.2.1 8 = .ok (.invokevirtual 127, 3) := by decide +kernel
theorem dBo_best_11 : decode mBo_best.2.1 11 = .ok (.iconst 0, 1) := by decide +kernel
theorem dBo_best_12 : decode mBo_best.2.1 12 = .ok (.istore_n 3, 1) := by decide +kernel
theorem dBo_best_13 : decode mBo_best.2.1 13 = .ok (.iconst (-1), 1) := by decide +kernel
theorem dBo_best_14 : decode mBo_best.2.1 14 = .ok (.istore 4, 2) := by decide +kernel
theorem dBo_best_16 : decode mBo_best.2.1 16 = .ok (.iconst 0, 1) := by decide +kernel
theorem dBo_best_17 : decode mBo_best.2.1 17 = .ok (.istore 5, 2) := by decide +kernel
theorem dBo_best_19 : decode mBo_best.2.1 19 = .ok (.iload 5, 2) := by decide +kernel
theorem dBo_best_21 : decode mBo_best.2.1 21 = .ok (.bipush 10, 2) := by decide +kernel
theorem dBo_best_23 : decode mBo_best.2.1 23 = .ok (.if_icmp .gt 46, 3) := by decide +kernel
theorem dBo_best_26 : decode mBo_best.2.1 26 = .ok (.iconst 1, 1) := by decide +kernel
theorem dBo_best_27 : decode mBo_best.2.1 27 = .ok (.iload 5, 2) := by decide +kernel
theorem dBo_best_29 : decode mBo_best.2.1 29 = .ok (.ishl, 1) := by decide +kernel
theorem dBo_best_30 : decode mBo_best.2.1 30 = .ok (.iconst 1, 1) := by decide +kernel
theorem dBo_best_31 : decode mBo_best.2.1 31 = .ok (.isub, 1) := by decide +kernel
theorem dBo_best_32 : decode mBo_best.2.1 32 = .ok (.istore 6, 2) := by decide +kernel
theorem dBo_best_34 : decode mBo_best.2.1 34 = .ok (.aload_n 0, 1) := by decide +kernel
theorem dBo_best_35 : decode mBo_best.2.1 35 = .ok (.iload_n 1, 1) := by decide +kernel
theorem dBo_best_36 : decode mBo_best.2.1 36 = .ok (.iload 6, 2) := by decide +kernel
theorem dBo_best_38 : decode mBo_best.2.1 38 = .ok (.invokevirtual 255, 3) := by decide +kernel
theorem dBo_best_41 : decode mBo_best.2.1 41 = .ok (.istore 7, 2) := by decide +kernel
theorem dBo_best_43 : decode mBo_best.2.1 43 = .ok (.iload 7, 2) := by decide +kernel
theorem dBo_best_45 : decode mBo_best.2.1 45 = .ok (.invokestatic 258, 3) := by decide +kernel
theorem dBo_best_48 : decode mBo_best.2.1 48 = .ok (.iload 4, 2) := by decide +kernel
theorem dBo_best_50 : decode mBo_best.2.1 50 = .ok (.invokestatic 258, 3) := by decide +kernel
theorem dBo_best_53 : decode mBo_best.2.1 53 = .ok (.if_icmp .ge 10, 3) := by decide +kernel
theorem dBo_best_56 : decode mBo_best.2.1 56 = .ok (.iload 6, 2) := by decide +kernel
theorem dBo_best_58 : decode mBo_best.2.1 58 = .ok (.istore_n 3, 1) := by decide +kernel
theorem dBo_best_59 : decode mBo_best.2.1 59 = .ok (.iload 7, 2) := by decide +kernel
theorem dBo_best_61 : decode mBo_best.2.1 61 = .ok (.istore 4, 2) := by decide +kernel
theorem dBo_best_63 : decode mBo_best.2.1 63 = .ok (.iinc 5 1, 3) := by decide +kernel
theorem dBo_best_66 : decode mBo_best.2.1 66 = .ok (.goto (-47), 3) := by decide +kernel
theorem dBo_best_69 : decode mBo_best.2.1 69 = .ok (.iload_n 2, 1) := by decide +kernel
theorem dBo_best_70 : decode mBo_best.2.1 70 = .ok (.ifCond .ne 7, 3) := by decide +kernel
theorem dBo_best_73 : decode mBo_best.2.1 73 = .ok (.iload_n 3, 1) := by decide +kernel
theorem dBo_best_74 : decode mBo_best.2.1 74 = .ok (.goto 5, 3) := by decide +kernel
theorem dBo_best_77 : decode mBo_best.2.1 77 = .ok (.iload 4, 2) := by decide +kernel
theorem dBo_best_79 : decode mBo_best.2.1 79 = .ok (.ireturn, 1) := by decide +kernel
theorem bBo_best_0 {l : Launch} {G : Gx} {d : Nat} {bc bs : Nat} {Φ : OutV → Mm → Prop} (M : Mm) (a0 : Nat) (x1 : Int32) (x2 : Int32)
    (h : ((m_sh M a0).1 = 10) ∧ CallVC l G d mBo_best 5 [.ref a0, .int x1, .int x2, .null, .null, .null, .null, .null] [] mBo_checkPerson [.ref a0, .int x1] M bc bs Φ) :
    Ev l G d mBo_best 0 [.ref a0, .int x1, .int x2, .null, .null, .null, .null, .null] [] M bc bs Φ := by
  refine Ev.aload_n dBo_best_0 rfl ?_
  refine Ev.iload_n dBo_best_1 rfl ?_
  have g1 := h.1
  replace h := h.2
  exact Ev.vcV (z := mBo_checkPerson) (ci := 10) [.int x1] [] rfl dBo_best_2 oBo_checkPerson rfl w1006 iBo_checkPerson sBo_checkPerson (by decide) rfl g1 (Nat.le_of_ble_eq_true rfl) h
theorem bBo_best_5 {l : Launch} {G : Gx} {d : Nat} {bc bs : Nat} {Φ : OutV → Mm → Prop} (M : Mm) (a0 : Nat) (x1 : Int32) (x2 : Int32) (u3 : Value) (u4 : Value) (u5 : Value) (u6 : Value) (u7 : Value)
    (h : ((m_sh M a0).1 = 10) ∧ CallVC l G d mBo_best 11 [.ref a0, .int x1, .int x2, u3, u4, u5, u6, u7] [] mBo_checkWhat [.ref a0, .int x2, .int 1] M bc bs Φ) :
    Ev l G d mBo_best 5 [.ref a0, .int x1, .int x2, u3, u4, u5, u6, u7] [] M bc bs Φ := by
  refine Ev.aload_n dBo_best_5 rfl ?_
  refine Ev.iload_n dBo_best_6 rfl ?_
  refine Ev.iconst (v := 1) dBo_best_7 (by decide) ?_
  have g1 := h.1
  replace h := h.2
  exact Ev.vcV (z := mBo_checkWhat) (ci := 10) [.int x2, .int 1] [] rfl dBo_best_8 oBo_checkWhat rfl w718 iBo_checkWhat sBo_checkWhat (by decide) rfl g1 (Nat.le_of_ble_eq_true rfl) h
theorem bBo_best_11 {l : Launch} {G : Gx} {d : Nat} {bc bs : Nat} {Φ : OutV → Mm → Prop} (M : Mm) (a0 : Nat) (x1 : Int32) (x2 : Int32) (u3 : Value) (u4 : Value) (u5 : Value) (u6 : Value) (u7 : Value)
    (h : Ev l G d mBo_best 19 [.ref a0, .int x1, .int x2, .int 0, .int ((-1)), .int 0, u6, u7] [] M bc bs Φ) :
    Ev l G d mBo_best 11 [.ref a0, .int x1, .int x2, u3, u4, u5, u6, u7] [] M bc bs Φ := by
  refine Ev.iconst (v := 0) dBo_best_11 (by decide) ?_
  refine Ev.istore_n dBo_best_12 (by decide) ?_
  show Ev l G d mBo_best (_ + _) [.ref a0, .int x1, .int x2, .int 0, u4, u5, u6, u7] [] M bc bs Φ
  refine Ev.iconst (v := (-1)) dBo_best_13 (by decide) ?_
  refine Ev.istore dBo_best_14 (by decide) ?_
  show Ev l G d mBo_best (_ + _) [.ref a0, .int x1, .int x2, .int 0, .int ((-1)), u5, u6, u7] [] M bc bs Φ
  refine Ev.iconst (v := 0) dBo_best_16 (by decide) ?_
  refine Ev.istore dBo_best_17 (by decide) ?_
  show Ev l G d mBo_best (_ + _) [.ref a0, .int x1, .int x2, .int 0, .int ((-1)), .int 0, u6, u7] [] M bc bs Φ
  exact h
theorem bBo_best_19 {l : Launch} {G : Gx} {d : Nat} {bc bs : Nat} {Φ : OutV → Mm → Prop} (M : Mm) (a0 : Nat) (x1 : Int32) (x2 : Int32) (x3 : Int32) (x4 : Int32) (x5 : Int32) (u6 : Value) (u7 : Value)
    (h : (10 < x5 → (¬ x2 = 0 → Φ (.inl (some (.int x4))) M) ∧ (x2 = 0 → Φ (.inl (some (.int x3))) M)) ∧ (¬ 10 < x5 → ((m_sh M a0).1 = 10) ∧ CallVC l G d mBo_best 41 [.ref a0, .int x1, .int x2, .int x3, .int x4, .int x5, .int ((1 <<< (x5 &&& 31)) - 1), u7] [] mBo_endPlanning [.ref a0, .int x1, .int ((1 <<< (x5 &&& 31)) - 1)] M bc bs Φ)) :
    Ev l G d mBo_best 19 [.ref a0, .int x1, .int x2, .int x3, .int x4, .int x5, u6, u7] [] M bc bs Φ := by
  refine Ev.iload dBo_best_19 rfl ?_
  refine Ev.bipush (v := 10) dBo_best_21 (by decide) ?_
  refine Ev.icmp_gt 69 (by decide) dBo_best_23 (fun c => ?_) (fun c => ?_)
  · replace h := h.1 c
    refine Ev.iload_n dBo_best_69 rfl ?_
    refine Ev.if_ne 77 (by decide) dBo_best_70 (fun c => ?_) (fun c => ?_)
    · replace h := h.1 c
      refine Ev.iload dBo_best_77 rfl ?_
      exact Ev.iret dBo_best_79 rfl rfl h
    · replace h := h.2 c
      refine Ev.iload_n dBo_best_73 rfl ?_
      refine Ev.goto 79 dBo_best_74 (by decide) ?_
      exact Ev.iret dBo_best_79 rfl rfl h
  · replace h := h.2 c
    refine Ev.iconst (v := 1) dBo_best_26 (by decide) ?_
    refine Ev.iload dBo_best_27 rfl ?_
    refine Ev.ishl dBo_best_29 ?_
    refine Ev.iconst (v := 1) dBo_best_30 (by decide) ?_
    refine Ev.isub dBo_best_31 ?_
    refine Ev.istore dBo_best_32 (by decide) ?_
    show Ev l G d mBo_best (_ + _) [.ref a0, .int x1, .int x2, .int x3, .int x4, .int x5, .int ((1 <<< (x5 &&& 31)) - 1), u7] [] M bc bs Φ
    refine Ev.aload_n dBo_best_34 rfl ?_
    refine Ev.iload_n dBo_best_35 rfl ?_
    refine Ev.iload dBo_best_36 rfl ?_
    have g1 := h.1
    replace h := h.2
    exact Ev.vcV (z := mBo_endPlanning) (ci := 10) [.int x1, .int ((1 <<< (x5 &&& 31)) - 1)] [] rfl dBo_best_38 oBo_endPlanning rfl w1190 iBo_endPlanning sBo_endPlanning (by decide) rfl g1 (Nat.le_of_ble_eq_true rfl) h
theorem w1201 : Cond.methodLink "BowingRow" 258 ⟨"BowingRow", "late", "(I)I"⟩ ∈ lwg := lwg_of 1201 (by decide +kernel) (by decide +kernel)
theorem bBo_best_41 {l : Launch} {G : Gx} {d : Nat} {bc bs : Nat} {Φ : OutV → Mm → Prop} (M : Mm) (a0 : Nat) (x1 : Int32) (x2 : Int32) (x3 : Int32) (x4 : Int32) (x5 : Int32) (x6 : Int32) (u7 : Value) (s0 : Int32)
    (h : CallVC l G d mBo_best 48 [.ref a0, .int x1, .int x2, .int x3, .int x4, .int x5, .int x6, .int s0] [] mBo_late [.int s0] M bc bs Φ) :
    Ev l G d mBo_best 41 [.ref a0, .int x1, .int x2, .int x3, .int x4, .int x5, .int x6, u7] [.int s0] M bc bs Φ := by
  refine Ev.istore dBo_best_41 (by decide) ?_
  show Ev l G d mBo_best (_ + _) [.ref a0, .int x1, .int x2, .int x3, .int x4, .int x5, .int x6, .int s0] [] M bc bs Φ
  refine Ev.iload dBo_best_43 rfl ?_
  exact Ev.vcS (z := mBo_late) [.int s0] [] rfl dBo_best_45 oBo_late rfl w1201 iBo_late (Nat.le_of_ble_eq_true rfl) h
theorem bBo_best_48 {l : Launch} {G : Gx} {d : Nat} {bc bs : Nat} {Φ : OutV → Mm → Prop} (M : Mm) (a0 : Nat) (x1 : Int32) (x2 : Int32) (x3 : Int32) (x4 : Int32) (x5 : Int32) (x6 : Int32) (x7 : Int32) (s0 : Int32)
    (h : CallVC l G d mBo_best 53 [.ref a0, .int x1, .int x2, .int x3, .int x4, .int x5, .int x6, .int x7] [.int s0] mBo_late [.int x4] M bc bs Φ) :
    Ev l G d mBo_best 48 [.ref a0, .int x1, .int x2, .int x3, .int x4, .int x5, .int x6, .int x7] [.int s0] M bc bs Φ := by
  refine Ev.iload dBo_best_48 rfl ?_
  exact Ev.vcS (z := mBo_late) [.int x4] [.int s0] rfl dBo_best_50 oBo_late rfl w1201 iBo_late (Nat.le_of_ble_eq_true rfl) h
theorem bBo_best_53 {l : Launch} {G : Gx} {d : Nat} {bc bs : Nat} {Φ : OutV → Mm → Prop} (M : Mm) (a0 : Nat) (x1 : Int32) (x2 : Int32) (x3 : Int32) (x4 : Int32) (x5 : Int32) (x6 : Int32) (x7 : Int32) (s0 : Int32) (s1 : Int32)
    (h : (s1 ≤ s0 → Ev l G d mBo_best 63 [.ref a0, .int x1, .int x2, .int x3, .int x4, .int x5, .int x6, .int x7] [] M bc bs Φ) ∧ (¬ s1 ≤ s0 → Ev l G d mBo_best 63 [.ref a0, .int x1, .int x2, .int x6, .int x7, .int x5, .int x6, .int x7] [] M bc bs Φ)) :
    Ev l G d mBo_best 53 [.ref a0, .int x1, .int x2, .int x3, .int x4, .int x5, .int x6, .int x7] [.int s1, .int s0] M bc bs Φ := by
  refine Ev.icmp_ge 63 (by decide) dBo_best_53 (fun c => ?_) (fun c => ?_)
  · replace h := h.1 c
    exact h
  · replace h := h.2 c
    refine Ev.iload dBo_best_56 rfl ?_
    refine Ev.istore_n dBo_best_58 (by decide) ?_
    show Ev l G d mBo_best (_ + _) [.ref a0, .int x1, .int x2, .int x6, .int x4, .int x5, .int x6, .int x7] [] M bc bs Φ
    refine Ev.iload dBo_best_59 rfl ?_
    refine Ev.istore dBo_best_61 (by decide) ?_
    show Ev l G d mBo_best (_ + _) [.ref a0, .int x1, .int x2, .int x6, .int x7, .int x5, .int x6, .int x7] [] M bc bs Φ
    exact h
theorem bBo_best_63 {l : Launch} {G : Gx} {d : Nat} {bc bs : Nat} {Φ : OutV → Mm → Prop} (M : Mm) (a0 : Nat) (x1 : Int32) (x2 : Int32) (x3 : Int32) (x4 : Int32) (x5 : Int32) (x6 : Int32) (x7 : Int32)
    (h : Ev l G d mBo_best 19 [.ref a0, .int x1, .int x2, .int x3, .int x4, .int (x5 + 1), .int x6, .int x7] [] M bc bs Φ) :
    Ev l G d mBo_best 63 [.ref a0, .int x1, .int x2, .int x3, .int x4, .int x5, .int x6, .int x7] [] M bc bs Φ := by
  refine Ev.iinc (v := x5 + 1) dBo_best_63 (by decide) rfl rfl ?_
  show Ev l G d mBo_best (_ + _) [.ref a0, .int x1, .int x2, .int x3, .int x4, .int (x5 + 1), .int x6, .int x7] [] M bc bs Φ
  refine Ev.goto 19 dBo_best_66 (by decide) ?_
  exact h
theorem dBo_late_0 : decode mBo_late.2.1 0 = .ok (.iload_n 0, 1) := by decide +kernel
theorem dBo_late_1 : decode mBo_late.2.1 1 = .ok (.iconst (-1), 1) := by decide +kernel
theorem dBo_late_2 : decode mBo_late.2.1 2 = .ok (.if_icmp .ne 9, 3) := by decide +kernel
theorem dBo_late_5 : decode mBo_late.2.1 5 = .ok (.sipush 9999, 3) := by decide +kernel
theorem dBo_late_8 : decode mBo_late.2.1 8 = .ok (.goto 4, 3) := by decide +kernel
theorem dBo_late_11 : decode mBo_late.2.1 11 = .ok (.iload_n 0, 1) := by decide +kernel
theorem dBo_late_12 : decode mBo_late.2.1 12 = .ok (.ireturn, 1) := by decide +kernel
theorem bBo_late_0 {l : Launch} {G : Gx} {d : Nat} {bc bs : Nat} {Φ : OutV → Mm → Prop} (M : Mm) (x0 : Int32)
    (h : (¬ x0 = ((-1)) → Φ (.inl (some (.int x0))) M) ∧ (x0 = ((-1)) → Φ (.inl (some (.int 9999))) M)) :
    Ev l G d mBo_late 0 [.int x0] [] M bc bs Φ := by
  refine Ev.iload_n dBo_late_0 rfl ?_
  refine Ev.iconst (v := (-1)) dBo_late_1 (by decide) ?_
  refine Ev.icmp_ne 11 (by decide) dBo_late_2 (fun c => ?_) (fun c => ?_)
  · replace h := h.1 c
    refine Ev.iload_n dBo_late_11 rfl ?_
    exact Ev.iret dBo_late_12 rfl rfl h
  · replace h := h.2 c
    refine Ev.sipush (v := 9999) dBo_late_5 (by decide) ?_
    refine Ev.goto 12 dBo_late_8 (by decide) ?_
    exact Ev.iret dBo_late_12 rfl rfl h
def mBo_gain : MR := (⟨"BowingRow", "gain", "(II)I"⟩, prog_1_method_25_code, 3, (Option.some .int))
theorem oBo_gain : MOK mBo_gain 2 := ⟨lwg_of 1210 (by decide +kernel) (by decide +kernel), lwg_of 91 (by decide +kernel) (by decide +kernel), ⟨by decide +kernel, by decide +kernel⟩, by decide +kernel, by decide⟩
theorem iBo_gain : Cond.instanceMethod mBo_gain.1 ∈ lwg := lwg_of 1208 (by decide +kernel) (by decide +kernel)
theorem sBo_gain : Cond.selects mBo_gain.1.cls mBo_gain.1 mBo_gain.1 ∈ lwg := lwg_of 1209 (by decide +kernel) (by decide +kernel)
theorem dBo_gain_0 : decode mBo_gain.2.1 0 = .ok (.aload_n 0, 1) := by decide +kernel
theorem dBo_gain_1 : decode mBo_gain.2.1 1 = .ok (.iload_n 1, 1) := by decide +kernel
theorem dBo_gain_2 : decode mBo_gain.2.1 2 = .ok (.invokevirtual 134, 3) := by decide +kernel
theorem dBo_gain_5 : decode mBo_gain.2.1 5 = .ok (.aload_n 0, 1) := by decide +kernel
theorem dBo_gain_6 : decode mBo_gain.2.1 6 = .ok (.iload_n 2, 1) := by decide +kernel
theorem dBo_gain_7 : decode mBo_gain.2.1 7 = .ok (.iconst 4, 1) := by decide +kernel
theorem dBo_gain_8 : decode mBo_gain.2.1 8 = .ok (.invokevirtual 127, 3) := by decide +kernel
theorem dBo_gain_11 : decode mBo_gain.2.1 11 = .ok (.aload_n 0, 1) := by decide +kernel
theorem dBo_gain_12 : decode mBo_gain.2.1 12 = .ok (.invokevirtual 162, 3) := by decide +kernel
theorem dBo_gain_15 : decode mBo_gain.2.1 15 = .ok (.getfield 229, 3) := by decide +kernel
theorem dBo_gain_18 : decode mBo_gain.2.1 18 = .ok (.iload_n 1, 1) := by decide +kernel
theorem dBo_gain_19 : decode mBo_gain.2.1 19 = .ok (.iaload, 1) := by decide +kernel
theorem dBo_gain_20 : decode mBo_gain.2.1 20 = .ok (.invokestatic 258, 3) := by decide +kernel
theorem dBo_gain_23 : decode mBo_gain.2.1 23 = .ok (.aload_n 0, 1) := by decide +kernel
theorem dBo_gain_24 : decode mBo_gain.2.1 24 = .ok (.iconst 0, 1) := by decide +kernel
theorem dBo_gain_25 : decode mBo_gain.2.1 25 = .ok (.iload_n 1, 1) := by decide +kernel
theorem dBo_gain_26 : decode mBo_gain.2.1 26 = .ok (.iload_n 2, 1) := by decide +kernel
theorem dBo_gain_27 : decode mBo_gain.2.1 27 = .ok (.invokevirtual 252, 3) := by decide +kernel
theorem dBo_gain_30 : decode mBo_gain.2.1 30 = .ok (.invokestatic 258, 3) := by decide +kernel
theorem dBo_gain_33 : decode mBo_gain.2.1 33 = .ok (.isub, 1) := by decide +kernel
theorem dBo_gain_34 : decode mBo_gain.2.1 34 = .ok (.ireturn, 1) := by decide +kernel
theorem bBo_gain_0 {l : Launch} {G : Gx} {d : Nat} {bc bs : Nat} {Φ : OutV → Mm → Prop} (M : Mm) (a0 : Nat) (x1 : Int32) (x2 : Int32)
    (h : ((m_sh M a0).1 = 10) ∧ CallVC l G d mBo_gain 5 [.ref a0, .int x1, .int x2] [] mBo_checkPerson [.ref a0, .int x1] M bc bs Φ) :
    Ev l G d mBo_gain 0 [.ref a0, .int x1, .int x2] [] M bc bs Φ := by
  refine Ev.aload_n dBo_gain_0 rfl ?_
  refine Ev.iload_n dBo_gain_1 rfl ?_
  have g1 := h.1
  replace h := h.2
  exact Ev.vcV (z := mBo_checkPerson) (ci := 10) [.int x1] [] rfl dBo_gain_2 oBo_checkPerson rfl w1006 iBo_checkPerson sBo_checkPerson (by decide) rfl g1 (Nat.le_of_ble_eq_true rfl) h
theorem bBo_gain_5 {l : Launch} {G : Gx} {d : Nat} {bc bs : Nat} {Φ : OutV → Mm → Prop} (M : Mm) (a0 : Nat) (x1 : Int32) (x2 : Int32)
    (h : ((m_sh M a0).1 = 10) ∧ CallVC l G d mBo_gain 11 [.ref a0, .int x1, .int x2] [] mBo_checkWhat [.ref a0, .int x2, .int 4] M bc bs Φ) :
    Ev l G d mBo_gain 5 [.ref a0, .int x1, .int x2] [] M bc bs Φ := by
  refine Ev.aload_n dBo_gain_5 rfl ?_
  refine Ev.iload_n dBo_gain_6 rfl ?_
  refine Ev.iconst (v := 4) dBo_gain_7 (by decide) ?_
  have g1 := h.1
  replace h := h.2
  exact Ev.vcV (z := mBo_checkWhat) (ci := 10) [.int x2, .int 4] [] rfl dBo_gain_8 oBo_checkWhat rfl w718 iBo_checkWhat sBo_checkWhat (by decide) rfl g1 (Nat.le_of_ble_eq_true rfl) h
theorem bBo_gain_11 {l : Launch} {G : Gx} {d : Nat} {bc bs : Nat} {Φ : OutV → Mm → Prop} (M : Mm) (a0 : Nat) (x1 : Int32) (x2 : Int32)
    (h : ((m_sh M a0).1 = 10) ∧ CallVC l G d mBo_gain 15 [.ref a0, .int x1, .int x2] [] mBo_dayAsItIs [.ref a0] M bc bs Φ) :
    Ev l G d mBo_gain 11 [.ref a0, .int x1, .int x2] [] M bc bs Φ := by
  refine Ev.aload_n dBo_gain_11 rfl ?_
  have g1 := h.1
  replace h := h.2
  exact Ev.vcV (z := mBo_dayAsItIs) (ci := 10) [] [] rfl dBo_gain_12 oBo_dayAsItIs rfl w557 iBo_dayAsItIs sBo_dayAsItIs (by decide) rfl g1 (Nat.le_of_ble_eq_true rfl) h
theorem bBo_gain_15 {l : Launch} {G : Gx} {d : Nat} {bc bs : Nat} {Φ : OutV → Mm → Prop} (M : Mm) (a0 : Nat) (x1 : Int32) (x2 : Int32) (r0 : Nat)
    (h : ((m_sh M r0).1 = 1) ∧ ((m_sh M (m_r M r0 11)).1 = 20) ∧ (vp_in x1 (m_sh M (m_r M r0 11)).2) ∧ CallVC l G d mBo_gain 23 [.ref a0, .int x1, .int x2] [] mBo_late [.int (m_i M (m_r M r0 11) x1.toNatClampNeg)] M bc bs Φ) :
    Ev l G d mBo_gain 15 [.ref a0, .int x1, .int x2] [.ref r0] M bc bs Φ := by
  have g1 := h.1
  replace h := h.2
  refine Ev.getR dBo_gain_15 (Or.inl fBo_229) rfl g1 ?_
  refine Ev.iload_n dBo_gain_18 rfl ?_
  have g2 := h.1
  replace h := h.2
  have g3 := h.1
  replace h := h.2
  refine Ev.iald2 dBo_gain_19 g2 g3 ?_
  exact Ev.vcS (z := mBo_late) [.int (m_i M (m_r M r0 11) x1.toNatClampNeg)] [] rfl dBo_gain_20 oBo_late rfl w1201 iBo_late (Nat.le_of_ble_eq_true rfl) h
theorem bBo_gain_23 {l : Launch} {G : Gx} {d : Nat} {bc bs : Nat} {Φ : OutV → Mm → Prop} (M : Mm) (a0 : Nat) (x1 : Int32) (x2 : Int32) (s0 : Int32)
    (h : ((m_sh M a0).1 = 10) ∧ CallVC l G d mBo_gain 30 [.ref a0, .int x1, .int x2] [.int s0] mBo_endTurning [.ref a0, .int 0, .int x1, .int x2] M bc bs Φ) :
    Ev l G d mBo_gain 23 [.ref a0, .int x1, .int x2] [.int s0] M bc bs Φ := by
  refine Ev.aload_n dBo_gain_23 rfl ?_
  refine Ev.iconst (v := 0) dBo_gain_24 (by decide) ?_
  refine Ev.iload_n dBo_gain_25 rfl ?_
  refine Ev.iload_n dBo_gain_26 rfl ?_
  have g1 := h.1
  replace h := h.2
  exact Ev.vcV (z := mBo_endTurning) (ci := 10) [.int 0, .int x1, .int x2] [.int s0] rfl dBo_gain_27 oBo_endTurning rfl w1179 iBo_endTurning sBo_endTurning (by decide) rfl g1 (Nat.le_of_ble_eq_true rfl) h
theorem bBo_gain_30 {l : Launch} {G : Gx} {d : Nat} {bc bs : Nat} {Φ : OutV → Mm → Prop} (M : Mm) (a0 : Nat) (x1 : Int32) (x2 : Int32) (s0 : Int32) (s1 : Int32)
    (h : CallVC l G d mBo_gain 33 [.ref a0, .int x1, .int x2] [.int s0] mBo_late [.int s1] M bc bs Φ) :
    Ev l G d mBo_gain 30 [.ref a0, .int x1, .int x2] [.int s1, .int s0] M bc bs Φ := by
  exact Ev.vcS (z := mBo_late) [.int s1] [.int s0] rfl dBo_gain_30 oBo_late rfl w1201 iBo_late (Nat.le_of_ble_eq_true rfl) h
theorem bBo_gain_33 {l : Launch} {G : Gx} {d : Nat} {bc bs : Nat} {Φ : OutV → Mm → Prop} (M : Mm) (a0 : Nat) (x1 : Int32) (x2 : Int32) (s0 : Int32) (s1 : Int32)
    (h : Φ (.inl (some (.int (s0 - s1)))) M) :
    Ev l G d mBo_gain 33 [.ref a0, .int x1, .int x2] [.int s1, .int s0] M bc bs Φ := by
  refine Ev.isub dBo_gain_33 ?_
  exact Ev.iret dBo_gain_34 rfl rfl h
def mBo_rest : MR := (⟨"BowingRow", "rest", "(I)I"⟩, prog_1_method_26_code, 2, (Option.some .int))
theorem oBo_rest : MOK mBo_rest 1 := ⟨lwg_of 1218 (by decide +kernel) (by decide +kernel), lwg_of 91 (by decide +kernel) (by decide +kernel), ⟨by decide +kernel, by decide +kernel⟩, by decide +kernel, by decide⟩
theorem iBo_rest : Cond.instanceMethod mBo_rest.1 ∈ lwg := lwg_of 1216 (by decide +kernel) (by decide +kernel)
theorem sBo_rest : Cond.selects mBo_rest.1.cls mBo_rest.1 mBo_rest.1 ∈ lwg := lwg_of 1217 (by decide +kernel) (by decide +kernel)
theorem dBo_rest_0 : decode mBo_rest.2.1 0 = .ok (.aload_n 0, 1) := by decide +kernel
theorem dBo_rest_1 : decode mBo_rest.2.1 1 = .ok (.iload_n 1, 1) := by decide +kernel
theorem dBo_rest_2 : decode mBo_rest.2.1 2 = .ok (.iconst 1, 1) := by decide +kernel
theorem dBo_rest_3 : decode mBo_rest.2.1 3 = .ok (.invokevirtual 127, 3) := by decide +kernel
theorem dBo_rest_6 : decode mBo_rest.2.1 6 = .ok (.aload_n 0, 1) := by decide +kernel
theorem dBo_rest_7 : decode mBo_rest.2.1 7 = .ok (.invokevirtual 261, 3) := by decide +kernel
theorem dBo_rest_10 : decode mBo_rest.2.1 10 = .ok (.aload_n 0, 1) := by decide +kernel
theorem dBo_rest_11 : decode mBo_rest.2.1 11 = .ok (.getfield 71, 3) := by decide +kernel
theorem dBo_rest_14 : decode mBo_rest.2.1 14 = .ok (.aload_n 0, 1) := by decide +kernel
theorem dBo_rest_15 : decode mBo_rest.2.1 15 = .ok (.getfield 27, 3) := by decide +kernel
theorem dBo_rest_18 : decode mBo_rest.2.1 18 = .ok (.aload_n 0, 1) := by decide +kernel
theorem dBo_rest_19 : decode mBo_rest.2.1 19 = .ok (.getfield 49, 3) := by decide +kernel
theorem dBo_rest_22 : decode mBo_rest.2.1 22 = .ok (.aload_n 0, 1) := by decide +kernel
theorem dBo_rest_23 : decode mBo_rest.2.1 23 = .ok (.getfield 65, 3) := by decide +kernel
theorem dBo_rest_26 : decode mBo_rest.2.1 26 = .ok (.invokevirtual 264, 3) := by decide +kernel
theorem dBo_rest_29 : decode mBo_rest.2.1 29 = .ok (.iload_n 1, 1) := by decide +kernel
theorem dBo_rest_30 : decode mBo_rest.2.1 30 = .ok (.ifCond .ne 13, 3) := by decide +kernel
theorem dBo_rest_33 : decode mBo_rest.2.1 33 = .ok (.aload_n 0, 1) := by decide +kernel
theorem dBo_rest_34 : decode mBo_rest.2.1 34 = .ok (.getfield 71, 3) := by decide +kernel
theorem dBo_rest_37 : decode mBo_rest.2.1 37 = .ok (.getfield 268, 3) := by decide +kernel
theorem dBo_rest_40 : decode mBo_rest.2.1 40 = .ok (.goto 10, 3) := by decide +kernel
theorem dBo_rest_43 : decode mBo_rest.2.1 43 = .ok (.aload_n 0, 1) := by decide +kernel
theorem dBo_rest_44 : decode mBo_rest.2.1 44 = .ok (.getfield 71, 3) := by decide +kernel
theorem dBo_rest_47 : decode mBo_rest.2.1 47 = .ok (.getfield 271, 3) := by decide +kernel
theorem dBo_rest_50 : decode mBo_rest.2.1 50 = .ok (.ireturn, 1) := by decide +kernel
theorem bBo_rest_0 {l : Launch} {G : Gx} {d : Nat} {bc bs : Nat} {Φ : OutV → Mm → Prop} (M : Mm) (a0 : Nat) (x1 : Int32)
    (h : ((m_sh M a0).1 = 10) ∧ CallVC l G d mBo_rest 6 [.ref a0, .int x1] [] mBo_checkWhat [.ref a0, .int x1, .int 1] M bc bs Φ) :
    Ev l G d mBo_rest 0 [.ref a0, .int x1] [] M bc bs Φ := by
  refine Ev.aload_n dBo_rest_0 rfl ?_
  refine Ev.iload_n dBo_rest_1 rfl ?_
  refine Ev.iconst (v := 1) dBo_rest_2 (by decide) ?_
  have g1 := h.1
  replace h := h.2
  exact Ev.vcV (z := mBo_checkWhat) (ci := 10) [.int x1, .int 1] [] rfl dBo_rest_3 oBo_checkWhat rfl w718 iBo_checkWhat sBo_checkWhat (by decide) rfl g1 (Nat.le_of_ble_eq_true rfl) h
def mBo_checkFewEnough : MR := (⟨"BowingRow", "checkFewEnough", "()V"⟩, prog_1_method_36_code, 1, none)
theorem oBo_checkFewEnough : MOK mBo_checkFewEnough 0 := ⟨lwg_of 1222 (by decide +kernel) (by decide +kernel), lwg_of 91 (by decide +kernel) (by decide +kernel), ⟨by decide +kernel, by decide +kernel⟩, by decide +kernel, by decide⟩
theorem iBo_checkFewEnough : Cond.instanceMethod mBo_checkFewEnough.1 ∈ lwg := lwg_of 1221 (by decide +kernel) (by decide +kernel)
theorem sBo_checkFewEnough : Cond.selects mBo_checkFewEnough.1.cls mBo_checkFewEnough.1 mBo_checkFewEnough.1 ∈ lwg := lwg_of 34 (by decide +kernel) (by decide +kernel)
theorem w1219 : Cond.methodLink "BowingRow" 261 ⟨"BowingRow", "checkFewEnough", "()V"⟩ ∈ lwg := lwg_of 1219 (by decide +kernel) (by decide +kernel)
theorem bBo_rest_6 {l : Launch} {G : Gx} {d : Nat} {bc bs : Nat} {Φ : OutV → Mm → Prop} (M : Mm) (a0 : Nat) (x1 : Int32)
    (h : ((m_sh M a0).1 = 10) ∧ CallVC l G d mBo_rest 10 [.ref a0, .int x1] [] mBo_checkFewEnough [.ref a0] M bc bs Φ) :
    Ev l G d mBo_rest 6 [.ref a0, .int x1] [] M bc bs Φ := by
  refine Ev.aload_n dBo_rest_6 rfl ?_
  have g1 := h.1
  replace h := h.2
  exact Ev.vcV (z := mBo_checkFewEnough) (ci := 10) [] [] rfl dBo_rest_7 oBo_checkFewEnough rfl w1219 iBo_checkFewEnough sBo_checkFewEnough (by decide) rfl g1 (Nat.le_of_ble_eq_true rfl) h
theorem w1239 : Cond.methodLink "BowingRow" 264 ⟨"BowingRow$WayRows", "work", "(LBowingRow$People;LBowingRow$InForce;LBowingRow$Day;)V"⟩ ∈ lwg := lwg_of 1239 (by decide +kernel) (by decide +kernel)
theorem bBo_rest_10 {l : Launch} {G : Gx} {d : Nat} {bc bs : Nat} {Φ : OutV → Mm → Prop} (M : Mm) (a0 : Nat) (x1 : Int32)
    (h : ((m_sh M a0).1 = 10) ∧ ((m_sh M (m_r M a0 12)).1 = 9) ∧ CallVC l G d mBo_rest 29 [.ref a0, .int x1] [] mWr_work [.ref (m_r M a0 12), .ref (m_r M a0 4), .ref (m_r M a0 8), .ref (m_r M a0 11)] M bc bs Φ) :
    Ev l G d mBo_rest 10 [.ref a0, .int x1] [] M bc bs Φ := by
  refine Ev.aload_n dBo_rest_10 rfl ?_
  have g1 := h.1
  replace h := h.2
  refine Ev.getR dBo_rest_11 (Or.inl fBo_71) rfl g1 ?_
  refine Ev.aload_n dBo_rest_14 rfl ?_
  refine Ev.getR dBo_rest_15 (Or.inl fBo_27) rfl g1 ?_
  refine Ev.aload_n dBo_rest_18 rfl ?_
  refine Ev.getR dBo_rest_19 (Or.inl fBo_49) rfl g1 ?_
  refine Ev.aload_n dBo_rest_22 rfl ?_
  refine Ev.getR dBo_rest_23 (Or.inl fBo_65) rfl g1 ?_
  have g2 := h.1
  replace h := h.2
  exact Ev.vcV (z := mWr_work) (ci := 9) [.ref (m_r M a0 4), .ref (m_r M a0 8), .ref (m_r M a0 11)] [] rfl dBo_rest_26 oWr_work rfl w1239 iWr_work sWr_work (by decide) rfl g2 (Nat.le_of_ble_eq_true rfl) h
theorem fBo_271 : FOK "BowingRow" 271 9 3 false := ⟨RX9, TX9, nFd 9, rfl, by decide, rfl, by decide, rfl, lwg_of 425 (by decide +kernel) (by decide +kernel)⟩
theorem fBo_268 : FOK "BowingRow" 268 9 2 false := ⟨RX9, TX9, nFd 9, rfl, by decide, rfl, by decide, rfl, lwg_of 423 (by decide +kernel) (by decide +kernel)⟩
theorem bBo_rest_29 {l : Launch} {G : Gx} {d : Nat} {bc bs : Nat} {Φ : OutV → Mm → Prop} (M : Mm) (a0 : Nat) (x1 : Int32)
    (h : (¬ x1 = 0 → ((m_sh M a0).1 = 10) ∧ ((m_sh M (m_r M a0 12)).1 = 9) ∧ Φ (.inl (some (.int (m_i M (m_r M a0 12) 3)))) M) ∧ (x1 = 0 → ((m_sh M a0).1 = 10) ∧ ((m_sh M (m_r M a0 12)).1 = 9) ∧ Φ (.inl (some (.int (m_i M (m_r M a0 12) 2)))) M)) :
    Ev l G d mBo_rest 29 [.ref a0, .int x1] [] M bc bs Φ := by
  refine Ev.iload_n dBo_rest_29 rfl ?_
  refine Ev.if_ne 43 (by decide) dBo_rest_30 (fun c => ?_) (fun c => ?_)
  · replace h := h.1 c
    refine Ev.aload_n dBo_rest_43 rfl ?_
    have g1 := h.1
    replace h := h.2
    refine Ev.getR dBo_rest_44 (Or.inl fBo_71) rfl g1 ?_
    have g2 := h.1
    replace h := h.2
    refine Ev.getI dBo_rest_47 (Or.inl fBo_271) rfl g2 ?_
    exact Ev.iret dBo_rest_50 rfl rfl h
  · replace h := h.2 c
    refine Ev.aload_n dBo_rest_33 rfl ?_
    have g3 := h.1
    replace h := h.2
    refine Ev.getR dBo_rest_34 (Or.inl fBo_71) rfl g3 ?_
    have g4 := h.1
    replace h := h.2
    refine Ev.getI dBo_rest_37 (Or.inl fBo_268) rfl g4 ?_
    refine Ev.goto 50 dBo_rest_40 (by decide) ?_
    exact Ev.iret dBo_rest_50 rfl rfl h
theorem dBo_checkFewEnough_0 : decode mBo_checkFewEnough.2.1 0 = .ok (.aload_n 0, 1) := by decide +kernel
theorem dBo_checkFewEnough_1 : decode mBo_checkFewEnough.2.1 1 = .ok (.getfield 27, 3) := by decide +kernel
theorem dBo_checkFewEnough_4 : decode mBo_checkFewEnough.2.1 4 = .ok (.getfield 120, 3) := by decide +kernel
theorem dBo_checkFewEnough_7 : decode mBo_checkFewEnough.2.1 7 = .ok (.iconst 5, 1) := by decide +kernel
theorem dBo_checkFewEnough_8 : decode mBo_checkFewEnough.2.1 8 = .ok (.if_icmp .le 14, 3) := by decide +kernel
theorem dBo_checkFewEnough_11 : decode mBo_checkFewEnough.2.1 11 = .ok (.new 306, 3) := by decide +kernel
theorem dBo_checkFewEnough_14 : decode mBo_checkFewEnough.2.1 14 = .ok (.dup, 1) := by decide +kernel
theorem dBo_checkFewEnough_15 : decode mBo_checkFewEnough.2.1 15 = .ok (.ldc_w 308, 3) := by decide +kernel
theorem dBo_checkFewEnough_18 : decode mBo_checkFewEnough.2.1 18 = .ok (.invokespecial 310, 3) := by decide +kernel
theorem dBo_checkFewEnough_21 : decode mBo_checkFewEnough.2.1 21 = .ok (.athrow, 1) := by decide +kernel
theorem dBo_checkFewEnough_22 : decode mBo_checkFewEnough.2.1 22 = .ok (.return_, 1) := by decide +kernel
theorem tBo_310 : (vx_atS "BowingRow" 310 "java/lang/IllegalStateException" ["java/lang/RuntimeException", "java/lang/Exception"]).all (fun w => (lwg.contains w || lwx.contains w) && vx_ot w) = true := by decide +kernel
theorem w1223 : Cond.classLink "BowingRow" 306 "java/lang/IllegalStateException" ∈ lwg := lwg_of 1223 (by decide +kernel) (by decide +kernel)
theorem w118 : Cond.initialized "java/lang/IllegalStateException" ∈ lwg := lwg_of 118 (by decide +kernel) (by decide +kernel)
theorem bBo_checkFewEnough_0 {l : Launch} {G : Gx} {d : Nat} {bc bs : Nat} {Φ : OutV → Mm → Prop} (M : Mm) (a0 : Nat)
    (h : ((m_sh M a0).1 = 10) ∧ ((m_sh M (m_r M a0 4)).1 = 6) ∧ ((m_i M (m_r M a0 4) 2) ≤ 5 → Φ (.inl none) M) ∧ (¬ (m_i M (m_r M a0 4) 2) ≤ 5 → l.stackTraces = false ∧ 6 ≤ d ∧ 1 ≤ bc ∧ 6 ≤ bs ∧ Φ (.inr "java/lang/IllegalStateException") M)) :
    Ev l G d mBo_checkFewEnough 0 [.ref a0] [] M bc bs Φ := by
  refine Ev.aload_n dBo_checkFewEnough_0 rfl ?_
  have g1 := h.1
  replace h := h.2
  refine Ev.getR dBo_checkFewEnough_1 (Or.inl fBo_27) rfl g1 ?_
  have g2 := h.1
  replace h := h.2
  refine Ev.getI dBo_checkFewEnough_4 (Or.inl fBo_120) rfl g2 ?_
  refine Ev.iconst (v := 5) dBo_checkFewEnough_7 (by decide) ?_
  refine Ev.icmp_le 22 (by decide) dBo_checkFewEnough_8 (fun c => ?_) (fun c => ?_)
  · replace h := h.1 c
    exact Ev.vret dBo_checkFewEnough_22 rfl h
  · replace h := h.2 c
    exact Ev.throwS (cls := "java/lang/IllegalStateException") (text := "too many persons") (ik := 306) (is := 308) (ic := 310) h.1 (by decide +kernel) (w1223) (w118) (by decide +kernel) tBo_310 dBo_checkFewEnough_11 dBo_checkFewEnough_14 (Or.inr ⟨dBo_checkFewEnough_15, dBo_checkFewEnough_18, dBo_checkFewEnough_21⟩) (Nat.le_of_ble_eq_true rfl) h.2.1 h.2.2.1 h.2.2.2.1 h.2.2.2.2
def mBo_polite : MR := (⟨"BowingRow", "polite", "(I)I"⟩, prog_1_method_27_code, 2, (Option.some .int))
theorem oBo_polite : MOK mBo_polite 1 := ⟨lwg_of 1267 (by decide +kernel) (by decide +kernel), lwg_of 91 (by decide +kernel) (by decide +kernel), ⟨by decide +kernel, by decide +kernel⟩, by decide +kernel, by decide⟩
theorem iBo_polite : Cond.instanceMethod mBo_polite.1 ∈ lwg := lwg_of 1265 (by decide +kernel) (by decide +kernel)
theorem sBo_polite : Cond.selects mBo_polite.1.cls mBo_polite.1 mBo_polite.1 ∈ lwg := lwg_of 1266 (by decide +kernel) (by decide +kernel)
theorem dBo_polite_0 : decode mBo_polite.2.1 0 = .ok (.aload_n 0, 1) := by decide +kernel
theorem dBo_polite_1 : decode mBo_polite.2.1 1 = .ok (.iload_n 1, 1) := by decide +kernel
theorem dBo_polite_2 : decode mBo_polite.2.1 2 = .ok (.iconst 1, 1) := by decide +kernel
theorem dBo_polite_3 : decode mBo_polite.2.1 3 = .ok (.invokevirtual 127, 3) := by decide +kernel
theorem dBo_polite_6 : decode mBo_polite.2.1 6 = .ok (.aload_n 0, 1) := by decide +kernel
theorem dBo_polite_7 : decode mBo_polite.2.1 7 = .ok (.invokevirtual 261, 3) := by decide +kernel
theorem dBo_polite_10 : decode mBo_polite.2.1 10 = .ok (.aload_n 0, 1) := by decide +kernel
theorem dBo_polite_11 : decode mBo_polite.2.1 11 = .ok (.getfield 71, 3) := by decide +kernel
theorem dBo_polite_14 : decode mBo_polite.2.1 14 = .ok (.aload_n 0, 1) := by decide +kernel
theorem dBo_polite_15 : decode mBo_polite.2.1 15 = .ok (.getfield 27, 3) := by decide +kernel
theorem dBo_polite_18 : decode mBo_polite.2.1 18 = .ok (.aload_n 0, 1) := by decide +kernel
theorem dBo_polite_19 : decode mBo_polite.2.1 19 = .ok (.getfield 49, 3) := by decide +kernel
theorem dBo_polite_22 : decode mBo_polite.2.1 22 = .ok (.aload_n 0, 1) := by decide +kernel
theorem dBo_polite_23 : decode mBo_polite.2.1 23 = .ok (.getfield 65, 3) := by decide +kernel
theorem dBo_polite_26 : decode mBo_polite.2.1 26 = .ok (.invokevirtual 264, 3) := by decide +kernel
theorem dBo_polite_29 : decode mBo_polite.2.1 29 = .ok (.iload_n 1, 1) := by decide +kernel
theorem dBo_polite_30 : decode mBo_polite.2.1 30 = .ok (.ifCond .ne 13, 3) := by decide +kernel
theorem dBo_polite_33 : decode mBo_polite.2.1 33 = .ok (.aload_n 0, 1) := by decide +kernel
theorem dBo_polite_34 : decode mBo_polite.2.1 34 = .ok (.getfield 71, 3) := by decide +kernel
theorem dBo_polite_37 : decode mBo_polite.2.1 37 = .ok (.getfield 274, 3) := by decide +kernel
theorem dBo_polite_40 : decode mBo_polite.2.1 40 = .ok (.goto 10, 3) := by decide +kernel
theorem dBo_polite_43 : decode mBo_polite.2.1 43 = .ok (.aload_n 0, 1) := by decide +kernel
theorem dBo_polite_44 : decode mBo_polite.2.1 44 = .ok (.getfield 71, 3) := by decide +kernel
theorem dBo_polite_47 : decode mBo_polite.2.1 47 = .ok (.getfield 277, 3) := by decide +kernel
theorem dBo_polite_50 : decode mBo_polite.2.1 50 = .ok (.ireturn, 1) := by decide +kernel
theorem bBo_polite_0 {l : Launch} {G : Gx} {d : Nat} {bc bs : Nat} {Φ : OutV → Mm → Prop} (M : Mm) (a0 : Nat) (x1 : Int32)
    (h : ((m_sh M a0).1 = 10) ∧ CallVC l G d mBo_polite 6 [.ref a0, .int x1] [] mBo_checkWhat [.ref a0, .int x1, .int 1] M bc bs Φ) :
    Ev l G d mBo_polite 0 [.ref a0, .int x1] [] M bc bs Φ := by
  refine Ev.aload_n dBo_polite_0 rfl ?_
  refine Ev.iload_n dBo_polite_1 rfl ?_
  refine Ev.iconst (v := 1) dBo_polite_2 (by decide) ?_
  have g1 := h.1
  replace h := h.2
  exact Ev.vcV (z := mBo_checkWhat) (ci := 10) [.int x1, .int 1] [] rfl dBo_polite_3 oBo_checkWhat rfl w718 iBo_checkWhat sBo_checkWhat (by decide) rfl g1 (Nat.le_of_ble_eq_true rfl) h
theorem bBo_polite_6 {l : Launch} {G : Gx} {d : Nat} {bc bs : Nat} {Φ : OutV → Mm → Prop} (M : Mm) (a0 : Nat) (x1 : Int32)
    (h : ((m_sh M a0).1 = 10) ∧ CallVC l G d mBo_polite 10 [.ref a0, .int x1] [] mBo_checkFewEnough [.ref a0] M bc bs Φ) :
    Ev l G d mBo_polite 6 [.ref a0, .int x1] [] M bc bs Φ := by
  refine Ev.aload_n dBo_polite_6 rfl ?_
  have g1 := h.1
  replace h := h.2
  exact Ev.vcV (z := mBo_checkFewEnough) (ci := 10) [] [] rfl dBo_polite_7 oBo_checkFewEnough rfl w1219 iBo_checkFewEnough sBo_checkFewEnough (by decide) rfl g1 (Nat.le_of_ble_eq_true rfl) h
theorem bBo_polite_10 {l : Launch} {G : Gx} {d : Nat} {bc bs : Nat} {Φ : OutV → Mm → Prop} (M : Mm) (a0 : Nat) (x1 : Int32)
    (h : ((m_sh M a0).1 = 10) ∧ ((m_sh M (m_r M a0 12)).1 = 9) ∧ CallVC l G d mBo_polite 29 [.ref a0, .int x1] [] mWr_work [.ref (m_r M a0 12), .ref (m_r M a0 4), .ref (m_r M a0 8), .ref (m_r M a0 11)] M bc bs Φ) :
    Ev l G d mBo_polite 10 [.ref a0, .int x1] [] M bc bs Φ := by
  refine Ev.aload_n dBo_polite_10 rfl ?_
  have g1 := h.1
  replace h := h.2
  refine Ev.getR dBo_polite_11 (Or.inl fBo_71) rfl g1 ?_
  refine Ev.aload_n dBo_polite_14 rfl ?_
  refine Ev.getR dBo_polite_15 (Or.inl fBo_27) rfl g1 ?_
  refine Ev.aload_n dBo_polite_18 rfl ?_
  refine Ev.getR dBo_polite_19 (Or.inl fBo_49) rfl g1 ?_
  refine Ev.aload_n dBo_polite_22 rfl ?_
  refine Ev.getR dBo_polite_23 (Or.inl fBo_65) rfl g1 ?_
  have g2 := h.1
  replace h := h.2
  exact Ev.vcV (z := mWr_work) (ci := 9) [.ref (m_r M a0 4), .ref (m_r M a0 8), .ref (m_r M a0 11)] [] rfl dBo_polite_26 oWr_work rfl w1239 iWr_work sWr_work (by decide) rfl g2 (Nat.le_of_ble_eq_true rfl) h
theorem fBo_277 : FOK "BowingRow" 277 9 5 false := ⟨RX9, TX9, nFd 9, rfl, by decide, rfl, by decide, rfl, lwg_of 429 (by decide +kernel) (by decide +kernel)⟩
theorem fBo_274 : FOK "BowingRow" 274 9 4 false := ⟨RX9, TX9, nFd 9, rfl, by decide, rfl, by decide, rfl, lwg_of 427 (by decide +kernel) (by decide +kernel)⟩
theorem bBo_polite_29 {l : Launch} {G : Gx} {d : Nat} {bc bs : Nat} {Φ : OutV → Mm → Prop} (M : Mm) (a0 : Nat) (x1 : Int32)
    (h : (¬ x1 = 0 → ((m_sh M a0).1 = 10) ∧ ((m_sh M (m_r M a0 12)).1 = 9) ∧ Φ (.inl (some (.int (m_i M (m_r M a0 12) 5)))) M) ∧ (x1 = 0 → ((m_sh M a0).1 = 10) ∧ ((m_sh M (m_r M a0 12)).1 = 9) ∧ Φ (.inl (some (.int (m_i M (m_r M a0 12) 4)))) M)) :
    Ev l G d mBo_polite 29 [.ref a0, .int x1] [] M bc bs Φ := by
  refine Ev.iload_n dBo_polite_29 rfl ?_
  refine Ev.if_ne 43 (by decide) dBo_polite_30 (fun c => ?_) (fun c => ?_)
  · replace h := h.1 c
    refine Ev.aload_n dBo_polite_43 rfl ?_
    have g1 := h.1
    replace h := h.2
    refine Ev.getR dBo_polite_44 (Or.inl fBo_71) rfl g1 ?_
    have g2 := h.1
    replace h := h.2
    refine Ev.getI dBo_polite_47 (Or.inl fBo_277) rfl g2 ?_
    exact Ev.iret dBo_polite_50 rfl rfl h
  · replace h := h.2 c
    refine Ev.aload_n dBo_polite_33 rfl ?_
    have g3 := h.1
    replace h := h.2
    refine Ev.getR dBo_polite_34 (Or.inl fBo_71) rfl g3 ?_
    have g4 := h.1
    replace h := h.2
    refine Ev.getI dBo_polite_37 (Or.inl fBo_274) rfl g4 ?_
    refine Ev.goto 50 dBo_polite_40 (by decide) ?_
    exact Ev.iret dBo_polite_50 rfl rfl h
def mBo_struck : MR := (⟨"BowingRow", "struck", "(I)I"⟩, prog_1_method_28_code, 2, (Option.some .int))
theorem oBo_struck : MOK mBo_struck 1 := ⟨lwg_of 1274 (by decide +kernel) (by decide +kernel), lwg_of 91 (by decide +kernel) (by decide +kernel), ⟨by decide +kernel, by decide +kernel⟩, by decide +kernel, by decide⟩
theorem iBo_struck : Cond.instanceMethod mBo_struck.1 ∈ lwg := lwg_of 1272 (by decide +kernel) (by decide +kernel)
theorem sBo_struck : Cond.selects mBo_struck.1.cls mBo_struck.1 mBo_struck.1 ∈ lwg := lwg_of 1273 (by decide +kernel) (by decide +kernel)
theorem dBo_struck_0 : decode mBo_struck.2.1 0 = .ok (.aload_n 0, 1) := by decide +kernel
theorem dBo_struck_1 : decode mBo_struck.2.1 1 = .ok (.iload_n 1, 1) := by decide +kernel
theorem dBo_struck_2 : decode mBo_struck.2.1 2 = .ok (.iconst 1, 1) := by decide +kernel
theorem dBo_struck_3 : decode mBo_struck.2.1 3 = .ok (.invokevirtual 127, 3) := by decide +kernel
theorem dBo_struck_6 : decode mBo_struck.2.1 6 = .ok (.aload_n 0, 1) := by decide +kernel
theorem dBo_struck_7 : decode mBo_struck.2.1 7 = .ok (.getfield 78, 3) := by decide +kernel
theorem dBo_struck_10 : decode mBo_struck.2.1 10 = .ok (.aload_n 0, 1) := by decide +kernel
theorem dBo_struck_11 : decode mBo_struck.2.1 11 = .ok (.getfield 37, 3) := by decide +kernel
theorem dBo_struck_14 : decode mBo_struck.2.1 14 = .ok (.aload_n 0, 1) := by decide +kernel
theorem dBo_struck_15 : decode mBo_struck.2.1 15 = .ok (.getfield 27, 3) := by decide +kernel
theorem dBo_struck_18 : decode mBo_struck.2.1 18 = .ok (.aload_n 0, 1) := by decide +kernel
theorem dBo_struck_19 : decode mBo_struck.2.1 19 = .ok (.getfield 53, 3) := by decide +kernel
theorem dBo_struck_22 : decode mBo_struck.2.1 22 = .ok (.aload_n 0, 1) := by decide +kernel
theorem dBo_struck_23 : decode mBo_struck.2.1 23 = .ok (.getfield 65, 3) := by decide +kernel
theorem dBo_struck_26 : decode mBo_struck.2.1 26 = .ok (.invokevirtual 280, 3) := by decide +kernel
theorem dBo_struck_29 : decode mBo_struck.2.1 29 = .ok (.aload_n 0, 1) := by decide +kernel
theorem dBo_struck_30 : decode mBo_struck.2.1 30 = .ok (.getfield 78, 3) := by decide +kernel
theorem dBo_struck_33 : decode mBo_struck.2.1 33 = .ok (.getfield 283, 3) := by decide +kernel
theorem dBo_struck_36 : decode mBo_struck.2.1 36 = .ok (.iconst (-1), 1) := by decide +kernel
theorem dBo_struck_37 : decode mBo_struck.2.1 37 = .ok (.if_icmp .ne 5, 3) := by decide +kernel
theorem dBo_struck_40 : decode mBo_struck.2.1 40 = .ok (.iconst (-1), 1) := by decide +kernel
theorem dBo_struck_41 : decode mBo_struck.2.1 41 = .ok (.ireturn, 1) := by decide +kernel
theorem dBo_struck_42 : decode mBo_struck.2.1 42 = .ok (.iload_n 1, 1) := by decide +kernel
theorem dBo_struck_43 : decode mBo_struck.2.1 43 = .ok (.ifCond .ne 13, 3) := by decide +kernel
theorem dBo_struck_46 : decode mBo_struck.2.1 46 = .ok (.aload_n 0, 1) := by decide +kernel
theorem dBo_struck_47 : decode mBo_struck.2.1 47 = .ok (.getfield 78, 3) := by decide +kernel
theorem dBo_struck_50 : decode mBo_struck.2.1 50 = .ok (.getfield 283, 3) := by decide +kernel
theorem dBo_struck_53 : decode mBo_struck.2.1 53 = .ok (.goto 13, 3) := by decide +kernel
theorem dBo_struck_56 : decode mBo_struck.2.1 56 = .ok (.aload_n 0, 1) := by decide +kernel
theorem dBo_struck_57 : decode mBo_struck.2.1 57 = .ok (.getfield 78, 3) := by decide +kernel
theorem dBo_struck_60 : decode mBo_struck.2.1 60 = .ok (.getfield 283, 3) := by decide +kernel
theorem dBo_struck_63 : decode mBo_struck.2.1 63 = .ok (.invokestatic 172, 3) := by decide +kernel
theorem dBo_struck_66 : decode mBo_struck.2.1 66 = .ok (.ireturn, 1) := by decide +kernel
theorem bBo_struck_0 {l : Launch} {G : Gx} {d : Nat} {bc bs : Nat} {Φ : OutV → Mm → Prop} (M : Mm) (a0 : Nat) (x1 : Int32)
    (h : ((m_sh M a0).1 = 10) ∧ CallVC l G d mBo_struck 6 [.ref a0, .int x1] [] mBo_checkWhat [.ref a0, .int x1, .int 1] M bc bs Φ) :
    Ev l G d mBo_struck 0 [.ref a0, .int x1] [] M bc bs Φ := by
  refine Ev.aload_n dBo_struck_0 rfl ?_
  refine Ev.iload_n dBo_struck_1 rfl ?_
  refine Ev.iconst (v := 1) dBo_struck_2 (by decide) ?_
  have g1 := h.1
  replace h := h.2
  exact Ev.vcV (z := mBo_checkWhat) (ci := 10) [.int x1, .int 1] [] rfl dBo_struck_3 oBo_checkWhat rfl w718 iBo_checkWhat sBo_checkWhat (by decide) rfl g1 (Nat.le_of_ble_eq_true rfl) h
theorem bBo_struck_6 {l : Launch} {G : Gx} {d : Nat} {bc bs : Nat} {Φ : OutV → Mm → Prop} (M : Mm) (a0 : Nat) (x1 : Int32)
    (h : ((m_sh M a0).1 = 10) ∧ ((m_sh M (m_r M a0 13)).1 = 7) ∧ CallVC l G d mBo_struck 29 [.ref a0, .int x1] [] mSk_work [.ref (m_r M a0 13), .ref (m_r M a0 6), .ref (m_r M a0 4), .ref (m_r M a0 9), .ref (m_r M a0 11)] M bc bs Φ) :
    Ev l G d mBo_struck 6 [.ref a0, .int x1] [] M bc bs Φ := by
  refine Ev.aload_n dBo_struck_6 rfl ?_
  have g1 := h.1
  replace h := h.2
  refine Ev.getR dBo_struck_7 (Or.inl fBo_78) rfl g1 ?_
  refine Ev.aload_n dBo_struck_10 rfl ?_
  refine Ev.getR dBo_struck_11 (Or.inl fBo_37) rfl g1 ?_
  refine Ev.aload_n dBo_struck_14 rfl ?_
  refine Ev.getR dBo_struck_15 (Or.inl fBo_27) rfl g1 ?_
  refine Ev.aload_n dBo_struck_18 rfl ?_
  refine Ev.getR dBo_struck_19 (Or.inl fBo_53) rfl g1 ?_
  refine Ev.aload_n dBo_struck_22 rfl ?_
  refine Ev.getR dBo_struck_23 (Or.inl fBo_65) rfl g1 ?_
  have g2 := h.1
  replace h := h.2
  exact Ev.vcV (z := mSk_work) (ci := 7) [.ref (m_r M a0 6), .ref (m_r M a0 4), .ref (m_r M a0 9), .ref (m_r M a0 11)] [] rfl dBo_struck_26 oSk_work rfl w651 iSk_work sSk_work (by decide) rfl g2 (Nat.le_of_ble_eq_true rfl) h
theorem fBo_283 : FOK "BowingRow" 283 7 1 false := ⟨RX7, TX7, nFd 7, rfl, by decide, rfl, by decide, rfl, lwg_of 452 (by decide +kernel) (by decide +kernel)⟩
theorem bBo_struck_29 {l : Launch} {G : Gx} {d : Nat} {bc bs : Nat} {Φ : OutV → Mm → Prop} (M : Mm) (a0 : Nat) (x1 : Int32)
    (h : ((m_sh M a0).1 = 10) ∧ ((m_sh M (m_r M a0 13)).1 = 7) ∧ (¬ (m_i M (m_r M a0 13) 1) = ((-1)) → (¬ x1 = 0 → CallVC l G d mBo_struck 66 [.ref a0, .int x1] [] mjI_bitCount [.int (m_i M (m_r M a0 13) 1)] M bc bs Φ) ∧ (x1 = 0 → Ev l G d mBo_struck 66 [.ref a0, .int x1] [.int (m_i M (m_r M a0 13) 1)] M bc bs Φ)) ∧ ((m_i M (m_r M a0 13) 1) = ((-1)) → Φ (.inl (some (.int ((-1))))) M)) :
    Ev l G d mBo_struck 29 [.ref a0, .int x1] [] M bc bs Φ := by
  refine Ev.aload_n dBo_struck_29 rfl ?_
  have g1 := h.1
  replace h := h.2
  refine Ev.getR dBo_struck_30 (Or.inl fBo_78) rfl g1 ?_
  have g2 := h.1
  replace h := h.2
  refine Ev.getI dBo_struck_33 (Or.inl fBo_283) rfl g2 ?_
  refine Ev.iconst (v := (-1)) dBo_struck_36 (by decide) ?_
  refine Ev.icmp_ne 42 (by decide) dBo_struck_37 (fun c => ?_) (fun c => ?_)
  · replace h := h.1 c
    refine Ev.iload_n dBo_struck_42 rfl ?_
    refine Ev.if_ne 56 (by decide) dBo_struck_43 (fun c => ?_) (fun c => ?_)
    · replace h := h.1 c
      refine Ev.aload_n dBo_struck_56 rfl ?_
      refine Ev.getR dBo_struck_57 (Or.inl fBo_78) rfl g1 ?_
      refine Ev.getI dBo_struck_60 (Or.inl fBo_283) rfl g2 ?_
      exact Ev.vcS (z := mjI_bitCount) [.int (m_i M (m_r M a0 13) 1)] [] rfl dBo_struck_63 ojI_bitCount rfl w1070 ijI_bitCount (Nat.le_of_ble_eq_true rfl) h
    · replace h := h.2 c
      refine Ev.aload_n dBo_struck_46 rfl ?_
      refine Ev.getR dBo_struck_47 (Or.inl fBo_78) rfl g1 ?_
      refine Ev.getI dBo_struck_50 (Or.inl fBo_283) rfl g2 ?_
      refine Ev.goto 66 dBo_struck_53 (by decide) ?_
      exact h
  · replace h := h.2 c
    refine Ev.iconst (v := (-1)) dBo_struck_40 (by decide) ?_
    exact Ev.iret dBo_struck_41 rfl rfl h
theorem bBo_struck_66 {l : Launch} {G : Gx} {d : Nat} {bc bs : Nat} {Φ : OutV → Mm → Prop} (M : Mm) (a0 : Nat) (x1 : Int32) (s0 : Int32)
    (h : Φ (.inl (some (.int s0))) M) :
    Ev l G d mBo_struck 66 [.ref a0, .int x1] [.int s0] M bc bs Φ := by
  exact Ev.iret dBo_struck_66 rfl rfl h
