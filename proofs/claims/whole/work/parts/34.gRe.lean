theorem dRe_asked_0 : decode mRe_asked.2.1 0 = .ok (.aload_n 0, 1) := by decide +kernel
theorem dRe_asked_1 : decode mRe_asked.2.1 1 = .ok (.bipush 14, 2) := by decide +kernel
theorem dRe_asked_3 : decode mRe_asked.2.1 3 = .ok (.bipush 15, 2) := by decide +kernel
theorem dRe_asked_5 : decode mRe_asked.2.1 5 = .ok (.bipush 20, 2) := by decide +kernel
theorem dRe_asked_7 : decode mRe_asked.2.1 7 = .ok (.iconst 0, 1) := by decide +kernel
theorem dRe_asked_8 : decode mRe_asked.2.1 8 = .ok (.iconst 0, 1) := by decide +kernel
theorem dRe_asked_9 : decode mRe_asked.2.1 9 = .ok (.invokestatic 176, 3) := by decide +kernel
theorem dRe_asked_12 : decode mRe_asked.2.1 12 = .ok (.invokevirtual 163, 3) := by decide +kernel
theorem dRe_asked_15 : decode mRe_asked.2.1 15 = .ok (.ifCond .eq 31, 3) := by decide +kernel
theorem dRe_asked_18 : decode mRe_asked.2.1 18 = .ok (.aload_n 0, 1) := by decide +kernel
theorem dRe_asked_19 : decode mRe_asked.2.1 19 = .ok (.iconst 3, 1) := by decide +kernel
theorem dRe_asked_20 : decode mRe_asked.2.1 20 = .ok (.invokevirtual 258, 3) := by decide +kernel
theorem dRe_asked_23 : decode mRe_asked.2.1 23 = .ok (.aload_n 0, 1) := by decide +kernel
theorem dRe_asked_24 : decode mRe_asked.2.1 24 = .ok (.invokevirtual 269, 3) := by decide +kernel
theorem dRe_asked_27 : decode mRe_asked.2.1 27 = .ok (.aload_n 0, 1) := by decide +kernel
theorem dRe_asked_28 : decode mRe_asked.2.1 28 = .ok (.bipush 17, 2) := by decide +kernel
theorem dRe_asked_30 : decode mRe_asked.2.1 30 = .ok (.invokevirtual 243, 3) := by decide +kernel
theorem dRe_asked_33 : decode mRe_asked.2.1 33 = .ok (.aload_n 0, 1) := by decide +kernel
theorem dRe_asked_34 : decode mRe_asked.2.1 34 = .ok (.dup, 1) := by decide +kernel
theorem dRe_asked_35 : decode mRe_asked.2.1 35 = .ok (.getfield 170, 3) := by decide +kernel
theorem dRe_asked_38 : decode mRe_asked.2.1 38 = .ok (.iconst 1, 1) := by decide +kernel
theorem dRe_asked_39 : decode mRe_asked.2.1 39 = .ok (.isub, 1) := by decide +kernel
theorem dRe_asked_40 : decode mRe_asked.2.1 40 = .ok (.putfield 170, 3) := by decide +kernel
theorem dRe_asked_43 : decode mRe_asked.2.1 43 = .ok (.goto 125, 3) := by decide +kernel
theorem dRe_asked_46 : decode mRe_asked.2.1 46 = .ok (.aload_n 0, 1) := by decide +kernel
theorem dRe_asked_47 : decode mRe_asked.2.1 47 = .ok (.invokevirtual 240, 3) := by decide +kernel
theorem dRe_asked_50 : decode mRe_asked.2.1 50 = .ok (.bipush 91, 2) := by decide +kernel
theorem dRe_asked_52 : decode mRe_asked.2.1 52 = .ok (.if_icmp .ne 31, 3) := by decide +kernel
theorem dRe_asked_55 : decode mRe_asked.2.1 55 = .ok (.aload_n 0, 1) := by decide +kernel
theorem dRe_asked_56 : decode mRe_asked.2.1 56 = .ok (.iconst 1, 1) := by decide +kernel
theorem dRe_asked_57 : decode mRe_asked.2.1 57 = .ok (.invokevirtual 258, 3) := by decide +kernel
theorem dRe_asked_60 : decode mRe_asked.2.1 60 = .ok (.aload_n 0, 1) := by decide +kernel
theorem dRe_asked_61 : decode mRe_asked.2.1 61 = .ok (.invokevirtual 228, 3) := by decide +kernel
theorem dRe_asked_64 : decode mRe_asked.2.1 64 = .ok (.aload_n 0, 1) := by decide +kernel
theorem dRe_asked_65 : decode mRe_asked.2.1 65 = .ok (.bipush 93, 2) := by decide +kernel
theorem dRe_asked_67 : decode mRe_asked.2.1 67 = .ok (.invokevirtual 192, 3) := by decide +kernel
theorem dRe_asked_70 : decode mRe_asked.2.1 70 = .ok (.aload_n 0, 1) := by decide +kernel
theorem dRe_asked_71 : decode mRe_asked.2.1 71 = .ok (.dup, 1) := by decide +kernel
theorem dRe_asked_72 : decode mRe_asked.2.1 72 = .ok (.getfield 170, 3) := by decide +kernel
theorem dRe_asked_75 : decode mRe_asked.2.1 75 = .ok (.iconst 1, 1) := by decide +kernel
theorem dRe_asked_76 : decode mRe_asked.2.1 76 = .ok (.isub, 1) := by decide +kernel
theorem dRe_asked_77 : decode mRe_asked.2.1 77 = .ok (.putfield 170, 3) := by decide +kernel
theorem dRe_asked_80 : decode mRe_asked.2.1 80 = .ok (.goto 88, 3) := by decide +kernel
theorem dRe_asked_83 : decode mRe_asked.2.1 83 = .ok (.aload_n 0, 1) := by decide +kernel
theorem dRe_asked_84 : decode mRe_asked.2.1 84 = .ok (.invokevirtual 225, 3) := by decide +kernel
theorem dRe_asked_87 : decode mRe_asked.2.1 87 = .ok (.aload_n 0, 1) := by decide +kernel
theorem dRe_asked_88 : decode mRe_asked.2.1 88 = .ok (.invokevirtual 240, 3) := by decide +kernel
theorem dRe_asked_91 : decode mRe_asked.2.1 91 = .ok (.istore_n 1, 1) := by decide +kernel
theorem dRe_asked_92 : decode mRe_asked.2.1 92 = .ok (.aload_n 0, 1) := by decide +kernel
theorem dRe_asked_93 : decode mRe_asked.2.1 93 = .ok (.getfield 131, 3) := by decide +kernel
theorem dRe_asked_96 : decode mRe_asked.2.1 96 = .ok (.ifCond .ne 30, 3) := by decide +kernel
theorem dRe_asked_99 : decode mRe_asked.2.1 99 = .ok (.iload_n 1, 1) := by decide +kernel
theorem dRe_asked_100 : decode mRe_asked.2.1 100 = .ok (.bipush 60, 2) := by decide +kernel
theorem dRe_asked_102 : decode mRe_asked.2.1 102 = .ok (.if_icmp .eq 24, 3) := by decide +kernel
theorem dRe_asked_105 : decode mRe_asked.2.1 105 = .ok (.iload_n 1, 1) := by decide +kernel
theorem dRe_asked_106 : decode mRe_asked.2.1 106 = .ok (.bipush 62, 2) := by decide +kernel
theorem dRe_asked_108 : decode mRe_asked.2.1 108 = .ok (.if_icmp .eq 18, 3) := by decide +kernel
theorem dRe_asked_111 : decode mRe_asked.2.1 111 = .ok (.iload_n 1, 1) := by decide +kernel
theorem dRe_asked_112 : decode mRe_asked.2.1 112 = .ok (.bipush 61, 2) := by decide +kernel
theorem dRe_asked_114 : decode mRe_asked.2.1 114 = .ok (.if_icmp .eq 12, 3) := by decide +kernel
theorem dRe_asked_117 : decode mRe_asked.2.1 117 = .ok (.aload_n 0, 1) := by decide +kernel
theorem dRe_asked_118 : decode mRe_asked.2.1 118 = .ok (.iconst 1, 1) := by decide +kernel
theorem dRe_asked_119 : decode mRe_asked.2.1 119 = .ok (.aload_n 0, 1) := by decide +kernel
theorem dRe_asked_120 : decode mRe_asked.2.1 120 = .ok (.getfield 124, 3) := by decide +kernel
theorem dRe_asked_123 : decode mRe_asked.2.1 123 = .ok (.invokevirtual 144, 3) := by decide +kernel
theorem dRe_asked_126 : decode mRe_asked.2.1 126 = .ok (.aload_n 0, 1) := by decide +kernel
theorem dRe_asked_127 : decode mRe_asked.2.1 127 = .ok (.dup, 1) := by decide +kernel
theorem dRe_asked_128 : decode mRe_asked.2.1 128 = .ok (.getfield 124, 3) := by decide +kernel
theorem dRe_asked_131 : decode mRe_asked.2.1 131 = .ok (.iconst 1, 1) := by decide +kernel
theorem dRe_asked_132 : decode mRe_asked.2.1 132 = .ok (.iadd, 1) := by decide +kernel
theorem dRe_asked_133 : decode mRe_asked.2.1 133 = .ok (.putfield 124, 3) := by decide +kernel
theorem dRe_asked_136 : decode mRe_asked.2.1 136 = .ok (.aload_n 0, 1) := by decide +kernel
theorem dRe_asked_137 : decode mRe_asked.2.1 137 = .ok (.invokevirtual 225, 3) := by decide +kernel
theorem dRe_asked_140 : decode mRe_asked.2.1 140 = .ok (.aload_n 0, 1) := by decide +kernel
theorem dRe_asked_141 : decode mRe_asked.2.1 141 = .ok (.iload_n 1, 1) := by decide +kernel
theorem dRe_asked_142 : decode mRe_asked.2.1 142 = .ok (.bipush 60, 2) := by decide +kernel
theorem dRe_asked_144 : decode mRe_asked.2.1 144 = .ok (.if_icmp .ne 8, 3) := by decide +kernel
theorem dRe_asked_147 : decode mRe_asked.2.1 147 = .ok (.bipush 14, 2) := by decide +kernel
theorem dRe_asked_149 : decode mRe_asked.2.1 149 = .ok (.goto 16, 3) := by decide +kernel
theorem dRe_asked_152 : decode mRe_asked.2.1 152 = .ok (.iload_n 1, 1) := by decide +kernel
theorem dRe_asked_153 : decode mRe_asked.2.1 153 = .ok (.bipush 62, 2) := by decide +kernel
theorem dRe_asked_155 : decode mRe_asked.2.1 155 = .ok (.if_icmp .ne 8, 3) := by decide +kernel
theorem dRe_asked_158 : decode mRe_asked.2.1 158 = .ok (.bipush 15, 2) := by decide +kernel
theorem dRe_asked_160 : decode mRe_asked.2.1 160 = .ok (.goto 5, 3) := by decide +kernel
theorem dRe_asked_163 : decode mRe_asked.2.1 163 = .ok (.bipush 16, 2) := by decide +kernel
theorem dRe_asked_165 : decode mRe_asked.2.1 165 = .ok (.invokevirtual 243, 3) := by decide +kernel
theorem dRe_asked_168 : decode mRe_asked.2.1 168 = .ok (.return_, 1) := by decide +kernel
theorem bRe_asked_0 {l : Launch} {G : Gx} {d : Nat} {bc bs : Nat} {Φ : OutV → Mm → Prop} (M : Mm) (a0 : Nat)
    (h : CallVC l G d mRe_asked 12 [.ref a0, .null] [.ref a0] mRe_five [.int 14, .int 15, .int 20, .int 0, .int 0] M bc bs Φ) :
    Ev l G d mRe_asked 0 [.ref a0, .null] [] M bc bs Φ := by
  refine Ev.aload_n dRe_asked_0 rfl ?_
  refine Ev.bipush (v := 14) dRe_asked_1 (by decide) ?_
  refine Ev.bipush (v := 15) dRe_asked_3 (by decide) ?_
  refine Ev.bipush (v := 20) dRe_asked_5 (by decide) ?_
  refine Ev.iconst (v := 0) dRe_asked_7 (by decide) ?_
  refine Ev.iconst (v := 0) dRe_asked_8 (by decide) ?_
  exact Ev.vcS (z := mRe_five) [.int 14, .int 15, .int 20, .int 0, .int 0] [.ref a0] rfl dRe_asked_9 oRe_five rfl w1500 iRe_five (Nat.le_of_ble_eq_true rfl) h
theorem bRe_asked_12 {l : Launch} {G : Gx} {d : Nat} {bc bs : Nat} {Φ : OutV → Mm → Prop} (M : Mm) (a0 : Nat) (u1 : Value) (r0 : Nat) (w1 : Int64)
    (h : ((m_sh M r0).1 = 11) ∧ CallVC l G d mRe_asked 15 [.ref a0, u1] [] mRe_isWord [.ref r0, .long w1] M bc bs Φ) :
    Ev l G d mRe_asked 12 [.ref a0, u1] [.long w1, .ref r0] M bc bs Φ := by
  have g1 := h.1
  replace h := h.2
  exact Ev.vcV (z := mRe_isWord) (ci := 11) [.long w1] [] rfl dRe_asked_12 oRe_isWord rfl w1504 iRe_isWord sRe_isWord (by decide) rfl g1 (Nat.le_of_ble_eq_true rfl) h
theorem bRe_asked_15 {l : Launch} {G : Gx} {d : Nat} {bc bs : Nat} {Φ : OutV → Mm → Prop} (M : Mm) (a0 : Nat) (u1 : Value) (s0 : Int32)
    (h : (s0 = 0 → ((m_sh M a0).1 = 11) ∧ CallVC l G d mRe_asked 50 [.ref a0, u1] [] mRe_signHere [.ref a0] M bc bs Φ) ∧ (¬ s0 = 0 → ((m_sh M a0).1 = 11) ∧ CallVC l G d mRe_asked 23 [.ref a0, u1] [] mRe_opens [.ref a0, .int 3] M bc bs Φ)) :
    Ev l G d mRe_asked 15 [.ref a0, u1] [.int s0] M bc bs Φ := by
  refine Ev.if_eq 46 (by decide) dRe_asked_15 (fun c => ?_) (fun c => ?_)
  · replace h := h.1 c
    refine Ev.aload_n dRe_asked_46 rfl ?_
    have g1 := h.1
    replace h := h.2
    exact Ev.vcV (z := mRe_signHere) (ci := 11) [] [] rfl dRe_asked_47 oRe_signHere rfl w1562 iRe_signHere sRe_signHere (by decide) rfl g1 (Nat.le_of_ble_eq_true rfl) h
  · replace h := h.2 c
    refine Ev.aload_n dRe_asked_18 rfl ?_
    refine Ev.iconst (v := 3) dRe_asked_19 (by decide) ?_
    have g2 := h.1
    replace h := h.2
    exact Ev.vcV (z := mRe_opens) (ci := 11) [.int 3] [] rfl dRe_asked_20 oRe_opens rfl w1577 iRe_opens sRe_opens (by decide) rfl g2 (Nat.le_of_ble_eq_true rfl) h
theorem bRe_asked_23 {l : Launch} {G : Gx} {d : Nat} {bc bs : Nat} {Φ : OutV → Mm → Prop} (M : Mm) (a0 : Nat) (u1 : Value)
    (h : ((m_sh M a0).1 = 11) ∧ CallVC l G d mRe_asked 27 [.ref a0, u1] [] mRe_asked [.ref a0] M bc bs Φ) :
    Ev l G d mRe_asked 23 [.ref a0, u1] [] M bc bs Φ := by
  refine Ev.aload_n dRe_asked_23 rfl ?_
  have g1 := h.1
  replace h := h.2
  exact Ev.vcV (z := mRe_asked) (ci := 11) [] [] rfl dRe_asked_24 oRe_asked rfl w1589 iRe_asked sRe_asked (by decide) rfl g1 (Nat.le_of_ble_eq_true rfl) h
theorem bRe_asked_27 {l : Launch} {G : Gx} {d : Nat} {bc bs : Nat} {Φ : OutV → Mm → Prop} (M : Mm) (a0 : Nat) (u1 : Value)
    (h : ((m_sh M a0).1 = 11) ∧ CallVC l G d mRe_asked 33 [.ref a0, u1] [] mRe_tells [.ref a0, .int 17] M bc bs Φ) :
    Ev l G d mRe_asked 27 [.ref a0, u1] [] M bc bs Φ := by
  refine Ev.aload_n dRe_asked_27 rfl ?_
  refine Ev.bipush (v := 17) dRe_asked_28 (by decide) ?_
  have g1 := h.1
  replace h := h.2
  exact Ev.vcV (z := mRe_tells) (ci := 11) [.int 17] [] rfl dRe_asked_30 oRe_tells rfl w1573 iRe_tells sRe_tells (by decide) rfl g1 (Nat.le_of_ble_eq_true rfl) h
theorem bRe_asked_33 {l : Launch} {G : Gx} {d : Nat} {bc bs : Nat} {Φ : OutV → Mm → Prop} (M : Mm) (a0 : Nat) (u1 : Value)
    (h : ((m_sh M a0).1 = 11) ∧ Φ (.inl none) (m_si M a0 8 ((m_i M a0 8) - 1))) :
    Ev l G d mRe_asked 33 [.ref a0, u1] [] M bc bs Φ := by
  refine Ev.aload_n dRe_asked_33 rfl ?_
  refine Ev.dup dRe_asked_34 rfl ?_
  have g1 := h.1
  replace h := h.2
  refine Ev.getI dRe_asked_35 (Or.inl fRe_170) rfl g1 ?_
  refine Ev.iconst (v := 1) dRe_asked_38 (by decide) ?_
  refine Ev.isub dRe_asked_39 ?_
  refine Ev.putI dRe_asked_40 ⟨_, Or.inl ⟨fRe_170, (fun h => by cases h)⟩⟩ rfl ⟨rfl, rfl⟩ g1 ?_
  refine Ev.goto 168 dRe_asked_43 (by decide) ?_
  exact Ev.vret dRe_asked_168 rfl h
theorem bRe_asked_50 {l : Launch} {G : Gx} {d : Nat} {bc bs : Nat} {Φ : OutV → Mm → Prop} (M : Mm) (a0 : Nat) (u1 : Value) (s0 : Int32)
    (h : (¬ s0 = 91 → ((m_sh M a0).1 = 11) ∧ CallVC l G d mRe_asked 87 [.ref a0, u1] [] mRe_sum [.ref a0] M bc bs Φ) ∧ (s0 = 91 → ((m_sh M a0).1 = 11) ∧ CallVC l G d mRe_asked 60 [.ref a0, u1] [] mRe_opens [.ref a0, .int 1] M bc bs Φ)) :
    Ev l G d mRe_asked 50 [.ref a0, u1] [.int s0] M bc bs Φ := by
  refine Ev.bipush (v := 91) dRe_asked_50 (by decide) ?_
  refine Ev.icmp_ne 83 (by decide) dRe_asked_52 (fun c => ?_) (fun c => ?_)
  · replace h := h.1 c
    refine Ev.aload_n dRe_asked_83 rfl ?_
    have g1 := h.1
    replace h := h.2
    exact Ev.vcV (z := mRe_sum) (ci := 11) [] [] rfl dRe_asked_84 oRe_sum rfl w1550 iRe_sum sRe_sum (by decide) rfl g1 (Nat.le_of_ble_eq_true rfl) h
  · replace h := h.2 c
    refine Ev.aload_n dRe_asked_55 rfl ?_
    refine Ev.iconst (v := 1) dRe_asked_56 (by decide) ?_
    have g2 := h.1
    replace h := h.2
    exact Ev.vcV (z := mRe_opens) (ci := 11) [.int 1] [] rfl dRe_asked_57 oRe_opens rfl w1577 iRe_opens sRe_opens (by decide) rfl g2 (Nat.le_of_ble_eq_true rfl) h
theorem bRe_asked_60 {l : Launch} {G : Gx} {d : Nat} {bc bs : Nat} {Φ : OutV → Mm → Prop} (M : Mm) (a0 : Nat) (u1 : Value)
    (h : ((m_sh M a0).1 = 11) ∧ CallVC l G d mRe_asked 64 [.ref a0, u1] [] mRe_ors [.ref a0] M bc bs Φ) :
    Ev l G d mRe_asked 60 [.ref a0, u1] [] M bc bs Φ := by
  refine Ev.aload_n dRe_asked_60 rfl ?_
  have g1 := h.1
  replace h := h.2
  exact Ev.vcV (z := mRe_ors) (ci := 11) [] [] rfl dRe_asked_61 oRe_ors rfl w1581 iRe_ors sRe_ors (by decide) rfl g1 (Nat.le_of_ble_eq_true rfl) h
theorem bRe_asked_64 {l : Launch} {G : Gx} {d : Nat} {bc bs : Nat} {Φ : OutV → Mm → Prop} (M : Mm) (a0 : Nat) (u1 : Value)
    (h : ((m_sh M a0).1 = 11) ∧ CallVC l G d mRe_asked 70 [.ref a0, u1] [] mRe_sign [.ref a0, .int 93] M bc bs Φ) :
    Ev l G d mRe_asked 64 [.ref a0, u1] [] M bc bs Φ := by
  refine Ev.aload_n dRe_asked_64 rfl ?_
  refine Ev.bipush (v := 93) dRe_asked_65 (by decide) ?_
  have g1 := h.1
  replace h := h.2
  exact Ev.vcV (z := mRe_sign) (ci := 11) [.int 93] [] rfl dRe_asked_67 oRe_sign rfl w1534 iRe_sign sRe_sign (by decide) rfl g1 (Nat.le_of_ble_eq_true rfl) h
theorem bRe_asked_70 {l : Launch} {G : Gx} {d : Nat} {bc bs : Nat} {Φ : OutV → Mm → Prop} (M : Mm) (a0 : Nat) (u1 : Value)
    (h : ((m_sh M a0).1 = 11) ∧ Φ (.inl none) (m_si M a0 8 ((m_i M a0 8) - 1))) :
    Ev l G d mRe_asked 70 [.ref a0, u1] [] M bc bs Φ := by
  refine Ev.aload_n dRe_asked_70 rfl ?_
  refine Ev.dup dRe_asked_71 rfl ?_
  have g1 := h.1
  replace h := h.2
  refine Ev.getI dRe_asked_72 (Or.inl fRe_170) rfl g1 ?_
  refine Ev.iconst (v := 1) dRe_asked_75 (by decide) ?_
  refine Ev.isub dRe_asked_76 ?_
  refine Ev.putI dRe_asked_77 ⟨_, Or.inl ⟨fRe_170, (fun h => by cases h)⟩⟩ rfl ⟨rfl, rfl⟩ g1 ?_
  refine Ev.goto 168 dRe_asked_80 (by decide) ?_
  exact Ev.vret dRe_asked_168 rfl h
theorem bRe_asked_87 {l : Launch} {G : Gx} {d : Nat} {bc bs : Nat} {Φ : OutV → Mm → Prop} (M : Mm) (a0 : Nat) (u1 : Value)
    (h : ((m_sh M a0).1 = 11) ∧ CallVC l G d mRe_asked 91 [.ref a0, u1] [] mRe_signHere [.ref a0] M bc bs Φ) :
    Ev l G d mRe_asked 87 [.ref a0, u1] [] M bc bs Φ := by
  refine Ev.aload_n dRe_asked_87 rfl ?_
  have g1 := h.1
  replace h := h.2
  exact Ev.vcV (z := mRe_signHere) (ci := 11) [] [] rfl dRe_asked_88 oRe_signHere rfl w1562 iRe_signHere sRe_signHere (by decide) rfl g1 (Nat.le_of_ble_eq_true rfl) h
theorem bRe_asked_91 {l : Launch} {G : Gx} {d : Nat} {bc bs : Nat} {Φ : OutV → Mm → Prop} (M : Mm) (a0 : Nat) (u1 : Value) (s0 : Int32)
    (h : ((m_sh M a0).1 = 11) ∧ (¬ (m_i M a0 5) = 0 → Ev l G d mRe_asked 126 [.ref a0, .int s0] [] M bc bs Φ) ∧ ((m_i M a0 5) = 0 → (s0 = 60 → Ev l G d mRe_asked 126 [.ref a0, .int s0] [] M bc bs Φ) ∧ (¬ s0 = 60 → (s0 = 62 → Ev l G d mRe_asked 126 [.ref a0, .int s0] [] M bc bs Φ) ∧ (¬ s0 = 62 → (s0 = 61 → Ev l G d mRe_asked 126 [.ref a0, .int s0] [] M bc bs Φ) ∧ (¬ s0 = 61 → CallVC l G d mRe_asked 126 [.ref a0, .int s0] [] mRe_wrong [.ref a0, .int 1, .int (m_i M a0 4)] M bc bs Φ))))) :
    Ev l G d mRe_asked 91 [.ref a0, u1] [.int s0] M bc bs Φ := by
  refine Ev.istore_n dRe_asked_91 (by decide) ?_
  show Ev l G d mRe_asked (_ + _) [.ref a0, .int s0] [] M bc bs Φ
  refine Ev.aload_n dRe_asked_92 rfl ?_
  have g1 := h.1
  replace h := h.2
  refine Ev.getI dRe_asked_93 (Or.inl fRe_131) rfl g1 ?_
  refine Ev.if_ne 126 (by decide) dRe_asked_96 (fun c => ?_) (fun c => ?_)
  · replace h := h.1 c
    exact h
  · replace h := h.2 c
    refine Ev.iload_n dRe_asked_99 rfl ?_
    refine Ev.bipush (v := 60) dRe_asked_100 (by decide) ?_
    refine Ev.icmp_eq 126 (by decide) dRe_asked_102 (fun c => ?_) (fun c => ?_)
    · replace h := h.1 c
      exact h
    · replace h := h.2 c
      refine Ev.iload_n dRe_asked_105 rfl ?_
      refine Ev.bipush (v := 62) dRe_asked_106 (by decide) ?_
      refine Ev.icmp_eq 126 (by decide) dRe_asked_108 (fun c => ?_) (fun c => ?_)
      · replace h := h.1 c
        exact h
      · replace h := h.2 c
        refine Ev.iload_n dRe_asked_111 rfl ?_
        refine Ev.bipush (v := 61) dRe_asked_112 (by decide) ?_
        refine Ev.icmp_eq 126 (by decide) dRe_asked_114 (fun c => ?_) (fun c => ?_)
        · replace h := h.1 c
          exact h
        · replace h := h.2 c
          refine Ev.aload_n dRe_asked_117 rfl ?_
          refine Ev.iconst (v := 1) dRe_asked_118 (by decide) ?_
          refine Ev.aload_n dRe_asked_119 rfl ?_
          refine Ev.getI dRe_asked_120 (Or.inl fRe_124) rfl g1 ?_
          exact Ev.vcV (z := mRe_wrong) (ci := 11) [.int 1, .int (m_i M a0 4)] [] rfl dRe_asked_123 oRe_wrong rfl w1514 iRe_wrong sRe_wrong (by decide) rfl g1 (Nat.le_of_ble_eq_true rfl) h
theorem bRe_asked_126 {l : Launch} {G : Gx} {d : Nat} {bc bs : Nat} {Φ : OutV → Mm → Prop} (M : Mm) (a0 : Nat) (x1 : Int32)
    (h : ((m_sh M a0).1 = 11) ∧ CallVC l G d mRe_asked 140 [.ref a0, .int x1] [] mRe_sum [.ref a0] (m_si M a0 4 ((m_i M a0 4) + 1)) bc bs Φ) :
    Ev l G d mRe_asked 126 [.ref a0, .int x1] [] M bc bs Φ := by
  refine Ev.aload_n dRe_asked_126 rfl ?_
  refine Ev.dup dRe_asked_127 rfl ?_
  have g1 := h.1
  replace h := h.2
  refine Ev.getI dRe_asked_128 (Or.inl fRe_124) rfl g1 ?_
  refine Ev.iconst (v := 1) dRe_asked_131 (by decide) ?_
  refine Ev.iadd dRe_asked_132 ?_
  refine Ev.putI dRe_asked_133 ⟨_, Or.inl ⟨fRe_124, (fun h => by cases h)⟩⟩ rfl ⟨rfl, rfl⟩ g1 ?_
  refine Ev.aload_n dRe_asked_136 rfl ?_
  exact Ev.vcV (z := mRe_sum) (ci := 11) [] [] rfl dRe_asked_137 oRe_sum rfl w1550 iRe_sum sRe_sum (by decide) rfl g1 (Nat.le_of_ble_eq_true rfl) h
theorem bRe_asked_140 {l : Launch} {G : Gx} {d : Nat} {bc bs : Nat} {Φ : OutV → Mm → Prop} (M : Mm) (a0 : Nat) (x1 : Int32)
    (h : (¬ x1 = 60 → (¬ x1 = 62 → ((m_sh M a0).1 = 11) ∧ CallVC l G d mRe_asked 168 [.ref a0, .int x1] [] mRe_tells [.ref a0, .int 16] M bc bs Φ) ∧ (x1 = 62 → ((m_sh M a0).1 = 11) ∧ CallVC l G d mRe_asked 168 [.ref a0, .int x1] [] mRe_tells [.ref a0, .int 15] M bc bs Φ)) ∧ (x1 = 60 → ((m_sh M a0).1 = 11) ∧ CallVC l G d mRe_asked 168 [.ref a0, .int x1] [] mRe_tells [.ref a0, .int 14] M bc bs Φ)) :
    Ev l G d mRe_asked 140 [.ref a0, .int x1] [] M bc bs Φ := by
  refine Ev.aload_n dRe_asked_140 rfl ?_
  refine Ev.iload_n dRe_asked_141 rfl ?_
  refine Ev.bipush (v := 60) dRe_asked_142 (by decide) ?_
  refine Ev.icmp_ne 152 (by decide) dRe_asked_144 (fun c => ?_) (fun c => ?_)
  · replace h := h.1 c
    refine Ev.iload_n dRe_asked_152 rfl ?_
    refine Ev.bipush (v := 62) dRe_asked_153 (by decide) ?_
    refine Ev.icmp_ne 163 (by decide) dRe_asked_155 (fun c => ?_) (fun c => ?_)
    · replace h := h.1 c
      refine Ev.bipush (v := 16) dRe_asked_163 (by decide) ?_
      have g1 := h.1
      replace h := h.2
      exact Ev.vcV (z := mRe_tells) (ci := 11) [.int 16] [] rfl dRe_asked_165 oRe_tells rfl w1573 iRe_tells sRe_tells (by decide) rfl g1 (Nat.le_of_ble_eq_true rfl) h
    · replace h := h.2 c
      refine Ev.bipush (v := 15) dRe_asked_158 (by decide) ?_
      refine Ev.goto 165 dRe_asked_160 (by decide) ?_
      have g2 := h.1
      replace h := h.2
      exact Ev.vcV (z := mRe_tells) (ci := 11) [.int 15] [] rfl dRe_asked_165 oRe_tells rfl w1573 iRe_tells sRe_tells (by decide) rfl g2 (Nat.le_of_ble_eq_true rfl) h
  · replace h := h.2 c
    refine Ev.bipush (v := 14) dRe_asked_147 (by decide) ?_
    refine Ev.goto 165 dRe_asked_149 (by decide) ?_
    have g3 := h.1
    replace h := h.2
    exact Ev.vcV (z := mRe_tells) (ci := 11) [.int 14] [] rfl dRe_asked_165 oRe_tells rfl w1573 iRe_tells sRe_tells (by decide) rfl g3 (Nat.le_of_ble_eq_true rfl) h
theorem bRe_asked_168 {l : Launch} {G : Gx} {d : Nat} {bc bs : Nat} {Φ : OutV → Mm → Prop} (M : Mm) (a0 : Nat) (u1 : Value)
    (h : Φ (.inl none) M) :
    Ev l G d mRe_asked 168 [.ref a0, u1] [] M bc bs Φ := by
  exact Ev.vret dRe_asked_168 rfl h
theorem dRe_eats_0 : decode mRe_eats.2.1 0 = .ok (.aload_n 0, 1) := by decide +kernel
theorem dRe_eats_1 : decode mRe_eats.2.1 1 = .ok (.lload_n 1, 1) := by decide +kernel
theorem dRe_eats_2 : decode mRe_eats.2.1 2 = .ok (.invokevirtual 163, 3) := by decide +kernel
theorem dRe_eats_5 : decode mRe_eats.2.1 5 = .ok (.ifCond .ne 5, 3) := by decide +kernel
theorem dRe_eats_8 : decode mRe_eats.2.1 8 = .ok (.iconst 0, 1) := by decide +kernel
theorem dRe_eats_9 : decode mRe_eats.2.1 9 = .ok (.ireturn, 1) := by decide +kernel
theorem dRe_eats_10 : decode mRe_eats.2.1 10 = .ok (.aload_n 0, 1) := by decide +kernel
theorem dRe_eats_11 : decode mRe_eats.2.1 11 = .ok (.invokevirtual 167, 3) := by decide +kernel
theorem dRe_eats_14 : decode mRe_eats.2.1 14 = .ok (.iconst 1, 1) := by decide +kernel
theorem dRe_eats_15 : decode mRe_eats.2.1 15 = .ok (.ireturn, 1) := by decide +kernel
theorem bRe_eats_0 {l : Launch} {G : Gx} {d : Nat} {bc bs : Nat} {Φ : OutV → Mm → Prop} (M : Mm) (a0 : Nat) (j1 : Int64)
    (h : ((m_sh M a0).1 = 11) ∧ CallVC l G d mRe_eats 5 [.ref a0, .long j1, .null] [] mRe_isWord [.ref a0, .long j1] M bc bs Φ) :
    Ev l G d mRe_eats 0 [.ref a0, .long j1, .null] [] M bc bs Φ := by
  refine Ev.aload_n dRe_eats_0 rfl ?_
  refine Ev.lload_n dRe_eats_1 rfl ?_
  have g1 := h.1
  replace h := h.2
  exact Ev.vcV (z := mRe_isWord) (ci := 11) [.long j1] [] rfl dRe_eats_2 oRe_isWord rfl w1504 iRe_isWord sRe_isWord (by decide) rfl g1 (Nat.le_of_ble_eq_true rfl) h
theorem bRe_eats_5 {l : Launch} {G : Gx} {d : Nat} {bc bs : Nat} {Φ : OutV → Mm → Prop} (M : Mm) (a0 : Nat) (j1 : Int64) (u2 : Value) (s0 : Int32)
    (h : (¬ s0 = 0 → ((m_sh M a0).1 = 11) ∧ CallVC l G d mRe_eats 14 [.ref a0, .long j1, u2] [] mRe_skipWord [.ref a0] M bc bs Φ) ∧ (s0 = 0 → Φ (.inl (some (.int 0))) M)) :
    Ev l G d mRe_eats 5 [.ref a0, .long j1, u2] [.int s0] M bc bs Φ := by
  refine Ev.if_ne 10 (by decide) dRe_eats_5 (fun c => ?_) (fun c => ?_)
  · replace h := h.1 c
    refine Ev.aload_n dRe_eats_10 rfl ?_
    have g1 := h.1
    replace h := h.2
    exact Ev.vcV (z := mRe_skipWord) (ci := 11) [] [] rfl dRe_eats_11 oRe_skipWord rfl w1518 iRe_skipWord sRe_skipWord (by decide) rfl g1 (Nat.le_of_ble_eq_true rfl) h
  · replace h := h.2 c
    refine Ev.iconst (v := 0) dRe_eats_8 (by decide) ?_
    exact Ev.iret dRe_eats_9 rfl rfl h
theorem bRe_eats_14 {l : Launch} {G : Gx} {d : Nat} {bc bs : Nat} {Φ : OutV → Mm → Prop} (M : Mm) (a0 : Nat) (j1 : Int64) (u2 : Value)
    (h : Φ (.inl (some (.int 1))) M) :
    Ev l G d mRe_eats 14 [.ref a0, .long j1, u2] [] M bc bs Φ := by
  refine Ev.iconst (v := 1) dRe_eats_14 (by decide) ?_
  exact Ev.iret dRe_eats_15 rfl rfl h
def mRe_fault : MR := (⟨"BowingRowModel", "fault", "()I"⟩, prog_14_method_26_code, 1, (Option.some .int))
theorem oRe_fault : MOK mRe_fault 0 := ⟨lwg_of 1601 (by decide +kernel) (by decide +kernel), lwg_of 103 (by decide +kernel) (by decide +kernel), ⟨by decide +kernel, by decide +kernel⟩, by decide +kernel, by decide⟩
theorem iRe_fault : Cond.instanceMethod mRe_fault.1 ∈ lwg := lwg_of 1599 (by decide +kernel) (by decide +kernel)
theorem sRe_fault : Cond.selects mRe_fault.1.cls mRe_fault.1 mRe_fault.1 ∈ lwg := lwg_of 1600 (by decide +kernel) (by decide +kernel)
theorem dRe_fault_0 : decode mRe_fault.2.1 0 = .ok (.aload_n 0, 1) := by decide +kernel
theorem dRe_fault_1 : decode mRe_fault.2.1 1 = .ok (.iconst 0, 1) := by decide +kernel
theorem dRe_fault_2 : decode mRe_fault.2.1 2 = .ok (.putfield 115, 3) := by decide +kernel
theorem dRe_fault_5 : decode mRe_fault.2.1 5 = .ok (.aload_n 0, 1) := by decide +kernel
theorem dRe_fault_6 : decode mRe_fault.2.1 6 = .ok (.getfield 9, 3) := by decide +kernel
theorem dRe_fault_9 : decode mRe_fault.2.1 9 = .ok (.ireturn, 1) := by decide +kernel
theorem bRe_fault_0 {l : Launch} {G : Gx} {d : Nat} {bc bs : Nat} {Φ : OutV → Mm → Prop} (M : Mm) (a0 : Nat)
    (h : ((m_sh M a0).1 = 11) ∧ Φ (.inl (some (.int (m_i (m_si M a0 0 0) a0 3)))) (m_si M a0 0 0)) :
    Ev l G d mRe_fault 0 [.ref a0] [] M bc bs Φ := by
  refine Ev.aload_n dRe_fault_0 rfl ?_
  refine Ev.iconst (v := 0) dRe_fault_1 (by decide) ?_
  have g1 := h.1
  replace h := h.2
  refine Ev.putI dRe_fault_2 ⟨_, Or.inl ⟨fRe_115, (fun h => by cases h)⟩⟩ rfl ⟨rfl, rfl⟩ g1 ?_
  refine Ev.aload_n dRe_fault_5 rfl ?_
  refine Ev.getI dRe_fault_6 (Or.inl fRe_9) rfl g1 ?_
  exact Ev.iret dRe_fault_9 rfl rfl h
def mRe_told : MR := (⟨"BowingRowModel", "told", "(I)I"⟩, prog_14_method_39_code, 2, (Option.some .int))
theorem oRe_told : MOK mRe_told 1 := ⟨lwg_of 1605 (by decide +kernel) (by decide +kernel), lwg_of 103 (by decide +kernel) (by decide +kernel), ⟨by decide +kernel, by decide +kernel⟩, by decide +kernel, by decide⟩
theorem iRe_told : Cond.instanceMethod mRe_told.1 ∈ lwg := lwg_of 1603 (by decide +kernel) (by decide +kernel)
theorem sRe_told : Cond.selects mRe_told.1.cls mRe_told.1 mRe_told.1 ∈ lwg := lwg_of 1604 (by decide +kernel) (by decide +kernel)
theorem dRe_told_0 : decode mRe_told.2.1 0 = .ok (.aload_n 0, 1) := by decide +kernel
theorem dRe_told_1 : decode mRe_told.2.1 1 = .ok (.iconst 0, 1) := by decide +kernel
theorem dRe_told_2 : decode mRe_told.2.1 2 = .ok (.putfield 115, 3) := by decide +kernel
theorem dRe_told_5 : decode mRe_told.2.1 5 = .ok (.aload_n 0, 1) := by decide +kernel
theorem dRe_told_6 : decode mRe_told.2.1 6 = .ok (.iload_n 1, 1) := by decide +kernel
theorem dRe_told_7 : decode mRe_told.2.1 7 = .ok (.iconst 0, 1) := by decide +kernel
theorem dRe_told_8 : decode mRe_told.2.1 8 = .ok (.bipush 7, 2) := by decide +kernel
theorem dRe_told_10 : decode mRe_told.2.1 10 = .ok (.invokestatic 149, 3) := by decide +kernel
theorem dRe_told_13 : decode mRe_told.2.1 13 = .ok (.ifCond .ne 7, 3) := by decide +kernel
theorem dRe_told_16 : decode mRe_told.2.1 16 = .ok (.iconst 1, 1) := by decide +kernel
theorem dRe_told_17 : decode mRe_told.2.1 17 = .ok (.goto 4, 3) := by decide +kernel
theorem dRe_told_20 : decode mRe_told.2.1 20 = .ok (.iconst 0, 1) := by decide +kernel
theorem dRe_told_21 : decode mRe_told.2.1 21 = .ok (.iconst 1, 1) := by decide +kernel
theorem dRe_told_22 : decode mRe_told.2.1 22 = .ok (.invokevirtual 196, 3) := by decide +kernel
theorem dRe_told_25 : decode mRe_told.2.1 25 = .ok (.ifCond .eq 5, 3) := by decide +kernel
theorem dRe_told_28 : decode mRe_told.2.1 28 = .ok (.iconst 0, 1) := by decide +kernel
theorem dRe_told_29 : decode mRe_told.2.1 29 = .ok (.ireturn, 1) := by decide +kernel
theorem dRe_told_30 : decode mRe_told.2.1 30 = .ok (.aload_n 0, 1) := by decide +kernel
theorem dRe_told_31 : decode mRe_told.2.1 31 = .ok (.invokevirtual 278, 3) := by decide +kernel
theorem dRe_told_34 : decode mRe_told.2.1 34 = .ok (.iload_n 1, 1) := by decide +kernel
theorem dRe_told_35 : decode mRe_told.2.1 35 = .ok (.tableswitch 88 0 6 #[41, 46, 51, 58, 65, 72, 81], 41) := by decide +kernel
theorem dRe_told_76 : decode mRe_told.2.1 76 = .ok (.aload_n 0, 1) := by decide +kernel
theorem dRe_told_77 : decode mRe_told.2.1 77 = .ok (.getfield 206, 3) := by decide +kernel
theorem dRe_told_80 : decode mRe_told.2.1 80 = .ok (.ireturn, 1) := by decide +kernel
theorem dRe_told_81 : decode mRe_told.2.1 81 = .ok (.aload_n 0, 1) := by decide +kernel
theorem dRe_told_82 : decode mRe_told.2.1 82 = .ok (.getfield 234, 3) := by decide +kernel
theorem dRe_told_85 : decode mRe_told.2.1 85 = .ok (.ireturn, 1) := by decide +kernel
theorem dRe_told_86 : decode mRe_told.2.1 86 = .ok (.aload_n 0, 1) := by decide +kernel
theorem dRe_told_87 : decode mRe_told.2.1 87 = .ok (.iconst 0, 1) := by decide +kernel
theorem dRe_told_88 : decode mRe_told.2.1 88 = .ok (.iconst (-1), 1) := by decide +kernel
theorem dRe_told_89 : decode mRe_told.2.1 89 = .ok (.invokevirtual 281, 3) := by decide +kernel
theorem dRe_told_92 : decode mRe_told.2.1 92 = .ok (.ireturn, 1) := by decide +kernel
theorem dRe_told_93 : decode mRe_told.2.1 93 = .ok (.aload_n 0, 1) := by decide +kernel
theorem dRe_told_94 : decode mRe_told.2.1 94 = .ok (.iconst 1, 1) := by decide +kernel
theorem dRe_told_95 : decode mRe_told.2.1 95 = .ok (.iconst (-1), 1) := by decide +kernel
theorem dRe_told_96 : decode mRe_told.2.1 96 = .ok (.invokevirtual 281, 3) := by decide +kernel
theorem dRe_told_99 : decode mRe_told.2.1 99 = .ok (.ireturn, 1) := by decide +kernel
theorem dRe_told_100 : decode mRe_told.2.1 100 = .ok (.aload_n 0, 1) := by decide +kernel
theorem dRe_told_101 : decode mRe_told.2.1 101 = .ok (.iconst 2, 1) := by decide +kernel
theorem dRe_told_102 : decode mRe_told.2.1 102 = .ok (.iconst (-1), 1) := by decide +kernel
theorem dRe_told_103 : decode mRe_told.2.1 103 = .ok (.invokevirtual 281, 3) := by decide +kernel
theorem dRe_told_106 : decode mRe_told.2.1 106 = .ok (.ireturn, 1) := by decide +kernel
theorem dRe_told_107 : decode mRe_told.2.1 107 = .ok (.aload_n 0, 1) := by decide +kernel
theorem dRe_told_108 : decode mRe_told.2.1 108 = .ok (.iconst 3, 1) := by decide +kernel
theorem dRe_told_109 : decode mRe_told.2.1 109 = .ok (.sipush 999, 3) := by decide +kernel
theorem dRe_told_112 : decode mRe_told.2.1 112 = .ok (.invokevirtual 281, 3) := by decide +kernel
theorem dRe_told_115 : decode mRe_told.2.1 115 = .ok (.ireturn, 1) := by decide +kernel
theorem dRe_told_116 : decode mRe_told.2.1 116 = .ok (.aload_n 0, 1) := by decide +kernel
theorem dRe_told_117 : decode mRe_told.2.1 117 = .ok (.iconst 4, 1) := by decide +kernel
theorem dRe_told_118 : decode mRe_told.2.1 118 = .ok (.iconst 0, 1) := by decide +kernel
theorem dRe_told_119 : decode mRe_told.2.1 119 = .ok (.invokevirtual 281, 3) := by decide +kernel
theorem dRe_told_122 : decode mRe_told.2.1 122 = .ok (.ireturn, 1) := by decide +kernel
theorem dRe_told_123 : decode mRe_told.2.1 123 = .ok (.aload_n 0, 1) := by decide +kernel
theorem dRe_told_124 : decode mRe_told.2.1 124 = .ok (.iconst 5, 1) := by decide +kernel
theorem dRe_told_125 : decode mRe_told.2.1 125 = .ok (.iconst (-1), 1) := by decide +kernel
theorem dRe_told_126 : decode mRe_told.2.1 126 = .ok (.invokevirtual 281, 3) := by decide +kernel
theorem dRe_told_129 : decode mRe_told.2.1 129 = .ok (.ireturn, 1) := by decide +kernel
theorem bRe_told_0 {l : Launch} {G : Gx} {d : Nat} {bc bs : Nat} {Φ : OutV → Mm → Prop} (M : Mm) (a0 : Nat) (x1 : Int32)
    (h : ((m_sh M a0).1 = 11) ∧ CallVC l G d mRe_told 13 [.ref a0, .int x1] [.ref a0] mRe_in [.int x1, .int 0, .int 7] (m_si M a0 0 0) bc bs Φ) :
    Ev l G d mRe_told 0 [.ref a0, .int x1] [] M bc bs Φ := by
  refine Ev.aload_n dRe_told_0 rfl ?_
  refine Ev.iconst (v := 0) dRe_told_1 (by decide) ?_
  have g1 := h.1
  replace h := h.2
  refine Ev.putI dRe_told_2 ⟨_, Or.inl ⟨fRe_115, (fun h => by cases h)⟩⟩ rfl ⟨rfl, rfl⟩ g1 ?_
  refine Ev.aload_n dRe_told_5 rfl ?_
  refine Ev.iload_n dRe_told_6 rfl ?_
  refine Ev.iconst (v := 0) dRe_told_7 (by decide) ?_
  refine Ev.bipush (v := 7) dRe_told_8 (by decide) ?_
  exact Ev.vcS (z := mRe_in) [.int x1, .int 0, .int 7] [.ref a0] rfl dRe_told_10 oRe_in rfl w1476 iRe_in (Nat.le_of_ble_eq_true rfl) h
theorem bRe_told_13 {l : Launch} {G : Gx} {d : Nat} {bc bs : Nat} {Φ : OutV → Mm → Prop} (M : Mm) (a0 : Nat) (x1 : Int32) (r0 : Nat) (s1 : Int32)
    (h : (¬ s1 = 0 → ((m_sh M r0).1 = 11) ∧ CallVC l G d mRe_told 25 [.ref a0, .int x1] [] mRe_bad [.ref r0, .int 0, .int 1] M bc bs Φ) ∧ (s1 = 0 → ((m_sh M r0).1 = 11) ∧ CallVC l G d mRe_told 25 [.ref a0, .int x1] [] mRe_bad [.ref r0, .int 1, .int 1] M bc bs Φ)) :
    Ev l G d mRe_told 13 [.ref a0, .int x1] [.int s1, .ref r0] M bc bs Φ := by
  refine Ev.if_ne 20 (by decide) dRe_told_13 (fun c => ?_) (fun c => ?_)
  · replace h := h.1 c
    refine Ev.iconst (v := 0) dRe_told_20 (by decide) ?_
    refine Ev.iconst (v := 1) dRe_told_21 (by decide) ?_
    have g1 := h.1
    replace h := h.2
    exact Ev.vcV (z := mRe_bad) (ci := 11) [.int 0, .int 1] [] rfl dRe_told_22 oRe_bad rfl w1479 iRe_bad sRe_bad (by decide) rfl g1 (Nat.le_of_ble_eq_true rfl) h
  · replace h := h.2 c
    refine Ev.iconst (v := 1) dRe_told_16 (by decide) ?_
    refine Ev.goto 21 dRe_told_17 (by decide) ?_
    refine Ev.iconst (v := 1) dRe_told_21 (by decide) ?_
    have g2 := h.1
    replace h := h.2
    exact Ev.vcV (z := mRe_bad) (ci := 11) [.int 1, .int 1] [] rfl dRe_told_22 oRe_bad rfl w1479 iRe_bad sRe_bad (by decide) rfl g2 (Nat.le_of_ble_eq_true rfl) h
def mRe_layRules : MR := (⟨"BowingRowModel", "layRules", "()V"⟩, prog_14_method_37_code, 2, none)
theorem oRe_layRules : MOK mRe_layRules 0 := ⟨lwg_of 1609 (by decide +kernel) (by decide +kernel), lwg_of 103 (by decide +kernel) (by decide +kernel), ⟨by decide +kernel, by decide +kernel⟩, by decide +kernel, by decide⟩
theorem iRe_layRules : Cond.instanceMethod mRe_layRules.1 ∈ lwg := lwg_of 1608 (by decide +kernel) (by decide +kernel)
theorem sRe_layRules : Cond.selects mRe_layRules.1.cls mRe_layRules.1 mRe_layRules.1 ∈ lwg := lwg_of 63 (by decide +kernel) (by decide +kernel)
theorem w1606 : Cond.methodLink "BowingRowModel" 278 ⟨"BowingRowModel", "layRules", "()V"⟩ ∈ lwg := lwg_of 1606 (by decide +kernel) (by decide +kernel)
theorem bRe_told_25 {l : Launch} {G : Gx} {d : Nat} {bc bs : Nat} {Φ : OutV → Mm → Prop} (M : Mm) (a0 : Nat) (x1 : Int32) (s0 : Int32)
    (h : (s0 = 0 → ((m_sh M a0).1 = 11) ∧ CallVC l G d mRe_told 34 [.ref a0, .int x1] [] mRe_layRules [.ref a0] M bc bs Φ) ∧ (¬ s0 = 0 → Φ (.inl (some (.int 0))) M)) :
    Ev l G d mRe_told 25 [.ref a0, .int x1] [.int s0] M bc bs Φ := by
  refine Ev.if_eq 30 (by decide) dRe_told_25 (fun c => ?_) (fun c => ?_)
  · replace h := h.1 c
    refine Ev.aload_n dRe_told_30 rfl ?_
    have g1 := h.1
    replace h := h.2
    exact Ev.vcV (z := mRe_layRules) (ci := 11) [] [] rfl dRe_told_31 oRe_layRules rfl w1606 iRe_layRules sRe_layRules (by decide) rfl g1 (Nat.le_of_ble_eq_true rfl) h
  · replace h := h.2 c
    refine Ev.iconst (v := 0) dRe_told_28 (by decide) ?_
    exact Ev.iret dRe_told_29 rfl rfl h
def mRe_numberOf : MR := (⟨"BowingRowModel", "numberOf", "(II)I"⟩, prog_14_method_38_code, 3, (Option.some .int))
theorem oRe_numberOf : MOK mRe_numberOf 2 := ⟨lwg_of 1613 (by decide +kernel) (by decide +kernel), lwg_of 103 (by decide +kernel) (by decide +kernel), ⟨by decide +kernel, by decide +kernel⟩, by decide +kernel, by decide⟩
theorem iRe_numberOf : Cond.instanceMethod mRe_numberOf.1 ∈ lwg := lwg_of 1612 (by decide +kernel) (by decide +kernel)
theorem sRe_numberOf : Cond.selects mRe_numberOf.1.cls mRe_numberOf.1 mRe_numberOf.1 ∈ lwg := lwg_of 64 (by decide +kernel) (by decide +kernel)
theorem w1610 : Cond.methodLink "BowingRowModel" 281 ⟨"BowingRowModel", "numberOf", "(II)I"⟩ ∈ lwg := lwg_of 1610 (by decide +kernel) (by decide +kernel)
theorem bRe_told_34 {l : Launch} {G : Gx} {d : Nat} {bc bs : Nat} {Φ : OutV → Mm → Prop} (M : Mm) (a0 : Nat) (x1 : Int32)
    (h : (x1 = 0 → ((m_sh M a0).1 = 11) ∧ Φ (.inl (some (.int (m_i M a0 11)))) M) ∧ ((x1 = 1 → ((m_sh M a0).1 = 11) ∧ Φ (.inl (some (.int (m_i M a0 15)))) M) ∧ ((x1 = 2 → ((m_sh M a0).1 = 11) ∧ CallVC l G d mRe_told 92 [.ref a0, .int x1] [] mRe_numberOf [.ref a0, .int 0, .int ((-1))] M bc bs Φ) ∧ ((x1 = 3 → ((m_sh M a0).1 = 11) ∧ CallVC l G d mRe_told 99 [.ref a0, .int x1] [] mRe_numberOf [.ref a0, .int 1, .int ((-1))] M bc bs Φ) ∧ ((x1 = 4 → ((m_sh M a0).1 = 11) ∧ CallVC l G d mRe_told 106 [.ref a0, .int x1] [] mRe_numberOf [.ref a0, .int 2, .int ((-1))] M bc bs Φ) ∧ ((x1 = 5 → ((m_sh M a0).1 = 11) ∧ CallVC l G d mRe_told 115 [.ref a0, .int x1] [] mRe_numberOf [.ref a0, .int 3, .int 999] M bc bs Φ) ∧ ((x1 = 6 → ((m_sh M a0).1 = 11) ∧ CallVC l G d mRe_told 122 [.ref a0, .int x1] [] mRe_numberOf [.ref a0, .int 4, .int 0] M bc bs Φ) ∧ (¬ x1 = 0 → ¬ x1 = 1 → ¬ x1 = 2 → ¬ x1 = 3 → ¬ x1 = 4 → ¬ x1 = 5 → ¬ x1 = 6 → ((m_sh M a0).1 = 11) ∧ CallVC l G d mRe_told 129 [.ref a0, .int x1] [] mRe_numberOf [.ref a0, .int 5, .int ((-1))] M bc bs Φ)))))))) :
    Ev l G d mRe_told 34 [.ref a0, .int x1] [] M bc bs Φ := by
  refine Ev.iload_n dRe_told_34 rfl ?_
  skip
  by_cases c : x1 = 0
  · refine Ev.tblAt 76 dRe_told_35 (by rw [c]; decide) (by rw [c]; decide) (by rw [c]; rfl) (by decide) ?_
    replace h := h.1 c
    refine Ev.aload_n dRe_told_76 rfl ?_
    have g1 := h.1
    replace h := h.2
    refine Ev.getI dRe_told_77 (Or.inl fRe_206) rfl g1 ?_
    exact Ev.iret dRe_told_80 rfl rfl h
  have c2 := c
  clear c
  replace h := h.2
  by_cases c : x1 = 1
  · refine Ev.tblAt 81 dRe_told_35 (by rw [c]; decide) (by rw [c]; decide) (by rw [c]; rfl) (by decide) ?_
    replace h := h.1 c
    refine Ev.aload_n dRe_told_81 rfl ?_
    have g3 := h.1
    replace h := h.2
    refine Ev.getI dRe_told_82 (Or.inl fRe_234) rfl g3 ?_
    exact Ev.iret dRe_told_85 rfl rfl h
  have c4 := c
  clear c
  replace h := h.2
  by_cases c : x1 = 2
  · refine Ev.tblAt 86 dRe_told_35 (by rw [c]; decide) (by rw [c]; decide) (by rw [c]; rfl) (by decide) ?_
    replace h := h.1 c
    refine Ev.aload_n dRe_told_86 rfl ?_
    refine Ev.iconst (v := 0) dRe_told_87 (by decide) ?_
    refine Ev.iconst (v := (-1)) dRe_told_88 (by decide) ?_
    have g5 := h.1
    replace h := h.2
    exact Ev.vcV (z := mRe_numberOf) (ci := 11) [.int 0, .int ((-1))] [] rfl dRe_told_89 oRe_numberOf rfl w1610 iRe_numberOf sRe_numberOf (by decide) rfl g5 (Nat.le_of_ble_eq_true rfl) h
  have c6 := c
  clear c
  replace h := h.2
  by_cases c : x1 = 3
  · refine Ev.tblAt 93 dRe_told_35 (by rw [c]; decide) (by rw [c]; decide) (by rw [c]; rfl) (by decide) ?_
    replace h := h.1 c
    refine Ev.aload_n dRe_told_93 rfl ?_
    refine Ev.iconst (v := 1) dRe_told_94 (by decide) ?_
    refine Ev.iconst (v := (-1)) dRe_told_95 (by decide) ?_
    have g7 := h.1
    replace h := h.2
    exact Ev.vcV (z := mRe_numberOf) (ci := 11) [.int 1, .int ((-1))] [] rfl dRe_told_96 oRe_numberOf rfl w1610 iRe_numberOf sRe_numberOf (by decide) rfl g7 (Nat.le_of_ble_eq_true rfl) h
  have c8 := c
  clear c
  replace h := h.2
  by_cases c : x1 = 4
  · refine Ev.tblAt 100 dRe_told_35 (by rw [c]; decide) (by rw [c]; decide) (by rw [c]; rfl) (by decide) ?_
    replace h := h.1 c
    refine Ev.aload_n dRe_told_100 rfl ?_
    refine Ev.iconst (v := 2) dRe_told_101 (by decide) ?_
    refine Ev.iconst (v := (-1)) dRe_told_102 (by decide) ?_
    have g9 := h.1
    replace h := h.2
    exact Ev.vcV (z := mRe_numberOf) (ci := 11) [.int 2, .int ((-1))] [] rfl dRe_told_103 oRe_numberOf rfl w1610 iRe_numberOf sRe_numberOf (by decide) rfl g9 (Nat.le_of_ble_eq_true rfl) h
  have c10 := c
  clear c
  replace h := h.2
  by_cases c : x1 = 5
  · refine Ev.tblAt 107 dRe_told_35 (by rw [c]; decide) (by rw [c]; decide) (by rw [c]; rfl) (by decide) ?_
    replace h := h.1 c
    refine Ev.aload_n dRe_told_107 rfl ?_
    refine Ev.iconst (v := 3) dRe_told_108 (by decide) ?_
    refine Ev.sipush (v := 999) dRe_told_109 (by decide) ?_
    have g11 := h.1
    replace h := h.2
    exact Ev.vcV (z := mRe_numberOf) (ci := 11) [.int 3, .int 999] [] rfl dRe_told_112 oRe_numberOf rfl w1610 iRe_numberOf sRe_numberOf (by decide) rfl g11 (Nat.le_of_ble_eq_true rfl) h
  have c12 := c
  clear c
  replace h := h.2
  by_cases c : x1 = 6
  · refine Ev.tblAt 116 dRe_told_35 (by rw [c]; decide) (by rw [c]; decide) (by rw [c]; rfl) (by decide) ?_
    replace h := h.1 c
    refine Ev.aload_n dRe_told_116 rfl ?_
    refine Ev.iconst (v := 4) dRe_told_117 (by decide) ?_
    refine Ev.iconst (v := 0) dRe_told_118 (by decide) ?_
    have g13 := h.1
    replace h := h.2
    exact Ev.vcV (z := mRe_numberOf) (ci := 11) [.int 4, .int 0] [] rfl dRe_told_119 oRe_numberOf rfl w1610 iRe_numberOf sRe_numberOf (by decide) rfl g13 (Nat.le_of_ble_eq_true rfl) h
  have c14 := c
  clear c
  replace h := h.2
  refine Ev.tblOut 123 dRe_told_35 ?_ (by decide) ?_
  · have e : ∀ k : Int32, ¬ x1 = k → ¬ x1.toInt = k.toInt := fun k h1 h2 => h1 (Int32.toInt_inj.mp h2)
    have := e 0 c2
    rw [show ((0 : Int32)).toInt = 0 from rfl] at this
    have := e 1 c4
    rw [show ((1 : Int32)).toInt = 1 from rfl] at this
    have := e 2 c6
    rw [show ((2 : Int32)).toInt = 2 from rfl] at this
    have := e 3 c8
    rw [show ((3 : Int32)).toInt = 3 from rfl] at this
    have := e 4 c10
    rw [show ((4 : Int32)).toInt = 4 from rfl] at this
    have := e 5 c12
    rw [show ((5 : Int32)).toInt = 5 from rfl] at this
    have := e 6 c14
    rw [show ((6 : Int32)).toInt = 6 from rfl] at this
    omega
  · replace h := h c2 c4 c6 c8 c10 c12 c14
    refine Ev.aload_n dRe_told_123 rfl ?_
    refine Ev.iconst (v := 5) dRe_told_124 (by decide) ?_
    refine Ev.iconst (v := (-1)) dRe_told_125 (by decide) ?_
    have g15 := h.1
    replace h := h.2
    exact Ev.vcV (z := mRe_numberOf) (ci := 11) [.int 5, .int ((-1))] [] rfl dRe_told_126 oRe_numberOf rfl w1610 iRe_numberOf sRe_numberOf (by decide) rfl g15 (Nat.le_of_ble_eq_true rfl) h
theorem bRe_told_92 {l : Launch} {G : Gx} {d : Nat} {bc bs : Nat} {Φ : OutV → Mm → Prop} (M : Mm) (a0 : Nat) (x1 : Int32) (s0 : Int32)
    (h : Φ (.inl (some (.int s0))) M) :
    Ev l G d mRe_told 92 [.ref a0, .int x1] [.int s0] M bc bs Φ := by
  exact Ev.iret dRe_told_92 rfl rfl h
theorem bRe_told_99 {l : Launch} {G : Gx} {d : Nat} {bc bs : Nat} {Φ : OutV → Mm → Prop} (M : Mm) (a0 : Nat) (x1 : Int32) (s0 : Int32)
    (h : Φ (.inl (some (.int s0))) M) :
    Ev l G d mRe_told 99 [.ref a0, .int x1] [.int s0] M bc bs Φ := by
  exact Ev.iret dRe_told_99 rfl rfl h
theorem bRe_told_106 {l : Launch} {G : Gx} {d : Nat} {bc bs : Nat} {Φ : OutV → Mm → Prop} (M : Mm) (a0 : Nat) (x1 : Int32) (s0 : Int32)
    (h : Φ (.inl (some (.int s0))) M) :
    Ev l G d mRe_told 106 [.ref a0, .int x1] [.int s0] M bc bs Φ := by
  exact Ev.iret dRe_told_106 rfl rfl h
theorem bRe_told_115 {l : Launch} {G : Gx} {d : Nat} {bc bs : Nat} {Φ : OutV → Mm → Prop} (M : Mm) (a0 : Nat) (x1 : Int32) (s0 : Int32)
    (h : Φ (.inl (some (.int s0))) M) :
    Ev l G d mRe_told 115 [.ref a0, .int x1] [.int s0] M bc bs Φ := by
  exact Ev.iret dRe_told_115 rfl rfl h
theorem bRe_told_122 {l : Launch} {G : Gx} {d : Nat} {bc bs : Nat} {Φ : OutV → Mm → Prop} (M : Mm) (a0 : Nat) (x1 : Int32) (s0 : Int32)
    (h : Φ (.inl (some (.int s0))) M) :
    Ev l G d mRe_told 122 [.ref a0, .int x1] [.int s0] M bc bs Φ := by
  exact Ev.iret dRe_told_122 rfl rfl h
theorem bRe_told_129 {l : Launch} {G : Gx} {d : Nat} {bc bs : Nat} {Φ : OutV → Mm → Prop} (M : Mm) (a0 : Nat) (x1 : Int32) (s0 : Int32)
    (h : Φ (.inl (some (.int s0))) M) :
    Ev l G d mRe_told 129 [.ref a0, .int x1] [.int s0] M bc bs Φ := by
  exact Ev.iret dRe_told_129 rfl rfl h
theorem dRe_layRules_0 : decode mRe_layRules.2.1 0 = .ok (.iconst 0, 1) := by decide +kernel
theorem dRe_layRules_1 : decode mRe_layRules.2.1 1 = .ok (.istore_n 1, 1) := by decide +kernel
theorem dRe_layRules_2 : decode mRe_layRules.2.1 2 = .ok (.iload_n 1, 1) := by decide +kernel
theorem dRe_layRules_3 : decode mRe_layRules.2.1 3 = .ok (.bipush 8, 2) := by decide +kernel
theorem dRe_layRules_5 : decode mRe_layRules.2.1 5 = .ok (.if_icmp .ge 16, 3) := by decide +kernel
theorem dRe_layRules_8 : decode mRe_layRules.2.1 8 = .ok (.aload_n 0, 1) := by decide +kernel
theorem dRe_layRules_9 : decode mRe_layRules.2.1 9 = .ok (.getfield 61, 3) := by decide +kernel
theorem dRe_layRules_12 : decode mRe_layRules.2.1 12 = .ok (.iload_n 1, 1) := by decide +kernel
theorem dRe_layRules_13 : decode mRe_layRules.2.1 13 = .ok (.iconst (-1), 1) := by decide +kernel
theorem dRe_layRules_14 : decode mRe_layRules.2.1 14 = .ok (.iastore, 1) := by decide +kernel
theorem dRe_layRules_15 : decode mRe_layRules.2.1 15 = .ok (.iinc 1 1, 3) := by decide +kernel
theorem dRe_layRules_18 : decode mRe_layRules.2.1 18 = .ok (.goto (-16), 3) := by decide +kernel
theorem dRe_layRules_21 : decode mRe_layRules.2.1 21 = .ok (.iconst 0, 1) := by decide +kernel
theorem dRe_layRules_22 : decode mRe_layRules.2.1 22 = .ok (.istore_n 1, 1) := by decide +kernel
theorem dRe_layRules_23 : decode mRe_layRules.2.1 23 = .ok (.iload_n 1, 1) := by decide +kernel
theorem dRe_layRules_24 : decode mRe_layRules.2.1 24 = .ok (.aload_n 0, 1) := by decide +kernel
theorem dRe_layRules_25 : decode mRe_layRules.2.1 25 = .ok (.getfield 234, 3) := by decide +kernel
theorem dRe_layRules_28 : decode mRe_layRules.2.1 28 = .ok (.if_icmp .ge 32, 3) := by decide +kernel
theorem dRe_layRules_31 : decode mRe_layRules.2.1 31 = .ok (.aload_n 0, 1) := by decide +kernel
theorem dRe_layRules_32 : decode mRe_layRules.2.1 32 = .ok (.getfield 275, 3) := by decide +kernel
theorem dRe_layRules_35 : decode mRe_layRules.2.1 35 = .ok (.iload_n 1, 1) := by decide +kernel
theorem dRe_layRules_36 : decode mRe_layRules.2.1 36 = .ok (.ishr, 1) := by decide +kernel
theorem dRe_layRules_37 : decode mRe_layRules.2.1 37 = .ok (.iconst 1, 1) := by decide +kernel
theorem dRe_layRules_38 : decode mRe_layRules.2.1 38 = .ok (.iand, 1) := by decide +kernel
theorem dRe_layRules_39 : decode mRe_layRules.2.1 39 = .ok (.ifCond .ne 15, 3) := by decide +kernel
theorem dRe_layRules_42 : decode mRe_layRules.2.1 42 = .ok (.aload_n 0, 1) := by decide +kernel
theorem dRe_layRules_43 : decode mRe_layRules.2.1 43 = .ok (.getfield 61, 3) := by decide +kernel
theorem dRe_layRules_46 : decode mRe_layRules.2.1 46 = .ok (.aload_n 0, 1) := by decide +kernel
theorem dRe_layRules_47 : decode mRe_layRules.2.1 47 = .ok (.getfield 28, 3) := by decide +kernel
theorem dRe_layRules_50 : decode mRe_layRules.2.1 50 = .ok (.iload_n 1, 1) := by decide +kernel
theorem dRe_layRules_51 : decode mRe_layRules.2.1 51 = .ok (.iaload, 1) := by decide +kernel
theorem dRe_layRules_52 : decode mRe_layRules.2.1 52 = .ok (.iload_n 1, 1) := by decide +kernel
theorem dRe_layRules_53 : decode mRe_layRules.2.1 53 = .ok (.iastore, 1) := by decide +kernel
theorem dRe_layRules_54 : decode mRe_layRules.2.1 54 = .ok (.iinc 1 1, 3) := by decide +kernel
theorem dRe_layRules_57 : decode mRe_layRules.2.1 57 = .ok (.goto (-34), 3) := by decide +kernel
theorem dRe_layRules_60 : decode mRe_layRules.2.1 60 = .ok (.return_, 1) := by decide +kernel
theorem bRe_layRules_0 {l : Launch} {G : Gx} {d : Nat} {bc bs : Nat} {Φ : OutV → Mm → Prop} (M : Mm) (a0 : Nat)
    (h : Ev l G d mRe_layRules 2 [.ref a0, .int 0] [] M bc bs Φ) :
    Ev l G d mRe_layRules 0 [.ref a0, .null] [] M bc bs Φ := by
  refine Ev.iconst (v := 0) dRe_layRules_0 (by decide) ?_
  refine Ev.istore_n dRe_layRules_1 (by decide) ?_
  show Ev l G d mRe_layRules (_ + _) [.ref a0, .int 0] [] M bc bs Φ
  exact h
theorem bRe_layRules_2 {l : Launch} {G : Gx} {d : Nat} {bc bs : Nat} {Φ : OutV → Mm → Prop} (M : Mm) (a0 : Nat) (x1 : Int32)
    (h : (8 ≤ x1 → Ev l G d mRe_layRules 23 [.ref a0, .int 0] [] M bc bs Φ) ∧ (¬ 8 ≤ x1 → ((m_sh M a0).1 = 11) ∧ ((m_sh M (m_r M a0 31)).1 = 20) ∧ (vp_in x1 (m_sh M (m_r M a0 31)).2) ∧ Ev l G d mRe_layRules 2 [.ref a0, .int (x1 + 1)] [] (m_si M (m_r M a0 31) x1.toNatClampNeg ((-1))) bc bs Φ)) :
    Ev l G d mRe_layRules 2 [.ref a0, .int x1] [] M bc bs Φ := by
  refine Ev.iload_n dRe_layRules_2 rfl ?_
  refine Ev.bipush (v := 8) dRe_layRules_3 (by decide) ?_
  refine Ev.icmp_ge 21 (by decide) dRe_layRules_5 (fun c => ?_) (fun c => ?_)
  · replace h := h.1 c
    refine Ev.iconst (v := 0) dRe_layRules_21 (by decide) ?_
    refine Ev.istore_n dRe_layRules_22 (by decide) ?_
    show Ev l G d mRe_layRules (_ + _) [.ref a0, .int 0] [] M bc bs Φ
    exact h
  · replace h := h.2 c
    refine Ev.aload_n dRe_layRules_8 rfl ?_
    have g1 := h.1
    replace h := h.2
    refine Ev.getR dRe_layRules_9 (Or.inl fRe_61) rfl g1 ?_
    refine Ev.iload_n dRe_layRules_12 rfl ?_
    refine Ev.iconst (v := (-1)) dRe_layRules_13 (by decide) ?_
    have g2 := h.1
    replace h := h.2
    have g3 := h.1
    replace h := h.2
    refine Ev.iast2 dRe_layRules_14 g2 g3 ?_
    refine Ev.iinc (v := x1 + 1) dRe_layRules_15 (by decide) rfl rfl ?_
    show Ev l G d mRe_layRules (_ + _) [.ref a0, .int (x1 + 1)] [] (m_si M (m_r M a0 31) x1.toNatClampNeg ((-1))) bc bs Φ
    refine Ev.goto 2 dRe_layRules_18 (by decide) ?_
    exact h
theorem fRe_275 : FOK "BowingRowModel" 275 11 33 false := ⟨RX12, TX12, nFd 11, rfl, by decide, rfl, by decide, rfl, lwg_of 1316 (by decide +kernel) (by decide +kernel)⟩
theorem bRe_layRules_23 {l : Launch} {G : Gx} {d : Nat} {bc bs : Nat} {Φ : OutV → Mm → Prop} (M : Mm) (a0 : Nat) (x1 : Int32)
    (h : ((m_sh M a0).1 = 11) ∧ ((m_i M a0 15) ≤ x1 → Φ (.inl none) M) ∧ (¬ (m_i M a0 15) ≤ x1 → (¬ (((m_i M a0 33) >>> (x1 &&& 31)) &&& 1) = 0 → Ev l G d mRe_layRules 54 [.ref a0, .int x1] [] M bc bs Φ) ∧ ((((m_i M a0 33) >>> (x1 &&& 31)) &&& 1) = 0 → ((m_sh M (m_r M a0 18)).1 = 20) ∧ (vp_in x1 (m_sh M (m_r M a0 18)).2) ∧ ((m_sh M (m_r M a0 31)).1 = 20) ∧ (vp_in (m_i M (m_r M a0 18) x1.toNatClampNeg) (m_sh M (m_r M a0 31)).2) ∧ Ev l G d mRe_layRules 54 [.ref a0, .int x1] [] (m_si M (m_r M a0 31) (m_i M (m_r M a0 18) x1.toNatClampNeg).toNatClampNeg x1) bc bs Φ))) :
    Ev l G d mRe_layRules 23 [.ref a0, .int x1] [] M bc bs Φ := by
  refine Ev.iload_n dRe_layRules_23 rfl ?_
  refine Ev.aload_n dRe_layRules_24 rfl ?_
  have g1 := h.1
  replace h := h.2
  refine Ev.getI dRe_layRules_25 (Or.inl fRe_234) rfl g1 ?_
  refine Ev.icmp_ge 60 (by decide) dRe_layRules_28 (fun c => ?_) (fun c => ?_)
  · replace h := h.1 c
    exact Ev.vret dRe_layRules_60 rfl h
  · replace h := h.2 c
    refine Ev.aload_n dRe_layRules_31 rfl ?_
    refine Ev.getI dRe_layRules_32 (Or.inl fRe_275) rfl g1 ?_
    refine Ev.iload_n dRe_layRules_35 rfl ?_
    refine Ev.ishr dRe_layRules_36 ?_
    refine Ev.iconst (v := 1) dRe_layRules_37 (by decide) ?_
    refine Ev.iand dRe_layRules_38 ?_
    refine Ev.if_ne 54 (by decide) dRe_layRules_39 (fun c => ?_) (fun c => ?_)
    · replace h := h.1 c
      exact h
    · replace h := h.2 c
      refine Ev.aload_n dRe_layRules_42 rfl ?_
      refine Ev.getR dRe_layRules_43 (Or.inl fRe_61) rfl g1 ?_
      refine Ev.aload_n dRe_layRules_46 rfl ?_
      refine Ev.getR dRe_layRules_47 (Or.inl fRe_28) rfl g1 ?_
      refine Ev.iload_n dRe_layRules_50 rfl ?_
      have g2 := h.1
      replace h := h.2
      have g3 := h.1
      replace h := h.2
      refine Ev.iald2 dRe_layRules_51 g2 g3 ?_
      refine Ev.iload_n dRe_layRules_52 rfl ?_
      have g4 := h.1
      replace h := h.2
      have g5 := h.1
      replace h := h.2
      refine Ev.iast2 dRe_layRules_53 g4 g5 ?_
      exact h
theorem bRe_layRules_54 {l : Launch} {G : Gx} {d : Nat} {bc bs : Nat} {Φ : OutV → Mm → Prop} (M : Mm) (a0 : Nat) (x1 : Int32)
    (h : Ev l G d mRe_layRules 23 [.ref a0, .int (x1 + 1)] [] M bc bs Φ) :
    Ev l G d mRe_layRules 54 [.ref a0, .int x1] [] M bc bs Φ := by
  refine Ev.iinc (v := x1 + 1) dRe_layRules_54 (by decide) rfl rfl ?_
  show Ev l G d mRe_layRules (_ + _) [.ref a0, .int (x1 + 1)] [] M bc bs Φ
  refine Ev.goto 23 dRe_layRules_57 (by decide) ?_
  exact h
theorem dRe_numberOf_0 : decode mRe_numberOf.2.1 0 = .ok (.aload_n 0, 1) := by decide +kernel
theorem dRe_numberOf_1 : decode mRe_numberOf.2.1 1 = .ok (.getfield 61, 3) := by decide +kernel
theorem dRe_numberOf_4 : decode mRe_numberOf.2.1 4 = .ok (.iload_n 1, 1) := by decide +kernel
theorem dRe_numberOf_5 : decode mRe_numberOf.2.1 5 = .ok (.iaload, 1) := by decide +kernel
theorem dRe_numberOf_6 : decode mRe_numberOf.2.1 6 = .ok (.iconst (-1), 1) := by decide +kernel
theorem dRe_numberOf_7 : decode mRe_numberOf.2.1 7 = .ok (.if_icmp .ne 7, 3) := by decide +kernel
theorem dRe_numberOf_10 : decode mRe_numberOf.2.1 10 = .ok (.iload_n 2, 1) := by decide +kernel
theorem dRe_numberOf_11 : decode mRe_numberOf.2.1 11 = .ok (.goto 14, 3) := by decide +kernel
theorem dRe_numberOf_14 : decode mRe_numberOf.2.1 14 = .ok (.aload_n 0, 1) := by decide +kernel
theorem dRe_numberOf_15 : decode mRe_numberOf.2.1 15 = .ok (.getfield 34, 3) := by decide +kernel
theorem dRe_numberOf_18 : decode mRe_numberOf.2.1 18 = .ok (.aload_n 0, 1) := by decide +kernel
theorem dRe_numberOf_19 : decode mRe_numberOf.2.1 19 = .ok (.getfield 61, 3) := by decide +kernel
theorem dRe_numberOf_22 : decode mRe_numberOf.2.1 22 = .ok (.iload_n 1, 1) := by decide +kernel
theorem dRe_numberOf_23 : decode mRe_numberOf.2.1 23 = .ok (.iaload, 1) := by decide +kernel
theorem dRe_numberOf_24 : decode mRe_numberOf.2.1 24 = .ok (.iaload, 1) := by decide +kernel
theorem dRe_numberOf_25 : decode mRe_numberOf.2.1 25 = .ok (.ireturn, 1) := by decide +kernel
theorem bRe_numberOf_0 {l : Launch} {G : Gx} {d : Nat} {bc bs : Nat} {Φ : OutV → Mm → Prop} (M : Mm) (a0 : Nat) (x1 : Int32) (x2 : Int32)
    (h : ((m_sh M a0).1 = 11) ∧ ((m_sh M (m_r M a0 31)).1 = 20) ∧ (vp_in x1 (m_sh M (m_r M a0 31)).2) ∧ (¬ (m_i M (m_r M a0 31) x1.toNatClampNeg) = ((-1)) → ((m_sh M (m_r M a0 20)).1 = 20) ∧ (vp_in (m_i M (m_r M a0 31) x1.toNatClampNeg) (m_sh M (m_r M a0 20)).2) ∧ Φ (.inl (some (.int (m_i M (m_r M a0 20) (m_i M (m_r M a0 31) x1.toNatClampNeg).toNatClampNeg)))) M) ∧ ((m_i M (m_r M a0 31) x1.toNatClampNeg) = ((-1)) → Φ (.inl (some (.int x2))) M)) :
    Ev l G d mRe_numberOf 0 [.ref a0, .int x1, .int x2] [] M bc bs Φ := by
  refine Ev.aload_n dRe_numberOf_0 rfl ?_
  have g1 := h.1
  replace h := h.2
  refine Ev.getR dRe_numberOf_1 (Or.inl fRe_61) rfl g1 ?_
  refine Ev.iload_n dRe_numberOf_4 rfl ?_
  have g2 := h.1
  replace h := h.2
  have g3 := h.1
  replace h := h.2
  refine Ev.iald2 dRe_numberOf_5 g2 g3 ?_
  refine Ev.iconst (v := (-1)) dRe_numberOf_6 (by decide) ?_
  refine Ev.icmp_ne 14 (by decide) dRe_numberOf_7 (fun c => ?_) (fun c => ?_)
  · replace h := h.1 c
    refine Ev.aload_n dRe_numberOf_14 rfl ?_
    refine Ev.getR dRe_numberOf_15 (Or.inl fRe_34) rfl g1 ?_
    refine Ev.aload_n dRe_numberOf_18 rfl ?_
    refine Ev.getR dRe_numberOf_19 (Or.inl fRe_61) rfl g1 ?_
    refine Ev.iload_n dRe_numberOf_22 rfl ?_
    refine Ev.iald2 dRe_numberOf_23 g2 g3 ?_
    have g4 := h.1
    replace h := h.2
    have g5 := h.1
    replace h := h.2
    refine Ev.iald2 dRe_numberOf_24 g4 g5 ?_
    exact Ev.iret dRe_numberOf_25 rfl rfl h
  · replace h := h.2 c
    refine Ev.iload_n dRe_numberOf_10 rfl ?_
    refine Ev.goto 25 dRe_numberOf_11 (by decide) ?_
    exact Ev.iret dRe_numberOf_25 rfl rfl h
def mRe_person : MR := (⟨"BowingRowModel", "person", "(II)I"⟩, prog_14_method_41_code, 3, (Option.some .int))
theorem oRe_person : MOK mRe_person 2 := ⟨lwg_of 1617 (by decide +kernel) (by decide +kernel), lwg_of 103 (by decide +kernel) (by decide +kernel), ⟨by decide +kernel, by decide +kernel⟩, by decide +kernel, by decide⟩
theorem iRe_person : Cond.instanceMethod mRe_person.1 ∈ lwg := lwg_of 1615 (by decide +kernel) (by decide +kernel)
theorem sRe_person : Cond.selects mRe_person.1.cls mRe_person.1 mRe_person.1 ∈ lwg := lwg_of 1616 (by decide +kernel) (by decide +kernel)
theorem dRe_person_0 : decode mRe_person.2.1 0 = .ok (.aload_n 0, 1) := by decide +kernel
theorem dRe_person_1 : decode mRe_person.2.1 1 = .ok (.iconst 0, 1) := by decide +kernel
theorem dRe_person_2 : decode mRe_person.2.1 2 = .ok (.putfield 115, 3) := by decide +kernel
theorem dRe_person_5 : decode mRe_person.2.1 5 = .ok (.aload_n 0, 1) := by decide +kernel
theorem dRe_person_6 : decode mRe_person.2.1 6 = .ok (.aload_n 0, 1) := by decide +kernel
theorem dRe_person_7 : decode mRe_person.2.1 7 = .ok (.iload_n 1, 1) := by decide +kernel
theorem dRe_person_8 : decode mRe_person.2.1 8 = .ok (.invokevirtual 285, 3) := by decide +kernel
theorem dRe_person_11 : decode mRe_person.2.1 11 = .ok (.ifCond .ne 7, 3) := by decide +kernel
theorem dRe_person_14 : decode mRe_person.2.1 14 = .ok (.iconst 1, 1) := by decide +kernel
theorem dRe_person_15 : decode mRe_person.2.1 15 = .ok (.goto 4, 3) := by decide +kernel
theorem dRe_person_18 : decode mRe_person.2.1 18 = .ok (.iconst 0, 1) := by decide +kernel
theorem dRe_person_19 : decode mRe_person.2.1 19 = .ok (.iconst 1, 1) := by decide +kernel
theorem dRe_person_20 : decode mRe_person.2.1 20 = .ok (.invokevirtual 196, 3) := by decide +kernel
theorem dRe_person_23 : decode mRe_person.2.1 23 = .ok (.ifCond .ne 26, 3) := by decide +kernel
theorem dRe_person_26 : decode mRe_person.2.1 26 = .ok (.aload_n 0, 1) := by decide +kernel
theorem dRe_person_27 : decode mRe_person.2.1 27 = .ok (.iload_n 2, 1) := by decide +kernel
theorem dRe_person_28 : decode mRe_person.2.1 28 = .ok (.iconst 0, 1) := by decide +kernel
theorem dRe_person_29 : decode mRe_person.2.1 29 = .ok (.bipush 7, 2) := by decide +kernel
theorem dRe_person_31 : decode mRe_person.2.1 31 = .ok (.invokestatic 149, 3) := by decide +kernel
theorem dRe_person_34 : decode mRe_person.2.1 34 = .ok (.ifCond .ne 7, 3) := by decide +kernel
theorem dRe_person_37 : decode mRe_person.2.1 37 = .ok (.iconst 1, 1) := by decide +kernel
theorem dRe_person_38 : decode mRe_person.2.1 38 = .ok (.goto 4, 3) := by decide +kernel
theorem dRe_person_41 : decode mRe_person.2.1 41 = .ok (.iconst 0, 1) := by decide +kernel
theorem dRe_person_42 : decode mRe_person.2.1 42 = .ok (.iconst 2, 1) := by decide +kernel
theorem dRe_person_43 : decode mRe_person.2.1 43 = .ok (.invokevirtual 196, 3) := by decide +kernel
theorem dRe_person_46 : decode mRe_person.2.1 46 = .ok (.ifCond .eq 5, 3) := by decide +kernel
theorem dRe_person_49 : decode mRe_person.2.1 49 = .ok (.iconst 0, 1) := by decide +kernel
theorem dRe_person_50 : decode mRe_person.2.1 50 = .ok (.ireturn, 1) := by decide +kernel
theorem dRe_person_51 : decode mRe_person.2.1 51 = .ok (.aload_n 0, 1) := by decide +kernel
theorem dRe_person_52 : decode mRe_person.2.1 52 = .ok (.getfield 22, 3) := by decide +kernel
theorem dRe_person_55 : decode mRe_person.2.1 55 = .ok (.iload_n 1, 1) := by decide +kernel
theorem dRe_person_56 : decode mRe_person.2.1 56 = .ok (.aaload, 1) := by decide +kernel
theorem dRe_person_57 : decode mRe_person.2.1 57 = .ok (.iload_n 2, 1) := by decide +kernel
theorem dRe_person_58 : decode mRe_person.2.1 58 = .ok (.iaload, 1) := by decide +kernel
theorem dRe_person_59 : decode mRe_person.2.1 59 = .ok (.ireturn, 1) := by decide +kernel
def mRe_isPerson : MR := (⟨"BowingRowModel", "isPerson", "(I)Z"⟩, prog_14_method_40_code, 2, (Option.some .boolean))
theorem oRe_isPerson : MOK mRe_isPerson 1 := ⟨lwg_of 1621 (by decide +kernel) (by decide +kernel), lwg_of 103 (by decide +kernel) (by decide +kernel), ⟨by decide +kernel, by decide +kernel⟩, by decide +kernel, by decide⟩
theorem iRe_isPerson : Cond.instanceMethod mRe_isPerson.1 ∈ lwg := lwg_of 1620 (by decide +kernel) (by decide +kernel)
theorem sRe_isPerson : Cond.selects mRe_isPerson.1.cls mRe_isPerson.1 mRe_isPerson.1 ∈ lwg := lwg_of 65 (by decide +kernel) (by decide +kernel)
theorem w1618 : Cond.methodLink "BowingRowModel" 285 ⟨"BowingRowModel", "isPerson", "(I)Z"⟩ ∈ lwg := lwg_of 1618 (by decide +kernel) (by decide +kernel)
theorem bRe_person_0 {l : Launch} {G : Gx} {d : Nat} {bc bs : Nat} {Φ : OutV → Mm → Prop} (M : Mm) (a0 : Nat) (x1 : Int32) (x2 : Int32)
    (h : ((m_sh M a0).1 = 11) ∧ CallVC l G d mRe_person 11 [.ref a0, .int x1, .int x2] [.ref a0] mRe_isPerson [.ref a0, .int x1] (m_si M a0 0 0) bc bs Φ) :
    Ev l G d mRe_person 0 [.ref a0, .int x1, .int x2] [] M bc bs Φ := by
  refine Ev.aload_n dRe_person_0 rfl ?_
  refine Ev.iconst (v := 0) dRe_person_1 (by decide) ?_
  have g1 := h.1
  replace h := h.2
  refine Ev.putI dRe_person_2 ⟨_, Or.inl ⟨fRe_115, (fun h => by cases h)⟩⟩ rfl ⟨rfl, rfl⟩ g1 ?_
  refine Ev.aload_n dRe_person_5 rfl ?_
  refine Ev.aload_n dRe_person_6 rfl ?_
  refine Ev.iload_n dRe_person_7 rfl ?_
  exact Ev.vcV (z := mRe_isPerson) (ci := 11) [.int x1] [.ref a0] rfl dRe_person_8 oRe_isPerson rfl w1618 iRe_isPerson sRe_isPerson (by decide) rfl g1 (Nat.le_of_ble_eq_true rfl) h
theorem bRe_person_11 {l : Launch} {G : Gx} {d : Nat} {bc bs : Nat} {Φ : OutV → Mm → Prop} (M : Mm) (a0 : Nat) (x1 : Int32) (x2 : Int32) (r0 : Nat) (s1 : Int32)
    (h : (¬ s1 = 0 → ((m_sh M r0).1 = 11) ∧ CallVC l G d mRe_person 23 [.ref a0, .int x1, .int x2] [] mRe_bad [.ref r0, .int 0, .int 1] M bc bs Φ) ∧ (s1 = 0 → ((m_sh M r0).1 = 11) ∧ CallVC l G d mRe_person 23 [.ref a0, .int x1, .int x2] [] mRe_bad [.ref r0, .int 1, .int 1] M bc bs Φ)) :
    Ev l G d mRe_person 11 [.ref a0, .int x1, .int x2] [.int s1, .ref r0] M bc bs Φ := by
  refine Ev.if_ne 18 (by decide) dRe_person_11 (fun c => ?_) (fun c => ?_)
  · replace h := h.1 c
    refine Ev.iconst (v := 0) dRe_person_18 (by decide) ?_
    refine Ev.iconst (v := 1) dRe_person_19 (by decide) ?_
    have g1 := h.1
    replace h := h.2
    exact Ev.vcV (z := mRe_bad) (ci := 11) [.int 0, .int 1] [] rfl dRe_person_20 oRe_bad rfl w1479 iRe_bad sRe_bad (by decide) rfl g1 (Nat.le_of_ble_eq_true rfl) h
  · replace h := h.2 c
    refine Ev.iconst (v := 1) dRe_person_14 (by decide) ?_
    refine Ev.goto 19 dRe_person_15 (by decide) ?_
    refine Ev.iconst (v := 1) dRe_person_19 (by decide) ?_
    have g2 := h.1
    replace h := h.2
    exact Ev.vcV (z := mRe_bad) (ci := 11) [.int 1, .int 1] [] rfl dRe_person_20 oRe_bad rfl w1479 iRe_bad sRe_bad (by decide) rfl g2 (Nat.le_of_ble_eq_true rfl) h
theorem bRe_person_23 {l : Launch} {G : Gx} {d : Nat} {bc bs : Nat} {Φ : OutV → Mm → Prop} (M : Mm) (a0 : Nat) (x1 : Int32) (x2 : Int32) (s0 : Int32)
    (h : (¬ s0 = 0 → Φ (.inl (some (.int 0))) M) ∧ (s0 = 0 → CallVC l G d mRe_person 34 [.ref a0, .int x1, .int x2] [.ref a0] mRe_in [.int x2, .int 0, .int 7] M bc bs Φ)) :
    Ev l G d mRe_person 23 [.ref a0, .int x1, .int x2] [.int s0] M bc bs Φ := by
  refine Ev.if_ne 49 (by decide) dRe_person_23 (fun c => ?_) (fun c => ?_)
  · replace h := h.1 c
    refine Ev.iconst (v := 0) dRe_person_49 (by decide) ?_
    exact Ev.iret dRe_person_50 rfl rfl h
  · replace h := h.2 c
    refine Ev.aload_n dRe_person_26 rfl ?_
    refine Ev.iload_n dRe_person_27 rfl ?_
    refine Ev.iconst (v := 0) dRe_person_28 (by decide) ?_
    refine Ev.bipush (v := 7) dRe_person_29 (by decide) ?_
    exact Ev.vcS (z := mRe_in) [.int x2, .int 0, .int 7] [.ref a0] rfl dRe_person_31 oRe_in rfl w1476 iRe_in (Nat.le_of_ble_eq_true rfl) h
theorem bRe_person_34 {l : Launch} {G : Gx} {d : Nat} {bc bs : Nat} {Φ : OutV → Mm → Prop} (M : Mm) (a0 : Nat) (x1 : Int32) (x2 : Int32) (r0 : Nat) (s1 : Int32)
    (h : (¬ s1 = 0 → ((m_sh M r0).1 = 11) ∧ CallVC l G d mRe_person 46 [.ref a0, .int x1, .int x2] [] mRe_bad [.ref r0, .int 0, .int 2] M bc bs Φ) ∧ (s1 = 0 → ((m_sh M r0).1 = 11) ∧ CallVC l G d mRe_person 46 [.ref a0, .int x1, .int x2] [] mRe_bad [.ref r0, .int 1, .int 2] M bc bs Φ)) :
    Ev l G d mRe_person 34 [.ref a0, .int x1, .int x2] [.int s1, .ref r0] M bc bs Φ := by
  refine Ev.if_ne 41 (by decide) dRe_person_34 (fun c => ?_) (fun c => ?_)
  · replace h := h.1 c
    refine Ev.iconst (v := 0) dRe_person_41 (by decide) ?_
    refine Ev.iconst (v := 2) dRe_person_42 (by decide) ?_
    have g1 := h.1
    replace h := h.2
    exact Ev.vcV (z := mRe_bad) (ci := 11) [.int 0, .int 2] [] rfl dRe_person_43 oRe_bad rfl w1479 iRe_bad sRe_bad (by decide) rfl g1 (Nat.le_of_ble_eq_true rfl) h
  · replace h := h.2 c
    refine Ev.iconst (v := 1) dRe_person_37 (by decide) ?_
    refine Ev.goto 42 dRe_person_38 (by decide) ?_
    refine Ev.iconst (v := 2) dRe_person_42 (by decide) ?_
    have g2 := h.1
    replace h := h.2
    exact Ev.vcV (z := mRe_bad) (ci := 11) [.int 1, .int 2] [] rfl dRe_person_43 oRe_bad rfl w1479 iRe_bad sRe_bad (by decide) rfl g2 (Nat.le_of_ble_eq_true rfl) h
theorem bRe_person_46 {l : Launch} {G : Gx} {d : Nat} {bc bs : Nat} {Φ : OutV → Mm → Prop} (M : Mm) (a0 : Nat) (x1 : Int32) (x2 : Int32) (s0 : Int32)
    (h : (s0 = 0 → ((m_sh M a0).1 = 11) ∧ ((m_sh M (m_r M a0 13)).1 = 33) ∧ (vp_in x1 (m_sh M (m_r M a0 13)).2) ∧ ((m_sh M (m_r M (m_r M a0 13) x1.toNatClampNeg)).1 = 20) ∧ (vp_in x2 (m_sh M (m_r M (m_r M a0 13) x1.toNatClampNeg)).2) ∧ Φ (.inl (some (.int (m_i M (m_r M (m_r M a0 13) x1.toNatClampNeg) x2.toNatClampNeg)))) M) ∧ (¬ s0 = 0 → Φ (.inl (some (.int 0))) M)) :
    Ev l G d mRe_person 46 [.ref a0, .int x1, .int x2] [.int s0] M bc bs Φ := by
  refine Ev.if_eq 51 (by decide) dRe_person_46 (fun c => ?_) (fun c => ?_)
  · replace h := h.1 c
    refine Ev.aload_n dRe_person_51 rfl ?_
    have g1 := h.1
    replace h := h.2
    refine Ev.getR dRe_person_52 (Or.inl fRe_22) rfl g1 ?_
    refine Ev.iload_n dRe_person_55 rfl ?_
    have g2 := h.1
    replace h := h.2
    have g3 := h.1
    replace h := h.2
    refine Ev.aald2 33 (by decide) dRe_person_56 g2 g3 ?_
    refine Ev.iload_n dRe_person_57 rfl ?_
    have g4 := h.1
    replace h := h.2
    have g5 := h.1
    replace h := h.2
    refine Ev.iald2 dRe_person_58 g4 g5 ?_
    exact Ev.iret dRe_person_59 rfl rfl h
  · replace h := h.2 c
    refine Ev.iconst (v := 0) dRe_person_49 (by decide) ?_
    exact Ev.iret dRe_person_50 rfl rfl h
theorem dRe_isPerson_0 : decode mRe_isPerson.2.1 0 = .ok (.iload_n 1, 1) := by decide +kernel
theorem dRe_isPerson_1 : decode mRe_isPerson.2.1 1 = .ok (.iconst 0, 1) := by decide +kernel
theorem dRe_isPerson_2 : decode mRe_isPerson.2.1 2 = .ok (.aload_n 0, 1) := by decide +kernel
theorem dRe_isPerson_3 : decode mRe_isPerson.2.1 3 = .ok (.getfield 206, 3) := by decide +kernel
theorem dRe_isPerson_6 : decode mRe_isPerson.2.1 6 = .ok (.iconst 1, 1) := by decide +kernel
theorem dRe_isPerson_7 : decode mRe_isPerson.2.1 7 = .ok (.isub, 1) := by decide +kernel
theorem dRe_isPerson_8 : decode mRe_isPerson.2.1 8 = .ok (.invokestatic 149, 3) := by decide +kernel
theorem dRe_isPerson_11 : decode mRe_isPerson.2.1 11 = .ok (.ireturn, 1) := by decide +kernel
theorem bRe_isPerson_0 {l : Launch} {G : Gx} {d : Nat} {bc bs : Nat} {Φ : OutV → Mm → Prop} (M : Mm) (a0 : Nat) (x1 : Int32)
    (h : ((m_sh M a0).1 = 11) ∧ CallVC l G d mRe_isPerson 11 [.ref a0, .int x1] [] mRe_in [.int x1, .int 0, .int ((m_i M a0 11) - 1)] M bc bs Φ) :
    Ev l G d mRe_isPerson 0 [.ref a0, .int x1] [] M bc bs Φ := by
  refine Ev.iload_n dRe_isPerson_0 rfl ?_
  refine Ev.iconst (v := 0) dRe_isPerson_1 (by decide) ?_
  refine Ev.aload_n dRe_isPerson_2 rfl ?_
  have g1 := h.1
  replace h := h.2
  refine Ev.getI dRe_isPerson_3 (Or.inl fRe_206) rfl g1 ?_
  refine Ev.iconst (v := 1) dRe_isPerson_6 (by decide) ?_
  refine Ev.isub dRe_isPerson_7 ?_
  exact Ev.vcS (z := mRe_in) [.int x1, .int 0, .int ((m_i M a0 11) - 1)] [] rfl dRe_isPerson_8 oRe_in rfl w1476 iRe_in (Nat.le_of_ble_eq_true rfl) h
theorem bRe_isPerson_11 {l : Launch} {G : Gx} {d : Nat} {bc bs : Nat} {Φ : OutV → Mm → Prop} (M : Mm) (a0 : Nat) (x1 : Int32) (s0 : Int32)
    (h : (narrow .boolean (.int s0) = .int s0) ∧ Φ (.inl (some (.int s0))) M) :
    Ev l G d mRe_isPerson 11 [.ref a0, .int x1] [.int s0] M bc bs Φ := by
  have g1 := h.1
  replace h := h.2
  exact Ev.iret dRe_isPerson_11 rfl g1 h
def mRe_way : MR := (⟨"BowingRowModel", "way", "(II)I"⟩, prog_14_method_42_code, 4, (Option.some .int))
theorem oRe_way : MOK mRe_way 2 := ⟨lwg_of 1625 (by decide +kernel) (by decide +kernel), lwg_of 103 (by decide +kernel) (by decide +kernel), ⟨by decide +kernel, by decide +kernel⟩, by decide +kernel, by decide⟩
theorem iRe_way : Cond.instanceMethod mRe_way.1 ∈ lwg := lwg_of 1623 (by decide +kernel) (by decide +kernel)
theorem sRe_way : Cond.selects mRe_way.1.cls mRe_way.1 mRe_way.1 ∈ lwg := lwg_of 1624 (by decide +kernel) (by decide +kernel)
theorem dRe_way_0 : decode mRe_way.2.1 0 = .ok (.aload_n 0, 1) := by decide +kernel
theorem dRe_way_1 : decode mRe_way.2.1 1 = .ok (.iconst 0, 1) := by decide +kernel
theorem dRe_way_2 : decode mRe_way.2.1 2 = .ok (.putfield 115, 3) := by decide +kernel
theorem dRe_way_5 : decode mRe_way.2.1 5 = .ok (.aload_n 0, 1) := by decide +kernel
theorem dRe_way_6 : decode mRe_way.2.1 6 = .ok (.aload_n 0, 1) := by decide +kernel
theorem dRe_way_7 : decode mRe_way.2.1 7 = .ok (.iload_n 1, 1) := by decide +kernel
theorem dRe_way_8 : decode mRe_way.2.1 8 = .ok (.invokevirtual 285, 3) := by decide +kernel
theorem dRe_way_11 : decode mRe_way.2.1 11 = .ok (.ifCond .ne 7, 3) := by decide +kernel
theorem dRe_way_14 : decode mRe_way.2.1 14 = .ok (.iconst 1, 1) := by decide +kernel
theorem dRe_way_15 : decode mRe_way.2.1 15 = .ok (.goto 4, 3) := by decide +kernel
theorem dRe_way_18 : decode mRe_way.2.1 18 = .ok (.iconst 0, 1) := by decide +kernel
theorem dRe_way_19 : decode mRe_way.2.1 19 = .ok (.iconst 1, 1) := by decide +kernel
theorem dRe_way_20 : decode mRe_way.2.1 20 = .ok (.invokevirtual 196, 3) := by decide +kernel
theorem dRe_way_23 : decode mRe_way.2.1 23 = .ok (.ifCond .ne 25, 3) := by decide +kernel
theorem dRe_way_26 : decode mRe_way.2.1 26 = .ok (.aload_n 0, 1) := by decide +kernel
theorem dRe_way_27 : decode mRe_way.2.1 27 = .ok (.iload_n 2, 1) := by decide +kernel
theorem dRe_way_28 : decode mRe_way.2.1 28 = .ok (.iconst 0, 1) := by decide +kernel
theorem dRe_way_29 : decode mRe_way.2.1 29 = .ok (.iconst 4, 1) := by decide +kernel
theorem dRe_way_30 : decode mRe_way.2.1 30 = .ok (.invokestatic 149, 3) := by decide +kernel
theorem dRe_way_33 : decode mRe_way.2.1 33 = .ok (.ifCond .ne 7, 3) := by decide +kernel
theorem dRe_way_36 : decode mRe_way.2.1 36 = .ok (.iconst 1, 1) := by decide +kernel
theorem dRe_way_37 : decode mRe_way.2.1 37 = .ok (.goto 4, 3) := by decide +kernel
theorem dRe_way_40 : decode mRe_way.2.1 40 = .ok (.iconst 0, 1) := by decide +kernel
theorem dRe_way_41 : decode mRe_way.2.1 41 = .ok (.iconst 2, 1) := by decide +kernel
theorem dRe_way_42 : decode mRe_way.2.1 42 = .ok (.invokevirtual 196, 3) := by decide +kernel
theorem dRe_way_45 : decode mRe_way.2.1 45 = .ok (.ifCond .eq 5, 3) := by decide +kernel
theorem dRe_way_48 : decode mRe_way.2.1 48 = .ok (.iconst 0, 1) := by decide +kernel
theorem dRe_way_49 : decode mRe_way.2.1 49 = .ok (.ireturn, 1) := by decide +kernel
theorem dRe_way_50 : decode mRe_way.2.1 50 = .ok (.aload_n 0, 1) := by decide +kernel
theorem dRe_way_51 : decode mRe_way.2.1 51 = .ok (.getfield 22, 3) := by decide +kernel
theorem dRe_way_54 : decode mRe_way.2.1 54 = .ok (.iload_n 1, 1) := by decide +kernel
theorem dRe_way_55 : decode mRe_way.2.1 55 = .ok (.aaload, 1) := by decide +kernel
theorem dRe_way_56 : decode mRe_way.2.1 56 = .ok (.iconst 5, 1) := by decide +kernel
theorem dRe_way_57 : decode mRe_way.2.1 57 = .ok (.iaload, 1) := by decide +kernel
theorem dRe_way_58 : decode mRe_way.2.1 58 = .ok (.istore_n 3, 1) := by decide +kernel
theorem dRe_way_59 : decode mRe_way.2.1 59 = .ok (.aload_n 0, 1) := by decide +kernel
theorem dRe_way_60 : decode mRe_way.2.1 60 = .ok (.getfield 22, 3) := by decide +kernel
theorem dRe_way_63 : decode mRe_way.2.1 63 = .ok (.iload_n 1, 1) := by decide +kernel
theorem dRe_way_64 : decode mRe_way.2.1 64 = .ok (.aaload, 1) := by decide +kernel
theorem dRe_way_65 : decode mRe_way.2.1 65 = .ok (.iconst 5, 1) := by decide +kernel
theorem dRe_way_66 : decode mRe_way.2.1 66 = .ok (.iload_n 2, 1) := by decide +kernel
theorem dRe_way_67 : decode mRe_way.2.1 67 = .ok (.iastore, 1) := by decide +kernel
theorem dRe_way_68 : decode mRe_way.2.1 68 = .ok (.iload_n 3, 1) := by decide +kernel
theorem dRe_way_69 : decode mRe_way.2.1 69 = .ok (.ireturn, 1) := by decide +kernel
theorem bRe_way_0 {l : Launch} {G : Gx} {d : Nat} {bc bs : Nat} {Φ : OutV → Mm → Prop} (M : Mm) (a0 : Nat) (x1 : Int32) (x2 : Int32)
    (h : ((m_sh M a0).1 = 11) ∧ CallVC l G d mRe_way 11 [.ref a0, .int x1, .int x2, .null] [.ref a0] mRe_isPerson [.ref a0, .int x1] (m_si M a0 0 0) bc bs Φ) :
    Ev l G d mRe_way 0 [.ref a0, .int x1, .int x2, .null] [] M bc bs Φ := by
  refine Ev.aload_n dRe_way_0 rfl ?_
  refine Ev.iconst (v := 0) dRe_way_1 (by decide) ?_
  have g1 := h.1
  replace h := h.2
  refine Ev.putI dRe_way_2 ⟨_, Or.inl ⟨fRe_115, (fun h => by cases h)⟩⟩ rfl ⟨rfl, rfl⟩ g1 ?_
  refine Ev.aload_n dRe_way_5 rfl ?_
  refine Ev.aload_n dRe_way_6 rfl ?_
  refine Ev.iload_n dRe_way_7 rfl ?_
  exact Ev.vcV (z := mRe_isPerson) (ci := 11) [.int x1] [.ref a0] rfl dRe_way_8 oRe_isPerson rfl w1618 iRe_isPerson sRe_isPerson (by decide) rfl g1 (Nat.le_of_ble_eq_true rfl) h
theorem bRe_way_11 {l : Launch} {G : Gx} {d : Nat} {bc bs : Nat} {Φ : OutV → Mm → Prop} (M : Mm) (a0 : Nat) (x1 : Int32) (x2 : Int32) (u3 : Value) (r0 : Nat) (s1 : Int32)
    (h : (¬ s1 = 0 → ((m_sh M r0).1 = 11) ∧ CallVC l G d mRe_way 23 [.ref a0, .int x1, .int x2, u3] [] mRe_bad [.ref r0, .int 0, .int 1] M bc bs Φ) ∧ (s1 = 0 → ((m_sh M r0).1 = 11) ∧ CallVC l G d mRe_way 23 [.ref a0, .int x1, .int x2, u3] [] mRe_bad [.ref r0, .int 1, .int 1] M bc bs Φ)) :
    Ev l G d mRe_way 11 [.ref a0, .int x1, .int x2, u3] [.int s1, .ref r0] M bc bs Φ := by
  refine Ev.if_ne 18 (by decide) dRe_way_11 (fun c => ?_) (fun c => ?_)
  · replace h := h.1 c
    refine Ev.iconst (v := 0) dRe_way_18 (by decide) ?_
    refine Ev.iconst (v := 1) dRe_way_19 (by decide) ?_
    have g1 := h.1
    replace h := h.2
    exact Ev.vcV (z := mRe_bad) (ci := 11) [.int 0, .int 1] [] rfl dRe_way_20 oRe_bad rfl w1479 iRe_bad sRe_bad (by decide) rfl g1 (Nat.le_of_ble_eq_true rfl) h
  · replace h := h.2 c
    refine Ev.iconst (v := 1) dRe_way_14 (by decide) ?_
    refine Ev.goto 19 dRe_way_15 (by decide) ?_
    refine Ev.iconst (v := 1) dRe_way_19 (by decide) ?_
    have g2 := h.1
    replace h := h.2
    exact Ev.vcV (z := mRe_bad) (ci := 11) [.int 1, .int 1] [] rfl dRe_way_20 oRe_bad rfl w1479 iRe_bad sRe_bad (by decide) rfl g2 (Nat.le_of_ble_eq_true rfl) h
theorem bRe_way_23 {l : Launch} {G : Gx} {d : Nat} {bc bs : Nat} {Φ : OutV → Mm → Prop} (M : Mm) (a0 : Nat) (x1 : Int32) (x2 : Int32) (u3 : Value) (s0 : Int32)
    (h : (¬ s0 = 0 → Φ (.inl (some (.int 0))) M) ∧ (s0 = 0 → CallVC l G d mRe_way 33 [.ref a0, .int x1, .int x2, u3] [.ref a0] mRe_in [.int x2, .int 0, .int 4] M bc bs Φ)) :
    Ev l G d mRe_way 23 [.ref a0, .int x1, .int x2, u3] [.int s0] M bc bs Φ := by
  refine Ev.if_ne 48 (by decide) dRe_way_23 (fun c => ?_) (fun c => ?_)
  · replace h := h.1 c
    refine Ev.iconst (v := 0) dRe_way_48 (by decide) ?_
    exact Ev.iret dRe_way_49 rfl rfl h
  · replace h := h.2 c
    refine Ev.aload_n dRe_way_26 rfl ?_
    refine Ev.iload_n dRe_way_27 rfl ?_
    refine Ev.iconst (v := 0) dRe_way_28 (by decide) ?_
    refine Ev.iconst (v := 4) dRe_way_29 (by decide) ?_
    exact Ev.vcS (z := mRe_in) [.int x2, .int 0, .int 4] [.ref a0] rfl dRe_way_30 oRe_in rfl w1476 iRe_in (Nat.le_of_ble_eq_true rfl) h
theorem bRe_way_33 {l : Launch} {G : Gx} {d : Nat} {bc bs : Nat} {Φ : OutV → Mm → Prop} (M : Mm) (a0 : Nat) (x1 : Int32) (x2 : Int32) (u3 : Value) (r0 : Nat) (s1 : Int32)
    (h : (¬ s1 = 0 → ((m_sh M r0).1 = 11) ∧ CallVC l G d mRe_way 45 [.ref a0, .int x1, .int x2, u3] [] mRe_bad [.ref r0, .int 0, .int 2] M bc bs Φ) ∧ (s1 = 0 → ((m_sh M r0).1 = 11) ∧ CallVC l G d mRe_way 45 [.ref a0, .int x1, .int x2, u3] [] mRe_bad [.ref r0, .int 1, .int 2] M bc bs Φ)) :
    Ev l G d mRe_way 33 [.ref a0, .int x1, .int x2, u3] [.int s1, .ref r0] M bc bs Φ := by
  refine Ev.if_ne 40 (by decide) dRe_way_33 (fun c => ?_) (fun c => ?_)
  · replace h := h.1 c
    refine Ev.iconst (v := 0) dRe_way_40 (by decide) ?_
    refine Ev.iconst (v := 2) dRe_way_41 (by decide) ?_
    have g1 := h.1
    replace h := h.2
    exact Ev.vcV (z := mRe_bad) (ci := 11) [.int 0, .int 2] [] rfl dRe_way_42 oRe_bad rfl w1479 iRe_bad sRe_bad (by decide) rfl g1 (Nat.le_of_ble_eq_true rfl) h
  · replace h := h.2 c
    refine Ev.iconst (v := 1) dRe_way_36 (by decide) ?_
    refine Ev.goto 41 dRe_way_37 (by decide) ?_
    refine Ev.iconst (v := 2) dRe_way_41 (by decide) ?_
    have g2 := h.1
    replace h := h.2
    exact Ev.vcV (z := mRe_bad) (ci := 11) [.int 1, .int 2] [] rfl dRe_way_42 oRe_bad rfl w1479 iRe_bad sRe_bad (by decide) rfl g2 (Nat.le_of_ble_eq_true rfl) h
theorem bRe_way_45 {l : Launch} {G : Gx} {d : Nat} {bc bs : Nat} {Φ : OutV → Mm → Prop} (M : Mm) (a0 : Nat) (x1 : Int32) (x2 : Int32) (u3 : Value) (s0 : Int32)
    (h : (s0 = 0 → ((m_sh M a0).1 = 11) ∧ ((m_sh M (m_r M a0 13)).1 = 33) ∧ (vp_in x1 (m_sh M (m_r M a0 13)).2) ∧ ((m_sh M (m_r M (m_r M a0 13) x1.toNatClampNeg)).1 = 20) ∧ (vp_in 5 (m_sh M (m_r M (m_r M a0 13) x1.toNatClampNeg)).2) ∧ Φ (.inl (some (.int (m_i M (m_r M (m_r M a0 13) x1.toNatClampNeg) (5 : Int32).toNatClampNeg)))) (m_si M (m_r M (m_r M a0 13) x1.toNatClampNeg) (5 : Int32).toNatClampNeg x2)) ∧ (¬ s0 = 0 → Φ (.inl (some (.int 0))) M)) :
    Ev l G d mRe_way 45 [.ref a0, .int x1, .int x2, u3] [.int s0] M bc bs Φ := by
  refine Ev.if_eq 50 (by decide) dRe_way_45 (fun c => ?_) (fun c => ?_)
  · replace h := h.1 c
    refine Ev.aload_n dRe_way_50 rfl ?_
    have g1 := h.1
    replace h := h.2
    refine Ev.getR dRe_way_51 (Or.inl fRe_22) rfl g1 ?_
    refine Ev.iload_n dRe_way_54 rfl ?_
    have g2 := h.1
    replace h := h.2
    have g3 := h.1
    replace h := h.2
    refine Ev.aald2 33 (by decide) dRe_way_55 g2 g3 ?_
    refine Ev.iconst (v := 5) dRe_way_56 (by decide) ?_
    have g4 := h.1
    replace h := h.2
    have g5 := h.1
    replace h := h.2
    refine Ev.iald2 dRe_way_57 g4 g5 ?_
    refine Ev.istore_n dRe_way_58 (by decide) ?_
    show Ev l G d mRe_way (_ + _) [.ref a0, .int x1, .int x2, .int (m_i M (m_r M (m_r M a0 13) x1.toNatClampNeg) (5 : Int32).toNatClampNeg)] [] M bc bs Φ
    refine Ev.aload_n dRe_way_59 rfl ?_
    refine Ev.getR dRe_way_60 (Or.inl fRe_22) rfl g1 ?_
    refine Ev.iload_n dRe_way_63 rfl ?_
    refine Ev.aald2 33 (by decide) dRe_way_64 g2 g3 ?_
    refine Ev.iconst (v := 5) dRe_way_65 (by decide) ?_
    refine Ev.iload_n dRe_way_66 rfl ?_
    refine Ev.iast2 dRe_way_67 g4 g5 ?_
    refine Ev.iload_n dRe_way_68 rfl ?_
    exact Ev.iret dRe_way_69 rfl rfl h
  · replace h := h.2 c
    refine Ev.iconst (v := 0) dRe_way_48 (by decide) ?_
    exact Ev.iret dRe_way_49 rfl rfl h
def mRe_until : MR := (⟨"BowingRowModel", "until", "(II)I"⟩, prog_14_method_43_code, 4, (Option.some .int))
theorem oRe_until : MOK mRe_until 2 := ⟨lwg_of 1629 (by decide +kernel) (by decide +kernel), lwg_of 103 (by decide +kernel) (by decide +kernel), ⟨by decide +kernel, by decide +kernel⟩, by decide +kernel, by decide⟩
theorem iRe_until : Cond.instanceMethod mRe_until.1 ∈ lwg := lwg_of 1627 (by decide +kernel) (by decide +kernel)
theorem sRe_until : Cond.selects mRe_until.1.cls mRe_until.1 mRe_until.1 ∈ lwg := lwg_of 1628 (by decide +kernel) (by decide +kernel)
theorem dRe_until_0 : decode mRe_until.2.1 0 = .ok (.aload_n 0, 1) := by decide +kernel
theorem dRe_until_1 : decode mRe_until.2.1 1 = .ok (.iconst 0, 1) := by decide +kernel
theorem dRe_until_2 : decode mRe_until.2.1 2 = .ok (.putfield 115, 3) := by decide +kernel
theorem dRe_until_5 : decode mRe_until.2.1 5 = .ok (.aload_n 0, 1) := by decide +kernel
theorem dRe_until_6 : decode mRe_until.2.1 6 = .ok (.aload_n 0, 1) := by decide +kernel
theorem dRe_until_7 : decode mRe_until.2.1 7 = .ok (.iload_n 1, 1) := by decide +kernel
theorem dRe_until_8 : decode mRe_until.2.1 8 = .ok (.invokevirtual 285, 3) := by decide +kernel
theorem dRe_until_11 : decode mRe_until.2.1 11 = .ok (.ifCond .ne 7, 3) := by decide +kernel
theorem dRe_until_14 : decode mRe_until.2.1 14 = .ok (.iconst 1, 1) := by decide +kernel
theorem dRe_until_15 : decode mRe_until.2.1 15 = .ok (.goto 4, 3) := by decide +kernel
theorem dRe_until_18 : decode mRe_until.2.1 18 = .ok (.iconst 0, 1) := by decide +kernel
theorem dRe_until_19 : decode mRe_until.2.1 19 = .ok (.iconst 1, 1) := by decide +kernel
theorem dRe_until_20 : decode mRe_until.2.1 20 = .ok (.invokevirtual 196, 3) := by decide +kernel
theorem dRe_until_23 : decode mRe_until.2.1 23 = .ok (.ifCond .ne 26, 3) := by decide +kernel
theorem dRe_until_26 : decode mRe_until.2.1 26 = .ok (.aload_n 0, 1) := by decide +kernel
theorem dRe_until_27 : decode mRe_until.2.1 27 = .ok (.iload_n 2, 1) := by decide +kernel
theorem dRe_until_28 : decode mRe_until.2.1 28 = .ok (.iconst 0, 1) := by decide +kernel
theorem dRe_until_29 : decode mRe_until.2.1 29 = .ok (.bipush 99, 2) := by decide +kernel
theorem dRe_until_31 : decode mRe_until.2.1 31 = .ok (.invokestatic 149, 3) := by decide +kernel
theorem dRe_until_34 : decode mRe_until.2.1 34 = .ok (.ifCond .ne 7, 3) := by decide +kernel
theorem dRe_until_37 : decode mRe_until.2.1 37 = .ok (.iconst 1, 1) := by decide +kernel
theorem dRe_until_38 : decode mRe_until.2.1 38 = .ok (.goto 4, 3) := by decide +kernel
theorem dRe_until_41 : decode mRe_until.2.1 41 = .ok (.iconst 0, 1) := by decide +kernel
theorem dRe_until_42 : decode mRe_until.2.1 42 = .ok (.iconst 2, 1) := by decide +kernel
theorem dRe_until_43 : decode mRe_until.2.1 43 = .ok (.invokevirtual 196, 3) := by decide +kernel
theorem dRe_until_46 : decode mRe_until.2.1 46 = .ok (.ifCond .eq 5, 3) := by decide +kernel
theorem dRe_until_49 : decode mRe_until.2.1 49 = .ok (.iconst 0, 1) := by decide +kernel
theorem dRe_until_50 : decode mRe_until.2.1 50 = .ok (.ireturn, 1) := by decide +kernel
theorem dRe_until_51 : decode mRe_until.2.1 51 = .ok (.aload_n 0, 1) := by decide +kernel
theorem dRe_until_52 : decode mRe_until.2.1 52 = .ok (.getfield 22, 3) := by decide +kernel
theorem dRe_until_55 : decode mRe_until.2.1 55 = .ok (.iload_n 1, 1) := by decide +kernel
theorem dRe_until_56 : decode mRe_until.2.1 56 = .ok (.aaload, 1) := by decide +kernel
theorem dRe_until_57 : decode mRe_until.2.1 57 = .ok (.bipush 6, 2) := by decide +kernel
theorem dRe_until_59 : decode mRe_until.2.1 59 = .ok (.iaload, 1) := by decide +kernel
theorem dRe_until_60 : decode mRe_until.2.1 60 = .ok (.istore_n 3, 1) := by decide +kernel
theorem dRe_until_61 : decode mRe_until.2.1 61 = .ok (.aload_n 0, 1) := by decide +kernel
theorem dRe_until_62 : decode mRe_until.2.1 62 = .ok (.getfield 22, 3) := by decide +kernel
theorem dRe_until_65 : decode mRe_until.2.1 65 = .ok (.iload_n 1, 1) := by decide +kernel
theorem dRe_until_66 : decode mRe_until.2.1 66 = .ok (.aaload, 1) := by decide +kernel
theorem dRe_until_67 : decode mRe_until.2.1 67 = .ok (.bipush 6, 2) := by decide +kernel
theorem dRe_until_69 : decode mRe_until.2.1 69 = .ok (.iload_n 2, 1) := by decide +kernel
theorem dRe_until_70 : decode mRe_until.2.1 70 = .ok (.iastore, 1) := by decide +kernel
theorem dRe_until_71 : decode mRe_until.2.1 71 = .ok (.iload_n 3, 1) := by decide +kernel
theorem dRe_until_72 : decode mRe_until.2.1 72 = .ok (.ireturn, 1) := by decide +kernel
theorem bRe_until_0 {l : Launch} {G : Gx} {d : Nat} {bc bs : Nat} {Φ : OutV → Mm → Prop} (M : Mm) (a0 : Nat) (x1 : Int32) (x2 : Int32)
    (h : ((m_sh M a0).1 = 11) ∧ CallVC l G d mRe_until 11 [.ref a0, .int x1, .int x2, .null] [.ref a0] mRe_isPerson [.ref a0, .int x1] (m_si M a0 0 0) bc bs Φ) :
    Ev l G d mRe_until 0 [.ref a0, .int x1, .int x2, .null] [] M bc bs Φ := by
  refine Ev.aload_n dRe_until_0 rfl ?_
  refine Ev.iconst (v := 0) dRe_until_1 (by decide) ?_
  have g1 := h.1
  replace h := h.2
  refine Ev.putI dRe_until_2 ⟨_, Or.inl ⟨fRe_115, (fun h => by cases h)⟩⟩ rfl ⟨rfl, rfl⟩ g1 ?_
  refine Ev.aload_n dRe_until_5 rfl ?_
  refine Ev.aload_n dRe_until_6 rfl ?_
  refine Ev.iload_n dRe_until_7 rfl ?_
  exact Ev.vcV (z := mRe_isPerson) (ci := 11) [.int x1] [.ref a0] rfl dRe_until_8 oRe_isPerson rfl w1618 iRe_isPerson sRe_isPerson (by decide) rfl g1 (Nat.le_of_ble_eq_true rfl) h
theorem bRe_until_11 {l : Launch} {G : Gx} {d : Nat} {bc bs : Nat} {Φ : OutV → Mm → Prop} (M : Mm) (a0 : Nat) (x1 : Int32) (x2 : Int32) (u3 : Value) (r0 : Nat) (s1 : Int32)
    (h : (¬ s1 = 0 → ((m_sh M r0).1 = 11) ∧ CallVC l G d mRe_until 23 [.ref a0, .int x1, .int x2, u3] [] mRe_bad [.ref r0, .int 0, .int 1] M bc bs Φ) ∧ (s1 = 0 → ((m_sh M r0).1 = 11) ∧ CallVC l G d mRe_until 23 [.ref a0, .int x1, .int x2, u3] [] mRe_bad [.ref r0, .int 1, .int 1] M bc bs Φ)) :
    Ev l G d mRe_until 11 [.ref a0, .int x1, .int x2, u3] [.int s1, .ref r0] M bc bs Φ := by
  refine Ev.if_ne 18 (by decide) dRe_until_11 (fun c => ?_) (fun c => ?_)
  · replace h := h.1 c
    refine Ev.iconst (v := 0) dRe_until_18 (by decide) ?_
    refine Ev.iconst (v := 1) dRe_until_19 (by decide) ?_
    have g1 := h.1
    replace h := h.2
    exact Ev.vcV (z := mRe_bad) (ci := 11) [.int 0, .int 1] [] rfl dRe_until_20 oRe_bad rfl w1479 iRe_bad sRe_bad (by decide) rfl g1 (Nat.le_of_ble_eq_true rfl) h
  · replace h := h.2 c
    refine Ev.iconst (v := 1) dRe_until_14 (by decide) ?_
    refine Ev.goto 19 dRe_until_15 (by decide) ?_
    refine Ev.iconst (v := 1) dRe_until_19 (by decide) ?_
    have g2 := h.1
    replace h := h.2
    exact Ev.vcV (z := mRe_bad) (ci := 11) [.int 1, .int 1] [] rfl dRe_until_20 oRe_bad rfl w1479 iRe_bad sRe_bad (by decide) rfl g2 (Nat.le_of_ble_eq_true rfl) h
theorem bRe_until_23 {l : Launch} {G : Gx} {d : Nat} {bc bs : Nat} {Φ : OutV → Mm → Prop} (M : Mm) (a0 : Nat) (x1 : Int32) (x2 : Int32) (u3 : Value) (s0 : Int32)
    (h : (¬ s0 = 0 → Φ (.inl (some (.int 0))) M) ∧ (s0 = 0 → CallVC l G d mRe_until 34 [.ref a0, .int x1, .int x2, u3] [.ref a0] mRe_in [.int x2, .int 0, .int 99] M bc bs Φ)) :
    Ev l G d mRe_until 23 [.ref a0, .int x1, .int x2, u3] [.int s0] M bc bs Φ := by
  refine Ev.if_ne 49 (by decide) dRe_until_23 (fun c => ?_) (fun c => ?_)
  · replace h := h.1 c
    refine Ev.iconst (v := 0) dRe_until_49 (by decide) ?_
    exact Ev.iret dRe_until_50 rfl rfl h
  · replace h := h.2 c
    refine Ev.aload_n dRe_until_26 rfl ?_
    refine Ev.iload_n dRe_until_27 rfl ?_
    refine Ev.iconst (v := 0) dRe_until_28 (by decide) ?_
    refine Ev.bipush (v := 99) dRe_until_29 (by decide) ?_
    exact Ev.vcS (z := mRe_in) [.int x2, .int 0, .int 99] [.ref a0] rfl dRe_until_31 oRe_in rfl w1476 iRe_in (Nat.le_of_ble_eq_true rfl) h
theorem bRe_until_34 {l : Launch} {G : Gx} {d : Nat} {bc bs : Nat} {Φ : OutV → Mm → Prop} (M : Mm) (a0 : Nat) (x1 : Int32) (x2 : Int32) (u3 : Value) (r0 : Nat) (s1 : Int32)
    (h : (¬ s1 = 0 → ((m_sh M r0).1 = 11) ∧ CallVC l G d mRe_until 46 [.ref a0, .int x1, .int x2, u3] [] mRe_bad [.ref r0, .int 0, .int 2] M bc bs Φ) ∧ (s1 = 0 → ((m_sh M r0).1 = 11) ∧ CallVC l G d mRe_until 46 [.ref a0, .int x1, .int x2, u3] [] mRe_bad [.ref r0, .int 1, .int 2] M bc bs Φ)) :
    Ev l G d mRe_until 34 [.ref a0, .int x1, .int x2, u3] [.int s1, .ref r0] M bc bs Φ := by
  refine Ev.if_ne 41 (by decide) dRe_until_34 (fun c => ?_) (fun c => ?_)
  · replace h := h.1 c
    refine Ev.iconst (v := 0) dRe_until_41 (by decide) ?_
    refine Ev.iconst (v := 2) dRe_until_42 (by decide) ?_
    have g1 := h.1
    replace h := h.2
    exact Ev.vcV (z := mRe_bad) (ci := 11) [.int 0, .int 2] [] rfl dRe_until_43 oRe_bad rfl w1479 iRe_bad sRe_bad (by decide) rfl g1 (Nat.le_of_ble_eq_true rfl) h
  · replace h := h.2 c
    refine Ev.iconst (v := 1) dRe_until_37 (by decide) ?_
    refine Ev.goto 42 dRe_until_38 (by decide) ?_
    refine Ev.iconst (v := 2) dRe_until_42 (by decide) ?_
    have g2 := h.1
    replace h := h.2
    exact Ev.vcV (z := mRe_bad) (ci := 11) [.int 1, .int 2] [] rfl dRe_until_43 oRe_bad rfl w1479 iRe_bad sRe_bad (by decide) rfl g2 (Nat.le_of_ble_eq_true rfl) h
theorem bRe_until_46 {l : Launch} {G : Gx} {d : Nat} {bc bs : Nat} {Φ : OutV → Mm → Prop} (M : Mm) (a0 : Nat) (x1 : Int32) (x2 : Int32) (u3 : Value) (s0 : Int32)
    (h : (s0 = 0 → ((m_sh M a0).1 = 11) ∧ ((m_sh M (m_r M a0 13)).1 = 33) ∧ (vp_in x1 (m_sh M (m_r M a0 13)).2) ∧ ((m_sh M (m_r M (m_r M a0 13) x1.toNatClampNeg)).1 = 20) ∧ (vp_in 6 (m_sh M (m_r M (m_r M a0 13) x1.toNatClampNeg)).2) ∧ Φ (.inl (some (.int (m_i M (m_r M (m_r M a0 13) x1.toNatClampNeg) (6 : Int32).toNatClampNeg)))) (m_si M (m_r M (m_r M a0 13) x1.toNatClampNeg) (6 : Int32).toNatClampNeg x2)) ∧ (¬ s0 = 0 → Φ (.inl (some (.int 0))) M)) :
    Ev l G d mRe_until 46 [.ref a0, .int x1, .int x2, u3] [.int s0] M bc bs Φ := by
  refine Ev.if_eq 51 (by decide) dRe_until_46 (fun c => ?_) (fun c => ?_)
  · replace h := h.1 c
    refine Ev.aload_n dRe_until_51 rfl ?_
    have g1 := h.1
    replace h := h.2
    refine Ev.getR dRe_until_52 (Or.inl fRe_22) rfl g1 ?_
    refine Ev.iload_n dRe_until_55 rfl ?_
    have g2 := h.1
    replace h := h.2
    have g3 := h.1
    replace h := h.2
    refine Ev.aald2 33 (by decide) dRe_until_56 g2 g3 ?_
    refine Ev.bipush (v := 6) dRe_until_57 (by decide) ?_
    have g4 := h.1
    replace h := h.2
    have g5 := h.1
    replace h := h.2
    refine Ev.iald2 dRe_until_59 g4 g5 ?_
    refine Ev.istore_n dRe_until_60 (by decide) ?_
    show Ev l G d mRe_until (_ + _) [.ref a0, .int x1, .int x2, .int (m_i M (m_r M (m_r M a0 13) x1.toNatClampNeg) (6 : Int32).toNatClampNeg)] [] M bc bs Φ
    refine Ev.aload_n dRe_until_61 rfl ?_
    refine Ev.getR dRe_until_62 (Or.inl fRe_22) rfl g1 ?_
    refine Ev.iload_n dRe_until_65 rfl ?_
    refine Ev.aald2 33 (by decide) dRe_until_66 g2 g3 ?_
    refine Ev.bipush (v := 6) dRe_until_67 (by decide) ?_
    refine Ev.iload_n dRe_until_69 rfl ?_
    refine Ev.iast2 dRe_until_70 g4 g5 ?_
    refine Ev.iload_n dRe_until_71 rfl ?_
    exact Ev.iret dRe_until_72 rfl rfl h
  · replace h := h.2 c
    refine Ev.iconst (v := 0) dRe_until_49 (by decide) ?_
    exact Ev.iret dRe_until_50 rfl rfl h
def mRe_must : MR := (⟨"BowingRowModel", "must", "(III)Z"⟩, prog_14_method_47_code, 4, (Option.some .boolean))
theorem oRe_must : MOK mRe_must 3 := ⟨lwg_of 1633 (by decide +kernel) (by decide +kernel), lwg_of 103 (by decide +kernel) (by decide +kernel), ⟨by decide +kernel, by decide +kernel⟩, by decide +kernel, by decide⟩
theorem iRe_must : Cond.instanceMethod mRe_must.1 ∈ lwg := lwg_of 1631 (by decide +kernel) (by decide +kernel)
theorem sRe_must : Cond.selects mRe_must.1.cls mRe_must.1 mRe_must.1 ∈ lwg := lwg_of 1632 (by decide +kernel) (by decide +kernel)
theorem dRe_must_0 : decode mRe_must.2.1 0 = .ok (.aload_n 0, 1) := by decide +kernel
theorem dRe_must_1 : decode mRe_must.2.1 1 = .ok (.iconst 0, 1) := by decide +kernel
theorem dRe_must_2 : decode mRe_must.2.1 2 = .ok (.putfield 115, 3) := by decide +kernel
theorem dRe_must_5 : decode mRe_must.2.1 5 = .ok (.aload_n 0, 1) := by decide +kernel
theorem dRe_must_6 : decode mRe_must.2.1 6 = .ok (.aload_n 0, 1) := by decide +kernel
theorem dRe_must_7 : decode mRe_must.2.1 7 = .ok (.iload_n 1, 1) := by decide +kernel
theorem dRe_must_8 : decode mRe_must.2.1 8 = .ok (.invokevirtual 285, 3) := by decide +kernel
theorem dRe_must_11 : decode mRe_must.2.1 11 = .ok (.ifCond .eq 11, 3) := by decide +kernel
theorem dRe_must_14 : decode mRe_must.2.1 14 = .ok (.aload_n 0, 1) := by decide +kernel
theorem dRe_must_15 : decode mRe_must.2.1 15 = .ok (.iload_n 2, 1) := by decide +kernel
theorem dRe_must_16 : decode mRe_must.2.1 16 = .ok (.invokevirtual 285, 3) := by decide +kernel
theorem dRe_must_19 : decode mRe_must.2.1 19 = .ok (.ifCond .ne 7, 3) := by decide +kernel
theorem dRe_must_22 : decode mRe_must.2.1 22 = .ok (.iconst 1, 1) := by decide +kernel
theorem dRe_must_23 : decode mRe_must.2.1 23 = .ok (.goto 4, 3) := by decide +kernel
theorem dRe_must_26 : decode mRe_must.2.1 26 = .ok (.iconst 0, 1) := by decide +kernel
theorem dRe_must_27 : decode mRe_must.2.1 27 = .ok (.iconst 1, 1) := by decide +kernel
theorem dRe_must_28 : decode mRe_must.2.1 28 = .ok (.invokevirtual 196, 3) := by decide +kernel
theorem dRe_must_31 : decode mRe_must.2.1 31 = .ok (.ifCond .ne 31, 3) := by decide +kernel
theorem dRe_must_34 : decode mRe_must.2.1 34 = .ok (.aload_n 0, 1) := by decide +kernel
theorem dRe_must_35 : decode mRe_must.2.1 35 = .ok (.iload_n 1, 1) := by decide +kernel
theorem dRe_must_36 : decode mRe_must.2.1 36 = .ok (.iload_n 2, 1) := by decide +kernel
theorem dRe_must_37 : decode mRe_must.2.1 37 = .ok (.if_icmp .eq 13, 3) := by decide +kernel
theorem dRe_must_40 : decode mRe_must.2.1 40 = .ok (.iload_n 3, 1) := by decide +kernel
theorem dRe_must_41 : decode mRe_must.2.1 41 = .ok (.iconst 0, 1) := by decide +kernel
theorem dRe_must_42 : decode mRe_must.2.1 42 = .ok (.bipush 16, 2) := by decide +kernel
theorem dRe_must_44 : decode mRe_must.2.1 44 = .ok (.invokestatic 149, 3) := by decide +kernel
theorem dRe_must_47 : decode mRe_must.2.1 47 = .ok (.ifCond .ne 7, 3) := by decide +kernel
theorem dRe_must_50 : decode mRe_must.2.1 50 = .ok (.iconst 1, 1) := by decide +kernel
theorem dRe_must_51 : decode mRe_must.2.1 51 = .ok (.goto 4, 3) := by decide +kernel
theorem dRe_must_54 : decode mRe_must.2.1 54 = .ok (.iconst 0, 1) := by decide +kernel
theorem dRe_must_55 : decode mRe_must.2.1 55 = .ok (.iconst 2, 1) := by decide +kernel
theorem dRe_must_56 : decode mRe_must.2.1 56 = .ok (.invokevirtual 196, 3) := by decide +kernel
theorem dRe_must_59 : decode mRe_must.2.1 59 = .ok (.ifCond .eq 5, 3) := by decide +kernel
theorem dRe_must_62 : decode mRe_must.2.1 62 = .ok (.iconst 0, 1) := by decide +kernel
theorem dRe_must_63 : decode mRe_must.2.1 63 = .ok (.ireturn, 1) := by decide +kernel
theorem dRe_must_64 : decode mRe_must.2.1 64 = .ok (.aload_n 0, 1) := by decide +kernel
theorem dRe_must_65 : decode mRe_must.2.1 65 = .ok (.invokevirtual 278, 3) := by decide +kernel
theorem dRe_must_68 : decode mRe_must.2.1 68 = .ok (.aload_n 0, 1) := by decide +kernel
theorem dRe_must_69 : decode mRe_must.2.1 69 = .ok (.iload_n 1, 1) := by decide +kernel
theorem dRe_must_70 : decode mRe_must.2.1 70 = .ok (.iload_n 2, 1) := by decide +kernel
theorem dRe_must_71 : decode mRe_must.2.1 71 = .ok (.iload_n 3, 1) := by decide +kernel
theorem dRe_must_72 : decode mRe_must.2.1 72 = .ok (.invokevirtual 295, 3) := by decide +kernel
theorem dRe_must_75 : decode mRe_must.2.1 75 = .ok (.ireturn, 1) := by decide +kernel
theorem bRe_must_0 {l : Launch} {G : Gx} {d : Nat} {bc bs : Nat} {Φ : OutV → Mm → Prop} (M : Mm) (a0 : Nat) (x1 : Int32) (x2 : Int32) (x3 : Int32)
    (h : ((m_sh M a0).1 = 11) ∧ CallVC l G d mRe_must 11 [.ref a0, .int x1, .int x2, .int x3] [.ref a0] mRe_isPerson [.ref a0, .int x1] (m_si M a0 0 0) bc bs Φ) :
    Ev l G d mRe_must 0 [.ref a0, .int x1, .int x2, .int x3] [] M bc bs Φ := by
  refine Ev.aload_n dRe_must_0 rfl ?_
  refine Ev.iconst (v := 0) dRe_must_1 (by decide) ?_
  have g1 := h.1
  replace h := h.2
  refine Ev.putI dRe_must_2 ⟨_, Or.inl ⟨fRe_115, (fun h => by cases h)⟩⟩ rfl ⟨rfl, rfl⟩ g1 ?_
  refine Ev.aload_n dRe_must_5 rfl ?_
  refine Ev.aload_n dRe_must_6 rfl ?_
  refine Ev.iload_n dRe_must_7 rfl ?_
  exact Ev.vcV (z := mRe_isPerson) (ci := 11) [.int x1] [.ref a0] rfl dRe_must_8 oRe_isPerson rfl w1618 iRe_isPerson sRe_isPerson (by decide) rfl g1 (Nat.le_of_ble_eq_true rfl) h
theorem bRe_must_11 {l : Launch} {G : Gx} {d : Nat} {bc bs : Nat} {Φ : OutV → Mm → Prop} (M : Mm) (a0 : Nat) (x1 : Int32) (x2 : Int32) (x3 : Int32) (r0 : Nat) (s1 : Int32)
    (h : (s1 = 0 → ((m_sh M r0).1 = 11) ∧ CallVC l G d mRe_must 31 [.ref a0, .int x1, .int x2, .int x3] [] mRe_bad [.ref r0, .int 1, .int 1] M bc bs Φ) ∧ (¬ s1 = 0 → ((m_sh M a0).1 = 11) ∧ CallVC l G d mRe_must 19 [.ref a0, .int x1, .int x2, .int x3] [.ref r0] mRe_isPerson [.ref a0, .int x2] M bc bs Φ)) :
    Ev l G d mRe_must 11 [.ref a0, .int x1, .int x2, .int x3] [.int s1, .ref r0] M bc bs Φ := by
  refine Ev.if_eq 22 (by decide) dRe_must_11 (fun c => ?_) (fun c => ?_)
  · replace h := h.1 c
    refine Ev.iconst (v := 1) dRe_must_22 (by decide) ?_
    refine Ev.goto 27 dRe_must_23 (by decide) ?_
    refine Ev.iconst (v := 1) dRe_must_27 (by decide) ?_
    have g1 := h.1
    replace h := h.2
    exact Ev.vcV (z := mRe_bad) (ci := 11) [.int 1, .int 1] [] rfl dRe_must_28 oRe_bad rfl w1479 iRe_bad sRe_bad (by decide) rfl g1 (Nat.le_of_ble_eq_true rfl) h
  · replace h := h.2 c
    refine Ev.aload_n dRe_must_14 rfl ?_
    refine Ev.iload_n dRe_must_15 rfl ?_
    have g2 := h.1
    replace h := h.2
    exact Ev.vcV (z := mRe_isPerson) (ci := 11) [.int x2] [.ref r0] rfl dRe_must_16 oRe_isPerson rfl w1618 iRe_isPerson sRe_isPerson (by decide) rfl g2 (Nat.le_of_ble_eq_true rfl) h
theorem bRe_must_19 {l : Launch} {G : Gx} {d : Nat} {bc bs : Nat} {Φ : OutV → Mm → Prop} (M : Mm) (a0 : Nat) (x1 : Int32) (x2 : Int32) (x3 : Int32) (r0 : Nat) (s1 : Int32)
    (h : (¬ s1 = 0 → ((m_sh M r0).1 = 11) ∧ CallVC l G d mRe_must 31 [.ref a0, .int x1, .int x2, .int x3] [] mRe_bad [.ref r0, .int 0, .int 1] M bc bs Φ) ∧ (s1 = 0 → ((m_sh M r0).1 = 11) ∧ CallVC l G d mRe_must 31 [.ref a0, .int x1, .int x2, .int x3] [] mRe_bad [.ref r0, .int 1, .int 1] M bc bs Φ)) :
    Ev l G d mRe_must 19 [.ref a0, .int x1, .int x2, .int x3] [.int s1, .ref r0] M bc bs Φ := by
  refine Ev.if_ne 26 (by decide) dRe_must_19 (fun c => ?_) (fun c => ?_)
  · replace h := h.1 c
    refine Ev.iconst (v := 0) dRe_must_26 (by decide) ?_
    refine Ev.iconst (v := 1) dRe_must_27 (by decide) ?_
    have g1 := h.1
    replace h := h.2
    exact Ev.vcV (z := mRe_bad) (ci := 11) [.int 0, .int 1] [] rfl dRe_must_28 oRe_bad rfl w1479 iRe_bad sRe_bad (by decide) rfl g1 (Nat.le_of_ble_eq_true rfl) h
  · replace h := h.2 c
    refine Ev.iconst (v := 1) dRe_must_22 (by decide) ?_
    refine Ev.goto 27 dRe_must_23 (by decide) ?_
    refine Ev.iconst (v := 1) dRe_must_27 (by decide) ?_
    have g2 := h.1
    replace h := h.2
    exact Ev.vcV (z := mRe_bad) (ci := 11) [.int 1, .int 1] [] rfl dRe_must_28 oRe_bad rfl w1479 iRe_bad sRe_bad (by decide) rfl g2 (Nat.le_of_ble_eq_true rfl) h
theorem bRe_must_31 {l : Launch} {G : Gx} {d : Nat} {bc bs : Nat} {Φ : OutV → Mm → Prop} (M : Mm) (a0 : Nat) (x1 : Int32) (x2 : Int32) (x3 : Int32) (s0 : Int32)
    (h : (¬ s0 = 0 → Φ (.inl (some (.int 0))) M) ∧ (s0 = 0 → (x1 = x2 → ((m_sh M a0).1 = 11) ∧ CallVC l G d mRe_must 59 [.ref a0, .int x1, .int x2, .int x3] [] mRe_bad [.ref a0, .int 1, .int 2] M bc bs Φ) ∧ (¬ x1 = x2 → CallVC l G d mRe_must 47 [.ref a0, .int x1, .int x2, .int x3] [.ref a0] mRe_in [.int x3, .int 0, .int 16] M bc bs Φ))) :
    Ev l G d mRe_must 31 [.ref a0, .int x1, .int x2, .int x3] [.int s0] M bc bs Φ := by
  refine Ev.if_ne 62 (by decide) dRe_must_31 (fun c => ?_) (fun c => ?_)
  · replace h := h.1 c
    refine Ev.iconst (v := 0) dRe_must_62 (by decide) ?_
    exact Ev.iret dRe_must_63 rfl rfl h
  · replace h := h.2 c
    refine Ev.aload_n dRe_must_34 rfl ?_
    refine Ev.iload_n dRe_must_35 rfl ?_
    refine Ev.iload_n dRe_must_36 rfl ?_
    refine Ev.icmp_eq 50 (by decide) dRe_must_37 (fun c => ?_) (fun c => ?_)
    · replace h := h.1 c
      refine Ev.iconst (v := 1) dRe_must_50 (by decide) ?_
      refine Ev.goto 55 dRe_must_51 (by decide) ?_
      refine Ev.iconst (v := 2) dRe_must_55 (by decide) ?_
      have g1 := h.1
      replace h := h.2
      exact Ev.vcV (z := mRe_bad) (ci := 11) [.int 1, .int 2] [] rfl dRe_must_56 oRe_bad rfl w1479 iRe_bad sRe_bad (by decide) rfl g1 (Nat.le_of_ble_eq_true rfl) h
    · replace h := h.2 c
      refine Ev.iload_n dRe_must_40 rfl ?_
      refine Ev.iconst (v := 0) dRe_must_41 (by decide) ?_
      refine Ev.bipush (v := 16) dRe_must_42 (by decide) ?_
      exact Ev.vcS (z := mRe_in) [.int x3, .int 0, .int 16] [.ref a0] rfl dRe_must_44 oRe_in rfl w1476 iRe_in (Nat.le_of_ble_eq_true rfl) h
theorem bRe_must_47 {l : Launch} {G : Gx} {d : Nat} {bc bs : Nat} {Φ : OutV → Mm → Prop} (M : Mm) (a0 : Nat) (x1 : Int32) (x2 : Int32) (x3 : Int32) (r0 : Nat) (s1 : Int32)
    (h : (¬ s1 = 0 → ((m_sh M r0).1 = 11) ∧ CallVC l G d mRe_must 59 [.ref a0, .int x1, .int x2, .int x3] [] mRe_bad [.ref r0, .int 0, .int 2] M bc bs Φ) ∧ (s1 = 0 → ((m_sh M r0).1 = 11) ∧ CallVC l G d mRe_must 59 [.ref a0, .int x1, .int x2, .int x3] [] mRe_bad [.ref r0, .int 1, .int 2] M bc bs Φ)) :
    Ev l G d mRe_must 47 [.ref a0, .int x1, .int x2, .int x3] [.int s1, .ref r0] M bc bs Φ := by
  refine Ev.if_ne 54 (by decide) dRe_must_47 (fun c => ?_) (fun c => ?_)
  · replace h := h.1 c
    refine Ev.iconst (v := 0) dRe_must_54 (by decide) ?_
    refine Ev.iconst (v := 2) dRe_must_55 (by decide) ?_
    have g1 := h.1
    replace h := h.2
    exact Ev.vcV (z := mRe_bad) (ci := 11) [.int 0, .int 2] [] rfl dRe_must_56 oRe_bad rfl w1479 iRe_bad sRe_bad (by decide) rfl g1 (Nat.le_of_ble_eq_true rfl) h
  · replace h := h.2 c
    refine Ev.iconst (v := 1) dRe_must_50 (by decide) ?_
    refine Ev.goto 55 dRe_must_51 (by decide) ?_
    refine Ev.iconst (v := 2) dRe_must_55 (by decide) ?_
    have g2 := h.1
    replace h := h.2
    exact Ev.vcV (z := mRe_bad) (ci := 11) [.int 1, .int 2] [] rfl dRe_must_56 oRe_bad rfl w1479 iRe_bad sRe_bad (by decide) rfl g2 (Nat.le_of_ble_eq_true rfl) h
theorem bRe_must_59 {l : Launch} {G : Gx} {d : Nat} {bc bs : Nat} {Φ : OutV → Mm → Prop} (M : Mm) (a0 : Nat) (x1 : Int32) (x2 : Int32) (x3 : Int32) (s0 : Int32)
    (h : (s0 = 0 → ((m_sh M a0).1 = 11) ∧ CallVC l G d mRe_must 68 [.ref a0, .int x1, .int x2, .int x3] [] mRe_layRules [.ref a0] M bc bs Φ) ∧ (¬ s0 = 0 → Φ (.inl (some (.int 0))) M)) :
    Ev l G d mRe_must 59 [.ref a0, .int x1, .int x2, .int x3] [.int s0] M bc bs Φ := by
  refine Ev.if_eq 64 (by decide) dRe_must_59 (fun c => ?_) (fun c => ?_)
  · replace h := h.1 c
    refine Ev.aload_n dRe_must_64 rfl ?_
    have g1 := h.1
    replace h := h.2
    exact Ev.vcV (z := mRe_layRules) (ci := 11) [] [] rfl dRe_must_65 oRe_layRules rfl w1606 iRe_layRules sRe_layRules (by decide) rfl g1 (Nat.le_of_ble_eq_true rfl) h
  · replace h := h.2 c
    refine Ev.iconst (v := 0) dRe_must_62 (by decide) ?_
    exact Ev.iret dRe_must_63 rfl rfl h
def mRe_mustBe : MR := (⟨"BowingRowModel", "mustBe", "(III)Z"⟩, prog_14_method_45_code, 4, (Option.some .boolean))
theorem oRe_mustBe : MOK mRe_mustBe 3 := ⟨lwg_of 1637 (by decide +kernel) (by decide +kernel), lwg_of 103 (by decide +kernel) (by decide +kernel), ⟨by decide +kernel, by decide +kernel⟩, by decide +kernel, by decide⟩
theorem iRe_mustBe : Cond.instanceMethod mRe_mustBe.1 ∈ lwg := lwg_of 1636 (by decide +kernel) (by decide +kernel)
theorem sRe_mustBe : Cond.selects mRe_mustBe.1.cls mRe_mustBe.1 mRe_mustBe.1 ∈ lwg := lwg_of 66 (by decide +kernel) (by decide +kernel)
theorem w1634 : Cond.methodLink "BowingRowModel" 295 ⟨"BowingRowModel", "mustBe", "(III)Z"⟩ ∈ lwg := lwg_of 1634 (by decide +kernel) (by decide +kernel)
theorem bRe_must_68 {l : Launch} {G : Gx} {d : Nat} {bc bs : Nat} {Φ : OutV → Mm → Prop} (M : Mm) (a0 : Nat) (x1 : Int32) (x2 : Int32) (x3 : Int32)
    (h : ((m_sh M a0).1 = 11) ∧ CallVC l G d mRe_must 75 [.ref a0, .int x1, .int x2, .int x3] [] mRe_mustBe [.ref a0, .int x1, .int x2, .int x3] M bc bs Φ) :
    Ev l G d mRe_must 68 [.ref a0, .int x1, .int x2, .int x3] [] M bc bs Φ := by
  refine Ev.aload_n dRe_must_68 rfl ?_
  refine Ev.iload_n dRe_must_69 rfl ?_
  refine Ev.iload_n dRe_must_70 rfl ?_
  refine Ev.iload_n dRe_must_71 rfl ?_
  have g1 := h.1
  replace h := h.2
  exact Ev.vcV (z := mRe_mustBe) (ci := 11) [.int x1, .int x2, .int x3] [] rfl dRe_must_72 oRe_mustBe rfl w1634 iRe_mustBe sRe_mustBe (by decide) rfl g1 (Nat.le_of_ble_eq_true rfl) h
theorem bRe_must_75 {l : Launch} {G : Gx} {d : Nat} {bc bs : Nat} {Φ : OutV → Mm → Prop} (M : Mm) (a0 : Nat) (x1 : Int32) (x2 : Int32) (x3 : Int32) (s0 : Int32)
    (h : (narrow .boolean (.int s0) = .int s0) ∧ Φ (.inl (some (.int s0))) M) :
    Ev l G d mRe_must 75 [.ref a0, .int x1, .int x2, .int x3] [.int s0] M bc bs Φ := by
  have g1 := h.1
  replace h := h.2
  exact Ev.iret dRe_must_75 rfl g1 h
theorem dRe_mustBe_0 : decode mRe_mustBe.2.1 0 = .ok (.aload_n 0, 1) := by decide +kernel
theorem dRe_mustBe_1 : decode mRe_mustBe.2.1 1 = .ok (.getfield 61, 3) := by decide +kernel
theorem dRe_mustBe_4 : decode mRe_mustBe.2.1 4 = .ok (.bipush 7, 2) := by decide +kernel
theorem dRe_mustBe_6 : decode mRe_mustBe.2.1 6 = .ok (.iaload, 1) := by decide +kernel
theorem dRe_mustBe_7 : decode mRe_mustBe.2.1 7 = .ok (.iconst (-1), 1) := by decide +kernel
theorem dRe_mustBe_8 : decode mRe_mustBe.2.1 8 = .ok (.if_icmp .ne 5, 3) := by decide +kernel
theorem dRe_mustBe_11 : decode mRe_mustBe.2.1 11 = .ok (.iconst 0, 1) := by decide +kernel
theorem dRe_mustBe_12 : decode mRe_mustBe.2.1 12 = .ok (.ireturn, 1) := by decide +kernel
theorem dRe_mustBe_13 : decode mRe_mustBe.2.1 13 = .ok (.aload_n 0, 1) := by decide +kernel
theorem dRe_mustBe_14 : decode mRe_mustBe.2.1 14 = .ok (.iload_n 1, 1) := by decide +kernel
theorem dRe_mustBe_15 : decode mRe_mustBe.2.1 15 = .ok (.iload_n 2, 1) := by decide +kernel
theorem dRe_mustBe_16 : decode mRe_mustBe.2.1 16 = .ok (.iload_n 3, 1) := by decide +kernel
theorem dRe_mustBe_17 : decode mRe_mustBe.2.1 17 = .ok (.invokevirtual 288, 3) := by decide +kernel
theorem dRe_mustBe_20 : decode mRe_mustBe.2.1 20 = .ok (.aload_n 0, 1) := by decide +kernel
theorem dRe_mustBe_21 : decode mRe_mustBe.2.1 21 = .ok (.aload_n 0, 1) := by decide +kernel
theorem dRe_mustBe_22 : decode mRe_mustBe.2.1 22 = .ok (.getfield 61, 3) := by decide +kernel
theorem dRe_mustBe_25 : decode mRe_mustBe.2.1 25 = .ok (.bipush 7, 2) := by decide +kernel
theorem dRe_mustBe_27 : decode mRe_mustBe.2.1 27 = .ok (.iaload, 1) := by decide +kernel
theorem dRe_mustBe_28 : decode mRe_mustBe.2.1 28 = .ok (.invokevirtual 292, 3) := by decide +kernel
theorem dRe_mustBe_31 : decode mRe_mustBe.2.1 31 = .ok (.iconst 1, 1) := by decide +kernel
theorem dRe_mustBe_32 : decode mRe_mustBe.2.1 32 = .ok (.if_icmp .ne 7, 3) := by decide +kernel
theorem dRe_mustBe_35 : decode mRe_mustBe.2.1 35 = .ok (.iconst 1, 1) := by decide +kernel
theorem dRe_mustBe_36 : decode mRe_mustBe.2.1 36 = .ok (.goto 4, 3) := by decide +kernel
theorem dRe_mustBe_39 : decode mRe_mustBe.2.1 39 = .ok (.iconst 0, 1) := by decide +kernel
theorem dRe_mustBe_40 : decode mRe_mustBe.2.1 40 = .ok (.ireturn, 1) := by decide +kernel
def mRe_layNames : MR := (⟨"BowingRowModel", "layNames", "(III)V"⟩, prog_14_method_44_code, 5, none)
theorem oRe_layNames : MOK mRe_layNames 3 := ⟨lwg_of 1641 (by decide +kernel) (by decide +kernel), lwg_of 103 (by decide +kernel) (by decide +kernel), ⟨by decide +kernel, by decide +kernel⟩, by decide +kernel, by decide⟩
theorem iRe_layNames : Cond.instanceMethod mRe_layNames.1 ∈ lwg := lwg_of 1640 (by decide +kernel) (by decide +kernel)
theorem sRe_layNames : Cond.selects mRe_layNames.1.cls mRe_layNames.1 mRe_layNames.1 ∈ lwg := lwg_of 67 (by decide +kernel) (by decide +kernel)
theorem w1638 : Cond.methodLink "BowingRowModel" 288 ⟨"BowingRowModel", "layNames", "(III)V"⟩ ∈ lwg := lwg_of 1638 (by decide +kernel) (by decide +kernel)
theorem bRe_mustBe_0 {l : Launch} {G : Gx} {d : Nat} {bc bs : Nat} {Φ : OutV → Mm → Prop} (M : Mm) (a0 : Nat) (x1 : Int32) (x2 : Int32) (x3 : Int32)
    (h : ((m_sh M a0).1 = 11) ∧ ((m_sh M (m_r M a0 31)).1 = 20) ∧ (vp_in 7 (m_sh M (m_r M a0 31)).2) ∧ (¬ (m_i M (m_r M a0 31) (7 : Int32).toNatClampNeg) = ((-1)) → CallVC l G d mRe_mustBe 20 [.ref a0, .int x1, .int x2, .int x3] [] mRe_layNames [.ref a0, .int x1, .int x2, .int x3] M bc bs Φ) ∧ ((m_i M (m_r M a0 31) (7 : Int32).toNatClampNeg) = ((-1)) → Φ (.inl (some (.int 0))) M)) :
    Ev l G d mRe_mustBe 0 [.ref a0, .int x1, .int x2, .int x3] [] M bc bs Φ := by
  refine Ev.aload_n dRe_mustBe_0 rfl ?_
  have g1 := h.1
  replace h := h.2
  refine Ev.getR dRe_mustBe_1 (Or.inl fRe_61) rfl g1 ?_
  refine Ev.bipush (v := 7) dRe_mustBe_4 (by decide) ?_
  have g2 := h.1
  replace h := h.2
  have g3 := h.1
  replace h := h.2
  refine Ev.iald2 dRe_mustBe_6 g2 g3 ?_
  refine Ev.iconst (v := (-1)) dRe_mustBe_7 (by decide) ?_
  refine Ev.icmp_ne 13 (by decide) dRe_mustBe_8 (fun c => ?_) (fun c => ?_)
  · replace h := h.1 c
    refine Ev.aload_n dRe_mustBe_13 rfl ?_
    refine Ev.iload_n dRe_mustBe_14 rfl ?_
    refine Ev.iload_n dRe_mustBe_15 rfl ?_
    refine Ev.iload_n dRe_mustBe_16 rfl ?_
    exact Ev.vcV (z := mRe_layNames) (ci := 11) [.int x1, .int x2, .int x3] [] rfl dRe_mustBe_17 oRe_layNames rfl w1638 iRe_layNames sRe_layNames (by decide) rfl g1 (Nat.le_of_ble_eq_true rfl) h
  · replace h := h.2 c
    refine Ev.iconst (v := 0) dRe_mustBe_11 (by decide) ?_
    exact Ev.iret dRe_mustBe_12 rfl rfl h
def mRe_comes : MR := (⟨"BowingRowModel", "comes", "(I)I"⟩, prog_14_method_35_code, 5, (Option.some .int))
theorem oRe_comes : MOK mRe_comes 1 := ⟨lwg_of 1645 (by decide +kernel) (by decide +kernel), lwg_of 103 (by decide +kernel) (by decide +kernel), ⟨by decide +kernel, by decide +kernel⟩, by decide +kernel, by decide⟩
theorem iRe_comes : Cond.instanceMethod mRe_comes.1 ∈ lwg := lwg_of 1644 (by decide +kernel) (by decide +kernel)
theorem sRe_comes : Cond.selects mRe_comes.1.cls mRe_comes.1 mRe_comes.1 ∈ lwg := lwg_of 68 (by decide +kernel) (by decide +kernel)
theorem w1642 : Cond.methodLink "BowingRowModel" 292 ⟨"BowingRowModel", "comes", "(I)I"⟩ ∈ lwg := lwg_of 1642 (by decide +kernel) (by decide +kernel)
theorem bRe_mustBe_20 {l : Launch} {G : Gx} {d : Nat} {bc bs : Nat} {Φ : OutV → Mm → Prop} (M : Mm) (a0 : Nat) (x1 : Int32) (x2 : Int32) (x3 : Int32)
    (h : ((m_sh M a0).1 = 11) ∧ ((m_sh M (m_r M a0 31)).1 = 20) ∧ (vp_in 7 (m_sh M (m_r M a0 31)).2) ∧ CallVC l G d mRe_mustBe 31 [.ref a0, .int x1, .int x2, .int x3] [] mRe_comes [.ref a0, .int (m_i M (m_r M a0 31) (7 : Int32).toNatClampNeg)] M bc bs Φ) :
    Ev l G d mRe_mustBe 20 [.ref a0, .int x1, .int x2, .int x3] [] M bc bs Φ := by
  refine Ev.aload_n dRe_mustBe_20 rfl ?_
  refine Ev.aload_n dRe_mustBe_21 rfl ?_
  have g1 := h.1
  replace h := h.2
  refine Ev.getR dRe_mustBe_22 (Or.inl fRe_61) rfl g1 ?_
  refine Ev.bipush (v := 7) dRe_mustBe_25 (by decide) ?_
  have g2 := h.1
  replace h := h.2
  have g3 := h.1
  replace h := h.2
  refine Ev.iald2 dRe_mustBe_27 g2 g3 ?_
  exact Ev.vcV (z := mRe_comes) (ci := 11) [.int (m_i M (m_r M a0 31) (7 : Int32).toNatClampNeg)] [] rfl dRe_mustBe_28 oRe_comes rfl w1642 iRe_comes sRe_comes (by decide) rfl g1 (Nat.le_of_ble_eq_true rfl) h
theorem bRe_mustBe_31 {l : Launch} {G : Gx} {d : Nat} {bc bs : Nat} {Φ : OutV → Mm → Prop} (M : Mm) (a0 : Nat) (x1 : Int32) (x2 : Int32) (x3 : Int32) (s0 : Int32)
    (h : (¬ s0 = 1 → Φ (.inl (some (.int 0))) M) ∧ (s0 = 1 → Φ (.inl (some (.int 1))) M)) :
    Ev l G d mRe_mustBe 31 [.ref a0, .int x1, .int x2, .int x3] [.int s0] M bc bs Φ := by
  refine Ev.iconst (v := 1) dRe_mustBe_31 (by decide) ?_
  refine Ev.icmp_ne 39 (by decide) dRe_mustBe_32 (fun c => ?_) (fun c => ?_)
  · replace h := h.1 c
    refine Ev.iconst (v := 0) dRe_mustBe_39 (by decide) ?_
    exact Ev.iret dRe_mustBe_40 rfl rfl h
  · replace h := h.2 c
    refine Ev.iconst (v := 1) dRe_mustBe_35 (by decide) ?_
    refine Ev.goto 40 dRe_mustBe_36 (by decide) ?_
    exact Ev.iret dRe_mustBe_40 rfl rfl h
theorem dRe_layNames_0 : decode mRe_layNames.2.1 0 = .ok (.iconst 0, 1) := by decide +kernel
theorem dRe_layNames_1 : decode mRe_layNames.2.1 1 = .ok (.istore 4, 2) := by decide +kernel
theorem dRe_layNames_3 : decode mRe_layNames.2.1 3 = .ok (.iload 4, 2) := by decide +kernel
theorem dRe_layNames_5 : decode mRe_layNames.2.1 5 = .ok (.iconst 3, 1) := by decide +kernel
theorem dRe_layNames_6 : decode mRe_layNames.2.1 6 = .ok (.if_icmp .ge 47, 3) := by decide +kernel
theorem dRe_layNames_9 : decode mRe_layNames.2.1 9 = .ok (.aload_n 0, 1) := by decide +kernel
theorem dRe_layNames_10 : decode mRe_layNames.2.1 10 = .ok (.getfield 52, 3) := by decide +kernel
theorem dRe_layNames_13 : decode mRe_layNames.2.1 13 = .ok (.iload 4, 2) := by decide +kernel
theorem dRe_layNames_15 : decode mRe_layNames.2.1 15 = .ok (.aload_n 0, 1) := by decide +kernel
theorem dRe_layNames_16 : decode mRe_layNames.2.1 16 = .ok (.getfield 22, 3) := by decide +kernel
theorem dRe_layNames_19 : decode mRe_layNames.2.1 19 = .ok (.iload_n 1, 1) := by decide +kernel
theorem dRe_layNames_20 : decode mRe_layNames.2.1 20 = .ok (.aaload, 1) := by decide +kernel
theorem dRe_layNames_21 : decode mRe_layNames.2.1 21 = .ok (.iload 4, 2) := by decide +kernel
theorem dRe_layNames_23 : decode mRe_layNames.2.1 23 = .ok (.iconst 1, 1) := by decide +kernel
theorem dRe_layNames_24 : decode mRe_layNames.2.1 24 = .ok (.iadd, 1) := by decide +kernel
theorem dRe_layNames_25 : decode mRe_layNames.2.1 25 = .ok (.iaload, 1) := by decide +kernel
theorem dRe_layNames_26 : decode mRe_layNames.2.1 26 = .ok (.iastore, 1) := by decide +kernel
theorem dRe_layNames_27 : decode mRe_layNames.2.1 27 = .ok (.aload_n 0, 1) := by decide +kernel
theorem dRe_layNames_28 : decode mRe_layNames.2.1 28 = .ok (.getfield 52, 3) := by decide +kernel
theorem dRe_layNames_31 : decode mRe_layNames.2.1 31 = .ok (.iload 4, 2) := by decide +kernel
theorem dRe_layNames_33 : decode mRe_layNames.2.1 33 = .ok (.iconst 3, 1) := by decide +kernel
theorem dRe_layNames_34 : decode mRe_layNames.2.1 34 = .ok (.iadd, 1) := by decide +kernel
theorem dRe_layNames_35 : decode mRe_layNames.2.1 35 = .ok (.aload_n 0, 1) := by decide +kernel
theorem dRe_layNames_36 : decode mRe_layNames.2.1 36 = .ok (.getfield 22, 3) := by decide +kernel
theorem dRe_layNames_39 : decode mRe_layNames.2.1 39 = .ok (.iload_n 2, 1) := by decide +kernel
theorem dRe_layNames_40 : decode mRe_layNames.2.1 40 = .ok (.aaload, 1) := by decide +kernel
theorem dRe_layNames_41 : decode mRe_layNames.2.1 41 = .ok (.iload 4, 2) := by decide +kernel
theorem dRe_layNames_43 : decode mRe_layNames.2.1 43 = .ok (.iconst 1, 1) := by decide +kernel
theorem dRe_layNames_44 : decode mRe_layNames.2.1 44 = .ok (.iadd, 1) := by decide +kernel
theorem dRe_layNames_45 : decode mRe_layNames.2.1 45 = .ok (.iaload, 1) := by decide +kernel
theorem dRe_layNames_46 : decode mRe_layNames.2.1 46 = .ok (.iastore, 1) := by decide +kernel
theorem dRe_layNames_47 : decode mRe_layNames.2.1 47 = .ok (.iinc 4 1, 3) := by decide +kernel
theorem dRe_layNames_50 : decode mRe_layNames.2.1 50 = .ok (.goto (-47), 3) := by decide +kernel
theorem dRe_layNames_53 : decode mRe_layNames.2.1 53 = .ok (.aload_n 0, 1) := by decide +kernel
theorem dRe_layNames_54 : decode mRe_layNames.2.1 54 = .ok (.getfield 52, 3) := by decide +kernel
theorem dRe_layNames_57 : decode mRe_layNames.2.1 57 = .ok (.bipush 6, 2) := by decide +kernel
theorem dRe_layNames_59 : decode mRe_layNames.2.1 59 = .ok (.iload_n 3, 1) := by decide +kernel
theorem dRe_layNames_60 : decode mRe_layNames.2.1 60 = .ok (.iastore, 1) := by decide +kernel
theorem dRe_layNames_61 : decode mRe_layNames.2.1 61 = .ok (.return_, 1) := by decide +kernel
theorem bRe_layNames_0 {l : Launch} {G : Gx} {d : Nat} {bc bs : Nat} {Φ : OutV → Mm → Prop} (M : Mm) (a0 : Nat) (x1 : Int32) (x2 : Int32) (x3 : Int32)
    (h : Ev l G d mRe_layNames 3 [.ref a0, .int x1, .int x2, .int x3, .int 0] [] M bc bs Φ) :
    Ev l G d mRe_layNames 0 [.ref a0, .int x1, .int x2, .int x3, .null] [] M bc bs Φ := by
  refine Ev.iconst (v := 0) dRe_layNames_0 (by decide) ?_
  refine Ev.istore dRe_layNames_1 (by decide) ?_
  show Ev l G d mRe_layNames (_ + _) [.ref a0, .int x1, .int x2, .int x3, .int 0] [] M bc bs Φ
  exact h
theorem bRe_layNames_3 {l : Launch} {G : Gx} {d : Nat} {bc bs : Nat} {Φ : OutV → Mm → Prop} (M : Mm) (a0 : Nat) (x1 : Int32) (x2 : Int32) (x3 : Int32) (x4 : Int32)
    (h : (3 ≤ x4 → ((m_sh M a0).1 = 11) ∧ ((m_sh M (m_r M a0 26)).1 = 20) ∧ (vp_in 6 (m_sh M (m_r M a0 26)).2) ∧ Φ (.inl none) (m_si M (m_r M a0 26) (6 : Int32).toNatClampNeg x3)) ∧ (¬ 3 ≤ x4 → ((m_sh M a0).1 = 11) ∧ ((m_sh M (m_r M a0 13)).1 = 33) ∧ (vp_in x1 (m_sh M (m_r M a0 13)).2) ∧ ((m_sh M (m_r M (m_r M a0 13) x1.toNatClampNeg)).1 = 20) ∧ (vp_in (x4 + 1) (m_sh M (m_r M (m_r M a0 13) x1.toNatClampNeg)).2) ∧ ((m_sh M (m_r M a0 26)).1 = 20) ∧ (vp_in x4 (m_sh M (m_r M a0 26)).2) ∧ (vp_in x2 (m_sh M (m_r M a0 13)).2) ∧ ((m_sh M (m_r M (m_r M a0 13) x2.toNatClampNeg)).1 = 20) ∧ (vp_in (x4 + 1) (m_sh M (m_r M (m_r M a0 13) x2.toNatClampNeg)).2) ∧ (vp_in (x4 + 3) (m_sh M (m_r M a0 26)).2) ∧ Ev l G d mRe_layNames 47 [.ref a0, .int x1, .int x2, .int x3, .int x4] [] (m_si (m_si M (m_r M a0 26) x4.toNatClampNeg (m_i M (m_r M (m_r M a0 13) x1.toNatClampNeg) (x4 + 1).toNatClampNeg)) (m_r M a0 26) (x4 + 3).toNatClampNeg (m_i (m_si M (m_r M a0 26) x4.toNatClampNeg (m_i M (m_r M (m_r M a0 13) x1.toNatClampNeg) (x4 + 1).toNatClampNeg)) (m_r M (m_r M a0 13) x2.toNatClampNeg) (x4 + 1).toNatClampNeg)) bc bs Φ)) :
    Ev l G d mRe_layNames 3 [.ref a0, .int x1, .int x2, .int x3, .int x4] [] M bc bs Φ := by
  refine Ev.iload dRe_layNames_3 rfl ?_
  refine Ev.iconst (v := 3) dRe_layNames_5 (by decide) ?_
  refine Ev.icmp_ge 53 (by decide) dRe_layNames_6 (fun c => ?_) (fun c => ?_)
  · replace h := h.1 c
    refine Ev.aload_n dRe_layNames_53 rfl ?_
    have g1 := h.1
    replace h := h.2
    refine Ev.getR dRe_layNames_54 (Or.inl fRe_52) rfl g1 ?_
    refine Ev.bipush (v := 6) dRe_layNames_57 (by decide) ?_
    refine Ev.iload_n dRe_layNames_59 rfl ?_
    have g2 := h.1
    replace h := h.2
    have g3 := h.1
    replace h := h.2
    refine Ev.iast2 dRe_layNames_60 g2 g3 ?_
    exact Ev.vret dRe_layNames_61 rfl h
  · replace h := h.2 c
    refine Ev.aload_n dRe_layNames_9 rfl ?_
    have g4 := h.1
    replace h := h.2
    refine Ev.getR dRe_layNames_10 (Or.inl fRe_52) rfl g4 ?_
    refine Ev.iload dRe_layNames_13 rfl ?_
    refine Ev.aload_n dRe_layNames_15 rfl ?_
    refine Ev.getR dRe_layNames_16 (Or.inl fRe_22) rfl g4 ?_
    refine Ev.iload_n dRe_layNames_19 rfl ?_
    have g5 := h.1
    replace h := h.2
    have g6 := h.1
    replace h := h.2
    refine Ev.aald2 33 (by decide) dRe_layNames_20 g5 g6 ?_
    refine Ev.iload dRe_layNames_21 rfl ?_
    refine Ev.iconst (v := 1) dRe_layNames_23 (by decide) ?_
    refine Ev.iadd dRe_layNames_24 ?_
    have g7 := h.1
    replace h := h.2
    have g8 := h.1
    replace h := h.2
    refine Ev.iald2 dRe_layNames_25 g7 g8 ?_
    have g9 := h.1
    replace h := h.2
    have g10 := h.1
    replace h := h.2
    refine Ev.iast2 dRe_layNames_26 g9 g10 ?_
    refine Ev.aload_n dRe_layNames_27 rfl ?_
    refine Ev.getR dRe_layNames_28 (Or.inl fRe_52) rfl g4 ?_
    refine Ev.iload dRe_layNames_31 rfl ?_
    refine Ev.iconst (v := 3) dRe_layNames_33 (by decide) ?_
    refine Ev.iadd dRe_layNames_34 ?_
    refine Ev.aload_n dRe_layNames_35 rfl ?_
    refine Ev.getR dRe_layNames_36 (Or.inl fRe_22) rfl g4 ?_
    refine Ev.iload_n dRe_layNames_39 rfl ?_
    have g11 := h.1
    replace h := h.2
    refine Ev.aald2 33 (by decide) dRe_layNames_40 g5 g11 ?_
    refine Ev.iload dRe_layNames_41 rfl ?_
    refine Ev.iconst (v := 1) dRe_layNames_43 (by decide) ?_
    refine Ev.iadd dRe_layNames_44 ?_
    have g12 := h.1
    replace h := h.2
    have g13 := h.1
    replace h := h.2
    refine Ev.iald2 dRe_layNames_45 g12 g13 ?_
    have g14 := h.1
    replace h := h.2
    refine Ev.iast2 dRe_layNames_46 g9 g14 ?_
    exact h
theorem bRe_layNames_47 {l : Launch} {G : Gx} {d : Nat} {bc bs : Nat} {Φ : OutV → Mm → Prop} (M : Mm) (a0 : Nat) (x1 : Int32) (x2 : Int32) (x3 : Int32) (x4 : Int32)
    (h : Ev l G d mRe_layNames 3 [.ref a0, .int x1, .int x2, .int x3, .int (x4 + 1)] [] M bc bs Φ) :
    Ev l G d mRe_layNames 47 [.ref a0, .int x1, .int x2, .int x3, .int x4] [] M bc bs Φ := by
  refine Ev.iinc (v := x4 + 1) dRe_layNames_47 (by decide) rfl rfl ?_
  show Ev l G d mRe_layNames (_ + _) [.ref a0, .int x1, .int x2, .int x3, .int (x4 + 1)] [] M bc bs Φ
  refine Ev.goto 3 dRe_layNames_50 (by decide) ?_
  exact h
theorem dRe_comes_0 : decode mRe_comes.2.1 0 = .ok (.aload_n 0, 1) := by decide +kernel
theorem dRe_comes_1 : decode mRe_comes.2.1 1 = .ok (.getfield 46, 3) := by decide +kernel
theorem dRe_comes_4 : decode mRe_comes.2.1 4 = .ok (.iload_n 1, 1) := by decide +kernel
theorem dRe_comes_5 : decode mRe_comes.2.1 5 = .ok (.aaload, 1) := by decide +kernel
theorem dRe_comes_6 : decode mRe_comes.2.1 6 = .ok (.astore_n 2, 1) := by decide +kernel
theorem dRe_comes_7 : decode mRe_comes.2.1 7 = .ok (.iconst 0, 1) := by decide +kernel
theorem dRe_comes_8 : decode mRe_comes.2.1 8 = .ok (.istore_n 3, 1) := by decide +kernel
theorem dRe_comes_9 : decode mRe_comes.2.1 9 = .ok (.iconst 0, 1) := by decide +kernel
theorem dRe_comes_10 : decode mRe_comes.2.1 10 = .ok (.istore 4, 2) := by decide +kernel
theorem dRe_comes_12 : decode mRe_comes.2.1 12 = .ok (.iload 4, 2) := by decide +kernel
theorem dRe_comes_14 : decode mRe_comes.2.1 14 = .ok (.aload_n 0, 1) := by decide +kernel
theorem dRe_comes_15 : decode mRe_comes.2.1 15 = .ok (.getfield 40, 3) := by decide +kernel
theorem dRe_comes_18 : decode mRe_comes.2.1 18 = .ok (.iload_n 1, 1) := by decide +kernel
theorem dRe_comes_19 : decode mRe_comes.2.1 19 = .ok (.iaload, 1) := by decide +kernel
theorem dRe_comes_20 : decode mRe_comes.2.1 20 = .ok (.if_icmp .ge 136, 3) := by decide +kernel
theorem dRe_comes_23 : decode mRe_comes.2.1 23 = .ok (.aload_n 2, 1) := by decide +kernel
theorem dRe_comes_24 : decode mRe_comes.2.1 24 = .ok (.iload 4, 2) := by decide +kernel
theorem dRe_comes_26 : decode mRe_comes.2.1 26 = .ok (.iaload, 1) := by decide +kernel
theorem dRe_comes_27 : decode mRe_comes.2.1 27 = .ok (.bipush 8, 2) := by decide +kernel
theorem dRe_comes_29 : decode mRe_comes.2.1 29 = .ok (.if_icmp .ge 59, 3) := by decide +kernel
theorem dRe_comes_32 : decode mRe_comes.2.1 32 = .ok (.aload_n 0, 1) := by decide +kernel
theorem dRe_comes_33 : decode mRe_comes.2.1 33 = .ok (.getfield 49, 3) := by decide +kernel
theorem dRe_comes_36 : decode mRe_comes.2.1 36 = .ok (.iload_n 3, 1) := by decide +kernel
theorem dRe_comes_37 : decode mRe_comes.2.1 37 = .ok (.aload_n 2, 1) := by decide +kernel
theorem dRe_comes_38 : decode mRe_comes.2.1 38 = .ok (.iload 4, 2) := by decide +kernel
theorem dRe_comes_40 : decode mRe_comes.2.1 40 = .ok (.iaload, 1) := by decide +kernel
theorem dRe_comes_41 : decode mRe_comes.2.1 41 = .ok (.ifCond .ne 12, 3) := by decide +kernel
theorem dRe_comes_44 : decode mRe_comes.2.1 44 = .ok (.aload_n 2, 1) := by decide +kernel
theorem dRe_comes_45 : decode mRe_comes.2.1 45 = .ok (.iload 4, 2) := by decide +kernel
theorem dRe_comes_47 : decode mRe_comes.2.1 47 = .ok (.iconst 1, 1) := by decide +kernel
theorem dRe_comes_48 : decode mRe_comes.2.1 48 = .ok (.iadd, 1) := by decide +kernel
theorem dRe_comes_49 : decode mRe_comes.2.1 49 = .ok (.iaload, 1) := by decide +kernel
theorem dRe_comes_50 : decode mRe_comes.2.1 50 = .ok (.goto 14, 3) := by decide +kernel
theorem dRe_comes_53 : decode mRe_comes.2.1 53 = .ok (.aload_n 0, 1) := by decide +kernel
theorem dRe_comes_54 : decode mRe_comes.2.1 54 = .ok (.getfield 52, 3) := by decide +kernel
theorem dRe_comes_57 : decode mRe_comes.2.1 57 = .ok (.aload_n 2, 1) := by decide +kernel
theorem dRe_comes_58 : decode mRe_comes.2.1 58 = .ok (.iload 4, 2) := by decide +kernel
theorem dRe_comes_60 : decode mRe_comes.2.1 60 = .ok (.iaload, 1) := by decide +kernel
theorem dRe_comes_61 : decode mRe_comes.2.1 61 = .ok (.iconst 1, 1) := by decide +kernel
theorem dRe_comes_62 : decode mRe_comes.2.1 62 = .ok (.isub, 1) := by decide +kernel
theorem dRe_comes_63 : decode mRe_comes.2.1 63 = .ok (.iaload, 1) := by decide +kernel
theorem dRe_comes_64 : decode mRe_comes.2.1 64 = .ok (.iastore, 1) := by decide +kernel
theorem dRe_comes_65 : decode mRe_comes.2.1 65 = .ok (.iload 4, 2) := by decide +kernel
theorem dRe_comes_67 : decode mRe_comes.2.1 67 = .ok (.aload_n 2, 1) := by decide +kernel
theorem dRe_comes_68 : decode mRe_comes.2.1 68 = .ok (.iload 4, 2) := by decide +kernel
theorem dRe_comes_70 : decode mRe_comes.2.1 70 = .ok (.iaload, 1) := by decide +kernel
theorem dRe_comes_71 : decode mRe_comes.2.1 71 = .ok (.ifCond .ne 7, 3) := by decide +kernel
theorem dRe_comes_74 : decode mRe_comes.2.1 74 = .ok (.iconst 1, 1) := by decide +kernel
theorem dRe_comes_75 : decode mRe_comes.2.1 75 = .ok (.goto 4, 3) := by decide +kernel
theorem dRe_comes_78 : decode mRe_comes.2.1 78 = .ok (.iconst 0, 1) := by decide +kernel
theorem dRe_comes_79 : decode mRe_comes.2.1 79 = .ok (.iadd, 1) := by decide +kernel
theorem dRe_comes_80 : decode mRe_comes.2.1 80 = .ok (.istore 4, 2) := by decide +kernel
theorem dRe_comes_82 : decode mRe_comes.2.1 82 = .ok (.iinc 3 1, 3) := by decide +kernel
theorem dRe_comes_85 : decode mRe_comes.2.1 85 = .ok (.goto 65, 3) := by decide +kernel
theorem dRe_comes_88 : decode mRe_comes.2.1 88 = .ok (.aload_n 2, 1) := by decide +kernel
theorem dRe_comes_89 : decode mRe_comes.2.1 89 = .ok (.iload 4, 2) := by decide +kernel
theorem dRe_comes_91 : decode mRe_comes.2.1 91 = .ok (.iaload, 1) := by decide +kernel
theorem dRe_comes_92 : decode mRe_comes.2.1 92 = .ok (.bipush 17, 2) := by decide +kernel
theorem dRe_comes_94 : decode mRe_comes.2.1 94 = .ok (.if_icmp .ne 24, 3) := by decide +kernel
theorem dRe_comes_97 : decode mRe_comes.2.1 97 = .ok (.aload_n 0, 1) := by decide +kernel
theorem dRe_comes_98 : decode mRe_comes.2.1 98 = .ok (.getfield 49, 3) := by decide +kernel
theorem dRe_comes_101 : decode mRe_comes.2.1 101 = .ok (.iload_n 3, 1) := by decide +kernel
theorem dRe_comes_102 : decode mRe_comes.2.1 102 = .ok (.iconst 1, 1) := by decide +kernel
theorem dRe_comes_103 : decode mRe_comes.2.1 103 = .ok (.isub, 1) := by decide +kernel
theorem dRe_comes_104 : decode mRe_comes.2.1 104 = .ok (.iconst 1, 1) := by decide +kernel
theorem dRe_comes_105 : decode mRe_comes.2.1 105 = .ok (.aload_n 0, 1) := by decide +kernel
theorem dRe_comes_106 : decode mRe_comes.2.1 106 = .ok (.getfield 49, 3) := by decide +kernel
theorem dRe_comes_109 : decode mRe_comes.2.1 109 = .ok (.iload_n 3, 1) := by decide +kernel
theorem dRe_comes_110 : decode mRe_comes.2.1 110 = .ok (.iconst 1, 1) := by decide +kernel
theorem dRe_comes_111 : decode mRe_comes.2.1 111 = .ok (.isub, 1) := by decide +kernel
theorem dRe_comes_112 : decode mRe_comes.2.1 112 = .ok (.iaload, 1) := by decide +kernel
theorem dRe_comes_113 : decode mRe_comes.2.1 113 = .ok (.isub, 1) := by decide +kernel
theorem dRe_comes_114 : decode mRe_comes.2.1 114 = .ok (.iastore, 1) := by decide +kernel
theorem dRe_comes_115 : decode mRe_comes.2.1 115 = .ok (.goto 35, 3) := by decide +kernel
theorem dRe_comes_118 : decode mRe_comes.2.1 118 = .ok (.iinc 3 (-1), 3) := by decide +kernel
theorem dRe_comes_121 : decode mRe_comes.2.1 121 = .ok (.aload_n 0, 1) := by decide +kernel
theorem dRe_comes_122 : decode mRe_comes.2.1 122 = .ok (.getfield 49, 3) := by decide +kernel
theorem dRe_comes_125 : decode mRe_comes.2.1 125 = .ok (.iload_n 3, 1) := by decide +kernel
theorem dRe_comes_126 : decode mRe_comes.2.1 126 = .ok (.iconst 1, 1) := by decide +kernel
theorem dRe_comes_127 : decode mRe_comes.2.1 127 = .ok (.isub, 1) := by decide +kernel
theorem dRe_comes_128 : decode mRe_comes.2.1 128 = .ok (.aload_n 2, 1) := by decide +kernel
theorem dRe_comes_129 : decode mRe_comes.2.1 129 = .ok (.iload 4, 2) := by decide +kernel
theorem dRe_comes_131 : decode mRe_comes.2.1 131 = .ok (.iaload, 1) := by decide +kernel
theorem dRe_comes_132 : decode mRe_comes.2.1 132 = .ok (.aload_n 0, 1) := by decide +kernel
theorem dRe_comes_133 : decode mRe_comes.2.1 133 = .ok (.getfield 49, 3) := by decide +kernel
theorem dRe_comes_136 : decode mRe_comes.2.1 136 = .ok (.iload_n 3, 1) := by decide +kernel
theorem dRe_comes_137 : decode mRe_comes.2.1 137 = .ok (.iconst 1, 1) := by decide +kernel
theorem dRe_comes_138 : decode mRe_comes.2.1 138 = .ok (.isub, 1) := by decide +kernel
theorem dRe_comes_139 : decode mRe_comes.2.1 139 = .ok (.iaload, 1) := by decide +kernel
theorem dRe_comes_140 : decode mRe_comes.2.1 140 = .ok (.aload_n 0, 1) := by decide +kernel
theorem dRe_comes_141 : decode mRe_comes.2.1 141 = .ok (.getfield 49, 3) := by decide +kernel
theorem dRe_comes_144 : decode mRe_comes.2.1 144 = .ok (.iload_n 3, 1) := by decide +kernel
theorem dRe_comes_145 : decode mRe_comes.2.1 145 = .ok (.iaload, 1) := by decide +kernel
theorem dRe_comes_146 : decode mRe_comes.2.1 146 = .ok (.invokestatic 272, 3) := by decide +kernel
theorem dRe_comes_149 : decode mRe_comes.2.1 149 = .ok (.iastore, 1) := by decide +kernel
theorem dRe_comes_150 : decode mRe_comes.2.1 150 = .ok (.iinc 4 1, 3) := by decide +kernel
theorem dRe_comes_153 : decode mRe_comes.2.1 153 = .ok (.goto (-141), 3) := by decide +kernel
theorem dRe_comes_156 : decode mRe_comes.2.1 156 = .ok (.aload_n 0, 1) := by decide +kernel
theorem dRe_comes_157 : decode mRe_comes.2.1 157 = .ok (.getfield 49, 3) := by decide +kernel
theorem dRe_comes_160 : decode mRe_comes.2.1 160 = .ok (.iconst 0, 1) := by decide +kernel
theorem dRe_comes_161 : decode mRe_comes.2.1 161 = .ok (.iaload, 1) := by decide +kernel
theorem dRe_comes_162 : decode mRe_comes.2.1 162 = .ok (.ireturn, 1) := by decide +kernel
theorem bRe_comes_0 {l : Launch} {G : Gx} {d : Nat} {bc bs : Nat} {Φ : OutV → Mm → Prop} (M : Mm) (a0 : Nat) (x1 : Int32)
    (h : ((m_sh M a0).1 = 11) ∧ ((m_sh M (m_r M a0 24)).1 = 33) ∧ (vp_in x1 (m_sh M (m_r M a0 24)).2) ∧ Ev l G d mRe_comes 12 [.ref a0, .int x1, .ref (m_r M (m_r M a0 24) x1.toNatClampNeg), .int 0, .int 0] [] M bc bs Φ) :
    Ev l G d mRe_comes 0 [.ref a0, .int x1, .null, .null, .null] [] M bc bs Φ := by
  refine Ev.aload_n dRe_comes_0 rfl ?_
  have g1 := h.1
  replace h := h.2
  refine Ev.getR dRe_comes_1 (Or.inl fRe_46) rfl g1 ?_
  refine Ev.iload_n dRe_comes_4 rfl ?_
  have g2 := h.1
  replace h := h.2
  have g3 := h.1
  replace h := h.2
  refine Ev.aald2 33 (by decide) dRe_comes_5 g2 g3 ?_
  refine Ev.astore_n dRe_comes_6 (by decide) ?_
  show Ev l G d mRe_comes (_ + _) [.ref a0, .int x1, .ref (m_r M (m_r M a0 24) x1.toNatClampNeg), .null, .null] [] M bc bs Φ
  refine Ev.iconst (v := 0) dRe_comes_7 (by decide) ?_
  refine Ev.istore_n dRe_comes_8 (by decide) ?_
  show Ev l G d mRe_comes (_ + _) [.ref a0, .int x1, .ref (m_r M (m_r M a0 24) x1.toNatClampNeg), .int 0, .null] [] M bc bs Φ
  refine Ev.iconst (v := 0) dRe_comes_9 (by decide) ?_
  refine Ev.istore dRe_comes_10 (by decide) ?_
  show Ev l G d mRe_comes (_ + _) [.ref a0, .int x1, .ref (m_r M (m_r M a0 24) x1.toNatClampNeg), .int 0, .int 0] [] M bc bs Φ
  exact h
def mRe_both : MR := (⟨"BowingRowModel", "both", "(III)I"⟩, prog_14_method_36_code, 3, (Option.some .int))
theorem oRe_both : MOK mRe_both 3 := ⟨lwg_of 1648 (by decide +kernel) (by decide +kernel), lwg_of 103 (by decide +kernel) (by decide +kernel), ⟨by decide +kernel, by decide +kernel⟩, by decide +kernel, by decide⟩
theorem iRe_both : Cond.static mRe_both.1 ∈ lwg := lwg_of 1647 (by decide +kernel) (by decide +kernel)
theorem w1646 : Cond.methodLink "BowingRowModel" 272 ⟨"BowingRowModel", "both", "(III)I"⟩ ∈ lwg := lwg_of 1646 (by decide +kernel) (by decide +kernel)
theorem bRe_comes_12 {l : Launch} {G : Gx} {d : Nat} {bc bs : Nat} {Φ : OutV → Mm → Prop} (M : Mm) (a0 : Nat) (x1 : Int32) (a2 : Nat) (x3 : Int32) (x4 : Int32)
    (h : ((m_sh M a0).1 = 11) ∧ ((m_sh M (m_r M a0 22)).1 = 20) ∧ (vp_in x1 (m_sh M (m_r M a0 22)).2) ∧ ((m_i M (m_r M a0 22) x1.toNatClampNeg) ≤ x4 → ((m_sh M (m_r M a0 25)).1 = 20) ∧ (vp_in 0 (m_sh M (m_r M a0 25)).2) ∧ Φ (.inl (some (.int (m_i M (m_r M a0 25) (0 : Int32).toNatClampNeg)))) M) ∧ (¬ (m_i M (m_r M a0 22) x1.toNatClampNeg) ≤ x4 → ((m_sh M a2).1 = 20) ∧ (vp_in x4 (m_sh M a2).2) ∧ (8 ≤ (m_i M a2 x4.toNatClampNeg) → (¬ (m_i M a2 x4.toNatClampNeg) = 17 → ((m_sh M (m_r M a0 25)).1 = 20) ∧ (vp_in ((x3 + (-1)) - 1) (m_sh M (m_r M a0 25)).2) ∧ (vp_in (x3 + (-1)) (m_sh M (m_r M a0 25)).2) ∧ CallVC l G d mRe_comes 149 [.ref a0, .int x1, .ref a2, .int (x3 + (-1)), .int x4] [.int ((x3 + (-1)) - 1), .ref (m_r M a0 25)] mRe_both [.int (m_i M a2 x4.toNatClampNeg), .int (m_i M (m_r M a0 25) ((x3 + (-1)) - 1).toNatClampNeg), .int (m_i M (m_r M a0 25) (x3 + (-1)).toNatClampNeg)] M bc bs Φ) ∧ ((m_i M a2 x4.toNatClampNeg) = 17 → ((m_sh M (m_r M a0 25)).1 = 20) ∧ (vp_in (x3 - 1) (m_sh M (m_r M a0 25)).2) ∧ Ev l G d mRe_comes 150 [.ref a0, .int x1, .ref a2, .int x3, .int x4] [] (m_si M (m_r M a0 25) (x3 - 1).toNatClampNeg (1 - (m_i M (m_r M a0 25) (x3 - 1).toNatClampNeg))) bc bs Φ)) ∧ (¬ 8 ≤ (m_i M a2 x4.toNatClampNeg) → (¬ (m_i M a2 x4.toNatClampNeg) = 0 → ((m_sh M (m_r M a0 26)).1 = 20) ∧ (vp_in ((m_i M a2 x4.toNatClampNeg) - 1) (m_sh M (m_r M a0 26)).2) ∧ ((m_sh M (m_r M a0 25)).1 = 20) ∧ (vp_in x3 (m_sh M (m_r M a0 25)).2) ∧ (¬ (m_i (m_si M (m_r M a0 25) x3.toNatClampNeg (m_i M (m_r M a0 26) ((m_i M a2 x4.toNatClampNeg) - 1).toNatClampNeg)) a2 x4.toNatClampNeg) = 0 → Ev l G d mRe_comes 150 [.ref a0, .int x1, .ref a2, .int (x3 + 1), .int (x4 + 0)] [] (m_si M (m_r M a0 25) x3.toNatClampNeg (m_i M (m_r M a0 26) ((m_i M a2 x4.toNatClampNeg) - 1).toNatClampNeg)) bc bs Φ) ∧ ((m_i (m_si M (m_r M a0 25) x3.toNatClampNeg (m_i M (m_r M a0 26) ((m_i M a2 x4.toNatClampNeg) - 1).toNatClampNeg)) a2 x4.toNatClampNeg) = 0 → Ev l G d mRe_comes 150 [.ref a0, .int x1, .ref a2, .int (x3 + 1), .int (x4 + 1)] [] (m_si M (m_r M a0 25) x3.toNatClampNeg (m_i M (m_r M a0 26) ((m_i M a2 x4.toNatClampNeg) - 1).toNatClampNeg)) bc bs Φ)) ∧ ((m_i M a2 x4.toNatClampNeg) = 0 → (vp_in (x4 + 1) (m_sh M a2).2) ∧ ((m_sh M (m_r M a0 25)).1 = 20) ∧ (vp_in x3 (m_sh M (m_r M a0 25)).2) ∧ (¬ (m_i (m_si M (m_r M a0 25) x3.toNatClampNeg (m_i M a2 (x4 + 1).toNatClampNeg)) a2 x4.toNatClampNeg) = 0 → Ev l G d mRe_comes 150 [.ref a0, .int x1, .ref a2, .int (x3 + 1), .int (x4 + 0)] [] (m_si M (m_r M a0 25) x3.toNatClampNeg (m_i M a2 (x4 + 1).toNatClampNeg)) bc bs Φ) ∧ ((m_i (m_si M (m_r M a0 25) x3.toNatClampNeg (m_i M a2 (x4 + 1).toNatClampNeg)) a2 x4.toNatClampNeg) = 0 → Ev l G d mRe_comes 150 [.ref a0, .int x1, .ref a2, .int (x3 + 1), .int (x4 + 1)] [] (m_si M (m_r M a0 25) x3.toNatClampNeg (m_i M a2 (x4 + 1).toNatClampNeg)) bc bs Φ))))) :
    Ev l G d mRe_comes 12 [.ref a0, .int x1, .ref a2, .int x3, .int x4] [] M bc bs Φ := by
  refine Ev.iload dRe_comes_12 rfl ?_
  refine Ev.aload_n dRe_comes_14 rfl ?_
  have g1 := h.1
  replace h := h.2
  refine Ev.getR dRe_comes_15 (Or.inl fRe_40) rfl g1 ?_
  refine Ev.iload_n dRe_comes_18 rfl ?_
  have g2 := h.1
  replace h := h.2
  have g3 := h.1
  replace h := h.2
  refine Ev.iald2 dRe_comes_19 g2 g3 ?_
  refine Ev.icmp_ge 156 (by decide) dRe_comes_20 (fun c => ?_) (fun c => ?_)
  · replace h := h.1 c
    refine Ev.aload_n dRe_comes_156 rfl ?_
    refine Ev.getR dRe_comes_157 (Or.inl fRe_49) rfl g1 ?_
    refine Ev.iconst (v := 0) dRe_comes_160 (by decide) ?_
    have g4 := h.1
    replace h := h.2
    have g5 := h.1
    replace h := h.2
    refine Ev.iald2 dRe_comes_161 g4 g5 ?_
    exact Ev.iret dRe_comes_162 rfl rfl h
  · replace h := h.2 c
    refine Ev.aload_n dRe_comes_23 rfl ?_
    refine Ev.iload dRe_comes_24 rfl ?_
    have g6 := h.1
    replace h := h.2
    have g7 := h.1
    replace h := h.2
    refine Ev.iald2 dRe_comes_26 g6 g7 ?_
    refine Ev.bipush (v := 8) dRe_comes_27 (by decide) ?_
    refine Ev.icmp_ge 88 (by decide) dRe_comes_29 (fun c => ?_) (fun c => ?_)
    · replace h := h.1 c
      refine Ev.aload_n dRe_comes_88 rfl ?_
      refine Ev.iload dRe_comes_89 rfl ?_
      refine Ev.iald2 dRe_comes_91 g6 g7 ?_
      refine Ev.bipush (v := 17) dRe_comes_92 (by decide) ?_
      refine Ev.icmp_ne 118 (by decide) dRe_comes_94 (fun c => ?_) (fun c => ?_)
      · replace h := h.1 c
        refine Ev.iinc (v := x3 + (-1)) dRe_comes_118 (by decide) rfl rfl ?_
        show Ev l G d mRe_comes (_ + _) [.ref a0, .int x1, .ref a2, .int (x3 + (-1)), .int x4] [] M bc bs Φ
        refine Ev.aload_n dRe_comes_121 rfl ?_
        refine Ev.getR dRe_comes_122 (Or.inl fRe_49) rfl g1 ?_
        refine Ev.iload_n dRe_comes_125 rfl ?_
        refine Ev.iconst (v := 1) dRe_comes_126 (by decide) ?_
        refine Ev.isub dRe_comes_127 ?_
        refine Ev.aload_n dRe_comes_128 rfl ?_
        refine Ev.iload dRe_comes_129 rfl ?_
        refine Ev.iald2 dRe_comes_131 g6 g7 ?_
        refine Ev.aload_n dRe_comes_132 rfl ?_
        refine Ev.getR dRe_comes_133 (Or.inl fRe_49) rfl g1 ?_
        refine Ev.iload_n dRe_comes_136 rfl ?_
        refine Ev.iconst (v := 1) dRe_comes_137 (by decide) ?_
        refine Ev.isub dRe_comes_138 ?_
        have g8 := h.1
        replace h := h.2
        have g9 := h.1
        replace h := h.2
        refine Ev.iald2 dRe_comes_139 g8 g9 ?_
        refine Ev.aload_n dRe_comes_140 rfl ?_
        refine Ev.getR dRe_comes_141 (Or.inl fRe_49) rfl g1 ?_
        refine Ev.iload_n dRe_comes_144 rfl ?_
        have g10 := h.1
        replace h := h.2
        refine Ev.iald2 dRe_comes_145 g8 g10 ?_
        exact Ev.vcS (z := mRe_both) [.int (m_i M a2 x4.toNatClampNeg), .int (m_i M (m_r M a0 25) ((x3 + (-1)) - 1).toNatClampNeg), .int (m_i M (m_r M a0 25) (x3 + (-1)).toNatClampNeg)] [.int ((x3 + (-1)) - 1), .ref (m_r M a0 25)] rfl dRe_comes_146 oRe_both rfl w1646 iRe_both (Nat.le_of_ble_eq_true rfl) h
      · replace h := h.2 c
        refine Ev.aload_n dRe_comes_97 rfl ?_
        refine Ev.getR dRe_comes_98 (Or.inl fRe_49) rfl g1 ?_
        refine Ev.iload_n dRe_comes_101 rfl ?_
        refine Ev.iconst (v := 1) dRe_comes_102 (by decide) ?_
        refine Ev.isub dRe_comes_103 ?_
        refine Ev.iconst (v := 1) dRe_comes_104 (by decide) ?_
        refine Ev.aload_n dRe_comes_105 rfl ?_
        refine Ev.getR dRe_comes_106 (Or.inl fRe_49) rfl g1 ?_
        refine Ev.iload_n dRe_comes_109 rfl ?_
        refine Ev.iconst (v := 1) dRe_comes_110 (by decide) ?_
        refine Ev.isub dRe_comes_111 ?_
        have g11 := h.1
        replace h := h.2
        have g12 := h.1
        replace h := h.2
        refine Ev.iald2 dRe_comes_112 g11 g12 ?_
        refine Ev.isub dRe_comes_113 ?_
        refine Ev.iast2 dRe_comes_114 g11 g12 ?_
        refine Ev.goto 150 dRe_comes_115 (by decide) ?_
        exact h
    · replace h := h.2 c
      refine Ev.aload_n dRe_comes_32 rfl ?_
      refine Ev.getR dRe_comes_33 (Or.inl fRe_49) rfl g1 ?_
      refine Ev.iload_n dRe_comes_36 rfl ?_
      refine Ev.aload_n dRe_comes_37 rfl ?_
      refine Ev.iload dRe_comes_38 rfl ?_
      refine Ev.iald2 dRe_comes_40 g6 g7 ?_
      refine Ev.if_ne 53 (by decide) dRe_comes_41 (fun c => ?_) (fun c => ?_)
      · replace h := h.1 c
        refine Ev.aload_n dRe_comes_53 rfl ?_
        refine Ev.getR dRe_comes_54 (Or.inl fRe_52) rfl g1 ?_
        refine Ev.aload_n dRe_comes_57 rfl ?_
        refine Ev.iload dRe_comes_58 rfl ?_
        refine Ev.iald2 dRe_comes_60 g6 g7 ?_
        refine Ev.iconst (v := 1) dRe_comes_61 (by decide) ?_
        refine Ev.isub dRe_comes_62 ?_
        have g13 := h.1
        replace h := h.2
        have g14 := h.1
        replace h := h.2
        refine Ev.iald2 dRe_comes_63 g13 g14 ?_
        have g15 := h.1
        replace h := h.2
        have g16 := h.1
        replace h := h.2
        refine Ev.iast2 dRe_comes_64 g15 g16 ?_
        refine Ev.iload dRe_comes_65 rfl ?_
        refine Ev.aload_n dRe_comes_67 rfl ?_
        refine Ev.iload dRe_comes_68 rfl ?_
        refine Ev.iald2 dRe_comes_70 g6 g7 ?_
        refine Ev.if_ne 78 (by decide) dRe_comes_71 (fun c => ?_) (fun c => ?_)
        · replace h := h.1 c
          refine Ev.iconst (v := 0) dRe_comes_78 (by decide) ?_
          refine Ev.iadd dRe_comes_79 ?_
          refine Ev.istore dRe_comes_80 (by decide) ?_
          show Ev l G d mRe_comes (_ + _) [.ref a0, .int x1, .ref a2, .int x3, .int (x4 + 0)] [] (m_si M (m_r M a0 25) x3.toNatClampNeg (m_i M (m_r M a0 26) ((m_i M a2 x4.toNatClampNeg) - 1).toNatClampNeg)) bc bs Φ
          refine Ev.iinc (v := x3 + 1) dRe_comes_82 (by decide) rfl rfl ?_
          show Ev l G d mRe_comes (_ + _) [.ref a0, .int x1, .ref a2, .int (x3 + 1), .int (x4 + 0)] [] (m_si M (m_r M a0 25) x3.toNatClampNeg (m_i M (m_r M a0 26) ((m_i M a2 x4.toNatClampNeg) - 1).toNatClampNeg)) bc bs Φ
          refine Ev.goto 150 dRe_comes_85 (by decide) ?_
          exact h
        · replace h := h.2 c
          refine Ev.iconst (v := 1) dRe_comes_74 (by decide) ?_
          refine Ev.goto 79 dRe_comes_75 (by decide) ?_
          refine Ev.iadd dRe_comes_79 ?_
          refine Ev.istore dRe_comes_80 (by decide) ?_
          show Ev l G d mRe_comes (_ + _) [.ref a0, .int x1, .ref a2, .int x3, .int (x4 + 1)] [] (m_si M (m_r M a0 25) x3.toNatClampNeg (m_i M (m_r M a0 26) ((m_i M a2 x4.toNatClampNeg) - 1).toNatClampNeg)) bc bs Φ
          refine Ev.iinc (v := x3 + 1) dRe_comes_82 (by decide) rfl rfl ?_
          show Ev l G d mRe_comes (_ + _) [.ref a0, .int x1, .ref a2, .int (x3 + 1), .int (x4 + 1)] [] (m_si M (m_r M a0 25) x3.toNatClampNeg (m_i M (m_r M a0 26) ((m_i M a2 x4.toNatClampNeg) - 1).toNatClampNeg)) bc bs Φ
          refine Ev.goto 150 dRe_comes_85 (by decide) ?_
          exact h
      · replace h := h.2 c
        refine Ev.aload_n dRe_comes_44 rfl ?_
        refine Ev.iload dRe_comes_45 rfl ?_
        refine Ev.iconst (v := 1) dRe_comes_47 (by decide) ?_
        refine Ev.iadd dRe_comes_48 ?_
        have g17 := h.1
        replace h := h.2
        refine Ev.iald2 dRe_comes_49 g6 g17 ?_
        refine Ev.goto 64 dRe_comes_50 (by decide) ?_
        have g18 := h.1
        replace h := h.2
        have g19 := h.1
        replace h := h.2
        refine Ev.iast2 dRe_comes_64 g18 g19 ?_
        refine Ev.iload dRe_comes_65 rfl ?_
        refine Ev.aload_n dRe_comes_67 rfl ?_
        refine Ev.iload dRe_comes_68 rfl ?_
        refine Ev.iald2 dRe_comes_70 g6 g7 ?_
        refine Ev.if_ne 78 (by decide) dRe_comes_71 (fun c => ?_) (fun c => ?_)
        · replace h := h.1 c
          refine Ev.iconst (v := 0) dRe_comes_78 (by decide) ?_
          refine Ev.iadd dRe_comes_79 ?_
          refine Ev.istore dRe_comes_80 (by decide) ?_
          show Ev l G d mRe_comes (_ + _) [.ref a0, .int x1, .ref a2, .int x3, .int (x4 + 0)] [] (m_si M (m_r M a0 25) x3.toNatClampNeg (m_i M a2 (x4 + 1).toNatClampNeg)) bc bs Φ
          refine Ev.iinc (v := x3 + 1) dRe_comes_82 (by decide) rfl rfl ?_
          show Ev l G d mRe_comes (_ + _) [.ref a0, .int x1, .ref a2, .int (x3 + 1), .int (x4 + 0)] [] (m_si M (m_r M a0 25) x3.toNatClampNeg (m_i M a2 (x4 + 1).toNatClampNeg)) bc bs Φ
          refine Ev.goto 150 dRe_comes_85 (by decide) ?_
          exact h
        · replace h := h.2 c
          refine Ev.iconst (v := 1) dRe_comes_74 (by decide) ?_
          refine Ev.goto 79 dRe_comes_75 (by decide) ?_
          refine Ev.iadd dRe_comes_79 ?_
          refine Ev.istore dRe_comes_80 (by decide) ?_
          show Ev l G d mRe_comes (_ + _) [.ref a0, .int x1, .ref a2, .int x3, .int (x4 + 1)] [] (m_si M (m_r M a0 25) x3.toNatClampNeg (m_i M a2 (x4 + 1).toNatClampNeg)) bc bs Φ
          refine Ev.iinc (v := x3 + 1) dRe_comes_82 (by decide) rfl rfl ?_
          show Ev l G d mRe_comes (_ + _) [.ref a0, .int x1, .ref a2, .int (x3 + 1), .int (x4 + 1)] [] (m_si M (m_r M a0 25) x3.toNatClampNeg (m_i M a2 (x4 + 1).toNatClampNeg)) bc bs Φ
          refine Ev.goto 150 dRe_comes_85 (by decide) ?_
          exact h
theorem bRe_comes_149 {l : Launch} {G : Gx} {d : Nat} {bc bs : Nat} {Φ : OutV → Mm → Prop} (M : Mm) (a0 : Nat) (x1 : Int32) (a2 : Nat) (x3 : Int32) (x4 : Int32) (r0 : Nat) (s1 : Int32) (s2 : Int32)
    (h : ((m_sh M r0).1 = 20) ∧ (vp_in s1 (m_sh M r0).2) ∧ Ev l G d mRe_comes 150 [.ref a0, .int x1, .ref a2, .int x3, .int x4] [] (m_si M r0 s1.toNatClampNeg s2) bc bs Φ) :
    Ev l G d mRe_comes 149 [.ref a0, .int x1, .ref a2, .int x3, .int x4] [.int s2, .int s1, .ref r0] M bc bs Φ := by
  have g1 := h.1
  replace h := h.2
  have g2 := h.1
  replace h := h.2
  refine Ev.iast2 dRe_comes_149 g1 g2 ?_
  exact h
theorem bRe_comes_150 {l : Launch} {G : Gx} {d : Nat} {bc bs : Nat} {Φ : OutV → Mm → Prop} (M : Mm) (a0 : Nat) (x1 : Int32) (a2 : Nat) (x3 : Int32) (x4 : Int32)
    (h : Ev l G d mRe_comes 12 [.ref a0, .int x1, .ref a2, .int x3, .int (x4 + 1)] [] M bc bs Φ) :
    Ev l G d mRe_comes 150 [.ref a0, .int x1, .ref a2, .int x3, .int x4] [] M bc bs Φ := by
  refine Ev.iinc (v := x4 + 1) dRe_comes_150 (by decide) rfl rfl ?_
  show Ev l G d mRe_comes (_ + _) [.ref a0, .int x1, .ref a2, .int x3, .int (x4 + 1)] [] M bc bs Φ
  refine Ev.goto 12 dRe_comes_153 (by decide) ?_
  exact h
theorem dRe_both_0 : decode mRe_both.2.1 0 = .ok (.iload_n 0, 1) := by decide +kernel
theorem dRe_both_1 : decode mRe_both.2.1 1 = .ok (.tableswitch 112 10 18 #[51, 55, 59, 63, 75, 86, 97, 112, 108], 51) := by decide +kernel
theorem dRe_both_52 : decode mRe_both.2.1 52 = .ok (.iload_n 1, 1) := by decide +kernel
theorem dRe_both_53 : decode mRe_both.2.1 53 = .ok (.iload_n 2, 1) := by decide +kernel
theorem dRe_both_54 : decode mRe_both.2.1 54 = .ok (.iadd, 1) := by decide +kernel
theorem dRe_both_55 : decode mRe_both.2.1 55 = .ok (.ireturn, 1) := by decide +kernel
theorem dRe_both_56 : decode mRe_both.2.1 56 = .ok (.iload_n 1, 1) := by decide +kernel
theorem dRe_both_57 : decode mRe_both.2.1 57 = .ok (.iload_n 2, 1) := by decide +kernel
theorem dRe_both_58 : decode mRe_both.2.1 58 = .ok (.isub, 1) := by decide +kernel
theorem dRe_both_59 : decode mRe_both.2.1 59 = .ok (.ireturn, 1) := by decide +kernel
theorem dRe_both_60 : decode mRe_both.2.1 60 = .ok (.iload_n 1, 1) := by decide +kernel
theorem dRe_both_61 : decode mRe_both.2.1 61 = .ok (.iload_n 2, 1) := by decide +kernel
theorem dRe_both_62 : decode mRe_both.2.1 62 = .ok (.imul, 1) := by decide +kernel
theorem dRe_both_63 : decode mRe_both.2.1 63 = .ok (.ireturn, 1) := by decide +kernel
theorem dRe_both_64 : decode mRe_both.2.1 64 = .ok (.iload_n 2, 1) := by decide +kernel
theorem dRe_both_65 : decode mRe_both.2.1 65 = .ok (.ifCond .ne 7, 3) := by decide +kernel
theorem dRe_both_68 : decode mRe_both.2.1 68 = .ok (.iconst 0, 1) := by decide +kernel
theorem dRe_both_69 : decode mRe_both.2.1 69 = .ok (.goto 6, 3) := by decide +kernel
theorem dRe_both_72 : decode mRe_both.2.1 72 = .ok (.iload_n 1, 1) := by decide +kernel
theorem dRe_both_73 : decode mRe_both.2.1 73 = .ok (.iload_n 2, 1) := by decide +kernel
theorem dRe_both_74 : decode mRe_both.2.1 74 = .ok (.idiv, 1) := by decide +kernel
theorem dRe_both_75 : decode mRe_both.2.1 75 = .ok (.ireturn, 1) := by decide +kernel
theorem dRe_both_76 : decode mRe_both.2.1 76 = .ok (.iload_n 1, 1) := by decide +kernel
theorem dRe_both_77 : decode mRe_both.2.1 77 = .ok (.iload_n 2, 1) := by decide +kernel
theorem dRe_both_78 : decode mRe_both.2.1 78 = .ok (.if_icmp .ge 7, 3) := by decide +kernel
theorem dRe_both_81 : decode mRe_both.2.1 81 = .ok (.iconst 1, 1) := by decide +kernel
theorem dRe_both_82 : decode mRe_both.2.1 82 = .ok (.goto 4, 3) := by decide +kernel
theorem dRe_both_85 : decode mRe_both.2.1 85 = .ok (.iconst 0, 1) := by decide +kernel
theorem dRe_both_86 : decode mRe_both.2.1 86 = .ok (.ireturn, 1) := by decide +kernel
theorem dRe_both_87 : decode mRe_both.2.1 87 = .ok (.iload_n 1, 1) := by decide +kernel
theorem dRe_both_88 : decode mRe_both.2.1 88 = .ok (.iload_n 2, 1) := by decide +kernel
theorem dRe_both_89 : decode mRe_both.2.1 89 = .ok (.if_icmp .le 7, 3) := by decide +kernel
theorem dRe_both_92 : decode mRe_both.2.1 92 = .ok (.iconst 1, 1) := by decide +kernel
theorem dRe_both_93 : decode mRe_both.2.1 93 = .ok (.goto 4, 3) := by decide +kernel
theorem dRe_both_96 : decode mRe_both.2.1 96 = .ok (.iconst 0, 1) := by decide +kernel
theorem dRe_both_97 : decode mRe_both.2.1 97 = .ok (.ireturn, 1) := by decide +kernel
theorem dRe_both_98 : decode mRe_both.2.1 98 = .ok (.iload_n 1, 1) := by decide +kernel
theorem dRe_both_99 : decode mRe_both.2.1 99 = .ok (.iload_n 2, 1) := by decide +kernel
theorem dRe_both_100 : decode mRe_both.2.1 100 = .ok (.if_icmp .ne 7, 3) := by decide +kernel
theorem dRe_both_103 : decode mRe_both.2.1 103 = .ok (.iconst 1, 1) := by decide +kernel
theorem dRe_both_104 : decode mRe_both.2.1 104 = .ok (.goto 4, 3) := by decide +kernel
theorem dRe_both_107 : decode mRe_both.2.1 107 = .ok (.iconst 0, 1) := by decide +kernel
theorem dRe_both_108 : decode mRe_both.2.1 108 = .ok (.ireturn, 1) := by decide +kernel
theorem dRe_both_109 : decode mRe_both.2.1 109 = .ok (.iload_n 1, 1) := by decide +kernel
theorem dRe_both_110 : decode mRe_both.2.1 110 = .ok (.iload_n 2, 1) := by decide +kernel
theorem dRe_both_111 : decode mRe_both.2.1 111 = .ok (.imul, 1) := by decide +kernel
theorem dRe_both_112 : decode mRe_both.2.1 112 = .ok (.ireturn, 1) := by decide +kernel
theorem dRe_both_113 : decode mRe_both.2.1 113 = .ok (.iload_n 1, 1) := by decide +kernel
theorem dRe_both_114 : decode mRe_both.2.1 114 = .ok (.iload_n 2, 1) := by decide +kernel
theorem dRe_both_115 : decode mRe_both.2.1 115 = .ok (.iadd, 1) := by decide +kernel
theorem dRe_both_116 : decode mRe_both.2.1 116 = .ok (.ifCond .le 7, 3) := by decide +kernel
theorem dRe_both_119 : decode mRe_both.2.1 119 = .ok (.iconst 1, 1) := by decide +kernel
theorem dRe_both_120 : decode mRe_both.2.1 120 = .ok (.goto 4, 3) := by decide +kernel
theorem dRe_both_123 : decode mRe_both.2.1 123 = .ok (.iconst 0, 1) := by decide +kernel
theorem dRe_both_124 : decode mRe_both.2.1 124 = .ok (.ireturn, 1) := by decide +kernel
theorem bRe_both_0 {l : Launch} {G : Gx} {d : Nat} {bc bs : Nat} {Φ : OutV → Mm → Prop} (M : Mm) (x0 : Int32) (x1 : Int32) (x2 : Int32)
    (h : (x0 = 10 → Φ (.inl (some (.int (x1 + x2)))) M) ∧ ((x0 = 11 → Φ (.inl (some (.int (x1 - x2)))) M) ∧ ((x0 = 12 → Φ (.inl (some (.int (x1 * x2)))) M) ∧ ((x0 = 13 → (¬ x2 = 0 → (¬ x2 = 0) ∧ Φ (.inl (some (.int (x1 / x2)))) M) ∧ (x2 = 0 → Φ (.inl (some (.int 0))) M)) ∧ ((x0 = 14 → (x2 ≤ x1 → Φ (.inl (some (.int 0))) M) ∧ (¬ x2 ≤ x1 → Φ (.inl (some (.int 1))) M)) ∧ ((x0 = 15 → (x1 ≤ x2 → Φ (.inl (some (.int 0))) M) ∧ (¬ x1 ≤ x2 → Φ (.inl (some (.int 1))) M)) ∧ ((x0 = 16 → (¬ x1 = x2 → Φ (.inl (some (.int 0))) M) ∧ (x1 = x2 → Φ (.inl (some (.int 1))) M)) ∧ ((x0 = 17 → ((x1 + x2) ≤ 0 → Φ (.inl (some (.int 0))) M) ∧ (¬ (x1 + x2) ≤ 0 → Φ (.inl (some (.int 1))) M)) ∧ ((x0 = 18 → Φ (.inl (some (.int (x1 * x2)))) M) ∧ (¬ x0 = 10 → ¬ x0 = 11 → ¬ x0 = 12 → ¬ x0 = 13 → ¬ x0 = 14 → ¬ x0 = 15 → ¬ x0 = 16 → ¬ x0 = 17 → ¬ x0 = 18 → ((x1 + x2) ≤ 0 → Φ (.inl (some (.int 0))) M) ∧ (¬ (x1 + x2) ≤ 0 → Φ (.inl (some (.int 1))) M))))))))))) :
    Ev l G d mRe_both 0 [.int x0, .int x1, .int x2] [] M bc bs Φ := by
  refine Ev.iload_n dRe_both_0 rfl ?_
  skip
  by_cases c : x0 = 10
  · refine Ev.tblAt 52 dRe_both_1 (by rw [c]; decide) (by rw [c]; decide) (by rw [c]; rfl) (by decide) ?_
    replace h := h.1 c
    refine Ev.iload_n dRe_both_52 rfl ?_
    refine Ev.iload_n dRe_both_53 rfl ?_
    refine Ev.iadd dRe_both_54 ?_
    exact Ev.iret dRe_both_55 rfl rfl h
  have c1 := c
  clear c
  replace h := h.2
  by_cases c : x0 = 11
  · refine Ev.tblAt 56 dRe_both_1 (by rw [c]; decide) (by rw [c]; decide) (by rw [c]; rfl) (by decide) ?_
    replace h := h.1 c
    refine Ev.iload_n dRe_both_56 rfl ?_
    refine Ev.iload_n dRe_both_57 rfl ?_
    refine Ev.isub dRe_both_58 ?_
    exact Ev.iret dRe_both_59 rfl rfl h
  have c2 := c
  clear c
  replace h := h.2
  by_cases c : x0 = 12
  · refine Ev.tblAt 60 dRe_both_1 (by rw [c]; decide) (by rw [c]; decide) (by rw [c]; rfl) (by decide) ?_
    replace h := h.1 c
    refine Ev.iload_n dRe_both_60 rfl ?_
    refine Ev.iload_n dRe_both_61 rfl ?_
    refine Ev.imul dRe_both_62 ?_
    exact Ev.iret dRe_both_63 rfl rfl h
  have c3 := c
  clear c
  replace h := h.2
  by_cases c : x0 = 13
  · refine Ev.tblAt 64 dRe_both_1 (by rw [c]; decide) (by rw [c]; decide) (by rw [c]; rfl) (by decide) ?_
    replace h := h.1 c
    refine Ev.iload_n dRe_both_64 rfl ?_
    refine Ev.if_ne 72 (by decide) dRe_both_65 (fun c => ?_) (fun c => ?_)
    · replace h := h.1 c
      refine Ev.iload_n dRe_both_72 rfl ?_
      refine Ev.iload_n dRe_both_73 rfl ?_
      have g4 := h.1
      replace h := h.2
      refine Ev.idiv dRe_both_74 g4 ?_
      exact Ev.iret dRe_both_75 rfl rfl h
    · replace h := h.2 c
      refine Ev.iconst (v := 0) dRe_both_68 (by decide) ?_
      refine Ev.goto 75 dRe_both_69 (by decide) ?_
      exact Ev.iret dRe_both_75 rfl rfl h
  have c5 := c
  clear c
  replace h := h.2
  by_cases c : x0 = 14
  · refine Ev.tblAt 76 dRe_both_1 (by rw [c]; decide) (by rw [c]; decide) (by rw [c]; rfl) (by decide) ?_
    replace h := h.1 c
    refine Ev.iload_n dRe_both_76 rfl ?_
    refine Ev.iload_n dRe_both_77 rfl ?_
    refine Ev.icmp_ge 85 (by decide) dRe_both_78 (fun c => ?_) (fun c => ?_)
    · replace h := h.1 c
      refine Ev.iconst (v := 0) dRe_both_85 (by decide) ?_
      exact Ev.iret dRe_both_86 rfl rfl h
    · replace h := h.2 c
      refine Ev.iconst (v := 1) dRe_both_81 (by decide) ?_
      refine Ev.goto 86 dRe_both_82 (by decide) ?_
      exact Ev.iret dRe_both_86 rfl rfl h
  have c6 := c
  clear c
  replace h := h.2
  by_cases c : x0 = 15
  · refine Ev.tblAt 87 dRe_both_1 (by rw [c]; decide) (by rw [c]; decide) (by rw [c]; rfl) (by decide) ?_
    replace h := h.1 c
    refine Ev.iload_n dRe_both_87 rfl ?_
    refine Ev.iload_n dRe_both_88 rfl ?_
    refine Ev.icmp_le 96 (by decide) dRe_both_89 (fun c => ?_) (fun c => ?_)
    · replace h := h.1 c
      refine Ev.iconst (v := 0) dRe_both_96 (by decide) ?_
      exact Ev.iret dRe_both_97 rfl rfl h
    · replace h := h.2 c
      refine Ev.iconst (v := 1) dRe_both_92 (by decide) ?_
      refine Ev.goto 97 dRe_both_93 (by decide) ?_
      exact Ev.iret dRe_both_97 rfl rfl h
  have c7 := c
  clear c
  replace h := h.2
  by_cases c : x0 = 16
  · refine Ev.tblAt 98 dRe_both_1 (by rw [c]; decide) (by rw [c]; decide) (by rw [c]; rfl) (by decide) ?_
    replace h := h.1 c
    refine Ev.iload_n dRe_both_98 rfl ?_
    refine Ev.iload_n dRe_both_99 rfl ?_
    refine Ev.icmp_ne 107 (by decide) dRe_both_100 (fun c => ?_) (fun c => ?_)
    · replace h := h.1 c
      refine Ev.iconst (v := 0) dRe_both_107 (by decide) ?_
      exact Ev.iret dRe_both_108 rfl rfl h
    · replace h := h.2 c
      refine Ev.iconst (v := 1) dRe_both_103 (by decide) ?_
      refine Ev.goto 108 dRe_both_104 (by decide) ?_
      exact Ev.iret dRe_both_108 rfl rfl h
  have c8 := c
  clear c
  replace h := h.2
  by_cases c : x0 = 17
  · refine Ev.tblAt 113 dRe_both_1 (by rw [c]; decide) (by rw [c]; decide) (by rw [c]; rfl) (by decide) ?_
    replace h := h.1 c
    refine Ev.iload_n dRe_both_113 rfl ?_
    refine Ev.iload_n dRe_both_114 rfl ?_
    refine Ev.iadd dRe_both_115 ?_
    refine Ev.if_le 123 (by decide) dRe_both_116 (fun c => ?_) (fun c => ?_)
    · replace h := h.1 c
      refine Ev.iconst (v := 0) dRe_both_123 (by decide) ?_
      exact Ev.iret dRe_both_124 rfl rfl h
    · replace h := h.2 c
      refine Ev.iconst (v := 1) dRe_both_119 (by decide) ?_
      refine Ev.goto 124 dRe_both_120 (by decide) ?_
      exact Ev.iret dRe_both_124 rfl rfl h
  have c9 := c
  clear c
  replace h := h.2
  by_cases c : x0 = 18
  · refine Ev.tblAt 109 dRe_both_1 (by rw [c]; decide) (by rw [c]; decide) (by rw [c]; rfl) (by decide) ?_
    replace h := h.1 c
    refine Ev.iload_n dRe_both_109 rfl ?_
    refine Ev.iload_n dRe_both_110 rfl ?_
    refine Ev.imul dRe_both_111 ?_
    exact Ev.iret dRe_both_112 rfl rfl h
  have c10 := c
  clear c
  replace h := h.2
  refine Ev.tblOut 113 dRe_both_1 ?_ (by decide) ?_
  · have e : ∀ k : Int32, ¬ x0 = k → ¬ x0.toInt = k.toInt := fun k h1 h2 => h1 (Int32.toInt_inj.mp h2)
    have := e 10 c1
    rw [show ((10 : Int32)).toInt = 10 from rfl] at this
    have := e 11 c2
    rw [show ((11 : Int32)).toInt = 11 from rfl] at this
    have := e 12 c3
    rw [show ((12 : Int32)).toInt = 12 from rfl] at this
    have := e 13 c5
    rw [show ((13 : Int32)).toInt = 13 from rfl] at this
    have := e 14 c6
    rw [show ((14 : Int32)).toInt = 14 from rfl] at this
    have := e 15 c7
    rw [show ((15 : Int32)).toInt = 15 from rfl] at this
    have := e 16 c8
    rw [show ((16 : Int32)).toInt = 16 from rfl] at this
    have := e 17 c9
    rw [show ((17 : Int32)).toInt = 17 from rfl] at this
    have := e 18 c10
    rw [show ((18 : Int32)).toInt = 18 from rfl] at this
    omega
  · replace h := h c1 c2 c3 c5 c6 c7 c8 c9 c10
    refine Ev.iload_n dRe_both_113 rfl ?_
    refine Ev.iload_n dRe_both_114 rfl ?_
    refine Ev.iadd dRe_both_115 ?_
    refine Ev.if_le 123 (by decide) dRe_both_116 (fun c => ?_) (fun c => ?_)
    · replace h := h.1 c
      refine Ev.iconst (v := 0) dRe_both_123 (by decide) ?_
      exact Ev.iret dRe_both_124 rfl rfl h
    · replace h := h.2 c
      refine Ev.iconst (v := 1) dRe_both_119 (by decide) ?_
      refine Ev.goto 124 dRe_both_120 (by decide) ?_
      exact Ev.iret dRe_both_124 rfl rfl h
def mRe_worth : MR := (⟨"BowingRowModel", "worth", "(III)I"⟩, prog_14_method_48_code, 4, (Option.some .int))
theorem oRe_worth : MOK mRe_worth 3 := ⟨lwg_of 1652 (by decide +kernel) (by decide +kernel), lwg_of 103 (by decide +kernel) (by decide +kernel), ⟨by decide +kernel, by decide +kernel⟩, by decide +kernel, by decide⟩
theorem iRe_worth : Cond.instanceMethod mRe_worth.1 ∈ lwg := lwg_of 1650 (by decide +kernel) (by decide +kernel)
theorem sRe_worth : Cond.selects mRe_worth.1.cls mRe_worth.1 mRe_worth.1 ∈ lwg := lwg_of 1651 (by decide +kernel) (by decide +kernel)
theorem dRe_worth_0 : decode mRe_worth.2.1 0 = .ok (.aload_n 0, 1) := by decide +kernel
theorem dRe_worth_1 : decode mRe_worth.2.1 1 = .ok (.iconst 0, 1) := by decide +kernel
theorem dRe_worth_2 : decode mRe_worth.2.1 2 = .ok (.putfield 115, 3) := by decide +kernel
theorem dRe_worth_5 : decode mRe_worth.2.1 5 = .ok (.aload_n 0, 1) := by decide +kernel
theorem dRe_worth_6 : decode mRe_worth.2.1 6 = .ok (.aload_n 0, 1) := by decide +kernel
theorem dRe_worth_7 : decode mRe_worth.2.1 7 = .ok (.iload_n 1, 1) := by decide +kernel
theorem dRe_worth_8 : decode mRe_worth.2.1 8 = .ok (.invokevirtual 285, 3) := by decide +kernel
theorem dRe_worth_11 : decode mRe_worth.2.1 11 = .ok (.ifCond .eq 11, 3) := by decide +kernel
theorem dRe_worth_14 : decode mRe_worth.2.1 14 = .ok (.aload_n 0, 1) := by decide +kernel
theorem dRe_worth_15 : decode mRe_worth.2.1 15 = .ok (.iload_n 2, 1) := by decide +kernel
theorem dRe_worth_16 : decode mRe_worth.2.1 16 = .ok (.invokevirtual 285, 3) := by decide +kernel
theorem dRe_worth_19 : decode mRe_worth.2.1 19 = .ok (.ifCond .ne 7, 3) := by decide +kernel
theorem dRe_worth_22 : decode mRe_worth.2.1 22 = .ok (.iconst 1, 1) := by decide +kernel
theorem dRe_worth_23 : decode mRe_worth.2.1 23 = .ok (.goto 4, 3) := by decide +kernel
theorem dRe_worth_26 : decode mRe_worth.2.1 26 = .ok (.iconst 0, 1) := by decide +kernel
theorem dRe_worth_27 : decode mRe_worth.2.1 27 = .ok (.iconst 1, 1) := by decide +kernel
theorem dRe_worth_28 : decode mRe_worth.2.1 28 = .ok (.invokevirtual 196, 3) := by decide +kernel
theorem dRe_worth_31 : decode mRe_worth.2.1 31 = .ok (.ifCond .ne 31, 3) := by decide +kernel
theorem dRe_worth_34 : decode mRe_worth.2.1 34 = .ok (.aload_n 0, 1) := by decide +kernel
theorem dRe_worth_35 : decode mRe_worth.2.1 35 = .ok (.iload_n 1, 1) := by decide +kernel
theorem dRe_worth_36 : decode mRe_worth.2.1 36 = .ok (.iload_n 2, 1) := by decide +kernel
theorem dRe_worth_37 : decode mRe_worth.2.1 37 = .ok (.if_icmp .eq 13, 3) := by decide +kernel
theorem dRe_worth_40 : decode mRe_worth.2.1 40 = .ok (.iload_n 3, 1) := by decide +kernel
theorem dRe_worth_41 : decode mRe_worth.2.1 41 = .ok (.iconst 0, 1) := by decide +kernel
theorem dRe_worth_42 : decode mRe_worth.2.1 42 = .ok (.bipush 16, 2) := by decide +kernel
theorem dRe_worth_44 : decode mRe_worth.2.1 44 = .ok (.invokestatic 149, 3) := by decide +kernel
theorem dRe_worth_47 : decode mRe_worth.2.1 47 = .ok (.ifCond .ne 7, 3) := by decide +kernel
theorem dRe_worth_50 : decode mRe_worth.2.1 50 = .ok (.iconst 1, 1) := by decide +kernel
theorem dRe_worth_51 : decode mRe_worth.2.1 51 = .ok (.goto 4, 3) := by decide +kernel
theorem dRe_worth_54 : decode mRe_worth.2.1 54 = .ok (.iconst 0, 1) := by decide +kernel
theorem dRe_worth_55 : decode mRe_worth.2.1 55 = .ok (.iconst 2, 1) := by decide +kernel
theorem dRe_worth_56 : decode mRe_worth.2.1 56 = .ok (.invokevirtual 196, 3) := by decide +kernel
theorem dRe_worth_59 : decode mRe_worth.2.1 59 = .ok (.ifCond .eq 5, 3) := by decide +kernel
theorem dRe_worth_62 : decode mRe_worth.2.1 62 = .ok (.iconst 0, 1) := by decide +kernel
theorem dRe_worth_63 : decode mRe_worth.2.1 63 = .ok (.ireturn, 1) := by decide +kernel
theorem dRe_worth_64 : decode mRe_worth.2.1 64 = .ok (.aload_n 0, 1) := by decide +kernel
theorem dRe_worth_65 : decode mRe_worth.2.1 65 = .ok (.invokevirtual 278, 3) := by decide +kernel
theorem dRe_worth_68 : decode mRe_worth.2.1 68 = .ok (.aload_n 0, 1) := by decide +kernel
theorem dRe_worth_69 : decode mRe_worth.2.1 69 = .ok (.iload_n 1, 1) := by decide +kernel
theorem dRe_worth_70 : decode mRe_worth.2.1 70 = .ok (.iload_n 2, 1) := by decide +kernel
theorem dRe_worth_71 : decode mRe_worth.2.1 71 = .ok (.iload_n 3, 1) := by decide +kernel
theorem dRe_worth_72 : decode mRe_worth.2.1 72 = .ok (.invokevirtual 298, 3) := by decide +kernel
theorem dRe_worth_75 : decode mRe_worth.2.1 75 = .ok (.ireturn, 1) := by decide +kernel
theorem bRe_worth_0 {l : Launch} {G : Gx} {d : Nat} {bc bs : Nat} {Φ : OutV → Mm → Prop} (M : Mm) (a0 : Nat) (x1 : Int32) (x2 : Int32) (x3 : Int32)
    (h : ((m_sh M a0).1 = 11) ∧ CallVC l G d mRe_worth 11 [.ref a0, .int x1, .int x2, .int x3] [.ref a0] mRe_isPerson [.ref a0, .int x1] (m_si M a0 0 0) bc bs Φ) :
    Ev l G d mRe_worth 0 [.ref a0, .int x1, .int x2, .int x3] [] M bc bs Φ := by
  refine Ev.aload_n dRe_worth_0 rfl ?_
  refine Ev.iconst (v := 0) dRe_worth_1 (by decide) ?_
  have g1 := h.1
  replace h := h.2
  refine Ev.putI dRe_worth_2 ⟨_, Or.inl ⟨fRe_115, (fun h => by cases h)⟩⟩ rfl ⟨rfl, rfl⟩ g1 ?_
  refine Ev.aload_n dRe_worth_5 rfl ?_
  refine Ev.aload_n dRe_worth_6 rfl ?_
  refine Ev.iload_n dRe_worth_7 rfl ?_
  exact Ev.vcV (z := mRe_isPerson) (ci := 11) [.int x1] [.ref a0] rfl dRe_worth_8 oRe_isPerson rfl w1618 iRe_isPerson sRe_isPerson (by decide) rfl g1 (Nat.le_of_ble_eq_true rfl) h
theorem bRe_worth_11 {l : Launch} {G : Gx} {d : Nat} {bc bs : Nat} {Φ : OutV → Mm → Prop} (M : Mm) (a0 : Nat) (x1 : Int32) (x2 : Int32) (x3 : Int32) (r0 : Nat) (s1 : Int32)
    (h : (s1 = 0 → ((m_sh M r0).1 = 11) ∧ CallVC l G d mRe_worth 31 [.ref a0, .int x1, .int x2, .int x3] [] mRe_bad [.ref r0, .int 1, .int 1] M bc bs Φ) ∧ (¬ s1 = 0 → ((m_sh M a0).1 = 11) ∧ CallVC l G d mRe_worth 19 [.ref a0, .int x1, .int x2, .int x3] [.ref r0] mRe_isPerson [.ref a0, .int x2] M bc bs Φ)) :
    Ev l G d mRe_worth 11 [.ref a0, .int x1, .int x2, .int x3] [.int s1, .ref r0] M bc bs Φ := by
  refine Ev.if_eq 22 (by decide) dRe_worth_11 (fun c => ?_) (fun c => ?_)
  · replace h := h.1 c
    refine Ev.iconst (v := 1) dRe_worth_22 (by decide) ?_
    refine Ev.goto 27 dRe_worth_23 (by decide) ?_
    refine Ev.iconst (v := 1) dRe_worth_27 (by decide) ?_
    have g1 := h.1
    replace h := h.2
    exact Ev.vcV (z := mRe_bad) (ci := 11) [.int 1, .int 1] [] rfl dRe_worth_28 oRe_bad rfl w1479 iRe_bad sRe_bad (by decide) rfl g1 (Nat.le_of_ble_eq_true rfl) h
  · replace h := h.2 c
    refine Ev.aload_n dRe_worth_14 rfl ?_
    refine Ev.iload_n dRe_worth_15 rfl ?_
    have g2 := h.1
    replace h := h.2
    exact Ev.vcV (z := mRe_isPerson) (ci := 11) [.int x2] [.ref r0] rfl dRe_worth_16 oRe_isPerson rfl w1618 iRe_isPerson sRe_isPerson (by decide) rfl g2 (Nat.le_of_ble_eq_true rfl) h
theorem bRe_worth_19 {l : Launch} {G : Gx} {d : Nat} {bc bs : Nat} {Φ : OutV → Mm → Prop} (M : Mm) (a0 : Nat) (x1 : Int32) (x2 : Int32) (x3 : Int32) (r0 : Nat) (s1 : Int32)
    (h : (¬ s1 = 0 → ((m_sh M r0).1 = 11) ∧ CallVC l G d mRe_worth 31 [.ref a0, .int x1, .int x2, .int x3] [] mRe_bad [.ref r0, .int 0, .int 1] M bc bs Φ) ∧ (s1 = 0 → ((m_sh M r0).1 = 11) ∧ CallVC l G d mRe_worth 31 [.ref a0, .int x1, .int x2, .int x3] [] mRe_bad [.ref r0, .int 1, .int 1] M bc bs Φ)) :
    Ev l G d mRe_worth 19 [.ref a0, .int x1, .int x2, .int x3] [.int s1, .ref r0] M bc bs Φ := by
  refine Ev.if_ne 26 (by decide) dRe_worth_19 (fun c => ?_) (fun c => ?_)
  · replace h := h.1 c
    refine Ev.iconst (v := 0) dRe_worth_26 (by decide) ?_
    refine Ev.iconst (v := 1) dRe_worth_27 (by decide) ?_
    have g1 := h.1
    replace h := h.2
    exact Ev.vcV (z := mRe_bad) (ci := 11) [.int 0, .int 1] [] rfl dRe_worth_28 oRe_bad rfl w1479 iRe_bad sRe_bad (by decide) rfl g1 (Nat.le_of_ble_eq_true rfl) h
  · replace h := h.2 c
    refine Ev.iconst (v := 1) dRe_worth_22 (by decide) ?_
    refine Ev.goto 27 dRe_worth_23 (by decide) ?_
    refine Ev.iconst (v := 1) dRe_worth_27 (by decide) ?_
    have g2 := h.1
    replace h := h.2
    exact Ev.vcV (z := mRe_bad) (ci := 11) [.int 1, .int 1] [] rfl dRe_worth_28 oRe_bad rfl w1479 iRe_bad sRe_bad (by decide) rfl g2 (Nat.le_of_ble_eq_true rfl) h
theorem bRe_worth_31 {l : Launch} {G : Gx} {d : Nat} {bc bs : Nat} {Φ : OutV → Mm → Prop} (M : Mm) (a0 : Nat) (x1 : Int32) (x2 : Int32) (x3 : Int32) (s0 : Int32)
    (h : (¬ s0 = 0 → Φ (.inl (some (.int 0))) M) ∧ (s0 = 0 → (x1 = x2 → ((m_sh M a0).1 = 11) ∧ CallVC l G d mRe_worth 59 [.ref a0, .int x1, .int x2, .int x3] [] mRe_bad [.ref a0, .int 1, .int 2] M bc bs Φ) ∧ (¬ x1 = x2 → CallVC l G d mRe_worth 47 [.ref a0, .int x1, .int x2, .int x3] [.ref a0] mRe_in [.int x3, .int 0, .int 16] M bc bs Φ))) :
    Ev l G d mRe_worth 31 [.ref a0, .int x1, .int x2, .int x3] [.int s0] M bc bs Φ := by
  refine Ev.if_ne 62 (by decide) dRe_worth_31 (fun c => ?_) (fun c => ?_)
  · replace h := h.1 c
    refine Ev.iconst (v := 0) dRe_worth_62 (by decide) ?_
    exact Ev.iret dRe_worth_63 rfl rfl h
  · replace h := h.2 c
    refine Ev.aload_n dRe_worth_34 rfl ?_
    refine Ev.iload_n dRe_worth_35 rfl ?_
    refine Ev.iload_n dRe_worth_36 rfl ?_
    refine Ev.icmp_eq 50 (by decide) dRe_worth_37 (fun c => ?_) (fun c => ?_)
    · replace h := h.1 c
      refine Ev.iconst (v := 1) dRe_worth_50 (by decide) ?_
      refine Ev.goto 55 dRe_worth_51 (by decide) ?_
      refine Ev.iconst (v := 2) dRe_worth_55 (by decide) ?_
      have g1 := h.1
      replace h := h.2
      exact Ev.vcV (z := mRe_bad) (ci := 11) [.int 1, .int 2] [] rfl dRe_worth_56 oRe_bad rfl w1479 iRe_bad sRe_bad (by decide) rfl g1 (Nat.le_of_ble_eq_true rfl) h
    · replace h := h.2 c
      refine Ev.iload_n dRe_worth_40 rfl ?_
      refine Ev.iconst (v := 0) dRe_worth_41 (by decide) ?_
      refine Ev.bipush (v := 16) dRe_worth_42 (by decide) ?_
      exact Ev.vcS (z := mRe_in) [.int x3, .int 0, .int 16] [.ref a0] rfl dRe_worth_44 oRe_in rfl w1476 iRe_in (Nat.le_of_ble_eq_true rfl) h
theorem bRe_worth_47 {l : Launch} {G : Gx} {d : Nat} {bc bs : Nat} {Φ : OutV → Mm → Prop} (M : Mm) (a0 : Nat) (x1 : Int32) (x2 : Int32) (x3 : Int32) (r0 : Nat) (s1 : Int32)
    (h : (¬ s1 = 0 → ((m_sh M r0).1 = 11) ∧ CallVC l G d mRe_worth 59 [.ref a0, .int x1, .int x2, .int x3] [] mRe_bad [.ref r0, .int 0, .int 2] M bc bs Φ) ∧ (s1 = 0 → ((m_sh M r0).1 = 11) ∧ CallVC l G d mRe_worth 59 [.ref a0, .int x1, .int x2, .int x3] [] mRe_bad [.ref r0, .int 1, .int 2] M bc bs Φ)) :
    Ev l G d mRe_worth 47 [.ref a0, .int x1, .int x2, .int x3] [.int s1, .ref r0] M bc bs Φ := by
  refine Ev.if_ne 54 (by decide) dRe_worth_47 (fun c => ?_) (fun c => ?_)
  · replace h := h.1 c
    refine Ev.iconst (v := 0) dRe_worth_54 (by decide) ?_
    refine Ev.iconst (v := 2) dRe_worth_55 (by decide) ?_
    have g1 := h.1
    replace h := h.2
    exact Ev.vcV (z := mRe_bad) (ci := 11) [.int 0, .int 2] [] rfl dRe_worth_56 oRe_bad rfl w1479 iRe_bad sRe_bad (by decide) rfl g1 (Nat.le_of_ble_eq_true rfl) h
  · replace h := h.2 c
    refine Ev.iconst (v := 1) dRe_worth_50 (by decide) ?_
    refine Ev.goto 55 dRe_worth_51 (by decide) ?_
    refine Ev.iconst (v := 2) dRe_worth_55 (by decide) ?_
    have g2 := h.1
    replace h := h.2
    exact Ev.vcV (z := mRe_bad) (ci := 11) [.int 1, .int 2] [] rfl dRe_worth_56 oRe_bad rfl w1479 iRe_bad sRe_bad (by decide) rfl g2 (Nat.le_of_ble_eq_true rfl) h
theorem bRe_worth_59 {l : Launch} {G : Gx} {d : Nat} {bc bs : Nat} {Φ : OutV → Mm → Prop} (M : Mm) (a0 : Nat) (x1 : Int32) (x2 : Int32) (x3 : Int32) (s0 : Int32)
    (h : (s0 = 0 → ((m_sh M a0).1 = 11) ∧ CallVC l G d mRe_worth 68 [.ref a0, .int x1, .int x2, .int x3] [] mRe_layRules [.ref a0] M bc bs Φ) ∧ (¬ s0 = 0 → Φ (.inl (some (.int 0))) M)) :
    Ev l G d mRe_worth 59 [.ref a0, .int x1, .int x2, .int x3] [.int s0] M bc bs Φ := by
  refine Ev.if_eq 64 (by decide) dRe_worth_59 (fun c => ?_) (fun c => ?_)
  · replace h := h.1 c
    refine Ev.aload_n dRe_worth_64 rfl ?_
    have g1 := h.1
    replace h := h.2
    exact Ev.vcV (z := mRe_layRules) (ci := 11) [] [] rfl dRe_worth_65 oRe_layRules rfl w1606 iRe_layRules sRe_layRules (by decide) rfl g1 (Nat.le_of_ble_eq_true rfl) h
  · replace h := h.2 c
    refine Ev.iconst (v := 0) dRe_worth_62 (by decide) ?_
    exact Ev.iret dRe_worth_63 rfl rfl h
def mRe_worthOf : MR := (⟨"BowingRowModel", "worthOf", "(III)I"⟩, prog_14_method_46_code, 5, (Option.some .int))
theorem oRe_worthOf : MOK mRe_worthOf 3 := ⟨lwg_of 1656 (by decide +kernel) (by decide +kernel), lwg_of 103 (by decide +kernel) (by decide +kernel), ⟨by decide +kernel, by decide +kernel⟩, by decide +kernel, by decide⟩
theorem iRe_worthOf : Cond.instanceMethod mRe_worthOf.1 ∈ lwg := lwg_of 1655 (by decide +kernel) (by decide +kernel)
theorem sRe_worthOf : Cond.selects mRe_worthOf.1.cls mRe_worthOf.1 mRe_worthOf.1 ∈ lwg := lwg_of 69 (by decide +kernel) (by decide +kernel)
theorem w1653 : Cond.methodLink "BowingRowModel" 298 ⟨"BowingRowModel", "worthOf", "(III)I"⟩ ∈ lwg := lwg_of 1653 (by decide +kernel) (by decide +kernel)
theorem bRe_worth_68 {l : Launch} {G : Gx} {d : Nat} {bc bs : Nat} {Φ : OutV → Mm → Prop} (M : Mm) (a0 : Nat) (x1 : Int32) (x2 : Int32) (x3 : Int32)
    (h : ((m_sh M a0).1 = 11) ∧ CallVC l G d mRe_worth 75 [.ref a0, .int x1, .int x2, .int x3] [] mRe_worthOf [.ref a0, .int x1, .int x2, .int x3] M bc bs Φ) :
    Ev l G d mRe_worth 68 [.ref a0, .int x1, .int x2, .int x3] [] M bc bs Φ := by
  refine Ev.aload_n dRe_worth_68 rfl ?_
  refine Ev.iload_n dRe_worth_69 rfl ?_
  refine Ev.iload_n dRe_worth_70 rfl ?_
  refine Ev.iload_n dRe_worth_71 rfl ?_
  have g1 := h.1
  replace h := h.2
  exact Ev.vcV (z := mRe_worthOf) (ci := 11) [.int x1, .int x2, .int x3] [] rfl dRe_worth_72 oRe_worthOf rfl w1653 iRe_worthOf sRe_worthOf (by decide) rfl g1 (Nat.le_of_ble_eq_true rfl) h
theorem bRe_worth_75 {l : Launch} {G : Gx} {d : Nat} {bc bs : Nat} {Φ : OutV → Mm → Prop} (M : Mm) (a0 : Nat) (x1 : Int32) (x2 : Int32) (x3 : Int32) (s0 : Int32)
    (h : Φ (.inl (some (.int s0))) M) :
    Ev l G d mRe_worth 75 [.ref a0, .int x1, .int x2, .int x3] [.int s0] M bc bs Φ := by
  exact Ev.iret dRe_worth_75 rfl rfl h
theorem dRe_worthOf_0 : decode mRe_worthOf.2.1 0 = .ok (.aload_n 0, 1) := by decide +kernel
theorem dRe_worthOf_1 : decode mRe_worthOf.2.1 1 = .ok (.iload_n 1, 1) := by decide +kernel
theorem dRe_worthOf_2 : decode mRe_worthOf.2.1 2 = .ok (.iload_n 2, 1) := by decide +kernel
theorem dRe_worthOf_3 : decode mRe_worthOf.2.1 3 = .ok (.iload_n 3, 1) := by decide +kernel
theorem dRe_worthOf_4 : decode mRe_worthOf.2.1 4 = .ok (.invokevirtual 288, 3) := by decide +kernel
theorem dRe_worthOf_7 : decode mRe_worthOf.2.1 7 = .ok (.aload_n 0, 1) := by decide +kernel
theorem dRe_worthOf_8 : decode mRe_worthOf.2.1 8 = .ok (.getfield 61, 3) := by decide +kernel
theorem dRe_worthOf_11 : decode mRe_worthOf.2.1 11 = .ok (.bipush 6, 2) := by decide +kernel
theorem dRe_worthOf_13 : decode mRe_worthOf.2.1 13 = .ok (.iaload, 1) := by decide +kernel
theorem dRe_worthOf_14 : decode mRe_worthOf.2.1 14 = .ok (.iconst (-1), 1) := by decide +kernel
theorem dRe_worthOf_15 : decode mRe_worthOf.2.1 15 = .ok (.if_icmp .ne 7, 3) := by decide +kernel
theorem dRe_worthOf_18 : decode mRe_worthOf.2.1 18 = .ok (.iconst 1, 1) := by decide +kernel
theorem dRe_worthOf_19 : decode mRe_worthOf.2.1 19 = .ok (.goto 14, 3) := by decide +kernel
theorem dRe_worthOf_22 : decode mRe_worthOf.2.1 22 = .ok (.aload_n 0, 1) := by decide +kernel
theorem dRe_worthOf_23 : decode mRe_worthOf.2.1 23 = .ok (.aload_n 0, 1) := by decide +kernel
theorem dRe_worthOf_24 : decode mRe_worthOf.2.1 24 = .ok (.getfield 61, 3) := by decide +kernel
theorem dRe_worthOf_27 : decode mRe_worthOf.2.1 27 = .ok (.bipush 6, 2) := by decide +kernel
theorem dRe_worthOf_29 : decode mRe_worthOf.2.1 29 = .ok (.iaload, 1) := by decide +kernel
theorem dRe_worthOf_30 : decode mRe_worthOf.2.1 30 = .ok (.invokevirtual 292, 3) := by decide +kernel
theorem dRe_worthOf_33 : decode mRe_worthOf.2.1 33 = .ok (.istore 4, 2) := by decide +kernel
theorem dRe_worthOf_35 : decode mRe_worthOf.2.1 35 = .ok (.iload 4, 2) := by decide +kernel
theorem dRe_worthOf_37 : decode mRe_worthOf.2.1 37 = .ok (.ifCond .ge 7, 3) := by decide +kernel
theorem dRe_worthOf_40 : decode mRe_worthOf.2.1 40 = .ok (.iconst 0, 1) := by decide +kernel
theorem dRe_worthOf_41 : decode mRe_worthOf.2.1 41 = .ok (.goto 17, 3) := by decide +kernel
theorem dRe_worthOf_44 : decode mRe_worthOf.2.1 44 = .ok (.iload 4, 2) := by decide +kernel
theorem dRe_worthOf_46 : decode mRe_worthOf.2.1 46 = .ok (.bipush 99, 2) := by decide +kernel
theorem dRe_worthOf_48 : decode mRe_worthOf.2.1 48 = .ok (.if_icmp .le 8, 3) := by decide +kernel
theorem dRe_worthOf_51 : decode mRe_worthOf.2.1 51 = .ok (.bipush 99, 2) := by decide +kernel
theorem dRe_worthOf_53 : decode mRe_worthOf.2.1 53 = .ok (.goto 5, 3) := by decide +kernel
theorem dRe_worthOf_56 : decode mRe_worthOf.2.1 56 = .ok (.iload 4, 2) := by decide +kernel
theorem dRe_worthOf_58 : decode mRe_worthOf.2.1 58 = .ok (.ireturn, 1) := by decide +kernel
theorem bRe_worthOf_0 {l : Launch} {G : Gx} {d : Nat} {bc bs : Nat} {Φ : OutV → Mm → Prop} (M : Mm) (a0 : Nat) (x1 : Int32) (x2 : Int32) (x3 : Int32)
    (h : ((m_sh M a0).1 = 11) ∧ CallVC l G d mRe_worthOf 7 [.ref a0, .int x1, .int x2, .int x3, .null] [] mRe_layNames [.ref a0, .int x1, .int x2, .int x3] M bc bs Φ) :
    Ev l G d mRe_worthOf 0 [.ref a0, .int x1, .int x2, .int x3, .null] [] M bc bs Φ := by
  refine Ev.aload_n dRe_worthOf_0 rfl ?_
  refine Ev.iload_n dRe_worthOf_1 rfl ?_
  refine Ev.iload_n dRe_worthOf_2 rfl ?_
  refine Ev.iload_n dRe_worthOf_3 rfl ?_
  have g1 := h.1
  replace h := h.2
  exact Ev.vcV (z := mRe_layNames) (ci := 11) [.int x1, .int x2, .int x3] [] rfl dRe_worthOf_4 oRe_layNames rfl w1638 iRe_layNames sRe_layNames (by decide) rfl g1 (Nat.le_of_ble_eq_true rfl) h
theorem bRe_worthOf_7 {l : Launch} {G : Gx} {d : Nat} {bc bs : Nat} {Φ : OutV → Mm → Prop} (M : Mm) (a0 : Nat) (x1 : Int32) (x2 : Int32) (x3 : Int32) (u4 : Value)
    (h : ((m_sh M a0).1 = 11) ∧ ((m_sh M (m_r M a0 31)).1 = 20) ∧ (vp_in 6 (m_sh M (m_r M a0 31)).2) ∧ (¬ (m_i M (m_r M a0 31) (6 : Int32).toNatClampNeg) = ((-1)) → CallVC l G d mRe_worthOf 33 [.ref a0, .int x1, .int x2, .int x3, u4] [] mRe_comes [.ref a0, .int (m_i M (m_r M a0 31) (6 : Int32).toNatClampNeg)] M bc bs Φ) ∧ ((m_i M (m_r M a0 31) (6 : Int32).toNatClampNeg) = ((-1)) → Ev l G d mRe_worthOf 33 [.ref a0, .int x1, .int x2, .int x3, u4] [.int 1] M bc bs Φ)) :
    Ev l G d mRe_worthOf 7 [.ref a0, .int x1, .int x2, .int x3, u4] [] M bc bs Φ := by
  refine Ev.aload_n dRe_worthOf_7 rfl ?_
  have g1 := h.1
  replace h := h.2
  refine Ev.getR dRe_worthOf_8 (Or.inl fRe_61) rfl g1 ?_
  refine Ev.bipush (v := 6) dRe_worthOf_11 (by decide) ?_
  have g2 := h.1
  replace h := h.2
  have g3 := h.1
  replace h := h.2
  refine Ev.iald2 dRe_worthOf_13 g2 g3 ?_
  refine Ev.iconst (v := (-1)) dRe_worthOf_14 (by decide) ?_
  refine Ev.icmp_ne 22 (by decide) dRe_worthOf_15 (fun c => ?_) (fun c => ?_)
  · replace h := h.1 c
    refine Ev.aload_n dRe_worthOf_22 rfl ?_
    refine Ev.aload_n dRe_worthOf_23 rfl ?_
    refine Ev.getR dRe_worthOf_24 (Or.inl fRe_61) rfl g1 ?_
    refine Ev.bipush (v := 6) dRe_worthOf_27 (by decide) ?_
    refine Ev.iald2 dRe_worthOf_29 g2 g3 ?_
    exact Ev.vcV (z := mRe_comes) (ci := 11) [.int (m_i M (m_r M a0 31) (6 : Int32).toNatClampNeg)] [] rfl dRe_worthOf_30 oRe_comes rfl w1642 iRe_comes sRe_comes (by decide) rfl g1 (Nat.le_of_ble_eq_true rfl) h
  · replace h := h.2 c
    refine Ev.iconst (v := 1) dRe_worthOf_18 (by decide) ?_
    refine Ev.goto 33 dRe_worthOf_19 (by decide) ?_
    exact h
theorem bRe_worthOf_33 {l : Launch} {G : Gx} {d : Nat} {bc bs : Nat} {Φ : OutV → Mm → Prop} (M : Mm) (a0 : Nat) (x1 : Int32) (x2 : Int32) (x3 : Int32) (u4 : Value) (s0 : Int32)
    (h : (0 ≤ s0 → (s0 ≤ 99 → Φ (.inl (some (.int s0))) M) ∧ (¬ s0 ≤ 99 → Φ (.inl (some (.int 99))) M)) ∧ (¬ 0 ≤ s0 → Φ (.inl (some (.int 0))) M)) :
    Ev l G d mRe_worthOf 33 [.ref a0, .int x1, .int x2, .int x3, u4] [.int s0] M bc bs Φ := by
  refine Ev.istore dRe_worthOf_33 (by decide) ?_
  show Ev l G d mRe_worthOf (_ + _) [.ref a0, .int x1, .int x2, .int x3, .int s0] [] M bc bs Φ
  refine Ev.iload dRe_worthOf_35 rfl ?_
  refine Ev.if_ge 44 (by decide) dRe_worthOf_37 (fun c => ?_) (fun c => ?_)
  · replace h := h.1 c
    refine Ev.iload dRe_worthOf_44 rfl ?_
    refine Ev.bipush (v := 99) dRe_worthOf_46 (by decide) ?_
    refine Ev.icmp_le 56 (by decide) dRe_worthOf_48 (fun c => ?_) (fun c => ?_)
    · replace h := h.1 c
      refine Ev.iload dRe_worthOf_56 rfl ?_
      exact Ev.iret dRe_worthOf_58 rfl rfl h
    · replace h := h.2 c
      refine Ev.bipush (v := 99) dRe_worthOf_51 (by decide) ?_
      refine Ev.goto 58 dRe_worthOf_53 (by decide) ?_
      exact Ev.iret dRe_worthOf_58 rfl rfl h
  · replace h := h.2 c
    refine Ev.iconst (v := 0) dRe_worthOf_40 (by decide) ?_
    refine Ev.goto 58 dRe_worthOf_41 (by decide) ?_
    exact Ev.iret dRe_worthOf_58 rfl rfl h
def mRe_day : MR := (⟨"BowingRowModel", "day", "(I)I"⟩, prog_14_method_60_code, 6, (Option.some .int))
theorem oRe_day : MOK mRe_day 1 := ⟨lwg_of 1660 (by decide +kernel) (by decide +kernel), lwg_of 103 (by decide +kernel) (by decide +kernel), ⟨by decide +kernel, by decide +kernel⟩, by decide +kernel, by decide⟩
theorem iRe_day : Cond.instanceMethod mRe_day.1 ∈ lwg := lwg_of 1658 (by decide +kernel) (by decide +kernel)
theorem sRe_day : Cond.selects mRe_day.1.cls mRe_day.1 mRe_day.1 ∈ lwg := lwg_of 1659 (by decide +kernel) (by decide +kernel)
theorem dRe_day_0 : decode mRe_day.2.1 0 = .ok (.aload_n 0, 1) := by decide +kernel
theorem dRe_day_1 : decode mRe_day.2.1 1 = .ok (.iconst 0, 1) := by decide +kernel
theorem dRe_day_2 : decode mRe_day.2.1 2 = .ok (.putfield 115, 3) := by decide +kernel
theorem dRe_day_5 : decode mRe_day.2.1 5 = .ok (.aload_n 0, 1) := by decide +kernel
theorem dRe_day_6 : decode mRe_day.2.1 6 = .ok (.iload_n 1, 1) := by decide +kernel
theorem dRe_day_7 : decode mRe_day.2.1 7 = .ok (.iconst 0, 1) := by decide +kernel
theorem dRe_day_8 : decode mRe_day.2.1 8 = .ok (.bipush 6, 2) := by decide +kernel
theorem dRe_day_10 : decode mRe_day.2.1 10 = .ok (.invokestatic 149, 3) := by decide +kernel
theorem dRe_day_13 : decode mRe_day.2.1 13 = .ok (.ifCond .ne 7, 3) := by decide +kernel
theorem dRe_day_16 : decode mRe_day.2.1 16 = .ok (.iconst 1, 1) := by decide +kernel
theorem dRe_day_17 : decode mRe_day.2.1 17 = .ok (.goto 4, 3) := by decide +kernel
theorem dRe_day_20 : decode mRe_day.2.1 20 = .ok (.iconst 0, 1) := by decide +kernel
theorem dRe_day_21 : decode mRe_day.2.1 21 = .ok (.iconst 1, 1) := by decide +kernel
theorem dRe_day_22 : decode mRe_day.2.1 22 = .ok (.invokevirtual 196, 3) := by decide +kernel
theorem dRe_day_25 : decode mRe_day.2.1 25 = .ok (.ifCond .eq 5, 3) := by decide +kernel
theorem dRe_day_28 : decode mRe_day.2.1 28 = .ok (.iconst 0, 1) := by decide +kernel
theorem dRe_day_29 : decode mRe_day.2.1 29 = .ok (.ireturn, 1) := by decide +kernel
theorem dRe_day_30 : decode mRe_day.2.1 30 = .ok (.aload_n 0, 1) := by decide +kernel
theorem dRe_day_31 : decode mRe_day.2.1 31 = .ok (.invokevirtual 362, 3) := by decide +kernel
theorem dRe_day_34 : decode mRe_day.2.1 34 = .ok (.iconst 0, 1) := by decide +kernel
theorem dRe_day_35 : decode mRe_day.2.1 35 = .ok (.istore_n 2, 1) := by decide +kernel
theorem dRe_day_36 : decode mRe_day.2.1 36 = .ok (.iconst 0, 1) := by decide +kernel
theorem dRe_day_37 : decode mRe_day.2.1 37 = .ok (.istore_n 3, 1) := by decide +kernel
theorem dRe_day_38 : decode mRe_day.2.1 38 = .ok (.iconst 0, 1) := by decide +kernel
theorem dRe_day_39 : decode mRe_day.2.1 39 = .ok (.istore 4, 2) := by decide +kernel
theorem dRe_day_41 : decode mRe_day.2.1 41 = .ok (.iconst 0, 1) := by decide +kernel
theorem dRe_day_42 : decode mRe_day.2.1 42 = .ok (.istore 5, 2) := by decide +kernel
theorem dRe_day_44 : decode mRe_day.2.1 44 = .ok (.iload 5, 2) := by decide +kernel
theorem dRe_day_46 : decode mRe_day.2.1 46 = .ok (.aload_n 0, 1) := by decide +kernel
theorem dRe_day_47 : decode mRe_day.2.1 47 = .ok (.getfield 307, 3) := by decide +kernel
theorem dRe_day_50 : decode mRe_day.2.1 50 = .ok (.if_icmp .ge 64, 3) := by decide +kernel
theorem dRe_day_53 : decode mRe_day.2.1 53 = .ok (.iload_n 2, 1) := by decide +kernel
theorem dRe_day_54 : decode mRe_day.2.1 54 = .ok (.aload_n 0, 1) := by decide +kernel
theorem dRe_day_55 : decode mRe_day.2.1 55 = .ok (.getfield 73, 3) := by decide +kernel
theorem dRe_day_58 : decode mRe_day.2.1 58 = .ok (.iload 5, 2) := by decide +kernel
theorem dRe_day_60 : decode mRe_day.2.1 60 = .ok (.iaload, 1) := by decide +kernel
theorem dRe_day_61 : decode mRe_day.2.1 61 = .ok (.iconst (-1), 1) := by decide +kernel
theorem dRe_day_62 : decode mRe_day.2.1 62 = .ok (.if_icmp .ne 7, 3) := by decide +kernel
theorem dRe_day_65 : decode mRe_day.2.1 65 = .ok (.iconst 0, 1) := by decide +kernel
theorem dRe_day_66 : decode mRe_day.2.1 66 = .ok (.goto 4, 3) := by decide +kernel
theorem dRe_day_69 : decode mRe_day.2.1 69 = .ok (.iconst 1, 1) := by decide +kernel
theorem dRe_day_70 : decode mRe_day.2.1 70 = .ok (.iadd, 1) := by decide +kernel
theorem dRe_day_71 : decode mRe_day.2.1 71 = .ok (.istore_n 2, 1) := by decide +kernel
theorem dRe_day_72 : decode mRe_day.2.1 72 = .ok (.iload_n 3, 1) := by decide +kernel
theorem dRe_day_73 : decode mRe_day.2.1 73 = .ok (.aload_n 0, 1) := by decide +kernel
theorem dRe_day_74 : decode mRe_day.2.1 74 = .ok (.getfield 79, 3) := by decide +kernel
theorem dRe_day_77 : decode mRe_day.2.1 77 = .ok (.iload 5, 2) := by decide +kernel
theorem dRe_day_79 : decode mRe_day.2.1 79 = .ok (.iaload, 1) := by decide +kernel
theorem dRe_day_80 : decode mRe_day.2.1 80 = .ok (.iadd, 1) := by decide +kernel
theorem dRe_day_81 : decode mRe_day.2.1 81 = .ok (.istore_n 3, 1) := by decide +kernel
theorem dRe_day_82 : decode mRe_day.2.1 82 = .ok (.aload_n 0, 1) := by decide +kernel
theorem dRe_day_83 : decode mRe_day.2.1 83 = .ok (.getfield 85, 3) := by decide +kernel
theorem dRe_day_86 : decode mRe_day.2.1 86 = .ok (.iload 5, 2) := by decide +kernel
theorem dRe_day_88 : decode mRe_day.2.1 88 = .ok (.iaload, 1) := by decide +kernel
theorem dRe_day_89 : decode mRe_day.2.1 89 = .ok (.iload 4, 2) := by decide +kernel
theorem dRe_day_91 : decode mRe_day.2.1 91 = .ok (.if_icmp .le 13, 3) := by decide +kernel
theorem dRe_day_94 : decode mRe_day.2.1 94 = .ok (.aload_n 0, 1) := by decide +kernel
theorem dRe_day_95 : decode mRe_day.2.1 95 = .ok (.getfield 85, 3) := by decide +kernel
theorem dRe_day_98 : decode mRe_day.2.1 98 = .ok (.iload 5, 2) := by decide +kernel
theorem dRe_day_100 : decode mRe_day.2.1 100 = .ok (.iaload, 1) := by decide +kernel
theorem dRe_day_101 : decode mRe_day.2.1 101 = .ok (.goto 5, 3) := by decide +kernel
theorem dRe_day_104 : decode mRe_day.2.1 104 = .ok (.iload 4, 2) := by decide +kernel
theorem dRe_day_106 : decode mRe_day.2.1 106 = .ok (.istore 4, 2) := by decide +kernel
theorem dRe_day_108 : decode mRe_day.2.1 108 = .ok (.iinc 5 1, 3) := by decide +kernel
theorem dRe_day_111 : decode mRe_day.2.1 111 = .ok (.goto (-67), 3) := by decide +kernel
theorem dRe_day_114 : decode mRe_day.2.1 114 = .ok (.iload_n 1, 1) := by decide +kernel
theorem dRe_day_115 : decode mRe_day.2.1 115 = .ok (.tableswitch 67 0 5 #[37, 42, 44, 46, 51, 64], 37) := by decide +kernel
theorem dRe_day_152 : decode mRe_day.2.1 152 = .ok (.aload_n 0, 1) := by decide +kernel
theorem dRe_day_153 : decode mRe_day.2.1 153 = .ok (.getfield 307, 3) := by decide +kernel
theorem dRe_day_156 : decode mRe_day.2.1 156 = .ok (.ireturn, 1) := by decide +kernel
theorem dRe_day_157 : decode mRe_day.2.1 157 = .ok (.iload_n 2, 1) := by decide +kernel
theorem dRe_day_158 : decode mRe_day.2.1 158 = .ok (.ireturn, 1) := by decide +kernel
theorem dRe_day_159 : decode mRe_day.2.1 159 = .ok (.iload_n 3, 1) := by decide +kernel
theorem dRe_day_160 : decode mRe_day.2.1 160 = .ok (.ireturn, 1) := by decide +kernel
theorem dRe_day_161 : decode mRe_day.2.1 161 = .ok (.aload_n 0, 1) := by decide +kernel
theorem dRe_day_162 : decode mRe_day.2.1 162 = .ok (.getfield 301, 3) := by decide +kernel
theorem dRe_day_165 : decode mRe_day.2.1 165 = .ok (.ireturn, 1) := by decide +kernel
theorem dRe_day_166 : decode mRe_day.2.1 166 = .ok (.aload_n 0, 1) := by decide +kernel
theorem dRe_day_167 : decode mRe_day.2.1 167 = .ok (.getfield 313, 3) := by decide +kernel
theorem dRe_day_170 : decode mRe_day.2.1 170 = .ok (.ifCond .eq 7, 3) := by decide +kernel
theorem dRe_day_173 : decode mRe_day.2.1 173 = .ok (.iconst 1, 1) := by decide +kernel
theorem dRe_day_174 : decode mRe_day.2.1 174 = .ok (.goto 4, 3) := by decide +kernel
theorem dRe_day_177 : decode mRe_day.2.1 177 = .ok (.iconst 0, 1) := by decide +kernel
theorem dRe_day_178 : decode mRe_day.2.1 178 = .ok (.ireturn, 1) := by decide +kernel
theorem dRe_day_179 : decode mRe_day.2.1 179 = .ok (.iload 4, 2) := by decide +kernel
theorem dRe_day_181 : decode mRe_day.2.1 181 = .ok (.ireturn, 1) := by decide +kernel
theorem dRe_day_182 : decode mRe_day.2.1 182 = .ok (.aload_n 0, 1) := by decide +kernel
theorem dRe_day_183 : decode mRe_day.2.1 183 = .ok (.getfield 310, 3) := by decide +kernel
theorem dRe_day_186 : decode mRe_day.2.1 186 = .ok (.ireturn, 1) := by decide +kernel
theorem bRe_day_0 {l : Launch} {G : Gx} {d : Nat} {bc bs : Nat} {Φ : OutV → Mm → Prop} (M : Mm) (a0 : Nat) (x1 : Int32)
    (h : ((m_sh M a0).1 = 11) ∧ CallVC l G d mRe_day 13 [.ref a0, .int x1, .null, .null, .null, .null] [.ref a0] mRe_in [.int x1, .int 0, .int 6] (m_si M a0 0 0) bc bs Φ) :
    Ev l G d mRe_day 0 [.ref a0, .int x1, .null, .null, .null, .null] [] M bc bs Φ := by
  refine Ev.aload_n dRe_day_0 rfl ?_
  refine Ev.iconst (v := 0) dRe_day_1 (by decide) ?_
  have g1 := h.1
  replace h := h.2
  refine Ev.putI dRe_day_2 ⟨_, Or.inl ⟨fRe_115, (fun h => by cases h)⟩⟩ rfl ⟨rfl, rfl⟩ g1 ?_
  refine Ev.aload_n dRe_day_5 rfl ?_
  refine Ev.iload_n dRe_day_6 rfl ?_
  refine Ev.iconst (v := 0) dRe_day_7 (by decide) ?_
  refine Ev.bipush (v := 6) dRe_day_8 (by decide) ?_
  exact Ev.vcS (z := mRe_in) [.int x1, .int 0, .int 6] [.ref a0] rfl dRe_day_10 oRe_in rfl w1476 iRe_in (Nat.le_of_ble_eq_true rfl) h
theorem bRe_day_13 {l : Launch} {G : Gx} {d : Nat} {bc bs : Nat} {Φ : OutV → Mm → Prop} (M : Mm) (a0 : Nat) (x1 : Int32) (u2 : Value) (u3 : Value) (u4 : Value) (u5 : Value) (r0 : Nat) (s1 : Int32)
    (h : (¬ s1 = 0 → ((m_sh M r0).1 = 11) ∧ CallVC l G d mRe_day 25 [.ref a0, .int x1, u2, u3, u4, u5] [] mRe_bad [.ref r0, .int 0, .int 1] M bc bs Φ) ∧ (s1 = 0 → ((m_sh M r0).1 = 11) ∧ CallVC l G d mRe_day 25 [.ref a0, .int x1, u2, u3, u4, u5] [] mRe_bad [.ref r0, .int 1, .int 1] M bc bs Φ)) :
    Ev l G d mRe_day 13 [.ref a0, .int x1, u2, u3, u4, u5] [.int s1, .ref r0] M bc bs Φ := by
  refine Ev.if_ne 20 (by decide) dRe_day_13 (fun c => ?_) (fun c => ?_)
  · replace h := h.1 c
    refine Ev.iconst (v := 0) dRe_day_20 (by decide) ?_
    refine Ev.iconst (v := 1) dRe_day_21 (by decide) ?_
    have g1 := h.1
    replace h := h.2
    exact Ev.vcV (z := mRe_bad) (ci := 11) [.int 0, .int 1] [] rfl dRe_day_22 oRe_bad rfl w1479 iRe_bad sRe_bad (by decide) rfl g1 (Nat.le_of_ble_eq_true rfl) h
  · replace h := h.2 c
    refine Ev.iconst (v := 1) dRe_day_16 (by decide) ?_
    refine Ev.goto 21 dRe_day_17 (by decide) ?_
    refine Ev.iconst (v := 1) dRe_day_21 (by decide) ?_
    have g2 := h.1
    replace h := h.2
    exact Ev.vcV (z := mRe_bad) (ci := 11) [.int 1, .int 1] [] rfl dRe_day_22 oRe_bad rfl w1479 iRe_bad sRe_bad (by decide) rfl g2 (Nat.le_of_ble_eq_true rfl) h
def mRe_asItIs : MR := (⟨"BowingRowModel", "asItIs", "()V"⟩, prog_14_method_54_code, 1, none)
theorem oRe_asItIs : MOK mRe_asItIs 0 := ⟨lwg_of 1664 (by decide +kernel) (by decide +kernel), lwg_of 103 (by decide +kernel) (by decide +kernel), ⟨by decide +kernel, by decide +kernel⟩, by decide +kernel, by decide⟩
theorem iRe_asItIs : Cond.instanceMethod mRe_asItIs.1 ∈ lwg := lwg_of 1663 (by decide +kernel) (by decide +kernel)
theorem sRe_asItIs : Cond.selects mRe_asItIs.1.cls mRe_asItIs.1 mRe_asItIs.1 ∈ lwg := lwg_of 70 (by decide +kernel) (by decide +kernel)
theorem w1661 : Cond.methodLink "BowingRowModel" 362 ⟨"BowingRowModel", "asItIs", "()V"⟩ ∈ lwg := lwg_of 1661 (by decide +kernel) (by decide +kernel)
theorem bRe_day_25 {l : Launch} {G : Gx} {d : Nat} {bc bs : Nat} {Φ : OutV → Mm → Prop} (M : Mm) (a0 : Nat) (x1 : Int32) (u2 : Value) (u3 : Value) (u4 : Value) (u5 : Value) (s0 : Int32)
    (h : (s0 = 0 → ((m_sh M a0).1 = 11) ∧ CallVC l G d mRe_day 34 [.ref a0, .int x1, u2, u3, u4, u5] [] mRe_asItIs [.ref a0] M bc bs Φ) ∧ (¬ s0 = 0 → Φ (.inl (some (.int 0))) M)) :
    Ev l G d mRe_day 25 [.ref a0, .int x1, u2, u3, u4, u5] [.int s0] M bc bs Φ := by
  refine Ev.if_eq 30 (by decide) dRe_day_25 (fun c => ?_) (fun c => ?_)
  · replace h := h.1 c
    refine Ev.aload_n dRe_day_30 rfl ?_
    have g1 := h.1
    replace h := h.2
    exact Ev.vcV (z := mRe_asItIs) (ci := 11) [] [] rfl dRe_day_31 oRe_asItIs rfl w1661 iRe_asItIs sRe_asItIs (by decide) rfl g1 (Nat.le_of_ble_eq_true rfl) h
  · replace h := h.2 c
    refine Ev.iconst (v := 0) dRe_day_28 (by decide) ?_
    exact Ev.iret dRe_day_29 rfl rfl h
theorem bRe_day_34 {l : Launch} {G : Gx} {d : Nat} {bc bs : Nat} {Φ : OutV → Mm → Prop} (M : Mm) (a0 : Nat) (x1 : Int32) (u2 : Value) (u3 : Value) (u4 : Value) (u5 : Value)
    (h : Ev l G d mRe_day 44 [.ref a0, .int x1, .int 0, .int 0, .int 0, .int 0] [] M bc bs Φ) :
    Ev l G d mRe_day 34 [.ref a0, .int x1, u2, u3, u4, u5] [] M bc bs Φ := by
  refine Ev.iconst (v := 0) dRe_day_34 (by decide) ?_
  refine Ev.istore_n dRe_day_35 (by decide) ?_
  show Ev l G d mRe_day (_ + _) [.ref a0, .int x1, .int 0, u3, u4, u5] [] M bc bs Φ
  refine Ev.iconst (v := 0) dRe_day_36 (by decide) ?_
  refine Ev.istore_n dRe_day_37 (by decide) ?_
  show Ev l G d mRe_day (_ + _) [.ref a0, .int x1, .int 0, .int 0, u4, u5] [] M bc bs Φ
  refine Ev.iconst (v := 0) dRe_day_38 (by decide) ?_
  refine Ev.istore dRe_day_39 (by decide) ?_
  show Ev l G d mRe_day (_ + _) [.ref a0, .int x1, .int 0, .int 0, .int 0, u5] [] M bc bs Φ
  refine Ev.iconst (v := 0) dRe_day_41 (by decide) ?_
  refine Ev.istore dRe_day_42 (by decide) ?_
  show Ev l G d mRe_day (_ + _) [.ref a0, .int x1, .int 0, .int 0, .int 0, .int 0] [] M bc bs Φ
  exact h
theorem fRe_307 : FOK "BowingRowModel" 307 11 40 false := ⟨RX12, TX12, nFd 11, rfl, by decide, rfl, by decide, rfl, lwg_of 1323 (by decide +kernel) (by decide +kernel)⟩
theorem fRe_301 : FOK "BowingRowModel" 301 11 41 false := ⟨RX12, TX12, nFd 11, rfl, by decide, rfl, by decide, rfl, lwg_of 1324 (by decide +kernel) (by decide +kernel)⟩
theorem fRe_313 : FOK "BowingRowModel" 313 11 44 false := ⟨RX12, TX12, nFd 11, rfl, by decide, rfl, by decide, rfl, lwg_of 1327 (by decide +kernel) (by decide +kernel)⟩
theorem fRe_310 : FOK "BowingRowModel" 310 11 42 false := ⟨RX12, TX12, nFd 11, rfl, by decide, rfl, by decide, rfl, lwg_of 1325 (by decide +kernel) (by decide +kernel)⟩
theorem bRe_day_44 {l : Launch} {G : Gx} {d : Nat} {bc bs : Nat} {Φ : OutV → Mm → Prop} (M : Mm) (a0 : Nat) (x1 : Int32) (x2 : Int32) (x3 : Int32) (x4 : Int32) (x5 : Int32)
    (h : ((m_sh M a0).1 = 11) ∧ ((m_i M a0 40) ≤ x5 → (x1 = 0 → Φ (.inl (some (.int (m_i M a0 40)))) M) ∧ ((x1 = 1 → Φ (.inl (some (.int x2))) M) ∧ ((x1 = 2 → Φ (.inl (some (.int x3))) M) ∧ ((x1 = 3 → Φ (.inl (some (.int (m_i M a0 41)))) M) ∧ ((x1 = 4 → ((m_i M a0 44) = 0 → Φ (.inl (some (.int 0))) M) ∧ (¬ (m_i M a0 44) = 0 → Φ (.inl (some (.int 1))) M)) ∧ ((x1 = 5 → Φ (.inl (some (.int x4))) M) ∧ (¬ x1 = 0 → ¬ x1 = 1 → ¬ x1 = 2 → ¬ x1 = 3 → ¬ x1 = 4 → ¬ x1 = 5 → Φ (.inl (some (.int (m_i M a0 42)))) M))))))) ∧ (¬ (m_i M a0 40) ≤ x5 → ((m_sh M (m_r M a0 45)).1 = 20) ∧ (vp_in x5 (m_sh M (m_r M a0 45)).2) ∧ (¬ (m_i M (m_r M a0 45) x5.toNatClampNeg) = ((-1)) → ((m_sh M (m_r M a0 47)).1 = 20) ∧ (vp_in x5 (m_sh M (m_r M a0 47)).2) ∧ ((m_sh M (m_r M a0 49)).1 = 20) ∧ (vp_in x5 (m_sh M (m_r M a0 49)).2) ∧ ((m_i M (m_r M a0 49) x5.toNatClampNeg) ≤ x4 → Ev l G d mRe_day 44 [.ref a0, .int x1, .int (x2 + 1), .int (x3 + (m_i M (m_r M a0 47) x5.toNatClampNeg)), .int x4, .int (x5 + 1)] [] M bc bs Φ) ∧ (¬ (m_i M (m_r M a0 49) x5.toNatClampNeg) ≤ x4 → Ev l G d mRe_day 44 [.ref a0, .int x1, .int (x2 + 1), .int (x3 + (m_i M (m_r M a0 47) x5.toNatClampNeg)), .int (m_i M (m_r M a0 49) x5.toNatClampNeg), .int (x5 + 1)] [] M bc bs Φ)) ∧ ((m_i M (m_r M a0 45) x5.toNatClampNeg) = ((-1)) → ((m_sh M (m_r M a0 47)).1 = 20) ∧ (vp_in x5 (m_sh M (m_r M a0 47)).2) ∧ ((m_sh M (m_r M a0 49)).1 = 20) ∧ (vp_in x5 (m_sh M (m_r M a0 49)).2) ∧ ((m_i M (m_r M a0 49) x5.toNatClampNeg) ≤ x4 → Ev l G d mRe_day 44 [.ref a0, .int x1, .int (x2 + 0), .int (x3 + (m_i M (m_r M a0 47) x5.toNatClampNeg)), .int x4, .int (x5 + 1)] [] M bc bs Φ) ∧ (¬ (m_i M (m_r M a0 49) x5.toNatClampNeg) ≤ x4 → Ev l G d mRe_day 44 [.ref a0, .int x1, .int (x2 + 0), .int (x3 + (m_i M (m_r M a0 47) x5.toNatClampNeg)), .int (m_i M (m_r M a0 49) x5.toNatClampNeg), .int (x5 + 1)] [] M bc bs Φ)))) :
    Ev l G d mRe_day 44 [.ref a0, .int x1, .int x2, .int x3, .int x4, .int x5] [] M bc bs Φ := by
  refine Ev.iload dRe_day_44 rfl ?_
  refine Ev.aload_n dRe_day_46 rfl ?_
  have g1 := h.1
  replace h := h.2
  refine Ev.getI dRe_day_47 (Or.inl fRe_307) rfl g1 ?_
  refine Ev.icmp_ge 114 (by decide) dRe_day_50 (fun c => ?_) (fun c => ?_)
  · replace h := h.1 c
    refine Ev.iload_n dRe_day_114 rfl ?_
    skip
    by_cases c : x1 = 0
    · refine Ev.tblAt 152 dRe_day_115 (by rw [c]; decide) (by rw [c]; decide) (by rw [c]; rfl) (by decide) ?_
      replace h := h.1 c
      refine Ev.aload_n dRe_day_152 rfl ?_
      refine Ev.getI dRe_day_153 (Or.inl fRe_307) rfl g1 ?_
      exact Ev.iret dRe_day_156 rfl rfl h
    have c2 := c
    clear c
    replace h := h.2
    by_cases c : x1 = 1
    · refine Ev.tblAt 157 dRe_day_115 (by rw [c]; decide) (by rw [c]; decide) (by rw [c]; rfl) (by decide) ?_
      replace h := h.1 c
      refine Ev.iload_n dRe_day_157 rfl ?_
      exact Ev.iret dRe_day_158 rfl rfl h
    have c3 := c
    clear c
    replace h := h.2
    by_cases c : x1 = 2
    · refine Ev.tblAt 159 dRe_day_115 (by rw [c]; decide) (by rw [c]; decide) (by rw [c]; rfl) (by decide) ?_
      replace h := h.1 c
      refine Ev.iload_n dRe_day_159 rfl ?_
      exact Ev.iret dRe_day_160 rfl rfl h
    have c4 := c
    clear c
    replace h := h.2
    by_cases c : x1 = 3
    · refine Ev.tblAt 161 dRe_day_115 (by rw [c]; decide) (by rw [c]; decide) (by rw [c]; rfl) (by decide) ?_
      replace h := h.1 c
      refine Ev.aload_n dRe_day_161 rfl ?_
      refine Ev.getI dRe_day_162 (Or.inl fRe_301) rfl g1 ?_
      exact Ev.iret dRe_day_165 rfl rfl h
    have c5 := c
    clear c
    replace h := h.2
    by_cases c : x1 = 4
    · refine Ev.tblAt 166 dRe_day_115 (by rw [c]; decide) (by rw [c]; decide) (by rw [c]; rfl) (by decide) ?_
      replace h := h.1 c
      refine Ev.aload_n dRe_day_166 rfl ?_
      refine Ev.getI dRe_day_167 (Or.inl fRe_313) rfl g1 ?_
      refine Ev.if_eq 177 (by decide) dRe_day_170 (fun c => ?_) (fun c => ?_)
      · replace h := h.1 c
        refine Ev.iconst (v := 0) dRe_day_177 (by decide) ?_
        exact Ev.iret dRe_day_178 rfl rfl h
      · replace h := h.2 c
        refine Ev.iconst (v := 1) dRe_day_173 (by decide) ?_
        refine Ev.goto 178 dRe_day_174 (by decide) ?_
        exact Ev.iret dRe_day_178 rfl rfl h
    have c6 := c
    clear c
    replace h := h.2
    by_cases c : x1 = 5
    · refine Ev.tblAt 179 dRe_day_115 (by rw [c]; decide) (by rw [c]; decide) (by rw [c]; rfl) (by decide) ?_
      replace h := h.1 c
      refine Ev.iload dRe_day_179 rfl ?_
      exact Ev.iret dRe_day_181 rfl rfl h
    have c7 := c
    clear c
    replace h := h.2
    refine Ev.tblOut 182 dRe_day_115 ?_ (by decide) ?_
    · have e : ∀ k : Int32, ¬ x1 = k → ¬ x1.toInt = k.toInt := fun k h1 h2 => h1 (Int32.toInt_inj.mp h2)
      have := e 0 c2
      rw [show ((0 : Int32)).toInt = 0 from rfl] at this
      have := e 1 c3
      rw [show ((1 : Int32)).toInt = 1 from rfl] at this
      have := e 2 c4
      rw [show ((2 : Int32)).toInt = 2 from rfl] at this
      have := e 3 c5
      rw [show ((3 : Int32)).toInt = 3 from rfl] at this
      have := e 4 c6
      rw [show ((4 : Int32)).toInt = 4 from rfl] at this
      have := e 5 c7
      rw [show ((5 : Int32)).toInt = 5 from rfl] at this
      omega
    · replace h := h c2 c3 c4 c5 c6 c7
      refine Ev.aload_n dRe_day_182 rfl ?_
      refine Ev.getI dRe_day_183 (Or.inl fRe_310) rfl g1 ?_
      exact Ev.iret dRe_day_186 rfl rfl h
  · replace h := h.2 c
    refine Ev.iload_n dRe_day_53 rfl ?_
    refine Ev.aload_n dRe_day_54 rfl ?_
    refine Ev.getR dRe_day_55 (Or.inl fRe_73) rfl g1 ?_
    refine Ev.iload dRe_day_58 rfl ?_
    have g8 := h.1
    replace h := h.2
    have g9 := h.1
    replace h := h.2
    refine Ev.iald2 dRe_day_60 g8 g9 ?_
    refine Ev.iconst (v := (-1)) dRe_day_61 (by decide) ?_
    refine Ev.icmp_ne 69 (by decide) dRe_day_62 (fun c => ?_) (fun c => ?_)
    · replace h := h.1 c
      refine Ev.iconst (v := 1) dRe_day_69 (by decide) ?_
      refine Ev.iadd dRe_day_70 ?_
      refine Ev.istore_n dRe_day_71 (by decide) ?_
      show Ev l G d mRe_day (_ + _) [.ref a0, .int x1, .int (x2 + 1), .int x3, .int x4, .int x5] [] M bc bs Φ
      refine Ev.iload_n dRe_day_72 rfl ?_
      refine Ev.aload_n dRe_day_73 rfl ?_
      refine Ev.getR dRe_day_74 (Or.inl fRe_79) rfl g1 ?_
      refine Ev.iload dRe_day_77 rfl ?_
      have g10 := h.1
      replace h := h.2
      have g11 := h.1
      replace h := h.2
      refine Ev.iald2 dRe_day_79 g10 g11 ?_
      refine Ev.iadd dRe_day_80 ?_
      refine Ev.istore_n dRe_day_81 (by decide) ?_
      show Ev l G d mRe_day (_ + _) [.ref a0, .int x1, .int (x2 + 1), .int (x3 + (m_i M (m_r M a0 47) x5.toNatClampNeg)), .int x4, .int x5] [] M bc bs Φ
      refine Ev.aload_n dRe_day_82 rfl ?_
      refine Ev.getR dRe_day_83 (Or.inl fRe_85) rfl g1 ?_
      refine Ev.iload dRe_day_86 rfl ?_
      have g12 := h.1
      replace h := h.2
      have g13 := h.1
      replace h := h.2
      refine Ev.iald2 dRe_day_88 g12 g13 ?_
      refine Ev.iload dRe_day_89 rfl ?_
      refine Ev.icmp_le 104 (by decide) dRe_day_91 (fun c => ?_) (fun c => ?_)
      · replace h := h.1 c
        refine Ev.iload dRe_day_104 rfl ?_
        refine Ev.istore dRe_day_106 (by decide) ?_
        show Ev l G d mRe_day (_ + _) [.ref a0, .int x1, .int (x2 + 1), .int (x3 + (m_i M (m_r M a0 47) x5.toNatClampNeg)), .int x4, .int x5] [] M bc bs Φ
        refine Ev.iinc (v := x5 + 1) dRe_day_108 (by decide) rfl rfl ?_
        show Ev l G d mRe_day (_ + _) [.ref a0, .int x1, .int (x2 + 1), .int (x3 + (m_i M (m_r M a0 47) x5.toNatClampNeg)), .int x4, .int (x5 + 1)] [] M bc bs Φ
        refine Ev.goto 44 dRe_day_111 (by decide) ?_
        exact h
      · replace h := h.2 c
        refine Ev.aload_n dRe_day_94 rfl ?_
        refine Ev.getR dRe_day_95 (Or.inl fRe_85) rfl g1 ?_
        refine Ev.iload dRe_day_98 rfl ?_
        refine Ev.iald2 dRe_day_100 g12 g13 ?_
        refine Ev.goto 106 dRe_day_101 (by decide) ?_
        refine Ev.istore dRe_day_106 (by decide) ?_
        show Ev l G d mRe_day (_ + _) [.ref a0, .int x1, .int (x2 + 1), .int (x3 + (m_i M (m_r M a0 47) x5.toNatClampNeg)), .int (m_i M (m_r M a0 49) x5.toNatClampNeg), .int x5] [] M bc bs Φ
        refine Ev.iinc (v := x5 + 1) dRe_day_108 (by decide) rfl rfl ?_
        show Ev l G d mRe_day (_ + _) [.ref a0, .int x1, .int (x2 + 1), .int (x3 + (m_i M (m_r M a0 47) x5.toNatClampNeg)), .int (m_i M (m_r M a0 49) x5.toNatClampNeg), .int (x5 + 1)] [] M bc bs Φ
        refine Ev.goto 44 dRe_day_111 (by decide) ?_
        exact h
    · replace h := h.2 c
      refine Ev.iconst (v := 0) dRe_day_65 (by decide) ?_
      refine Ev.goto 70 dRe_day_66 (by decide) ?_
      refine Ev.iadd dRe_day_70 ?_
      refine Ev.istore_n dRe_day_71 (by decide) ?_
      show Ev l G d mRe_day (_ + _) [.ref a0, .int x1, .int (x2 + 0), .int x3, .int x4, .int x5] [] M bc bs Φ
      refine Ev.iload_n dRe_day_72 rfl ?_
      refine Ev.aload_n dRe_day_73 rfl ?_
      refine Ev.getR dRe_day_74 (Or.inl fRe_79) rfl g1 ?_
      refine Ev.iload dRe_day_77 rfl ?_
      have g14 := h.1
      replace h := h.2
      have g15 := h.1
      replace h := h.2
      refine Ev.iald2 dRe_day_79 g14 g15 ?_
      refine Ev.iadd dRe_day_80 ?_
      refine Ev.istore_n dRe_day_81 (by decide) ?_
      show Ev l G d mRe_day (_ + _) [.ref a0, .int x1, .int (x2 + 0), .int (x3 + (m_i M (m_r M a0 47) x5.toNatClampNeg)), .int x4, .int x5] [] M bc bs Φ
      refine Ev.aload_n dRe_day_82 rfl ?_
      refine Ev.getR dRe_day_83 (Or.inl fRe_85) rfl g1 ?_
      refine Ev.iload dRe_day_86 rfl ?_
      have g16 := h.1
      replace h := h.2
      have g17 := h.1
      replace h := h.2
      refine Ev.iald2 dRe_day_88 g16 g17 ?_
      refine Ev.iload dRe_day_89 rfl ?_
      refine Ev.icmp_le 104 (by decide) dRe_day_91 (fun c => ?_) (fun c => ?_)
      · replace h := h.1 c
        refine Ev.iload dRe_day_104 rfl ?_
        refine Ev.istore dRe_day_106 (by decide) ?_
        show Ev l G d mRe_day (_ + _) [.ref a0, .int x1, .int (x2 + 0), .int (x3 + (m_i M (m_r M a0 47) x5.toNatClampNeg)), .int x4, .int x5] [] M bc bs Φ
        refine Ev.iinc (v := x5 + 1) dRe_day_108 (by decide) rfl rfl ?_
        show Ev l G d mRe_day (_ + _) [.ref a0, .int x1, .int (x2 + 0), .int (x3 + (m_i M (m_r M a0 47) x5.toNatClampNeg)), .int x4, .int (x5 + 1)] [] M bc bs Φ
        refine Ev.goto 44 dRe_day_111 (by decide) ?_
        exact h
      · replace h := h.2 c
        refine Ev.aload_n dRe_day_94 rfl ?_
        refine Ev.getR dRe_day_95 (Or.inl fRe_85) rfl g1 ?_
        refine Ev.iload dRe_day_98 rfl ?_
        refine Ev.iald2 dRe_day_100 g16 g17 ?_
        refine Ev.goto 106 dRe_day_101 (by decide) ?_
        refine Ev.istore dRe_day_106 (by decide) ?_
        show Ev l G d mRe_day (_ + _) [.ref a0, .int x1, .int (x2 + 0), .int (x3 + (m_i M (m_r M a0 47) x5.toNatClampNeg)), .int (m_i M (m_r M a0 49) x5.toNatClampNeg), .int x5] [] M bc bs Φ
        refine Ev.iinc (v := x5 + 1) dRe_day_108 (by decide) rfl rfl ?_
        show Ev l G d mRe_day (_ + _) [.ref a0, .int x1, .int (x2 + 0), .int (x3 + (m_i M (m_r M a0 47) x5.toNatClampNeg)), .int (m_i M (m_r M a0 49) x5.toNatClampNeg), .int (x5 + 1)] [] M bc bs Φ
        refine Ev.goto 44 dRe_day_111 (by decide) ?_
        exact h
