def mBo_init : MR := (⟨"BowingRow", "<init>", "()V"⟩, prog_1_method_1_code, 1, none)
theorem oBo_init : MOK mBo_init 0 := ⟨lwg_of 124 (by decide +kernel) (by decide +kernel), lwg_of 91 (by decide +kernel) (by decide +kernel), ⟨by decide +kernel, by decide +kernel⟩, by decide +kernel, by decide⟩
theorem iBo_init : Cond.instanceMethod mBo_init.1 ∈ lwg := lwg_of 123 (by decide +kernel) (by decide +kernel)
theorem dBo_init_0 : decode mBo_init.2.1 0 = .ok (.aload_n 0, 1) := by decide +kernel
theorem dBo_init_1 : decode mBo_init.2.1 1 = .ok (.invokespecial 1, 3) := by decide +kernel
theorem dBo_init_4 : decode mBo_init.2.1 4 = .ok (.aload_n 0, 1) := by decide +kernel
theorem dBo_init_5 : decode mBo_init.2.1 5 = .ok (.sipush 500, 3) := by decide +kernel
theorem dBo_init_8 : decode mBo_init.2.1 8 = .ok (.newarray .byte, 2) := by decide +kernel
theorem dBo_init_10 : decode mBo_init.2.1 10 = .ok (.putfield 9, 3) := by decide +kernel
theorem dBo_init_13 : decode mBo_init.2.1 13 = .ok (.aload_n 0, 1) := by decide +kernel
theorem dBo_init_14 : decode mBo_init.2.1 14 = .ok (.new 13, 3) := by decide +kernel
theorem dBo_init_17 : decode mBo_init.2.1 17 = .ok (.dup, 1) := by decide +kernel
theorem dBo_init_18 : decode mBo_init.2.1 18 = .ok (.invokespecial 15, 3) := by decide +kernel
theorem dBo_init_21 : decode mBo_init.2.1 21 = .ok (.putfield 16, 3) := by decide +kernel
theorem dBo_init_24 : decode mBo_init.2.1 24 = .ok (.aload_n 0, 1) := by decide +kernel
theorem dBo_init_25 : decode mBo_init.2.1 25 = .ok (.iconst (-1), 1) := by decide +kernel
theorem dBo_init_26 : decode mBo_init.2.1 26 = .ok (.putfield 20, 3) := by decide +kernel
theorem dBo_init_29 : decode mBo_init.2.1 29 = .ok (.aload_n 0, 1) := by decide +kernel
theorem dBo_init_30 : decode mBo_init.2.1 30 = .ok (.new 24, 3) := by decide +kernel
theorem dBo_init_33 : decode mBo_init.2.1 33 = .ok (.dup, 1) := by decide +kernel
theorem dBo_init_34 : decode mBo_init.2.1 34 = .ok (.invokespecial 26, 3) := by decide +kernel
theorem dBo_init_37 : decode mBo_init.2.1 37 = .ok (.putfield 27, 3) := by decide +kernel
theorem dBo_init_40 : decode mBo_init.2.1 40 = .ok (.aload_n 0, 1) := by decide +kernel
theorem dBo_init_41 : decode mBo_init.2.1 41 = .ok (.new 24, 3) := by decide +kernel
theorem dBo_init_44 : decode mBo_init.2.1 44 = .ok (.dup, 1) := by decide +kernel
theorem dBo_init_45 : decode mBo_init.2.1 45 = .ok (.invokespecial 26, 3) := by decide +kernel
theorem dBo_init_48 : decode mBo_init.2.1 48 = .ok (.putfield 31, 3) := by decide +kernel
theorem dBo_init_51 : decode mBo_init.2.1 51 = .ok (.aload_n 0, 1) := by decide +kernel
theorem dBo_init_52 : decode mBo_init.2.1 52 = .ok (.new 34, 3) := by decide +kernel
theorem dBo_init_55 : decode mBo_init.2.1 55 = .ok (.dup, 1) := by decide +kernel
theorem dBo_init_56 : decode mBo_init.2.1 56 = .ok (.invokespecial 36, 3) := by decide +kernel
theorem dBo_init_59 : decode mBo_init.2.1 59 = .ok (.putfield 37, 3) := by decide +kernel
theorem dBo_init_62 : decode mBo_init.2.1 62 = .ok (.aload_n 0, 1) := by decide +kernel
theorem dBo_init_63 : decode mBo_init.2.1 63 = .ok (.new 34, 3) := by decide +kernel
theorem dBo_init_66 : decode mBo_init.2.1 66 = .ok (.dup, 1) := by decide +kernel
theorem dBo_init_67 : decode mBo_init.2.1 67 = .ok (.invokespecial 36, 3) := by decide +kernel
theorem dBo_init_70 : decode mBo_init.2.1 70 = .ok (.putfield 41, 3) := by decide +kernel
theorem dBo_init_73 : decode mBo_init.2.1 73 = .ok (.aload_n 0, 1) := by decide +kernel
theorem dBo_init_74 : decode mBo_init.2.1 74 = .ok (.new 44, 3) := by decide +kernel
theorem dBo_init_77 : decode mBo_init.2.1 77 = .ok (.dup, 1) := by decide +kernel
theorem dBo_init_78 : decode mBo_init.2.1 78 = .ok (.aload_n 0, 1) := by decide +kernel
theorem dBo_init_79 : decode mBo_init.2.1 79 = .ok (.getfield 37, 3) := by decide +kernel
theorem dBo_init_82 : decode mBo_init.2.1 82 = .ok (.aload_n 0, 1) := by decide +kernel
theorem dBo_init_83 : decode mBo_init.2.1 83 = .ok (.getfield 27, 3) := by decide +kernel
theorem dBo_init_86 : decode mBo_init.2.1 86 = .ok (.invokespecial 46, 3) := by decide +kernel
theorem dBo_init_89 : decode mBo_init.2.1 89 = .ok (.putfield 49, 3) := by decide +kernel
theorem dBo_init_92 : decode mBo_init.2.1 92 = .ok (.aload_n 0, 1) := by decide +kernel
theorem dBo_init_93 : decode mBo_init.2.1 93 = .ok (.new 44, 3) := by decide +kernel
theorem dBo_init_96 : decode mBo_init.2.1 96 = .ok (.dup, 1) := by decide +kernel
theorem dBo_init_97 : decode mBo_init.2.1 97 = .ok (.aload_n 0, 1) := by decide +kernel
theorem dBo_init_98 : decode mBo_init.2.1 98 = .ok (.getfield 37, 3) := by decide +kernel
theorem dBo_init_101 : decode mBo_init.2.1 101 = .ok (.aload_n 0, 1) := by decide +kernel
theorem dBo_init_102 : decode mBo_init.2.1 102 = .ok (.getfield 27, 3) := by decide +kernel
theorem dBo_init_105 : decode mBo_init.2.1 105 = .ok (.invokespecial 46, 3) := by decide +kernel
theorem dBo_init_108 : decode mBo_init.2.1 108 = .ok (.putfield 53, 3) := by decide +kernel
theorem dBo_init_111 : decode mBo_init.2.1 111 = .ok (.aload_n 0, 1) := by decide +kernel
theorem dBo_init_112 : decode mBo_init.2.1 112 = .ok (.new 56, 3) := by decide +kernel
theorem dBo_init_115 : decode mBo_init.2.1 115 = .ok (.dup, 1) := by decide +kernel
theorem dBo_init_116 : decode mBo_init.2.1 116 = .ok (.aload_n 0, 1) := by decide +kernel
theorem dBo_init_117 : decode mBo_init.2.1 117 = .ok (.getfield 27, 3) := by decide +kernel
theorem dBo_init_120 : decode mBo_init.2.1 120 = .ok (.aload_n 0, 1) := by decide +kernel
theorem dBo_init_121 : decode mBo_init.2.1 121 = .ok (.getfield 49, 3) := by decide +kernel
theorem dBo_init_124 : decode mBo_init.2.1 124 = .ok (.invokespecial 58, 3) := by decide +kernel
theorem dBo_init_127 : decode mBo_init.2.1 127 = .ok (.putfield 61, 3) := by decide +kernel
theorem dBo_init_130 : decode mBo_init.2.1 130 = .ok (.aload_n 0, 1) := by decide +kernel
theorem dBo_init_131 : decode mBo_init.2.1 131 = .ok (.new 56, 3) := by decide +kernel
theorem dBo_init_134 : decode mBo_init.2.1 134 = .ok (.dup, 1) := by decide +kernel
theorem dBo_init_135 : decode mBo_init.2.1 135 = .ok (.aload_n 0, 1) := by decide +kernel
theorem dBo_init_136 : decode mBo_init.2.1 136 = .ok (.getfield 27, 3) := by decide +kernel
theorem dBo_init_139 : decode mBo_init.2.1 139 = .ok (.aload_n 0, 1) := by decide +kernel
theorem dBo_init_140 : decode mBo_init.2.1 140 = .ok (.getfield 49, 3) := by decide +kernel
theorem dBo_init_143 : decode mBo_init.2.1 143 = .ok (.invokespecial 58, 3) := by decide +kernel
theorem dBo_init_146 : decode mBo_init.2.1 146 = .ok (.putfield 65, 3) := by decide +kernel
theorem dBo_init_149 : decode mBo_init.2.1 149 = .ok (.aload_n 0, 1) := by decide +kernel
theorem dBo_init_150 : decode mBo_init.2.1 150 = .ok (.new 68, 3) := by decide +kernel
theorem dBo_init_153 : decode mBo_init.2.1 153 = .ok (.dup, 1) := by decide +kernel
theorem dBo_init_154 : decode mBo_init.2.1 154 = .ok (.invokespecial 70, 3) := by decide +kernel
theorem dBo_init_157 : decode mBo_init.2.1 157 = .ok (.putfield 71, 3) := by decide +kernel
theorem dBo_init_160 : decode mBo_init.2.1 160 = .ok (.aload_n 0, 1) := by decide +kernel
theorem dBo_init_161 : decode mBo_init.2.1 161 = .ok (.new 75, 3) := by decide +kernel
theorem dBo_init_164 : decode mBo_init.2.1 164 = .ok (.dup, 1) := by decide +kernel
theorem dBo_init_165 : decode mBo_init.2.1 165 = .ok (.invokespecial 77, 3) := by decide +kernel
theorem dBo_init_168 : decode mBo_init.2.1 168 = .ok (.putfield 78, 3) := by decide +kernel
theorem dBo_init_171 : decode mBo_init.2.1 171 = .ok (.aload_n 0, 1) := by decide +kernel
theorem dBo_init_172 : decode mBo_init.2.1 172 = .ok (.bipush 8, 2) := by decide +kernel
theorem dBo_init_174 : decode mBo_init.2.1 174 = .ok (.newarray .int, 2) := by decide +kernel
theorem dBo_init_176 : decode mBo_init.2.1 176 = .ok (.putfield 82, 3) := by decide +kernel
theorem dBo_init_179 : decode mBo_init.2.1 179 = .ok (.aload_n 0, 1) := by decide +kernel
theorem dBo_init_180 : decode mBo_init.2.1 180 = .ok (.iconst 3, 1) := by decide +kernel
theorem dBo_init_181 : decode mBo_init.2.1 181 = .ok (.anewarray 86, 3) := by decide +kernel
theorem dBo_init_184 : decode mBo_init.2.1 184 = .ok (.dup, 1) := by decide +kernel
theorem dBo_init_185 : decode mBo_init.2.1 185 = .ok (.iconst 0, 1) := by decide +kernel
theorem dBo_init_186 : decode mBo_init.2.1 186 = .ok (.new 86, 3) := by decide +kernel
theorem dBo_init_189 : decode mBo_init.2.1 189 = .ok (.dup, 1) := by decide +kernel
theorem dBo_init_190 : decode mBo_init.2.1 190 = .ok (.invokespecial 88, 3) := by decide +kernel
theorem dBo_init_193 : decode mBo_init.2.1 193 = .ok (.aastore, 1) := by decide +kernel
theorem dBo_init_194 : decode mBo_init.2.1 194 = .ok (.dup, 1) := by decide +kernel
theorem dBo_init_195 : decode mBo_init.2.1 195 = .ok (.iconst 1, 1) := by decide +kernel
theorem dBo_init_196 : decode mBo_init.2.1 196 = .ok (.new 86, 3) := by decide +kernel
theorem dBo_init_199 : decode mBo_init.2.1 199 = .ok (.dup, 1) := by decide +kernel
theorem dBo_init_200 : decode mBo_init.2.1 200 = .ok (.invokespecial 88, 3) := by decide +kernel
theorem dBo_init_203 : decode mBo_init.2.1 203 = .ok (.aastore, 1) := by decide +kernel
theorem dBo_init_204 : decode mBo_init.2.1 204 = .ok (.dup, 1) := by decide +kernel
theorem dBo_init_205 : decode mBo_init.2.1 205 = .ok (.iconst 2, 1) := by decide +kernel
theorem dBo_init_206 : decode mBo_init.2.1 206 = .ok (.new 86, 3) := by decide +kernel
theorem dBo_init_209 : decode mBo_init.2.1 209 = .ok (.dup, 1) := by decide +kernel
theorem dBo_init_210 : decode mBo_init.2.1 210 = .ok (.invokespecial 88, 3) := by decide +kernel
theorem dBo_init_213 : decode mBo_init.2.1 213 = .ok (.aastore, 1) := by decide +kernel
theorem dBo_init_214 : decode mBo_init.2.1 214 = .ok (.putfield 89, 3) := by decide +kernel
theorem dBo_init_217 : decode mBo_init.2.1 217 = .ok (.return_, 1) := by decide +kernel
theorem w125 : Cond.methodLink "BowingRow" 1 ⟨"java/lang/Object", "<init>", "()V"⟩ ∈ lwg := lwg_of 125 (by decide +kernel) (by decide +kernel)
theorem fBo_9 : FOK "BowingRow" 9 10 0 true := ⟨RX11, TX11, nFd 10, rfl, by decide, rfl, by decide, rfl, lwg_of 482 (by decide +kernel) (by decide +kernel)⟩
theorem bBo_init_0 {l : Launch} {G : Gx} {d : Nat} {bc bs : Nat} {Φ : OutV → Mm → Prop} (M : Mm) (a0 : Nat)
    (h : (a0 ≠ 0 ∧ 1 ≤ d) ∧ (1 ≤ bc ∧ 500 ≤ bs) ∧ ((m_sh (m_al M (21, 500)) a0).1 = 10) ∧ Ev l G d mBo_init 13 [.ref a0] [] (m_sr (m_al M (21, 500)) a0 0 (m_nx M)) (bc - 1) (bs - 500) Φ) :
    Ev l G d mBo_init 0 [.ref a0] [] M bc bs Φ := by
  refine Ev.aload_n dBo_init_0 rfl ?_
  have g1 := h.1
  replace h := h.2
  refine Ev.objInit dBo_init_1 w125 w_oi w_oc (Nat.le_of_ble_eq_true rfl) g1.2 g1.1 ?_
  refine Ev.aload_n dBo_init_4 rfl ?_
  refine Ev.sipush (v := 500) dBo_init_5 (by decide) ?_
  have g2 := h.1
  replace h := h.2
  refine Ev.newB2 500 dBo_init_8 w163 (by decide) (by decide) (by decide) g2 ?_
  have g3 := h.1
  replace h := h.2
  refine Ev.putR dBo_init_10 ⟨_, Or.inl ⟨fBo_9, (fun _ => ⟨rfl, fun r hr => by cases hr; rfl⟩)⟩⟩ rfl (fun ad => fitR (by first | exact Or.inl ⟨_, rfl⟩ | exact Or.inr ⟨_, rfl⟩) _ ad) g3 ?_
  exact h
theorem w128 : Cond.classLink "BowingRow" 13 "BowingRow$Tokens" ∈ lwg := lwg_of 128 (by decide +kernel) (by decide +kernel)
theorem w129 : Cond.instantiable "BowingRow$Tokens" 8 ∈ lwg := lwg_of 129 (by decide +kernel) (by decide +kernel)
theorem w92 : Cond.initialized "BowingRow$Tokens" ∈ lwg := lwg_of 92 (by decide +kernel) (by decide +kernel)
theorem w130 : Cond.methodLinkNest "BowingRow" 15 ⟨"BowingRow$Tokens", "<init>", "()V"⟩ "BowingRow" ∈ lwx := lwx_of 130 (by decide +kernel) (by decide +kernel)
theorem bBo_init_13 {l : Launch} {G : Gx} {d : Nat} {bc bs : Nat} {Φ : OutV → Mm → Prop} (M : Mm) (a0 : Nat)
    (h : (1 ≤ bc ∧ nFd 8 ≤ bs) ∧ ((m_nx M) ≠ 0) ∧ CallVN l G d mBo_init 21 [.ref a0] [.ref (m_nx M), .ref a0] mTo_init [.ref (m_nx M)] (m_al M (8, 0)) (bc - 1) (bs - nFd 8) Φ) :
    Ev l G d mBo_init 13 [.ref a0] [] M bc bs Φ := by
  refine Ev.aload_n dBo_init_13 rfl ?_
  have g1 := h.1
  replace h := h.2
  refine Ev.newO2 (T := TX8) 8 dBo_init_14 rfl (by decide) w128 w129 w92 g1 ?_
  refine Ev.dup dBo_init_17 rfl ?_
  have g2 := h.1
  replace h := h.2
  exact Ev.vcI (z := mTo_init) [] [.ref (m_nx M), .ref a0] rfl dBo_init_18 oTo_init rfl (Or.inr ⟨_, w130⟩) iTo_init rfl rfl g2 (Nat.le_of_ble_eq_true rfl) h
theorem fBo_16 : FOK "BowingRow" 16 10 2 true := ⟨RX11, TX11, nFd 10, rfl, by decide, rfl, by decide, rfl, lwg_of 484 (by decide +kernel) (by decide +kernel)⟩
theorem bBo_init_21 {l : Launch} {G : Gx} {d : Nat} {bc bs : Nat} {Φ : OutV → Mm → Prop} (M : Mm) (a0 : Nat) (r0 : Nat) (r1 : Nat)
    (h : ((m_sh M r0).1 = 10) ∧ Ev l G d mBo_init 24 [.ref a0] [] (m_sr M r0 2 r1) bc bs Φ) :
    Ev l G d mBo_init 21 [.ref a0] [.ref r1, .ref r0] M bc bs Φ := by
  have g1 := h.1
  replace h := h.2
  refine Ev.putR dBo_init_21 ⟨_, Or.inl ⟨fBo_16, (fun _ => ⟨rfl, fun r hr => by cases hr; rfl⟩)⟩⟩ rfl (fun ad => fitR (by first | exact Or.inl ⟨_, rfl⟩ | exact Or.inr ⟨_, rfl⟩) _ ad) g1 ?_
  exact h
theorem fBo_20 : FOK "BowingRow" 20 10 3 false := ⟨RX11, TX11, nFd 10, rfl, by decide, rfl, by decide, rfl, lwg_of 485 (by decide +kernel) (by decide +kernel)⟩
theorem bBo_init_24 {l : Launch} {G : Gx} {d : Nat} {bc bs : Nat} {Φ : OutV → Mm → Prop} (M : Mm) (a0 : Nat)
    (h : ((m_sh M a0).1 = 10) ∧ Ev l G d mBo_init 29 [.ref a0] [] (m_si M a0 3 ((-1))) bc bs Φ) :
    Ev l G d mBo_init 24 [.ref a0] [] M bc bs Φ := by
  refine Ev.aload_n dBo_init_24 rfl ?_
  refine Ev.iconst (v := (-1)) dBo_init_25 (by decide) ?_
  have g1 := h.1
  replace h := h.2
  refine Ev.putI dBo_init_26 ⟨_, Or.inl ⟨fBo_20, (fun h => by cases h)⟩⟩ rfl ⟨rfl, rfl⟩ g1 ?_
  exact h
theorem w165 : Cond.classLink "BowingRow" 24 "BowingRow$People" ∈ lwg := lwg_of 165 (by decide +kernel) (by decide +kernel)
theorem w166 : Cond.instantiable "BowingRow$People" 3 ∈ lwg := lwg_of 166 (by decide +kernel) (by decide +kernel)
theorem w93 : Cond.initialized "BowingRow$People" ∈ lwg := lwg_of 93 (by decide +kernel) (by decide +kernel)
theorem w167 : Cond.methodLinkNest "BowingRow" 26 ⟨"BowingRow$People", "<init>", "()V"⟩ "BowingRow" ∈ lwx := lwx_of 167 (by decide +kernel) (by decide +kernel)
theorem bBo_init_29 {l : Launch} {G : Gx} {d : Nat} {bc bs : Nat} {Φ : OutV → Mm → Prop} (M : Mm) (a0 : Nat)
    (h : (1 ≤ bc ∧ nFd 6 ≤ bs) ∧ ((m_nx M) ≠ 0) ∧ CallVN l G d mBo_init 37 [.ref a0] [.ref (m_nx M), .ref a0] mPe_init [.ref (m_nx M)] (m_al M (6, 0)) (bc - 1) (bs - nFd 6) Φ) :
    Ev l G d mBo_init 29 [.ref a0] [] M bc bs Φ := by
  refine Ev.aload_n dBo_init_29 rfl ?_
  have g1 := h.1
  replace h := h.2
  refine Ev.newO2 (T := TX6) 6 dBo_init_30 rfl (by decide) w165 w166 w93 g1 ?_
  refine Ev.dup dBo_init_33 rfl ?_
  have g2 := h.1
  replace h := h.2
  exact Ev.vcI (z := mPe_init) [] [.ref (m_nx M), .ref a0] rfl dBo_init_34 oPe_init rfl (Or.inr ⟨_, w167⟩) iPe_init rfl rfl g2 (Nat.le_of_ble_eq_true rfl) h
theorem fBo_27 : FOK "BowingRow" 27 10 4 false := ⟨RX11, TX11, nFd 10, rfl, by decide, rfl, by decide, rfl, lwg_of 486 (by decide +kernel) (by decide +kernel)⟩
theorem bBo_init_37 {l : Launch} {G : Gx} {d : Nat} {bc bs : Nat} {Φ : OutV → Mm → Prop} (M : Mm) (a0 : Nat) (r0 : Nat) (r1 : Nat)
    (h : ((m_sh M r0).1 = 10) ∧ Ev l G d mBo_init 40 [.ref a0] [] (m_sr M r0 4 r1) bc bs Φ) :
    Ev l G d mBo_init 37 [.ref a0] [.ref r1, .ref r0] M bc bs Φ := by
  have g1 := h.1
  replace h := h.2
  refine Ev.putR dBo_init_37 ⟨_, Or.inl ⟨fBo_27, (fun h => by cases h)⟩⟩ rfl (fun ad => fitR (by first | exact Or.inl ⟨_, rfl⟩ | exact Or.inr ⟨_, rfl⟩) _ ad) g1 ?_
  exact h
theorem bBo_init_40 {l : Launch} {G : Gx} {d : Nat} {bc bs : Nat} {Φ : OutV → Mm → Prop} (M : Mm) (a0 : Nat)
    (h : (1 ≤ bc ∧ nFd 6 ≤ bs) ∧ ((m_nx M) ≠ 0) ∧ CallVN l G d mBo_init 48 [.ref a0] [.ref (m_nx M), .ref a0] mPe_init [.ref (m_nx M)] (m_al M (6, 0)) (bc - 1) (bs - nFd 6) Φ) :
    Ev l G d mBo_init 40 [.ref a0] [] M bc bs Φ := by
  refine Ev.aload_n dBo_init_40 rfl ?_
  have g1 := h.1
  replace h := h.2
  refine Ev.newO2 (T := TX6) 6 dBo_init_41 rfl (by decide) w165 w166 w93 g1 ?_
  refine Ev.dup dBo_init_44 rfl ?_
  have g2 := h.1
  replace h := h.2
  exact Ev.vcI (z := mPe_init) [] [.ref (m_nx M), .ref a0] rfl dBo_init_45 oPe_init rfl (Or.inr ⟨_, w167⟩) iPe_init rfl rfl g2 (Nat.le_of_ble_eq_true rfl) h
theorem fBo_31 : FOK "BowingRow" 31 10 5 false := ⟨RX11, TX11, nFd 10, rfl, by decide, rfl, by decide, rfl, lwg_of 487 (by decide +kernel) (by decide +kernel)⟩
theorem bBo_init_48 {l : Launch} {G : Gx} {d : Nat} {bc bs : Nat} {Φ : OutV → Mm → Prop} (M : Mm) (a0 : Nat) (r0 : Nat) (r1 : Nat)
    (h : ((m_sh M r0).1 = 10) ∧ Ev l G d mBo_init 51 [.ref a0] [] (m_sr M r0 5 r1) bc bs Φ) :
    Ev l G d mBo_init 48 [.ref a0] [.ref r1, .ref r0] M bc bs Φ := by
  have g1 := h.1
  replace h := h.2
  refine Ev.putR dBo_init_48 ⟨_, Or.inl ⟨fBo_31, (fun h => by cases h)⟩⟩ rfl (fun ad => fitR (by first | exact Or.inl ⟨_, rfl⟩ | exact Or.inr ⟨_, rfl⟩) _ ad) g1 ?_
  exact h
theorem w188 : Cond.classLink "BowingRow" 34 "BowingRow$Law" ∈ lwg := lwg_of 188 (by decide +kernel) (by decide +kernel)
theorem w189 : Cond.instantiable "BowingRow$Law" 8 ∈ lwg := lwg_of 189 (by decide +kernel) (by decide +kernel)
theorem w94 : Cond.initialized "BowingRow$Law" ∈ lwg := lwg_of 94 (by decide +kernel) (by decide +kernel)
theorem w190 : Cond.methodLinkNest "BowingRow" 36 ⟨"BowingRow$Law", "<init>", "()V"⟩ "BowingRow" ∈ lwx := lwx_of 190 (by decide +kernel) (by decide +kernel)
theorem bBo_init_51 {l : Launch} {G : Gx} {d : Nat} {bc bs : Nat} {Φ : OutV → Mm → Prop} (M : Mm) (a0 : Nat)
    (h : (1 ≤ bc ∧ nFd 4 ≤ bs) ∧ ((m_nx M) ≠ 0) ∧ CallVN l G d mBo_init 59 [.ref a0] [.ref (m_nx M), .ref a0] mLa_init [.ref (m_nx M)] (m_al M (4, 0)) (bc - 1) (bs - nFd 4) Φ) :
    Ev l G d mBo_init 51 [.ref a0] [] M bc bs Φ := by
  refine Ev.aload_n dBo_init_51 rfl ?_
  have g1 := h.1
  replace h := h.2
  refine Ev.newO2 (T := TX4) 4 dBo_init_52 rfl (by decide) w188 w189 w94 g1 ?_
  refine Ev.dup dBo_init_55 rfl ?_
  have g2 := h.1
  replace h := h.2
  exact Ev.vcI (z := mLa_init) [] [.ref (m_nx M), .ref a0] rfl dBo_init_56 oLa_init rfl (Or.inr ⟨_, w190⟩) iLa_init rfl rfl g2 (Nat.le_of_ble_eq_true rfl) h
theorem fBo_37 : FOK "BowingRow" 37 10 6 false := ⟨RX11, TX11, nFd 10, rfl, by decide, rfl, by decide, rfl, lwg_of 488 (by decide +kernel) (by decide +kernel)⟩
theorem bBo_init_59 {l : Launch} {G : Gx} {d : Nat} {bc bs : Nat} {Φ : OutV → Mm → Prop} (M : Mm) (a0 : Nat) (r0 : Nat) (r1 : Nat)
    (h : ((m_sh M r0).1 = 10) ∧ Ev l G d mBo_init 62 [.ref a0] [] (m_sr M r0 6 r1) bc bs Φ) :
    Ev l G d mBo_init 59 [.ref a0] [.ref r1, .ref r0] M bc bs Φ := by
  have g1 := h.1
  replace h := h.2
  refine Ev.putR dBo_init_59 ⟨_, Or.inl ⟨fBo_37, (fun h => by cases h)⟩⟩ rfl (fun ad => fitR (by first | exact Or.inl ⟨_, rfl⟩ | exact Or.inr ⟨_, rfl⟩) _ ad) g1 ?_
  exact h
theorem bBo_init_62 {l : Launch} {G : Gx} {d : Nat} {bc bs : Nat} {Φ : OutV → Mm → Prop} (M : Mm) (a0 : Nat)
    (h : (1 ≤ bc ∧ nFd 4 ≤ bs) ∧ ((m_nx M) ≠ 0) ∧ CallVN l G d mBo_init 70 [.ref a0] [.ref (m_nx M), .ref a0] mLa_init [.ref (m_nx M)] (m_al M (4, 0)) (bc - 1) (bs - nFd 4) Φ) :
    Ev l G d mBo_init 62 [.ref a0] [] M bc bs Φ := by
  refine Ev.aload_n dBo_init_62 rfl ?_
  have g1 := h.1
  replace h := h.2
  refine Ev.newO2 (T := TX4) 4 dBo_init_63 rfl (by decide) w188 w189 w94 g1 ?_
  refine Ev.dup dBo_init_66 rfl ?_
  have g2 := h.1
  replace h := h.2
  exact Ev.vcI (z := mLa_init) [] [.ref (m_nx M), .ref a0] rfl dBo_init_67 oLa_init rfl (Or.inr ⟨_, w190⟩) iLa_init rfl rfl g2 (Nat.le_of_ble_eq_true rfl) h
theorem fBo_41 : FOK "BowingRow" 41 10 7 false := ⟨RX11, TX11, nFd 10, rfl, by decide, rfl, by decide, rfl, lwg_of 489 (by decide +kernel) (by decide +kernel)⟩
theorem bBo_init_70 {l : Launch} {G : Gx} {d : Nat} {bc bs : Nat} {Φ : OutV → Mm → Prop} (M : Mm) (a0 : Nat) (r0 : Nat) (r1 : Nat)
    (h : ((m_sh M r0).1 = 10) ∧ Ev l G d mBo_init 73 [.ref a0] [] (m_sr M r0 7 r1) bc bs Φ) :
    Ev l G d mBo_init 70 [.ref a0] [.ref r1, .ref r0] M bc bs Φ := by
  have g1 := h.1
  replace h := h.2
  refine Ev.putR dBo_init_70 ⟨_, Or.inl ⟨fBo_41, (fun h => by cases h)⟩⟩ rfl (fun ad => fitR (by first | exact Or.inl ⟨_, rfl⟩ | exact Or.inr ⟨_, rfl⟩) _ ad) g1 ?_
  exact h
theorem w224 : Cond.classLink "BowingRow" 44 "BowingRow$InForce" ∈ lwg := lwg_of 224 (by decide +kernel) (by decide +kernel)
theorem w225 : Cond.instantiable "BowingRow$InForce" 7 ∈ lwg := lwg_of 225 (by decide +kernel) (by decide +kernel)
theorem w95 : Cond.initialized "BowingRow$InForce" ∈ lwg := lwg_of 95 (by decide +kernel) (by decide +kernel)
theorem w226 : Cond.methodLink "BowingRow" 46 ⟨"BowingRow$InForce", "<init>", "(LBowingRow$Law;LBowingRow$People;)V"⟩ ∈ lwg := lwg_of 226 (by decide +kernel) (by decide +kernel)
theorem bBo_init_73 {l : Launch} {G : Gx} {d : Nat} {bc bs : Nat} {Φ : OutV → Mm → Prop} (M : Mm) (a0 : Nat)
    (h : (1 ≤ bc ∧ nFd 3 ≤ bs) ∧ ((m_sh (m_al M (3, 0)) a0).1 = 10) ∧ ((m_nx M) ≠ 0) ∧ CallVN l G d mBo_init 89 [.ref a0] [.ref (m_nx M), .ref a0] mIf_init [.ref (m_nx M), .ref (m_r (m_al M (3, 0)) a0 6), .ref (m_r (m_al M (3, 0)) a0 4)] (m_al M (3, 0)) (bc - 1) (bs - nFd 3) Φ) :
    Ev l G d mBo_init 73 [.ref a0] [] M bc bs Φ := by
  refine Ev.aload_n dBo_init_73 rfl ?_
  have g1 := h.1
  replace h := h.2
  refine Ev.newO2 (T := TX3) 3 dBo_init_74 rfl (by decide) w224 w225 w95 g1 ?_
  refine Ev.dup dBo_init_77 rfl ?_
  refine Ev.aload_n dBo_init_78 rfl ?_
  have g2 := h.1
  replace h := h.2
  refine Ev.getR dBo_init_79 (Or.inl fBo_37) rfl g2 ?_
  refine Ev.aload_n dBo_init_82 rfl ?_
  refine Ev.getR dBo_init_83 (Or.inl fBo_27) rfl g2 ?_
  have g3 := h.1
  replace h := h.2
  exact Ev.vcI (z := mIf_init) [.ref (m_r (m_al M (3, 0)) a0 6), .ref (m_r (m_al M (3, 0)) a0 4)] [.ref (m_nx M), .ref a0] rfl dBo_init_86 oIf_init rfl (Or.inl w226) iIf_init rfl rfl g3 (Nat.le_of_ble_eq_true rfl) h
theorem fBo_49 : FOK "BowingRow" 49 10 8 true := ⟨RX11, TX11, nFd 10, rfl, by decide, rfl, by decide, rfl, lwg_of 490 (by decide +kernel) (by decide +kernel)⟩
theorem bBo_init_89 {l : Launch} {G : Gx} {d : Nat} {bc bs : Nat} {Φ : OutV → Mm → Prop} (M : Mm) (a0 : Nat) (r0 : Nat) (r1 : Nat)
    (h : ((m_sh M r0).1 = 10) ∧ Ev l G d mBo_init 92 [.ref a0] [] (m_sr M r0 8 r1) bc bs Φ) :
    Ev l G d mBo_init 89 [.ref a0] [.ref r1, .ref r0] M bc bs Φ := by
  have g1 := h.1
  replace h := h.2
  refine Ev.putR dBo_init_89 ⟨_, Or.inl ⟨fBo_49, (fun _ => ⟨rfl, fun r hr => by cases hr; rfl⟩)⟩⟩ rfl (fun ad => fitR (by first | exact Or.inl ⟨_, rfl⟩ | exact Or.inr ⟨_, rfl⟩) _ ad) g1 ?_
  exact h
theorem bBo_init_92 {l : Launch} {G : Gx} {d : Nat} {bc bs : Nat} {Φ : OutV → Mm → Prop} (M : Mm) (a0 : Nat)
    (h : (1 ≤ bc ∧ nFd 3 ≤ bs) ∧ ((m_sh (m_al M (3, 0)) a0).1 = 10) ∧ ((m_nx M) ≠ 0) ∧ CallVN l G d mBo_init 108 [.ref a0] [.ref (m_nx M), .ref a0] mIf_init [.ref (m_nx M), .ref (m_r (m_al M (3, 0)) a0 6), .ref (m_r (m_al M (3, 0)) a0 4)] (m_al M (3, 0)) (bc - 1) (bs - nFd 3) Φ) :
    Ev l G d mBo_init 92 [.ref a0] [] M bc bs Φ := by
  refine Ev.aload_n dBo_init_92 rfl ?_
  have g1 := h.1
  replace h := h.2
  refine Ev.newO2 (T := TX3) 3 dBo_init_93 rfl (by decide) w224 w225 w95 g1 ?_
  refine Ev.dup dBo_init_96 rfl ?_
  refine Ev.aload_n dBo_init_97 rfl ?_
  have g2 := h.1
  replace h := h.2
  refine Ev.getR dBo_init_98 (Or.inl fBo_37) rfl g2 ?_
  refine Ev.aload_n dBo_init_101 rfl ?_
  refine Ev.getR dBo_init_102 (Or.inl fBo_27) rfl g2 ?_
  have g3 := h.1
  replace h := h.2
  exact Ev.vcI (z := mIf_init) [.ref (m_r (m_al M (3, 0)) a0 6), .ref (m_r (m_al M (3, 0)) a0 4)] [.ref (m_nx M), .ref a0] rfl dBo_init_105 oIf_init rfl (Or.inl w226) iIf_init rfl rfl g3 (Nat.le_of_ble_eq_true rfl) h
theorem fBo_53 : FOK "BowingRow" 53 10 9 true := ⟨RX11, TX11, nFd 10, rfl, by decide, rfl, by decide, rfl, lwg_of 491 (by decide +kernel) (by decide +kernel)⟩
theorem bBo_init_108 {l : Launch} {G : Gx} {d : Nat} {bc bs : Nat} {Φ : OutV → Mm → Prop} (M : Mm) (a0 : Nat) (r0 : Nat) (r1 : Nat)
    (h : ((m_sh M r0).1 = 10) ∧ Ev l G d mBo_init 111 [.ref a0] [] (m_sr M r0 9 r1) bc bs Φ) :
    Ev l G d mBo_init 108 [.ref a0] [.ref r1, .ref r0] M bc bs Φ := by
  have g1 := h.1
  replace h := h.2
  refine Ev.putR dBo_init_108 ⟨_, Or.inl ⟨fBo_53, (fun _ => ⟨rfl, fun r hr => by cases hr; rfl⟩)⟩⟩ rfl (fun ad => fitR (by first | exact Or.inl ⟨_, rfl⟩ | exact Or.inr ⟨_, rfl⟩) _ ad) g1 ?_
  exact h
theorem w261 : Cond.classLink "BowingRow" 56 "BowingRow$Day" ∈ lwg := lwg_of 261 (by decide +kernel) (by decide +kernel)
theorem w262 : Cond.instantiable "BowingRow$Day" 17 ∈ lwg := lwg_of 262 (by decide +kernel) (by decide +kernel)
theorem w97 : Cond.initialized "BowingRow$Day" ∈ lwg := lwg_of 97 (by decide +kernel) (by decide +kernel)
theorem w263 : Cond.methodLink "BowingRow" 58 ⟨"BowingRow$Day", "<init>", "(LBowingRow$People;LBowingRow$InForce;)V"⟩ ∈ lwg := lwg_of 263 (by decide +kernel) (by decide +kernel)
theorem bBo_init_111 {l : Launch} {G : Gx} {d : Nat} {bc bs : Nat} {Φ : OutV → Mm → Prop} (M : Mm) (a0 : Nat)
    (h : (1 ≤ bc ∧ nFd 1 ≤ bs) ∧ ((m_sh (m_al M (1, 0)) a0).1 = 10) ∧ ((m_nx M) ≠ 0) ∧ CallVN l G d mBo_init 127 [.ref a0] [.ref (m_nx M), .ref a0] mDa_init [.ref (m_nx M), .ref (m_r (m_al M (1, 0)) a0 4), .ref (m_r (m_al M (1, 0)) a0 8)] (m_al M (1, 0)) (bc - 1) (bs - nFd 1) Φ) :
    Ev l G d mBo_init 111 [.ref a0] [] M bc bs Φ := by
  refine Ev.aload_n dBo_init_111 rfl ?_
  have g1 := h.1
  replace h := h.2
  refine Ev.newO2 (T := TX1) 1 dBo_init_112 rfl (by decide) w261 w262 w97 g1 ?_
  refine Ev.dup dBo_init_115 rfl ?_
  refine Ev.aload_n dBo_init_116 rfl ?_
  have g2 := h.1
  replace h := h.2
  refine Ev.getR dBo_init_117 (Or.inl fBo_27) rfl g2 ?_
  refine Ev.aload_n dBo_init_120 rfl ?_
  refine Ev.getR dBo_init_121 (Or.inl fBo_49) rfl g2 ?_
  have g3 := h.1
  replace h := h.2
  exact Ev.vcI (z := mDa_init) [.ref (m_r (m_al M (1, 0)) a0 4), .ref (m_r (m_al M (1, 0)) a0 8)] [.ref (m_nx M), .ref a0] rfl dBo_init_124 oDa_init rfl (Or.inl w263) iDa_init rfl rfl g3 (Nat.le_of_ble_eq_true rfl) h
theorem fBo_61 : FOK "BowingRow" 61 10 10 true := ⟨RX11, TX11, nFd 10, rfl, by decide, rfl, by decide, rfl, lwg_of 492 (by decide +kernel) (by decide +kernel)⟩
theorem bBo_init_127 {l : Launch} {G : Gx} {d : Nat} {bc bs : Nat} {Φ : OutV → Mm → Prop} (M : Mm) (a0 : Nat) (r0 : Nat) (r1 : Nat)
    (h : ((m_sh M r0).1 = 10) ∧ Ev l G d mBo_init 130 [.ref a0] [] (m_sr M r0 10 r1) bc bs Φ) :
    Ev l G d mBo_init 127 [.ref a0] [.ref r1, .ref r0] M bc bs Φ := by
  have g1 := h.1
  replace h := h.2
  refine Ev.putR dBo_init_127 ⟨_, Or.inl ⟨fBo_61, (fun _ => ⟨rfl, fun r hr => by cases hr; rfl⟩)⟩⟩ rfl (fun ad => fitR (by first | exact Or.inl ⟨_, rfl⟩ | exact Or.inr ⟨_, rfl⟩) _ ad) g1 ?_
  exact h
theorem bBo_init_130 {l : Launch} {G : Gx} {d : Nat} {bc bs : Nat} {Φ : OutV → Mm → Prop} (M : Mm) (a0 : Nat)
    (h : (1 ≤ bc ∧ nFd 1 ≤ bs) ∧ ((m_sh (m_al M (1, 0)) a0).1 = 10) ∧ ((m_nx M) ≠ 0) ∧ CallVN l G d mBo_init 146 [.ref a0] [.ref (m_nx M), .ref a0] mDa_init [.ref (m_nx M), .ref (m_r (m_al M (1, 0)) a0 4), .ref (m_r (m_al M (1, 0)) a0 8)] (m_al M (1, 0)) (bc - 1) (bs - nFd 1) Φ) :
    Ev l G d mBo_init 130 [.ref a0] [] M bc bs Φ := by
  refine Ev.aload_n dBo_init_130 rfl ?_
  have g1 := h.1
  replace h := h.2
  refine Ev.newO2 (T := TX1) 1 dBo_init_131 rfl (by decide) w261 w262 w97 g1 ?_
  refine Ev.dup dBo_init_134 rfl ?_
  refine Ev.aload_n dBo_init_135 rfl ?_
  have g2 := h.1
  replace h := h.2
  refine Ev.getR dBo_init_136 (Or.inl fBo_27) rfl g2 ?_
  refine Ev.aload_n dBo_init_139 rfl ?_
  refine Ev.getR dBo_init_140 (Or.inl fBo_49) rfl g2 ?_
  have g3 := h.1
  replace h := h.2
  exact Ev.vcI (z := mDa_init) [.ref (m_r (m_al M (1, 0)) a0 4), .ref (m_r (m_al M (1, 0)) a0 8)] [.ref (m_nx M), .ref a0] rfl dBo_init_143 oDa_init rfl (Or.inl w263) iDa_init rfl rfl g3 (Nat.le_of_ble_eq_true rfl) h
theorem fBo_65 : FOK "BowingRow" 65 10 11 true := ⟨RX11, TX11, nFd 10, rfl, by decide, rfl, by decide, rfl, lwg_of 493 (by decide +kernel) (by decide +kernel)⟩
theorem bBo_init_146 {l : Launch} {G : Gx} {d : Nat} {bc bs : Nat} {Φ : OutV → Mm → Prop} (M : Mm) (a0 : Nat) (r0 : Nat) (r1 : Nat)
    (h : ((m_sh M r0).1 = 10) ∧ Ev l G d mBo_init 149 [.ref a0] [] (m_sr M r0 11 r1) bc bs Φ) :
    Ev l G d mBo_init 146 [.ref a0] [.ref r1, .ref r0] M bc bs Φ := by
  have g1 := h.1
  replace h := h.2
  refine Ev.putR dBo_init_146 ⟨_, Or.inl ⟨fBo_65, (fun _ => ⟨rfl, fun r hr => by cases hr; rfl⟩)⟩⟩ rfl (fun ad => fitR (by first | exact Or.inl ⟨_, rfl⟩ | exact Or.inr ⟨_, rfl⟩) _ ad) g1 ?_
  exact h
theorem w413 : Cond.classLink "BowingRow" 68 "BowingRow$WayRows" ∈ lwg := lwg_of 413 (by decide +kernel) (by decide +kernel)
theorem w414 : Cond.instantiable "BowingRow$WayRows" 6 ∈ lwg := lwg_of 414 (by decide +kernel) (by decide +kernel)
theorem w100 : Cond.initialized "BowingRow$WayRows" ∈ lwg := lwg_of 100 (by decide +kernel) (by decide +kernel)
theorem w415 : Cond.methodLinkNest "BowingRow" 70 ⟨"BowingRow$WayRows", "<init>", "()V"⟩ "BowingRow" ∈ lwx := lwx_of 415 (by decide +kernel) (by decide +kernel)
theorem bBo_init_149 {l : Launch} {G : Gx} {d : Nat} {bc bs : Nat} {Φ : OutV → Mm → Prop} (M : Mm) (a0 : Nat)
    (h : (1 ≤ bc ∧ nFd 9 ≤ bs) ∧ ((m_nx M) ≠ 0) ∧ CallVN l G d mBo_init 157 [.ref a0] [.ref (m_nx M), .ref a0] mWr_init [.ref (m_nx M)] (m_al M (9, 0)) (bc - 1) (bs - nFd 9) Φ) :
    Ev l G d mBo_init 149 [.ref a0] [] M bc bs Φ := by
  refine Ev.aload_n dBo_init_149 rfl ?_
  have g1 := h.1
  replace h := h.2
  refine Ev.newO2 (T := TX9) 9 dBo_init_150 rfl (by decide) w413 w414 w100 g1 ?_
  refine Ev.dup dBo_init_153 rfl ?_
  have g2 := h.1
  replace h := h.2
  exact Ev.vcI (z := mWr_init) [] [.ref (m_nx M), .ref a0] rfl dBo_init_154 oWr_init rfl (Or.inr ⟨_, w415⟩) iWr_init rfl rfl g2 (Nat.le_of_ble_eq_true rfl) h
theorem fBo_71 : FOK "BowingRow" 71 10 12 true := ⟨RX11, TX11, nFd 10, rfl, by decide, rfl, by decide, rfl, lwg_of 494 (by decide +kernel) (by decide +kernel)⟩
theorem bBo_init_157 {l : Launch} {G : Gx} {d : Nat} {bc bs : Nat} {Φ : OutV → Mm → Prop} (M : Mm) (a0 : Nat) (r0 : Nat) (r1 : Nat)
    (h : ((m_sh M r0).1 = 10) ∧ Ev l G d mBo_init 160 [.ref a0] [] (m_sr M r0 12 r1) bc bs Φ) :
    Ev l G d mBo_init 157 [.ref a0] [.ref r1, .ref r0] M bc bs Φ := by
  have g1 := h.1
  replace h := h.2
  refine Ev.putR dBo_init_157 ⟨_, Or.inl ⟨fBo_71, (fun _ => ⟨rfl, fun r hr => by cases hr; rfl⟩)⟩⟩ rfl (fun ad => fitR (by first | exact Or.inl ⟨_, rfl⟩ | exact Or.inr ⟨_, rfl⟩) _ ad) g1 ?_
  exact h
theorem w443 : Cond.classLink "BowingRow" 75 "BowingRow$Strikes" ∈ lwg := lwg_of 443 (by decide +kernel) (by decide +kernel)
theorem w444 : Cond.instantiable "BowingRow$Strikes" 3 ∈ lwg := lwg_of 444 (by decide +kernel) (by decide +kernel)
theorem w101 : Cond.initialized "BowingRow$Strikes" ∈ lwg := lwg_of 101 (by decide +kernel) (by decide +kernel)
theorem w445 : Cond.methodLinkNest "BowingRow" 77 ⟨"BowingRow$Strikes", "<init>", "()V"⟩ "BowingRow" ∈ lwx := lwx_of 445 (by decide +kernel) (by decide +kernel)
theorem bBo_init_160 {l : Launch} {G : Gx} {d : Nat} {bc bs : Nat} {Φ : OutV → Mm → Prop} (M : Mm) (a0 : Nat)
    (h : (1 ≤ bc ∧ nFd 7 ≤ bs) ∧ ((m_nx M) ≠ 0) ∧ CallVN l G d mBo_init 168 [.ref a0] [.ref (m_nx M), .ref a0] mSk_init [.ref (m_nx M)] (m_al M (7, 0)) (bc - 1) (bs - nFd 7) Φ) :
    Ev l G d mBo_init 160 [.ref a0] [] M bc bs Φ := by
  refine Ev.aload_n dBo_init_160 rfl ?_
  have g1 := h.1
  replace h := h.2
  refine Ev.newO2 (T := TX7) 7 dBo_init_161 rfl (by decide) w443 w444 w101 g1 ?_
  refine Ev.dup dBo_init_164 rfl ?_
  have g2 := h.1
  replace h := h.2
  exact Ev.vcI (z := mSk_init) [] [.ref (m_nx M), .ref a0] rfl dBo_init_165 oSk_init rfl (Or.inr ⟨_, w445⟩) iSk_init rfl rfl g2 (Nat.le_of_ble_eq_true rfl) h
theorem fBo_78 : FOK "BowingRow" 78 10 13 true := ⟨RX11, TX11, nFd 10, rfl, by decide, rfl, by decide, rfl, lwg_of 495 (by decide +kernel) (by decide +kernel)⟩
theorem bBo_init_168 {l : Launch} {G : Gx} {d : Nat} {bc bs : Nat} {Φ : OutV → Mm → Prop} (M : Mm) (a0 : Nat) (r0 : Nat) (r1 : Nat)
    (h : ((m_sh M r0).1 = 10) ∧ Ev l G d mBo_init 171 [.ref a0] [] (m_sr M r0 13 r1) bc bs Φ) :
    Ev l G d mBo_init 168 [.ref a0] [.ref r1, .ref r0] M bc bs Φ := by
  have g1 := h.1
  replace h := h.2
  refine Ev.putR dBo_init_168 ⟨_, Or.inl ⟨fBo_78, (fun _ => ⟨rfl, fun r hr => by cases hr; rfl⟩)⟩⟩ rfl (fun ad => fitR (by first | exact Or.inl ⟨_, rfl⟩ | exact Or.inr ⟨_, rfl⟩) _ ad) g1 ?_
  exact h
theorem fBo_82 : FOK "BowingRow" 82 10 14 true := ⟨RX11, TX11, nFd 10, rfl, by decide, rfl, by decide, rfl, lwg_of 496 (by decide +kernel) (by decide +kernel)⟩
theorem bBo_init_171 {l : Launch} {G : Gx} {d : Nat} {bc bs : Nat} {Φ : OutV → Mm → Prop} (M : Mm) (a0 : Nat)
    (h : (1 ≤ bc ∧ 8 ≤ bs) ∧ ((m_sh (m_al M (20, 8)) a0).1 = 10) ∧ Ev l G d mBo_init 179 [.ref a0] [] (m_sr (m_al M (20, 8)) a0 14 (m_nx M)) (bc - 1) (bs - 8) Φ) :
    Ev l G d mBo_init 171 [.ref a0] [] M bc bs Φ := by
  refine Ev.aload_n dBo_init_171 rfl ?_
  refine Ev.bipush (v := 8) dBo_init_172 (by decide) ?_
  have g1 := h.1
  replace h := h.2
  refine Ev.newI2 8 dBo_init_174 w164 (by decide) (by decide) (by decide) g1 ?_
  have g2 := h.1
  replace h := h.2
  refine Ev.putR dBo_init_176 ⟨_, Or.inl ⟨fBo_82, (fun _ => ⟨rfl, fun r hr => by cases hr; rfl⟩)⟩⟩ rfl (fun ad => fitR (by first | exact Or.inl ⟨_, rfl⟩ | exact Or.inr ⟨_, rfl⟩) _ ad) g2 ?_
  exact h
theorem w462 : Cond.classLink "BowingRow" 86 "BowingRow$Image" ∈ lwg := lwg_of 462 (by decide +kernel) (by decide +kernel)
theorem w463 : Cond.arrayOver (.object "BowingRow$Image") ∈ lwx := lwx_of 463 (by decide +kernel) (by decide +kernel)
theorem w464 : Cond.instantiable "BowingRow$Image" 4 ∈ lwg := lwg_of 464 (by decide +kernel) (by decide +kernel)
theorem w102 : Cond.initialized "BowingRow$Image" ∈ lwg := lwg_of 102 (by decide +kernel) (by decide +kernel)
theorem w465 : Cond.methodLinkNest "BowingRow" 88 ⟨"BowingRow$Image", "<init>", "()V"⟩ "BowingRow" ∈ lwx := lwx_of 465 (by decide +kernel) (by decide +kernel)
theorem bBo_init_179 {l : Launch} {G : Gx} {d : Nat} {bc bs : Nat} {Φ : OutV → Mm → Prop} (M : Mm) (a0 : Nat)
    (h : (1 ≤ bc ∧ 3 ≤ bs) ∧ (1 ≤ (bc - 1) ∧ nFd 2 ≤ (bs - 3)) ∧ ((m_nx (m_al M (31, 3))) ≠ 0) ∧ CallVN l G d mBo_init 193 [.ref a0] [.ref (m_nx (m_al M (31, 3))), .int 0, .ref (m_nx M), .ref (m_nx M), .ref a0] mIm_init [.ref (m_nx (m_al M (31, 3)))] (m_al (m_al M (31, 3)) (2, 0)) (bc - 1 - 1) (bs - 3 - nFd 2) Φ) :
    Ev l G d mBo_init 179 [.ref a0] [] M bc bs Φ := by
  refine Ev.aload_n dBo_init_179 rfl ?_
  refine Ev.iconst (v := 3) dBo_init_180 (by decide) ?_
  have g1 := h.1
  replace h := h.2
  refine Ev.newQ2 31 4 3 dBo_init_181 (by decide) (fun _ => rfl) w462 w463 (by decide) (by decide) (by decide) g1 ?_
  refine Ev.dup dBo_init_184 rfl ?_
  refine Ev.iconst (v := 0) dBo_init_185 (by decide) ?_
  have g2 := h.1
  replace h := h.2
  refine Ev.newO2 (T := TX2) 2 dBo_init_186 rfl (by decide) w462 w464 w102 g2 ?_
  refine Ev.dup dBo_init_189 rfl ?_
  have g3 := h.1
  replace h := h.2
  exact Ev.vcI (z := mIm_init) [] [.ref (m_nx (m_al M (31, 3))), .int 0, .ref (m_nx M), .ref (m_nx M), .ref a0] rfl dBo_init_190 oIm_init rfl (Or.inr ⟨_, w465⟩) iIm_init rfl rfl g3 (Nat.le_of_ble_eq_true rfl) h
theorem bBo_init_193 {l : Launch} {G : Gx} {d : Nat} {bc bs : Nat} {Φ : OutV → Mm → Prop} (M : Mm) (a0 : Nat) (r0 : Nat) (r1 : Nat) (r2 : Nat) (s3 : Int32) (r4 : Nat)
    (h : ((m_sh M r2).1 = 31) ∧ (vp_in s3 (m_sh M r2).2) ∧ ((m_sh M r4).1 = 2) ∧ (1 ≤ bc ∧ nFd 2 ≤ bs) ∧ ((m_nx (m_sr M r2 s3.toNatClampNeg r4)) ≠ 0) ∧ CallVN l G d mBo_init 203 [.ref a0] [.ref (m_nx (m_sr M r2 s3.toNatClampNeg r4)), .int 1, .ref r1, .ref r1, .ref r0] mIm_init [.ref (m_nx (m_sr M r2 s3.toNatClampNeg r4))] (m_al (m_sr M r2 s3.toNatClampNeg r4) (2, 0)) (bc - 1) (bs - nFd 2) Φ) :
    Ev l G d mBo_init 193 [.ref a0] [.ref r4, .int s3, .ref r2, .ref r1, .ref r0] M bc bs Φ := by
  have g1 := h.1
  replace h := h.2
  have g2 := h.1
  replace h := h.2
  have g3 := h.1
  replace h := h.2
  refine Ev.aast2 31 4 2 dBo_init_193 (by decide) (fun _ => rfl) rfl (by decide) g1 g2 g3 ?_
  refine Ev.dup dBo_init_194 rfl ?_
  refine Ev.iconst (v := 1) dBo_init_195 (by decide) ?_
  have g4 := h.1
  replace h := h.2
  refine Ev.newO2 (T := TX2) 2 dBo_init_196 rfl (by decide) w462 w464 w102 g4 ?_
  refine Ev.dup dBo_init_199 rfl ?_
  have g5 := h.1
  replace h := h.2
  exact Ev.vcI (z := mIm_init) [] [.ref (m_nx (m_sr M r2 s3.toNatClampNeg r4)), .int 1, .ref r1, .ref r1, .ref r0] rfl dBo_init_200 oIm_init rfl (Or.inr ⟨_, w465⟩) iIm_init rfl rfl g5 (Nat.le_of_ble_eq_true rfl) h
theorem bBo_init_203 {l : Launch} {G : Gx} {d : Nat} {bc bs : Nat} {Φ : OutV → Mm → Prop} (M : Mm) (a0 : Nat) (r0 : Nat) (r1 : Nat) (r2 : Nat) (s3 : Int32) (r4 : Nat)
    (h : ((m_sh M r2).1 = 31) ∧ (vp_in s3 (m_sh M r2).2) ∧ ((m_sh M r4).1 = 2) ∧ (1 ≤ bc ∧ nFd 2 ≤ bs) ∧ ((m_nx (m_sr M r2 s3.toNatClampNeg r4)) ≠ 0) ∧ CallVN l G d mBo_init 213 [.ref a0] [.ref (m_nx (m_sr M r2 s3.toNatClampNeg r4)), .int 2, .ref r1, .ref r1, .ref r0] mIm_init [.ref (m_nx (m_sr M r2 s3.toNatClampNeg r4))] (m_al (m_sr M r2 s3.toNatClampNeg r4) (2, 0)) (bc - 1) (bs - nFd 2) Φ) :
    Ev l G d mBo_init 203 [.ref a0] [.ref r4, .int s3, .ref r2, .ref r1, .ref r0] M bc bs Φ := by
  have g1 := h.1
  replace h := h.2
  have g2 := h.1
  replace h := h.2
  have g3 := h.1
  replace h := h.2
  refine Ev.aast2 31 4 2 dBo_init_203 (by decide) (fun _ => rfl) rfl (by decide) g1 g2 g3 ?_
  refine Ev.dup dBo_init_204 rfl ?_
  refine Ev.iconst (v := 2) dBo_init_205 (by decide) ?_
  have g4 := h.1
  replace h := h.2
  refine Ev.newO2 (T := TX2) 2 dBo_init_206 rfl (by decide) w462 w464 w102 g4 ?_
  refine Ev.dup dBo_init_209 rfl ?_
  have g5 := h.1
  replace h := h.2
  exact Ev.vcI (z := mIm_init) [] [.ref (m_nx (m_sr M r2 s3.toNatClampNeg r4)), .int 2, .ref r1, .ref r1, .ref r0] rfl dBo_init_210 oIm_init rfl (Or.inr ⟨_, w465⟩) iIm_init rfl rfl g5 (Nat.le_of_ble_eq_true rfl) h
theorem fBo_89 : FOK "BowingRow" 89 10 16 true := ⟨RX11, TX11, nFd 10, rfl, by decide, rfl, by decide, rfl, lwg_of 498 (by decide +kernel) (by decide +kernel)⟩
theorem bBo_init_213 {l : Launch} {G : Gx} {d : Nat} {bc bs : Nat} {Φ : OutV → Mm → Prop} (M : Mm) (a0 : Nat) (r0 : Nat) (r1 : Nat) (r2 : Nat) (s3 : Int32) (r4 : Nat)
    (h : ((m_sh M r2).1 = 31) ∧ (vp_in s3 (m_sh M r2).2) ∧ ((m_sh M r4).1 = 2) ∧ ((m_sh M r0).1 = 10) ∧ Ev l G d mBo_init 217 [.ref a0] [] (m_sr (m_sr M r2 s3.toNatClampNeg r4) r0 16 r1) bc bs Φ) :
    Ev l G d mBo_init 213 [.ref a0] [.ref r4, .int s3, .ref r2, .ref r1, .ref r0] M bc bs Φ := by
  have g1 := h.1
  replace h := h.2
  have g2 := h.1
  replace h := h.2
  have g3 := h.1
  replace h := h.2
  refine Ev.aast2 31 4 2 dBo_init_213 (by decide) (fun _ => rfl) rfl (by decide) g1 g2 g3 ?_
  have g4 := h.1
  replace h := h.2
  refine Ev.putR dBo_init_214 ⟨_, Or.inl ⟨fBo_89, (fun _ => ⟨rfl, fun r hr => by cases hr; rfl⟩)⟩⟩ rfl (fun ad => fitR (by first | exact Or.inl ⟨_, rfl⟩ | exact Or.inr ⟨_, rfl⟩) _ ad) g4 ?_
  exact h
theorem bBo_init_217 {l : Launch} {G : Gx} {d : Nat} {bc bs : Nat} {Φ : OutV → Mm → Prop} (M : Mm) (a0 : Nat)
    (h : Φ (.inl none) M) :
    Ev l G d mBo_init 217 [.ref a0] [] M bc bs Φ := by
  exact Ev.vret dBo_init_217 rfl h
def mBo_feed : MR := (⟨"BowingRow", "feed", "(IIIII)I"⟩, prog_1_method_2_code, 6, (Option.some .int))
theorem oBo_feed : MOK mBo_feed 5 := ⟨lwg_of 540 (by decide +kernel) (by decide +kernel), lwg_of 91 (by decide +kernel) (by decide +kernel), ⟨by decide +kernel, by decide +kernel⟩, by decide +kernel, by decide⟩
theorem iBo_feed : Cond.instanceMethod mBo_feed.1 ∈ lwg := lwg_of 538 (by decide +kernel) (by decide +kernel)
theorem sBo_feed : Cond.selects mBo_feed.1.cls mBo_feed.1 mBo_feed.1 ∈ lwg := lwg_of 539 (by decide +kernel) (by decide +kernel)
theorem dBo_feed_0 : decode mBo_feed.2.1 0 = .ok (.aload_n 0, 1) := by decide +kernel
theorem dBo_feed_1 : decode mBo_feed.2.1 1 = .ok (.getfield 93, 3) := by decide +kernel
theorem dBo_feed_4 : decode mBo_feed.2.1 4 = .ok (.bipush 20, 2) := by decide +kernel
theorem dBo_feed_6 : decode mBo_feed.2.1 6 = .ok (.iadd, 1) := by decide +kernel
theorem dBo_feed_7 : decode mBo_feed.2.1 7 = .ok (.sipush 500, 3) := by decide +kernel
theorem dBo_feed_10 : decode mBo_feed.2.1 10 = .ok (.if_icmp .le 5, 3) := by decide +kernel
theorem dBo_feed_13 : decode mBo_feed.2.1 13 = .ok (.iconst (-1), 1) := by decide +kernel
theorem dBo_feed_14 : decode mBo_feed.2.1 14 = .ok (.ireturn, 1) := by decide +kernel
theorem dBo_feed_15 : decode mBo_feed.2.1 15 = .ok (.aload_n 0, 1) := by decide +kernel
theorem dBo_feed_16 : decode mBo_feed.2.1 16 = .ok (.iload_n 1, 1) := by decide +kernel
theorem dBo_feed_17 : decode mBo_feed.2.1 17 = .ok (.invokevirtual 96, 3) := by decide +kernel
theorem dBo_feed_20 : decode mBo_feed.2.1 20 = .ok (.aload_n 0, 1) := by decide +kernel
theorem dBo_feed_21 : decode mBo_feed.2.1 21 = .ok (.iload_n 2, 1) := by decide +kernel
theorem dBo_feed_22 : decode mBo_feed.2.1 22 = .ok (.invokevirtual 96, 3) := by decide +kernel
theorem dBo_feed_25 : decode mBo_feed.2.1 25 = .ok (.aload_n 0, 1) := by decide +kernel
theorem dBo_feed_26 : decode mBo_feed.2.1 26 = .ok (.iload_n 3, 1) := by decide +kernel
theorem dBo_feed_27 : decode mBo_feed.2.1 27 = .ok (.invokevirtual 96, 3) := by decide +kernel
theorem dBo_feed_30 : decode mBo_feed.2.1 30 = .ok (.aload_n 0, 1) := by decide +kernel
theorem dBo_feed_31 : decode mBo_feed.2.1 31 = .ok (.iload 4, 2) := by decide +kernel
theorem dBo_feed_33 : decode mBo_feed.2.1 33 = .ok (.invokevirtual 96, 3) := by decide +kernel
theorem dBo_feed_36 : decode mBo_feed.2.1 36 = .ok (.aload_n 0, 1) := by decide +kernel
theorem dBo_feed_37 : decode mBo_feed.2.1 37 = .ok (.iload 5, 2) := by decide +kernel
theorem dBo_feed_39 : decode mBo_feed.2.1 39 = .ok (.invokevirtual 96, 3) := by decide +kernel
theorem dBo_feed_42 : decode mBo_feed.2.1 42 = .ok (.aload_n 0, 1) := by decide +kernel
theorem dBo_feed_43 : decode mBo_feed.2.1 43 = .ok (.getfield 93, 3) := by decide +kernel
theorem dBo_feed_46 : decode mBo_feed.2.1 46 = .ok (.ireturn, 1) := by decide +kernel
theorem fBo_93 : FOK "BowingRow" 93 10 1 false := ⟨RX11, TX11, nFd 10, rfl, by decide, rfl, by decide, rfl, lwg_of 483 (by decide +kernel) (by decide +kernel)⟩
def mBo_putOnTape : MR := (⟨"BowingRow", "putOnTape", "(I)V"⟩, prog_1_method_37_code, 3, none)
theorem oBo_putOnTape : MOK mBo_putOnTape 1 := ⟨lwg_of 544 (by decide +kernel) (by decide +kernel), lwg_of 91 (by decide +kernel) (by decide +kernel), ⟨by decide +kernel, by decide +kernel⟩, by decide +kernel, by decide⟩
theorem iBo_putOnTape : Cond.instanceMethod mBo_putOnTape.1 ∈ lwg := lwg_of 543 (by decide +kernel) (by decide +kernel)
theorem sBo_putOnTape : Cond.selects mBo_putOnTape.1.cls mBo_putOnTape.1 mBo_putOnTape.1 ∈ lwg := lwg_of 1 (by decide +kernel) (by decide +kernel)
theorem w541 : Cond.methodLink "BowingRow" 96 ⟨"BowingRow", "putOnTape", "(I)V"⟩ ∈ lwg := lwg_of 541 (by decide +kernel) (by decide +kernel)
theorem bBo_feed_0 {l : Launch} {G : Gx} {d : Nat} {bc bs : Nat} {Φ : OutV → Mm → Prop} (M : Mm) (a0 : Nat) (x1 : Int32) (x2 : Int32) (x3 : Int32) (x4 : Int32) (x5 : Int32)
    (h : ((m_sh M a0).1 = 10) ∧ (((m_i M a0 1) + 20) ≤ 500 → CallVC l G d mBo_feed 20 [.ref a0, .int x1, .int x2, .int x3, .int x4, .int x5] [] mBo_putOnTape [.ref a0, .int x1] M bc bs Φ) ∧ (¬ ((m_i M a0 1) + 20) ≤ 500 → Φ (.inl (some (.int ((-1))))) M)) :
    Ev l G d mBo_feed 0 [.ref a0, .int x1, .int x2, .int x3, .int x4, .int x5] [] M bc bs Φ := by
  refine Ev.aload_n dBo_feed_0 rfl ?_
  have g1 := h.1
  replace h := h.2
  refine Ev.getI dBo_feed_1 (Or.inl fBo_93) rfl g1 ?_
  refine Ev.bipush (v := 20) dBo_feed_4 (by decide) ?_
  refine Ev.iadd dBo_feed_6 ?_
  refine Ev.sipush (v := 500) dBo_feed_7 (by decide) ?_
  refine Ev.icmp_le 15 (by decide) dBo_feed_10 (fun c => ?_) (fun c => ?_)
  · replace h := h.1 c
    refine Ev.aload_n dBo_feed_15 rfl ?_
    refine Ev.iload_n dBo_feed_16 rfl ?_
    exact Ev.vcV (z := mBo_putOnTape) (ci := 10) [.int x1] [] rfl dBo_feed_17 oBo_putOnTape rfl w541 iBo_putOnTape sBo_putOnTape (by decide) rfl g1 (Nat.le_of_ble_eq_true rfl) h
  · replace h := h.2 c
    refine Ev.iconst (v := (-1)) dBo_feed_13 (by decide) ?_
    exact Ev.iret dBo_feed_14 rfl rfl h
theorem bBo_feed_20 {l : Launch} {G : Gx} {d : Nat} {bc bs : Nat} {Φ : OutV → Mm → Prop} (M : Mm) (a0 : Nat) (x1 : Int32) (x2 : Int32) (x3 : Int32) (x4 : Int32) (x5 : Int32)
    (h : ((m_sh M a0).1 = 10) ∧ CallVC l G d mBo_feed 25 [.ref a0, .int x1, .int x2, .int x3, .int x4, .int x5] [] mBo_putOnTape [.ref a0, .int x2] M bc bs Φ) :
    Ev l G d mBo_feed 20 [.ref a0, .int x1, .int x2, .int x3, .int x4, .int x5] [] M bc bs Φ := by
  refine Ev.aload_n dBo_feed_20 rfl ?_
  refine Ev.iload_n dBo_feed_21 rfl ?_
  have g1 := h.1
  replace h := h.2
  exact Ev.vcV (z := mBo_putOnTape) (ci := 10) [.int x2] [] rfl dBo_feed_22 oBo_putOnTape rfl w541 iBo_putOnTape sBo_putOnTape (by decide) rfl g1 (Nat.le_of_ble_eq_true rfl) h
theorem bBo_feed_25 {l : Launch} {G : Gx} {d : Nat} {bc bs : Nat} {Φ : OutV → Mm → Prop} (M : Mm) (a0 : Nat) (x1 : Int32) (x2 : Int32) (x3 : Int32) (x4 : Int32) (x5 : Int32)
    (h : ((m_sh M a0).1 = 10) ∧ CallVC l G d mBo_feed 30 [.ref a0, .int x1, .int x2, .int x3, .int x4, .int x5] [] mBo_putOnTape [.ref a0, .int x3] M bc bs Φ) :
    Ev l G d mBo_feed 25 [.ref a0, .int x1, .int x2, .int x3, .int x4, .int x5] [] M bc bs Φ := by
  refine Ev.aload_n dBo_feed_25 rfl ?_
  refine Ev.iload_n dBo_feed_26 rfl ?_
  have g1 := h.1
  replace h := h.2
  exact Ev.vcV (z := mBo_putOnTape) (ci := 10) [.int x3] [] rfl dBo_feed_27 oBo_putOnTape rfl w541 iBo_putOnTape sBo_putOnTape (by decide) rfl g1 (Nat.le_of_ble_eq_true rfl) h
theorem bBo_feed_30 {l : Launch} {G : Gx} {d : Nat} {bc bs : Nat} {Φ : OutV → Mm → Prop} (M : Mm) (a0 : Nat) (x1 : Int32) (x2 : Int32) (x3 : Int32) (x4 : Int32) (x5 : Int32)
    (h : ((m_sh M a0).1 = 10) ∧ CallVC l G d mBo_feed 36 [.ref a0, .int x1, .int x2, .int x3, .int x4, .int x5] [] mBo_putOnTape [.ref a0, .int x4] M bc bs Φ) :
    Ev l G d mBo_feed 30 [.ref a0, .int x1, .int x2, .int x3, .int x4, .int x5] [] M bc bs Φ := by
  refine Ev.aload_n dBo_feed_30 rfl ?_
  refine Ev.iload dBo_feed_31 rfl ?_
  have g1 := h.1
  replace h := h.2
  exact Ev.vcV (z := mBo_putOnTape) (ci := 10) [.int x4] [] rfl dBo_feed_33 oBo_putOnTape rfl w541 iBo_putOnTape sBo_putOnTape (by decide) rfl g1 (Nat.le_of_ble_eq_true rfl) h
theorem bBo_feed_36 {l : Launch} {G : Gx} {d : Nat} {bc bs : Nat} {Φ : OutV → Mm → Prop} (M : Mm) (a0 : Nat) (x1 : Int32) (x2 : Int32) (x3 : Int32) (x4 : Int32) (x5 : Int32)
    (h : ((m_sh M a0).1 = 10) ∧ CallVC l G d mBo_feed 42 [.ref a0, .int x1, .int x2, .int x3, .int x4, .int x5] [] mBo_putOnTape [.ref a0, .int x5] M bc bs Φ) :
    Ev l G d mBo_feed 36 [.ref a0, .int x1, .int x2, .int x3, .int x4, .int x5] [] M bc bs Φ := by
  refine Ev.aload_n dBo_feed_36 rfl ?_
  refine Ev.iload dBo_feed_37 rfl ?_
  have g1 := h.1
  replace h := h.2
  exact Ev.vcV (z := mBo_putOnTape) (ci := 10) [.int x5] [] rfl dBo_feed_39 oBo_putOnTape rfl w541 iBo_putOnTape sBo_putOnTape (by decide) rfl g1 (Nat.le_of_ble_eq_true rfl) h
theorem bBo_feed_42 {l : Launch} {G : Gx} {d : Nat} {bc bs : Nat} {Φ : OutV → Mm → Prop} (M : Mm) (a0 : Nat) (x1 : Int32) (x2 : Int32) (x3 : Int32) (x4 : Int32) (x5 : Int32)
    (h : ((m_sh M a0).1 = 10) ∧ Φ (.inl (some (.int (m_i M a0 1)))) M) :
    Ev l G d mBo_feed 42 [.ref a0, .int x1, .int x2, .int x3, .int x4, .int x5] [] M bc bs Φ := by
  refine Ev.aload_n dBo_feed_42 rfl ?_
  have g1 := h.1
  replace h := h.2
  refine Ev.getI dBo_feed_43 (Or.inl fBo_93) rfl g1 ?_
  exact Ev.iret dBo_feed_46 rfl rfl h
theorem dBo_putOnTape_0 : decode mBo_putOnTape.2.1 0 = .ok (.bipush 24, 2) := by decide +kernel
theorem dBo_putOnTape_2 : decode mBo_putOnTape.2.1 2 = .ok (.istore_n 2, 1) := by decide +kernel
theorem dBo_putOnTape_3 : decode mBo_putOnTape.2.1 3 = .ok (.iload_n 2, 1) := by decide +kernel
theorem dBo_putOnTape_4 : decode mBo_putOnTape.2.1 4 = .ok (.ifCond .lt 42, 3) := by decide +kernel
theorem dBo_putOnTape_7 : decode mBo_putOnTape.2.1 7 = .ok (.aload_n 0, 1) := by decide +kernel
theorem dBo_putOnTape_8 : decode mBo_putOnTape.2.1 8 = .ok (.getfield 93, 3) := by decide +kernel
theorem dBo_putOnTape_11 : decode mBo_putOnTape.2.1 11 = .ok (.sipush 500, 3) := by decide +kernel
theorem dBo_putOnTape_14 : decode mBo_putOnTape.2.1 14 = .ok (.if_icmp .ge 32, 3) := by decide +kernel
theorem dBo_putOnTape_17 : decode mBo_putOnTape.2.1 17 = .ok (.aload_n 0, 1) := by decide +kernel
theorem dBo_putOnTape_18 : decode mBo_putOnTape.2.1 18 = .ok (.getfield 9, 3) := by decide +kernel
theorem dBo_putOnTape_21 : decode mBo_putOnTape.2.1 21 = .ok (.aload_n 0, 1) := by decide +kernel
theorem dBo_putOnTape_22 : decode mBo_putOnTape.2.1 22 = .ok (.getfield 93, 3) := by decide +kernel
theorem dBo_putOnTape_25 : decode mBo_putOnTape.2.1 25 = .ok (.iload_n 1, 1) := by decide +kernel
theorem dBo_putOnTape_26 : decode mBo_putOnTape.2.1 26 = .ok (.iload_n 2, 1) := by decide +kernel
theorem dBo_putOnTape_27 : decode mBo_putOnTape.2.1 27 = .ok (.iushr, 1) := by decide +kernel
theorem dBo_putOnTape_28 : decode mBo_putOnTape.2.1 28 = .ok (.i2b, 1) := by decide +kernel
theorem dBo_putOnTape_29 : decode mBo_putOnTape.2.1 29 = .ok (.bastore, 1) := by decide +kernel
theorem dBo_putOnTape_30 : decode mBo_putOnTape.2.1 30 = .ok (.aload_n 0, 1) := by decide +kernel
theorem dBo_putOnTape_31 : decode mBo_putOnTape.2.1 31 = .ok (.dup, 1) := by decide +kernel
theorem dBo_putOnTape_32 : decode mBo_putOnTape.2.1 32 = .ok (.getfield 93, 3) := by decide +kernel
theorem dBo_putOnTape_35 : decode mBo_putOnTape.2.1 35 = .ok (.iconst 1, 1) := by decide +kernel
theorem dBo_putOnTape_36 : decode mBo_putOnTape.2.1 36 = .ok (.iadd, 1) := by decide +kernel
theorem dBo_putOnTape_37 : decode mBo_putOnTape.2.1 37 = .ok (.putfield 93, 3) := by decide +kernel
theorem dBo_putOnTape_40 : decode mBo_putOnTape.2.1 40 = .ok (.iinc 2 (-8), 3) := by decide +kernel
theorem dBo_putOnTape_43 : decode mBo_putOnTape.2.1 43 = .ok (.goto (-40), 3) := by decide +kernel
theorem dBo_putOnTape_46 : decode mBo_putOnTape.2.1 46 = .ok (.return_, 1) := by decide +kernel
theorem bBo_putOnTape_0 {l : Launch} {G : Gx} {d : Nat} {bc bs : Nat} {Φ : OutV → Mm → Prop} (M : Mm) (a0 : Nat) (x1 : Int32)
    (h : Ev l G d mBo_putOnTape 3 [.ref a0, .int x1, .int 24] [] M bc bs Φ) :
    Ev l G d mBo_putOnTape 0 [.ref a0, .int x1, .null] [] M bc bs Φ := by
  refine Ev.bipush (v := 24) dBo_putOnTape_0 (by decide) ?_
  refine Ev.istore_n dBo_putOnTape_2 (by decide) ?_
  show Ev l G d mBo_putOnTape (_ + _) [.ref a0, .int x1, .int 24] [] M bc bs Φ
  exact h
theorem bBo_putOnTape_3 {l : Launch} {G : Gx} {d : Nat} {bc bs : Nat} {Φ : OutV → Mm → Prop} (M : Mm) (a0 : Nat) (x1 : Int32) (x2 : Int32)
    (h : (x2 < 0 → Φ (.inl none) M) ∧ (¬ x2 < 0 → ((m_sh M a0).1 = 10) ∧ (500 ≤ (m_i M a0 1) → Φ (.inl none) M) ∧ (¬ 500 ≤ (m_i M a0 1) → ((m_sh M (m_r M a0 0)).1 = 21) ∧ (vp_in (m_i M a0 1) (m_sh M (m_r M a0 0)).2) ∧ Ev l G d mBo_putOnTape 40 [.ref a0, .int x1, .int x2] [] (m_si (m_si M (m_r M a0 0) (m_i M a0 1).toNatClampNeg (vp_nar .byte (((x1.toUInt32 >>> (x2.toUInt32 &&& Int32.toUInt32 31)).toInt32).toInt8.toInt32))) a0 1 ((m_i (m_si M (m_r M a0 0) (m_i M a0 1).toNatClampNeg (vp_nar .byte (((x1.toUInt32 >>> (x2.toUInt32 &&& Int32.toUInt32 31)).toInt32).toInt8.toInt32))) a0 1) + 1)) bc bs Φ))) :
    Ev l G d mBo_putOnTape 3 [.ref a0, .int x1, .int x2] [] M bc bs Φ := by
  refine Ev.iload_n dBo_putOnTape_3 rfl ?_
  refine Ev.if_lt 46 (by decide) dBo_putOnTape_4 (fun c => ?_) (fun c => ?_)
  · replace h := h.1 c
    exact Ev.vret dBo_putOnTape_46 rfl h
  · replace h := h.2 c
    refine Ev.aload_n dBo_putOnTape_7 rfl ?_
    have g1 := h.1
    replace h := h.2
    refine Ev.getI dBo_putOnTape_8 (Or.inl fBo_93) rfl g1 ?_
    refine Ev.sipush (v := 500) dBo_putOnTape_11 (by decide) ?_
    refine Ev.icmp_ge 46 (by decide) dBo_putOnTape_14 (fun c => ?_) (fun c => ?_)
    · replace h := h.1 c
      exact Ev.vret dBo_putOnTape_46 rfl h
    · replace h := h.2 c
      refine Ev.aload_n dBo_putOnTape_17 rfl ?_
      refine Ev.getR dBo_putOnTape_18 (Or.inl fBo_9) rfl g1 ?_
      refine Ev.aload_n dBo_putOnTape_21 rfl ?_
      refine Ev.getI dBo_putOnTape_22 (Or.inl fBo_93) rfl g1 ?_
      refine Ev.iload_n dBo_putOnTape_25 rfl ?_
      refine Ev.iload_n dBo_putOnTape_26 rfl ?_
      refine Ev.iushr dBo_putOnTape_27 ?_
      refine Ev.i2b dBo_putOnTape_28 ?_
      have g2 := h.1
      replace h := h.2
      have g3 := h.1
      replace h := h.2
      refine Ev.bast2 dBo_putOnTape_29 g2 g3 ?_
      refine Ev.aload_n dBo_putOnTape_30 rfl ?_
      refine Ev.dup dBo_putOnTape_31 rfl ?_
      refine Ev.getI dBo_putOnTape_32 (Or.inl fBo_93) rfl g1 ?_
      refine Ev.iconst (v := 1) dBo_putOnTape_35 (by decide) ?_
      refine Ev.iadd dBo_putOnTape_36 ?_
      refine Ev.putI dBo_putOnTape_37 ⟨_, Or.inl ⟨fBo_93, (fun h => by cases h)⟩⟩ rfl ⟨rfl, rfl⟩ g1 ?_
      exact h
theorem bBo_putOnTape_40 {l : Launch} {G : Gx} {d : Nat} {bc bs : Nat} {Φ : OutV → Mm → Prop} (M : Mm) (a0 : Nat) (x1 : Int32) (x2 : Int32)
    (h : Ev l G d mBo_putOnTape 3 [.ref a0, .int x1, .int (x2 + (-8))] [] M bc bs Φ) :
    Ev l G d mBo_putOnTape 40 [.ref a0, .int x1, .int x2] [] M bc bs Φ := by
  refine Ev.iinc (v := x2 + (-8)) dBo_putOnTape_40 (by decide) rfl rfl ?_
  show Ev l G d mBo_putOnTape (_ + _) [.ref a0, .int x1, .int (x2 + (-8))] [] M bc bs Φ
  refine Ev.goto 3 dBo_putOnTape_43 (by decide) ?_
  exact h
def mBo_fault : MR := (⟨"BowingRow", "fault", "()I"⟩, prog_1_method_5_code, 1, (Option.some .int))
theorem oBo_fault : MOK mBo_fault 0 := ⟨lwg_of 548 (by decide +kernel) (by decide +kernel), lwg_of 91 (by decide +kernel) (by decide +kernel), ⟨by decide +kernel, by decide +kernel⟩, by decide +kernel, by decide⟩
theorem iBo_fault : Cond.instanceMethod mBo_fault.1 ∈ lwg := lwg_of 546 (by decide +kernel) (by decide +kernel)
theorem sBo_fault : Cond.selects mBo_fault.1.cls mBo_fault.1 mBo_fault.1 ∈ lwg := lwg_of 547 (by decide +kernel) (by decide +kernel)
theorem dBo_fault_0 : decode mBo_fault.2.1 0 = .ok (.aload_n 0, 1) := by decide +kernel
theorem dBo_fault_1 : decode mBo_fault.2.1 1 = .ok (.getfield 20, 3) := by decide +kernel
theorem dBo_fault_4 : decode mBo_fault.2.1 4 = .ok (.ireturn, 1) := by decide +kernel
theorem bBo_fault_0 {l : Launch} {G : Gx} {d : Nat} {bc bs : Nat} {Φ : OutV → Mm → Prop} (M : Mm) (a0 : Nat)
    (h : ((m_sh M a0).1 = 10) ∧ Φ (.inl (some (.int (m_i M a0 3)))) M) :
    Ev l G d mBo_fault 0 [.ref a0] [] M bc bs Φ := by
  refine Ev.aload_n dBo_fault_0 rfl ?_
  have g1 := h.1
  replace h := h.2
  refine Ev.getI dBo_fault_1 (Or.inl fBo_20) rfl g1 ?_
  exact Ev.iret dBo_fault_4 rfl rfl h
def mBo_forget : MR := (⟨"BowingRow", "forget", "()I"⟩, prog_1_method_20_code, 2, (Option.some .int))
theorem oBo_forget : MOK mBo_forget 0 := ⟨lwg_of 552 (by decide +kernel) (by decide +kernel), lwg_of 91 (by decide +kernel) (by decide +kernel), ⟨by decide +kernel, by decide +kernel⟩, by decide +kernel, by decide⟩
theorem iBo_forget : Cond.instanceMethod mBo_forget.1 ∈ lwg := lwg_of 550 (by decide +kernel) (by decide +kernel)
theorem sBo_forget : Cond.selects mBo_forget.1.cls mBo_forget.1 mBo_forget.1 ∈ lwg := lwg_of 551 (by decide +kernel) (by decide +kernel)
theorem dBo_forget_0 : decode mBo_forget.2.1 0 = .ok (.aload_n 0, 1) := by decide +kernel
theorem dBo_forget_1 : decode mBo_forget.2.1 1 = .ok (.getfield 111, 3) := by decide +kernel
theorem dBo_forget_4 : decode mBo_forget.2.1 4 = .ok (.istore_n 1, 1) := by decide +kernel
theorem dBo_forget_5 : decode mBo_forget.2.1 5 = .ok (.aload_n 0, 1) := by decide +kernel
theorem dBo_forget_6 : decode mBo_forget.2.1 6 = .ok (.iconst 0, 1) := by decide +kernel
theorem dBo_forget_7 : decode mBo_forget.2.1 7 = .ok (.putfield 111, 3) := by decide +kernel
theorem dBo_forget_10 : decode mBo_forget.2.1 10 = .ok (.iload_n 1, 1) := by decide +kernel
theorem dBo_forget_11 : decode mBo_forget.2.1 11 = .ok (.ireturn, 1) := by decide +kernel
theorem fBo_111 : FOK "BowingRow" 111 10 15 false := ⟨RX11, TX11, nFd 10, rfl, by decide, rfl, by decide, rfl, lwg_of 497 (by decide +kernel) (by decide +kernel)⟩
theorem bBo_forget_0 {l : Launch} {G : Gx} {d : Nat} {bc bs : Nat} {Φ : OutV → Mm → Prop} (M : Mm) (a0 : Nat)
    (h : ((m_sh M a0).1 = 10) ∧ Φ (.inl (some (.int (m_i M a0 15)))) (m_si M a0 15 0)) :
    Ev l G d mBo_forget 0 [.ref a0, .null] [] M bc bs Φ := by
  refine Ev.aload_n dBo_forget_0 rfl ?_
  have g1 := h.1
  replace h := h.2
  refine Ev.getI dBo_forget_1 (Or.inl fBo_111) rfl g1 ?_
  refine Ev.istore_n dBo_forget_4 (by decide) ?_
  show Ev l G d mBo_forget (_ + _) [.ref a0, .int (m_i M a0 15)] [] M bc bs Φ
  refine Ev.aload_n dBo_forget_5 rfl ?_
  refine Ev.iconst (v := 0) dBo_forget_6 (by decide) ?_
  refine Ev.putI dBo_forget_7 ⟨_, Or.inl ⟨fBo_111, (fun h => by cases h)⟩⟩ rfl ⟨rfl, rfl⟩ g1 ?_
  refine Ev.iload_n dBo_forget_10 rfl ?_
  exact Ev.iret dBo_forget_11 rfl rfl h
def mBo_judge : MR := (⟨"BowingRow", "judge", "()I"⟩, prog_1_method_21_code, 3, (Option.some .int))
theorem oBo_judge : MOK mBo_judge 0 := ⟨lwg_of 556 (by decide +kernel) (by decide +kernel), lwg_of 91 (by decide +kernel) (by decide +kernel), ⟨by decide +kernel, by decide +kernel⟩, by decide +kernel, by decide⟩
theorem iBo_judge : Cond.instanceMethod mBo_judge.1 ∈ lwg := lwg_of 554 (by decide +kernel) (by decide +kernel)
theorem sBo_judge : Cond.selects mBo_judge.1.cls mBo_judge.1 mBo_judge.1 ∈ lwg := lwg_of 555 (by decide +kernel) (by decide +kernel)
theorem dBo_judge_0 : decode mBo_judge.2.1 0 = .ok (.aload_n 0, 1) := by decide +kernel
theorem dBo_judge_1 : decode mBo_judge.2.1 1 = .ok (.invokevirtual 162, 3) := by decide +kernel
theorem dBo_judge_4 : decode mBo_judge.2.1 4 = .ok (.astore_n 1, 1) := by decide +kernel
theorem dBo_judge_5 : decode mBo_judge.2.1 5 = .ok (.iconst 0, 1) := by decide +kernel
theorem dBo_judge_6 : decode mBo_judge.2.1 6 = .ok (.istore_n 2, 1) := by decide +kernel
theorem dBo_judge_7 : decode mBo_judge.2.1 7 = .ok (.iload_n 2, 1) := by decide +kernel
theorem dBo_judge_8 : decode mBo_judge.2.1 8 = .ok (.aload_n 0, 1) := by decide +kernel
theorem dBo_judge_9 : decode mBo_judge.2.1 9 = .ok (.getfield 111, 3) := by decide +kernel
theorem dBo_judge_12 : decode mBo_judge.2.1 12 = .ok (.if_icmp .ge 37, 3) := by decide +kernel
theorem dBo_judge_15 : decode mBo_judge.2.1 15 = .ok (.iload_n 2, 1) := by decide +kernel
theorem dBo_judge_16 : decode mBo_judge.2.1 16 = .ok (.aload_n 1, 1) := by decide +kernel
theorem dBo_judge_17 : decode mBo_judge.2.1 17 = .ok (.getfield 166, 3) := by decide +kernel
theorem dBo_judge_20 : decode mBo_judge.2.1 20 = .ok (.if_icmp .ge 21, 3) := by decide +kernel
theorem dBo_judge_23 : decode mBo_judge.2.1 23 = .ok (.aload_n 1, 1) := by decide +kernel
theorem dBo_judge_24 : decode mBo_judge.2.1 24 = .ok (.getfield 241, 3) := by decide +kernel
theorem dBo_judge_27 : decode mBo_judge.2.1 27 = .ok (.iload_n 2, 1) := by decide +kernel
theorem dBo_judge_28 : decode mBo_judge.2.1 28 = .ok (.aaload, 1) := by decide +kernel
theorem dBo_judge_29 : decode mBo_judge.2.1 29 = .ok (.getfield 205, 3) := by decide +kernel
theorem dBo_judge_32 : decode mBo_judge.2.1 32 = .ok (.aload_n 0, 1) := by decide +kernel
theorem dBo_judge_33 : decode mBo_judge.2.1 33 = .ok (.getfield 82, 3) := by decide +kernel
theorem dBo_judge_36 : decode mBo_judge.2.1 36 = .ok (.iload_n 2, 1) := by decide +kernel
theorem dBo_judge_37 : decode mBo_judge.2.1 37 = .ok (.iaload, 1) := by decide +kernel
theorem dBo_judge_38 : decode mBo_judge.2.1 38 = .ok (.if_icmp .eq 5, 3) := by decide +kernel
theorem dBo_judge_41 : decode mBo_judge.2.1 41 = .ok (.iload_n 2, 1) := by decide +kernel
theorem dBo_judge_42 : decode mBo_judge.2.1 42 = .ok (.ireturn, 1) := by decide +kernel
theorem dBo_judge_43 : decode mBo_judge.2.1 43 = .ok (.iinc 2 1, 3) := by decide +kernel
theorem dBo_judge_46 : decode mBo_judge.2.1 46 = .ok (.goto (-39), 3) := by decide +kernel
theorem dBo_judge_49 : decode mBo_judge.2.1 49 = .ok (.iconst (-1), 1) := by decide +kernel
theorem dBo_judge_50 : decode mBo_judge.2.1 50 = .ok (.ireturn, 1) := by decide +kernel
def mBo_dayAsItIs : MR := (⟨"BowingRow", "dayAsItIs", "()LBowingRow$Day;"⟩, prog_1_method_42_code, 1, (Option.some (.object "BowingRow$Day")))
theorem oBo_dayAsItIs : MOK mBo_dayAsItIs 0 := ⟨lwg_of 560 (by decide +kernel) (by decide +kernel), lwg_of 91 (by decide +kernel) (by decide +kernel), ⟨by decide +kernel, by decide +kernel⟩, by decide +kernel, by decide⟩
theorem iBo_dayAsItIs : Cond.instanceMethod mBo_dayAsItIs.1 ∈ lwg := lwg_of 559 (by decide +kernel) (by decide +kernel)
theorem sBo_dayAsItIs : Cond.selects mBo_dayAsItIs.1.cls mBo_dayAsItIs.1 mBo_dayAsItIs.1 ∈ lwg := lwg_of 2 (by decide +kernel) (by decide +kernel)
theorem w557 : Cond.methodLink "BowingRow" 162 ⟨"BowingRow", "dayAsItIs", "()LBowingRow$Day;"⟩ ∈ lwg := lwg_of 557 (by decide +kernel) (by decide +kernel)
theorem bBo_judge_0 {l : Launch} {G : Gx} {d : Nat} {bc bs : Nat} {Φ : OutV → Mm → Prop} (M : Mm) (a0 : Nat)
    (h : ((m_sh M a0).1 = 10) ∧ CallVC l G d mBo_judge 4 [.ref a0, .null, .null] [] mBo_dayAsItIs [.ref a0] M bc bs Φ) :
    Ev l G d mBo_judge 0 [.ref a0, .null, .null] [] M bc bs Φ := by
  refine Ev.aload_n dBo_judge_0 rfl ?_
  have g1 := h.1
  replace h := h.2
  exact Ev.vcV (z := mBo_dayAsItIs) (ci := 10) [] [] rfl dBo_judge_1 oBo_dayAsItIs rfl w557 iBo_dayAsItIs sBo_dayAsItIs (by decide) rfl g1 (Nat.le_of_ble_eq_true rfl) h
theorem bBo_judge_4 {l : Launch} {G : Gx} {d : Nat} {bc bs : Nat} {Φ : OutV → Mm → Prop} (M : Mm) (a0 : Nat) (u1 : Value) (u2 : Value) (r0 : Nat)
    (h : Ev l G d mBo_judge 7 [.ref a0, .ref r0, .int 0] [] M bc bs Φ) :
    Ev l G d mBo_judge 4 [.ref a0, u1, u2] [.ref r0] M bc bs Φ := by
  refine Ev.astore_n dBo_judge_4 (by decide) ?_
  show Ev l G d mBo_judge (_ + _) [.ref a0, .ref r0, u2] [] M bc bs Φ
  refine Ev.iconst (v := 0) dBo_judge_5 (by decide) ?_
  refine Ev.istore_n dBo_judge_6 (by decide) ?_
  show Ev l G d mBo_judge (_ + _) [.ref a0, .ref r0, .int 0] [] M bc bs Φ
  exact h
theorem fBo_166 : FOK "BowingRow" 166 1 10 false := ⟨RX1, TX1, nFd 1, rfl, by decide, rfl, by decide, rfl, lwg_of 364 (by decide +kernel) (by decide +kernel)⟩
theorem fBo_241 : FOK "BowingRow" 241 1 9 true := ⟨RX1, TX1, nFd 1, rfl, by decide, rfl, by decide, rfl, lwg_of 362 (by decide +kernel) (by decide +kernel)⟩
theorem fBo_205 : FOK "BowingRow" 205 0 5 false := ⟨RX0, TX0, nFd 0, rfl, by decide, rfl, by decide, rfl, lwg_of 322 (by decide +kernel) (by decide +kernel)⟩
theorem bBo_judge_7 {l : Launch} {G : Gx} {d : Nat} {bc bs : Nat} {Φ : OutV → Mm → Prop} (M : Mm) (a0 : Nat) (a1 : Nat) (x2 : Int32)
    (h : ((m_sh M a0).1 = 10) ∧ ((m_i M a0 15) ≤ x2 → Φ (.inl (some (.int ((-1))))) M) ∧ (¬ (m_i M a0 15) ≤ x2 → ((m_sh M a1).1 = 1) ∧ ((m_i M a1 10) ≤ x2 → Φ (.inl (some (.int x2))) M) ∧ (¬ (m_i M a1 10) ≤ x2 → ((m_sh M (m_r M a1 9)).1 = 30) ∧ (vp_in x2 (m_sh M (m_r M a1 9)).2) ∧ ((m_sh M (m_r M (m_r M a1 9) x2.toNatClampNeg)).1 = 0) ∧ ((m_sh M (m_r M a0 14)).1 = 20) ∧ (vp_in x2 (m_sh M (m_r M a0 14)).2) ∧ ((m_i M (m_r M (m_r M a1 9) x2.toNatClampNeg) 5) = (m_i M (m_r M a0 14) x2.toNatClampNeg) → Ev l G d mBo_judge 7 [.ref a0, .ref a1, .int (x2 + 1)] [] M bc bs Φ) ∧ (¬ (m_i M (m_r M (m_r M a1 9) x2.toNatClampNeg) 5) = (m_i M (m_r M a0 14) x2.toNatClampNeg) → Φ (.inl (some (.int x2))) M)))) :
    Ev l G d mBo_judge 7 [.ref a0, .ref a1, .int x2] [] M bc bs Φ := by
  refine Ev.iload_n dBo_judge_7 rfl ?_
  refine Ev.aload_n dBo_judge_8 rfl ?_
  have g1 := h.1
  replace h := h.2
  refine Ev.getI dBo_judge_9 (Or.inl fBo_111) rfl g1 ?_
  refine Ev.icmp_ge 49 (by decide) dBo_judge_12 (fun c => ?_) (fun c => ?_)
  · replace h := h.1 c
    refine Ev.iconst (v := (-1)) dBo_judge_49 (by decide) ?_
    exact Ev.iret dBo_judge_50 rfl rfl h
  · replace h := h.2 c
    refine Ev.iload_n dBo_judge_15 rfl ?_
    refine Ev.aload_n dBo_judge_16 rfl ?_
    have g2 := h.1
    replace h := h.2
    refine Ev.getI dBo_judge_17 (Or.inl fBo_166) rfl g2 ?_
    refine Ev.icmp_ge 41 (by decide) dBo_judge_20 (fun c => ?_) (fun c => ?_)
    · replace h := h.1 c
      refine Ev.iload_n dBo_judge_41 rfl ?_
      exact Ev.iret dBo_judge_42 rfl rfl h
    · replace h := h.2 c
      refine Ev.aload_n dBo_judge_23 rfl ?_
      refine Ev.getR dBo_judge_24 (Or.inl fBo_241) rfl g2 ?_
      refine Ev.iload_n dBo_judge_27 rfl ?_
      have g3 := h.1
      replace h := h.2
      have g4 := h.1
      replace h := h.2
      refine Ev.aald2 30 (by decide) dBo_judge_28 g3 g4 ?_
      have g5 := h.1
      replace h := h.2
      refine Ev.getI dBo_judge_29 (Or.inl fBo_205) rfl g5 ?_
      refine Ev.aload_n dBo_judge_32 rfl ?_
      refine Ev.getR dBo_judge_33 (Or.inl fBo_82) rfl g1 ?_
      refine Ev.iload_n dBo_judge_36 rfl ?_
      have g6 := h.1
      replace h := h.2
      have g7 := h.1
      replace h := h.2
      refine Ev.iald2 dBo_judge_37 g6 g7 ?_
      refine Ev.icmp_eq 43 (by decide) dBo_judge_38 (fun c => ?_) (fun c => ?_)
      · replace h := h.1 c
        refine Ev.iinc (v := x2 + 1) dBo_judge_43 (by decide) rfl rfl ?_
        show Ev l G d mBo_judge (_ + _) [.ref a0, .ref a1, .int (x2 + 1)] [] M bc bs Φ
        refine Ev.goto 7 dBo_judge_46 (by decide) ?_
        exact h
      · replace h := h.2 c
        refine Ev.iload_n dBo_judge_41 rfl ?_
        exact Ev.iret dBo_judge_42 rfl rfl h
theorem dBo_dayAsItIs_0 : decode mBo_dayAsItIs.2.1 0 = .ok (.aload_n 0, 1) := by decide +kernel
theorem dBo_dayAsItIs_1 : decode mBo_dayAsItIs.2.1 1 = .ok (.getfield 61, 3) := by decide +kernel
theorem dBo_dayAsItIs_4 : decode mBo_dayAsItIs.2.1 4 = .ok (.getfield 324, 3) := by decide +kernel
theorem dBo_dayAsItIs_7 : decode mBo_dayAsItIs.2.1 7 = .ok (.ifCond .eq 33, 3) := by decide +kernel
theorem dBo_dayAsItIs_10 : decode mBo_dayAsItIs.2.1 10 = .ok (.aload_n 0, 1) := by decide +kernel
theorem dBo_dayAsItIs_11 : decode mBo_dayAsItIs.2.1 11 = .ok (.getfield 61, 3) := by decide +kernel
theorem dBo_dayAsItIs_14 : decode mBo_dayAsItIs.2.1 14 = .ok (.aload_n 0, 1) := by decide +kernel
theorem dBo_dayAsItIs_15 : decode mBo_dayAsItIs.2.1 15 = .ok (.getfield 27, 3) := by decide +kernel
theorem dBo_dayAsItIs_18 : decode mBo_dayAsItIs.2.1 18 = .ok (.aload_n 0, 1) := by decide +kernel
theorem dBo_dayAsItIs_19 : decode mBo_dayAsItIs.2.1 19 = .ok (.getfield 49, 3) := by decide +kernel
theorem dBo_dayAsItIs_22 : decode mBo_dayAsItIs.2.1 22 = .ok (.invokevirtual 326, 3) := by decide +kernel
theorem dBo_dayAsItIs_25 : decode mBo_dayAsItIs.2.1 25 = .ok (.aload_n 0, 1) := by decide +kernel
theorem dBo_dayAsItIs_26 : decode mBo_dayAsItIs.2.1 26 = .ok (.getfield 61, 3) := by decide +kernel
theorem dBo_dayAsItIs_29 : decode mBo_dayAsItIs.2.1 29 = .ok (.invokevirtual 329, 3) := by decide +kernel
theorem dBo_dayAsItIs_32 : decode mBo_dayAsItIs.2.1 32 = .ok (.aload_n 0, 1) := by decide +kernel
theorem dBo_dayAsItIs_33 : decode mBo_dayAsItIs.2.1 33 = .ok (.getfield 61, 3) := by decide +kernel
theorem dBo_dayAsItIs_36 : decode mBo_dayAsItIs.2.1 36 = .ok (.iconst 0, 1) := by decide +kernel
theorem dBo_dayAsItIs_37 : decode mBo_dayAsItIs.2.1 37 = .ok (.putfield 324, 3) := by decide +kernel
theorem dBo_dayAsItIs_40 : decode mBo_dayAsItIs.2.1 40 = .ok (.aload_n 0, 1) := by decide +kernel
theorem dBo_dayAsItIs_41 : decode mBo_dayAsItIs.2.1 41 = .ok (.getfield 61, 3) := by decide +kernel
theorem dBo_dayAsItIs_44 : decode mBo_dayAsItIs.2.1 44 = .ok (.areturn, 1) := by decide +kernel
theorem fBo_324 : FOK "BowingRow" 324 1 16 false := ⟨RX1, TX1, nFd 1, rfl, by decide, rfl, by decide, rfl, lwg_of 377 (by decide +kernel) (by decide +kernel)⟩
theorem w561 : Cond.methodLink "BowingRow" 326 ⟨"BowingRow$Day", "prepare", "(LBowingRow$People;LBowingRow$InForce;)V"⟩ ∈ lwg := lwg_of 561 (by decide +kernel) (by decide +kernel)
theorem bBo_dayAsItIs_0 {l : Launch} {G : Gx} {d : Nat} {bc bs : Nat} {Φ : OutV → Mm → Prop} (M : Mm) (a0 : Nat)
    (h : ((m_sh M a0).1 = 10) ∧ ((m_sh M (m_r M a0 10)).1 = 1) ∧ ((m_i M (m_r M a0 10) 16) = 0 → Ev l G d mBo_dayAsItIs 40 [.ref a0] [] M bc bs Φ) ∧ (¬ (m_i M (m_r M a0 10) 16) = 0 → CallVC l G d mBo_dayAsItIs 25 [.ref a0] [] mDa_prepare [.ref (m_r M a0 10), .ref (m_r M a0 4), .ref (m_r M a0 8)] M bc bs Φ)) :
    Ev l G d mBo_dayAsItIs 0 [.ref a0] [] M bc bs Φ := by
  refine Ev.aload_n dBo_dayAsItIs_0 rfl ?_
  have g1 := h.1
  replace h := h.2
  refine Ev.getR dBo_dayAsItIs_1 (Or.inl fBo_61) rfl g1 ?_
  have g2 := h.1
  replace h := h.2
  refine Ev.getI dBo_dayAsItIs_4 (Or.inl fBo_324) rfl g2 ?_
  refine Ev.if_eq 40 (by decide) dBo_dayAsItIs_7 (fun c => ?_) (fun c => ?_)
  · replace h := h.1 c
    exact h
  · replace h := h.2 c
    refine Ev.aload_n dBo_dayAsItIs_10 rfl ?_
    refine Ev.getR dBo_dayAsItIs_11 (Or.inl fBo_61) rfl g1 ?_
    refine Ev.aload_n dBo_dayAsItIs_14 rfl ?_
    refine Ev.getR dBo_dayAsItIs_15 (Or.inl fBo_27) rfl g1 ?_
    refine Ev.aload_n dBo_dayAsItIs_18 rfl ?_
    refine Ev.getR dBo_dayAsItIs_19 (Or.inl fBo_49) rfl g1 ?_
    exact Ev.vcV (z := mDa_prepare) (ci := 1) [.ref (m_r M a0 4), .ref (m_r M a0 8)] [] rfl dBo_dayAsItIs_22 oDa_prepare rfl w561 iDa_prepare sDa_prepare (by decide) rfl g2 (Nat.le_of_ble_eq_true rfl) h
theorem w569 : Cond.methodLink "BowingRow" 329 ⟨"BowingRow$Day", "goThrough", "()V"⟩ ∈ lwg := lwg_of 569 (by decide +kernel) (by decide +kernel)
theorem bBo_dayAsItIs_25 {l : Launch} {G : Gx} {d : Nat} {bc bs : Nat} {Φ : OutV → Mm → Prop} (M : Mm) (a0 : Nat)
    (h : ((m_sh M a0).1 = 10) ∧ ((m_sh M (m_r M a0 10)).1 = 1) ∧ CallVC l G d mBo_dayAsItIs 32 [.ref a0] [] mDa_goThrough [.ref (m_r M a0 10)] M bc bs Φ) :
    Ev l G d mBo_dayAsItIs 25 [.ref a0] [] M bc bs Φ := by
  refine Ev.aload_n dBo_dayAsItIs_25 rfl ?_
  have g1 := h.1
  replace h := h.2
  refine Ev.getR dBo_dayAsItIs_26 (Or.inl fBo_61) rfl g1 ?_
  have g2 := h.1
  replace h := h.2
  exact Ev.vcV (z := mDa_goThrough) (ci := 1) [] [] rfl dBo_dayAsItIs_29 oDa_goThrough rfl w569 iDa_goThrough sDa_goThrough (by decide) rfl g2 (Nat.le_of_ble_eq_true rfl) h
theorem bBo_dayAsItIs_32 {l : Launch} {G : Gx} {d : Nat} {bc bs : Nat} {Φ : OutV → Mm → Prop} (M : Mm) (a0 : Nat)
    (h : ((m_sh M a0).1 = 10) ∧ ((m_sh M (m_r M a0 10)).1 = 1) ∧ Ev l G d mBo_dayAsItIs 40 [.ref a0] [] (m_si M (m_r M a0 10) 16 0) bc bs Φ) :
    Ev l G d mBo_dayAsItIs 32 [.ref a0] [] M bc bs Φ := by
  refine Ev.aload_n dBo_dayAsItIs_32 rfl ?_
  have g1 := h.1
  replace h := h.2
  refine Ev.getR dBo_dayAsItIs_33 (Or.inl fBo_61) rfl g1 ?_
  refine Ev.iconst (v := 0) dBo_dayAsItIs_36 (by decide) ?_
  have g2 := h.1
  replace h := h.2
  refine Ev.putI dBo_dayAsItIs_37 ⟨_, Or.inl ⟨fBo_324, (fun h => by cases h)⟩⟩ rfl ⟨rfl, rfl⟩ g2 ?_
  exact h
theorem bBo_dayAsItIs_40 {l : Launch} {G : Gx} {d : Nat} {bc bs : Nat} {Φ : OutV → Mm → Prop} (M : Mm) (a0 : Nat)
    (h : ((m_sh M a0).1 = 10) ∧ Φ (.inl (some (.ref (m_r M a0 10)))) M) :
    Ev l G d mBo_dayAsItIs 40 [.ref a0] [] M bc bs Φ := by
  refine Ev.aload_n dBo_dayAsItIs_40 rfl ?_
  have g1 := h.1
  replace h := h.2
  refine Ev.getR dBo_dayAsItIs_41 (Or.inl fBo_61) rfl g1 ?_
  exact Ev.aret dBo_dayAsItIs_44 rfl (by first | exact Or.inl ⟨_, rfl⟩ | exact Or.inr ⟨_, rfl⟩) h
def mBo_hopeless : MR := (⟨"BowingRow", "hopeless", "()I"⟩, prog_1_method_29_code, 1, (Option.some .int))
theorem oBo_hopeless : MOK mBo_hopeless 0 := ⟨lwg_of 650 (by decide +kernel) (by decide +kernel), lwg_of 91 (by decide +kernel) (by decide +kernel), ⟨by decide +kernel, by decide +kernel⟩, by decide +kernel, by decide⟩
theorem iBo_hopeless : Cond.instanceMethod mBo_hopeless.1 ∈ lwg := lwg_of 648 (by decide +kernel) (by decide +kernel)
theorem sBo_hopeless : Cond.selects mBo_hopeless.1.cls mBo_hopeless.1 mBo_hopeless.1 ∈ lwg := lwg_of 649 (by decide +kernel) (by decide +kernel)
theorem dBo_hopeless_0 : decode mBo_hopeless.2.1 0 = .ok (.aload_n 0, 1) := by decide +kernel
theorem dBo_hopeless_1 : decode mBo_hopeless.2.1 1 = .ok (.getfield 78, 3) := by decide +kernel
theorem dBo_hopeless_4 : decode mBo_hopeless.2.1 4 = .ok (.aload_n 0, 1) := by decide +kernel
theorem dBo_hopeless_5 : decode mBo_hopeless.2.1 5 = .ok (.getfield 37, 3) := by decide +kernel
theorem dBo_hopeless_8 : decode mBo_hopeless.2.1 8 = .ok (.aload_n 0, 1) := by decide +kernel
theorem dBo_hopeless_9 : decode mBo_hopeless.2.1 9 = .ok (.getfield 27, 3) := by decide +kernel
theorem dBo_hopeless_12 : decode mBo_hopeless.2.1 12 = .ok (.aload_n 0, 1) := by decide +kernel
theorem dBo_hopeless_13 : decode mBo_hopeless.2.1 13 = .ok (.getfield 53, 3) := by decide +kernel
theorem dBo_hopeless_16 : decode mBo_hopeless.2.1 16 = .ok (.aload_n 0, 1) := by decide +kernel
theorem dBo_hopeless_17 : decode mBo_hopeless.2.1 17 = .ok (.getfield 65, 3) := by decide +kernel
theorem dBo_hopeless_20 : decode mBo_hopeless.2.1 20 = .ok (.invokevirtual 280, 3) := by decide +kernel
theorem dBo_hopeless_23 : decode mBo_hopeless.2.1 23 = .ok (.aload_n 0, 1) := by decide +kernel
theorem dBo_hopeless_24 : decode mBo_hopeless.2.1 24 = .ok (.getfield 78, 3) := by decide +kernel
theorem dBo_hopeless_27 : decode mBo_hopeless.2.1 27 = .ok (.getfield 286, 3) := by decide +kernel
theorem dBo_hopeless_30 : decode mBo_hopeless.2.1 30 = .ok (.ireturn, 1) := by decide +kernel
theorem w651 : Cond.methodLink "BowingRow" 280 ⟨"BowingRow$Strikes", "work", "(LBowingRow$Law;LBowingRow$People;LBowingRow$InForce;LBowingRow$Day;)V"⟩ ∈ lwg := lwg_of 651 (by decide +kernel) (by decide +kernel)
theorem bBo_hopeless_0 {l : Launch} {G : Gx} {d : Nat} {bc bs : Nat} {Φ : OutV → Mm → Prop} (M : Mm) (a0 : Nat)
    (h : ((m_sh M a0).1 = 10) ∧ ((m_sh M (m_r M a0 13)).1 = 7) ∧ CallVC l G d mBo_hopeless 23 [.ref a0] [] mSk_work [.ref (m_r M a0 13), .ref (m_r M a0 6), .ref (m_r M a0 4), .ref (m_r M a0 9), .ref (m_r M a0 11)] M bc bs Φ) :
    Ev l G d mBo_hopeless 0 [.ref a0] [] M bc bs Φ := by
  refine Ev.aload_n dBo_hopeless_0 rfl ?_
  have g1 := h.1
  replace h := h.2
  refine Ev.getR dBo_hopeless_1 (Or.inl fBo_78) rfl g1 ?_
  refine Ev.aload_n dBo_hopeless_4 rfl ?_
  refine Ev.getR dBo_hopeless_5 (Or.inl fBo_37) rfl g1 ?_
  refine Ev.aload_n dBo_hopeless_8 rfl ?_
  refine Ev.getR dBo_hopeless_9 (Or.inl fBo_27) rfl g1 ?_
  refine Ev.aload_n dBo_hopeless_12 rfl ?_
  refine Ev.getR dBo_hopeless_13 (Or.inl fBo_53) rfl g1 ?_
  refine Ev.aload_n dBo_hopeless_16 rfl ?_
  refine Ev.getR dBo_hopeless_17 (Or.inl fBo_65) rfl g1 ?_
  have g2 := h.1
  replace h := h.2
  exact Ev.vcV (z := mSk_work) (ci := 7) [.ref (m_r M a0 6), .ref (m_r M a0 4), .ref (m_r M a0 9), .ref (m_r M a0 11)] [] rfl dBo_hopeless_20 oSk_work rfl w651 iSk_work sSk_work (by decide) rfl g2 (Nat.le_of_ble_eq_true rfl) h
theorem fBo_286 : FOK "BowingRow" 286 7 2 false := ⟨RX7, TX7, nFd 7, rfl, by decide, rfl, by decide, rfl, lwg_of 454 (by decide +kernel) (by decide +kernel)⟩
theorem bBo_hopeless_23 {l : Launch} {G : Gx} {d : Nat} {bc bs : Nat} {Φ : OutV → Mm → Prop} (M : Mm) (a0 : Nat)
    (h : ((m_sh M a0).1 = 10) ∧ ((m_sh M (m_r M a0 13)).1 = 7) ∧ Φ (.inl (some (.int (m_i M (m_r M a0 13) 2)))) M) :
    Ev l G d mBo_hopeless 23 [.ref a0] [] M bc bs Φ := by
  refine Ev.aload_n dBo_hopeless_23 rfl ?_
  have g1 := h.1
  replace h := h.2
  refine Ev.getR dBo_hopeless_24 (Or.inl fBo_78) rfl g1 ?_
  have g2 := h.1
  replace h := h.2
  refine Ev.getI dBo_hopeless_27 (Or.inl fBo_286) rfl g2 ?_
  exact Ev.iret dBo_hopeless_30 rfl rfl h
def mBo_image : MR := (⟨"BowingRow", "image", "()I"⟩, prog_1_method_30_code, 1, (Option.some .int))
theorem oBo_image : MOK mBo_image 0 := ⟨lwg_of 673 (by decide +kernel) (by decide +kernel), lwg_of 91 (by decide +kernel) (by decide +kernel), ⟨by decide +kernel, by decide +kernel⟩, by decide +kernel, by decide⟩
theorem iBo_image : Cond.instanceMethod mBo_image.1 ∈ lwg := lwg_of 671 (by decide +kernel) (by decide +kernel)
theorem sBo_image : Cond.selects mBo_image.1.cls mBo_image.1 mBo_image.1 ∈ lwg := lwg_of 672 (by decide +kernel) (by decide +kernel)
theorem dBo_image_0 : decode mBo_image.2.1 0 = .ok (.aload_n 0, 1) := by decide +kernel
theorem dBo_image_1 : decode mBo_image.2.1 1 = .ok (.getfield 114, 3) := by decide +kernel
theorem dBo_image_4 : decode mBo_image.2.1 4 = .ok (.iconst 3, 1) := by decide +kernel
theorem dBo_image_5 : decode mBo_image.2.1 5 = .ok (.if_icmp .lt 5, 3) := by decide +kernel
theorem dBo_image_8 : decode mBo_image.2.1 8 = .ok (.iconst (-1), 1) := by decide +kernel
theorem dBo_image_9 : decode mBo_image.2.1 9 = .ok (.ireturn, 1) := by decide +kernel
theorem dBo_image_10 : decode mBo_image.2.1 10 = .ok (.aload_n 0, 1) := by decide +kernel
theorem dBo_image_11 : decode mBo_image.2.1 11 = .ok (.getfield 89, 3) := by decide +kernel
theorem dBo_image_14 : decode mBo_image.2.1 14 = .ok (.aload_n 0, 1) := by decide +kernel
theorem dBo_image_15 : decode mBo_image.2.1 15 = .ok (.getfield 114, 3) := by decide +kernel
theorem dBo_image_18 : decode mBo_image.2.1 18 = .ok (.aaload, 1) := by decide +kernel
theorem dBo_image_19 : decode mBo_image.2.1 19 = .ok (.aload_n 0, 1) := by decide +kernel
theorem dBo_image_20 : decode mBo_image.2.1 20 = .ok (.getfield 27, 3) := by decide +kernel
theorem dBo_image_23 : decode mBo_image.2.1 23 = .ok (.aload_n 0, 1) := by decide +kernel
theorem dBo_image_24 : decode mBo_image.2.1 24 = .ok (.getfield 82, 3) := by decide +kernel
theorem dBo_image_27 : decode mBo_image.2.1 27 = .ok (.aload_n 0, 1) := by decide +kernel
theorem dBo_image_28 : decode mBo_image.2.1 28 = .ok (.getfield 111, 3) := by decide +kernel
theorem dBo_image_31 : decode mBo_image.2.1 31 = .ok (.invokevirtual 289, 3) := by decide +kernel
theorem dBo_image_34 : decode mBo_image.2.1 34 = .ok (.aload_n 0, 1) := by decide +kernel
theorem dBo_image_35 : decode mBo_image.2.1 35 = .ok (.dup, 1) := by decide +kernel
theorem dBo_image_36 : decode mBo_image.2.1 36 = .ok (.getfield 114, 3) := by decide +kernel
theorem dBo_image_39 : decode mBo_image.2.1 39 = .ok (.iconst 1, 1) := by decide +kernel
theorem dBo_image_40 : decode mBo_image.2.1 40 = .ok (.iadd, 1) := by decide +kernel
theorem dBo_image_41 : decode mBo_image.2.1 41 = .ok (.putfield 114, 3) := by decide +kernel
theorem dBo_image_44 : decode mBo_image.2.1 44 = .ok (.aload_n 0, 1) := by decide +kernel
theorem dBo_image_45 : decode mBo_image.2.1 45 = .ok (.getfield 114, 3) := by decide +kernel
theorem dBo_image_48 : decode mBo_image.2.1 48 = .ok (.ireturn, 1) := by decide +kernel
theorem fBo_114 : FOK "BowingRow" 114 10 17 false := ⟨RX11, TX11, nFd 10, rfl, by decide, rfl, by decide, rfl, lwg_of 499 (by decide +kernel) (by decide +kernel)⟩
theorem w674 : Cond.methodLink "BowingRow" 289 ⟨"BowingRow$Image", "take", "(LBowingRow$People;[II)V"⟩ ∈ lwg := lwg_of 674 (by decide +kernel) (by decide +kernel)
theorem bBo_image_0 {l : Launch} {G : Gx} {d : Nat} {bc bs : Nat} {Φ : OutV → Mm → Prop} (M : Mm) (a0 : Nat)
    (h : ((m_sh M a0).1 = 10) ∧ ((m_i M a0 17) < 3 → ((m_sh M (m_r M a0 16)).1 = 31) ∧ (vp_in (m_i M a0 17) (m_sh M (m_r M a0 16)).2) ∧ ((m_sh M (m_r M (m_r M a0 16) (m_i M a0 17).toNatClampNeg)).1 = 2) ∧ CallVC l G d mBo_image 34 [.ref a0] [] mIm_take [.ref (m_r M (m_r M a0 16) (m_i M a0 17).toNatClampNeg), .ref (m_r M a0 4), .ref (m_r M a0 14), .int (m_i M a0 15)] M bc bs Φ) ∧ (¬ (m_i M a0 17) < 3 → Φ (.inl (some (.int ((-1))))) M)) :
    Ev l G d mBo_image 0 [.ref a0] [] M bc bs Φ := by
  refine Ev.aload_n dBo_image_0 rfl ?_
  have g1 := h.1
  replace h := h.2
  refine Ev.getI dBo_image_1 (Or.inl fBo_114) rfl g1 ?_
  refine Ev.iconst (v := 3) dBo_image_4 (by decide) ?_
  refine Ev.icmp_lt 10 (by decide) dBo_image_5 (fun c => ?_) (fun c => ?_)
  · replace h := h.1 c
    refine Ev.aload_n dBo_image_10 rfl ?_
    refine Ev.getR dBo_image_11 (Or.inl fBo_89) rfl g1 ?_
    refine Ev.aload_n dBo_image_14 rfl ?_
    refine Ev.getI dBo_image_15 (Or.inl fBo_114) rfl g1 ?_
    have g2 := h.1
    replace h := h.2
    have g3 := h.1
    replace h := h.2
    refine Ev.aald2 31 (by decide) dBo_image_18 g2 g3 ?_
    refine Ev.aload_n dBo_image_19 rfl ?_
    refine Ev.getR dBo_image_20 (Or.inl fBo_27) rfl g1 ?_
    refine Ev.aload_n dBo_image_23 rfl ?_
    refine Ev.getR dBo_image_24 (Or.inl fBo_82) rfl g1 ?_
    refine Ev.aload_n dBo_image_27 rfl ?_
    refine Ev.getI dBo_image_28 (Or.inl fBo_111) rfl g1 ?_
    have g4 := h.1
    replace h := h.2
    exact Ev.vcV (z := mIm_take) (ci := 2) [.ref (m_r M a0 4), .ref (m_r M a0 14), .int (m_i M a0 15)] [] rfl dBo_image_31 oIm_take rfl w674 iIm_take sIm_take (by decide) rfl g4 (Nat.le_of_ble_eq_true rfl) h
  · replace h := h.2 c
    refine Ev.iconst (v := (-1)) dBo_image_8 (by decide) ?_
    exact Ev.iret dBo_image_9 rfl rfl h
theorem bBo_image_34 {l : Launch} {G : Gx} {d : Nat} {bc bs : Nat} {Φ : OutV → Mm → Prop} (M : Mm) (a0 : Nat)
    (h : ((m_sh M a0).1 = 10) ∧ Φ (.inl (some (.int (m_i (m_si M a0 17 ((m_i M a0 17) + 1)) a0 17)))) (m_si M a0 17 ((m_i M a0 17) + 1))) :
    Ev l G d mBo_image 34 [.ref a0] [] M bc bs Φ := by
  refine Ev.aload_n dBo_image_34 rfl ?_
  refine Ev.dup dBo_image_35 rfl ?_
  have g1 := h.1
  replace h := h.2
  refine Ev.getI dBo_image_36 (Or.inl fBo_114) rfl g1 ?_
  refine Ev.iconst (v := 1) dBo_image_39 (by decide) ?_
  refine Ev.iadd dBo_image_40 ?_
  refine Ev.putI dBo_image_41 ⟨_, Or.inl ⟨fBo_114, (fun h => by cases h)⟩⟩ rfl ⟨rfl, rfl⟩ g1 ?_
  refine Ev.aload_n dBo_image_44 rfl ?_
  refine Ev.getI dBo_image_45 (Or.inl fBo_114) rfl g1 ?_
  exact Ev.iret dBo_image_48 rfl rfl h
def mBo_restore : MR := (⟨"BowingRow", "restore", "()I"⟩, prog_1_method_31_code, 1, (Option.some .int))
theorem oBo_restore : MOK mBo_restore 0 := ⟨lwg_of 685 (by decide +kernel) (by decide +kernel), lwg_of 91 (by decide +kernel) (by decide +kernel), ⟨by decide +kernel, by decide +kernel⟩, by decide +kernel, by decide⟩
theorem iBo_restore : Cond.instanceMethod mBo_restore.1 ∈ lwg := lwg_of 683 (by decide +kernel) (by decide +kernel)
theorem sBo_restore : Cond.selects mBo_restore.1.cls mBo_restore.1 mBo_restore.1 ∈ lwg := lwg_of 684 (by decide +kernel) (by decide +kernel)
theorem dBo_restore_0 : decode mBo_restore.2.1 0 = .ok (.aload_n 0, 1) := by decide +kernel
theorem dBo_restore_1 : decode mBo_restore.2.1 1 = .ok (.getfield 114, 3) := by decide +kernel
theorem dBo_restore_4 : decode mBo_restore.2.1 4 = .ok (.iconst 1, 1) := by decide +kernel
theorem dBo_restore_5 : decode mBo_restore.2.1 5 = .ok (.if_icmp .ge 5, 3) := by decide +kernel
theorem dBo_restore_8 : decode mBo_restore.2.1 8 = .ok (.iconst (-1), 1) := by decide +kernel
theorem dBo_restore_9 : decode mBo_restore.2.1 9 = .ok (.ireturn, 1) := by decide +kernel
theorem dBo_restore_10 : decode mBo_restore.2.1 10 = .ok (.aload_n 0, 1) := by decide +kernel
theorem dBo_restore_11 : decode mBo_restore.2.1 11 = .ok (.dup, 1) := by decide +kernel
theorem dBo_restore_12 : decode mBo_restore.2.1 12 = .ok (.getfield 114, 3) := by decide +kernel
theorem dBo_restore_15 : decode mBo_restore.2.1 15 = .ok (.iconst 1, 1) := by decide +kernel
theorem dBo_restore_16 : decode mBo_restore.2.1 16 = .ok (.isub, 1) := by decide +kernel
theorem dBo_restore_17 : decode mBo_restore.2.1 17 = .ok (.putfield 114, 3) := by decide +kernel
theorem dBo_restore_20 : decode mBo_restore.2.1 20 = .ok (.aload_n 0, 1) := by decide +kernel
theorem dBo_restore_21 : decode mBo_restore.2.1 21 = .ok (.aload_n 0, 1) := by decide +kernel
theorem dBo_restore_22 : decode mBo_restore.2.1 22 = .ok (.getfield 89, 3) := by decide +kernel
theorem dBo_restore_25 : decode mBo_restore.2.1 25 = .ok (.aload_n 0, 1) := by decide +kernel
theorem dBo_restore_26 : decode mBo_restore.2.1 26 = .ok (.getfield 114, 3) := by decide +kernel
theorem dBo_restore_29 : decode mBo_restore.2.1 29 = .ok (.aaload, 1) := by decide +kernel
theorem dBo_restore_30 : decode mBo_restore.2.1 30 = .ok (.aload_n 0, 1) := by decide +kernel
theorem dBo_restore_31 : decode mBo_restore.2.1 31 = .ok (.getfield 27, 3) := by decide +kernel
theorem dBo_restore_34 : decode mBo_restore.2.1 34 = .ok (.aload_n 0, 1) := by decide +kernel
theorem dBo_restore_35 : decode mBo_restore.2.1 35 = .ok (.getfield 82, 3) := by decide +kernel
theorem dBo_restore_38 : decode mBo_restore.2.1 38 = .ok (.invokevirtual 293, 3) := by decide +kernel
theorem dBo_restore_41 : decode mBo_restore.2.1 41 = .ok (.putfield 111, 3) := by decide +kernel
theorem dBo_restore_44 : decode mBo_restore.2.1 44 = .ok (.aload_n 0, 1) := by decide +kernel
theorem dBo_restore_45 : decode mBo_restore.2.1 45 = .ok (.invokevirtual 148, 3) := by decide +kernel
theorem dBo_restore_48 : decode mBo_restore.2.1 48 = .ok (.aload_n 0, 1) := by decide +kernel
theorem dBo_restore_49 : decode mBo_restore.2.1 49 = .ok (.getfield 114, 3) := by decide +kernel
theorem dBo_restore_52 : decode mBo_restore.2.1 52 = .ok (.ireturn, 1) := by decide +kernel
theorem w686 : Cond.methodLink "BowingRow" 293 ⟨"BowingRow$Image", "putBack", "(LBowingRow$People;[I)I"⟩ ∈ lwg := lwg_of 686 (by decide +kernel) (by decide +kernel)
theorem bBo_restore_0 {l : Launch} {G : Gx} {d : Nat} {bc bs : Nat} {Φ : OutV → Mm → Prop} (M : Mm) (a0 : Nat)
    (h : ((m_sh M a0).1 = 10) ∧ (1 ≤ (m_i M a0 17) → ((m_sh M (m_r M a0 16)).1 = 31) ∧ (vp_in (m_i (m_si M a0 17 ((m_i M a0 17) - 1)) a0 17) (m_sh M (m_r M a0 16)).2) ∧ ((m_sh M (m_r M (m_r M a0 16) (m_i (m_si M a0 17 ((m_i M a0 17) - 1)) a0 17).toNatClampNeg)).1 = 2) ∧ CallVC l G d mBo_restore 41 [.ref a0] [.ref a0] mIm_putBack [.ref (m_r M (m_r M a0 16) (m_i (m_si M a0 17 ((m_i M a0 17) - 1)) a0 17).toNatClampNeg), .ref (m_r M a0 4), .ref (m_r M a0 14)] (m_si M a0 17 ((m_i M a0 17) - 1)) bc bs Φ) ∧ (¬ 1 ≤ (m_i M a0 17) → Φ (.inl (some (.int ((-1))))) M)) :
    Ev l G d mBo_restore 0 [.ref a0] [] M bc bs Φ := by
  refine Ev.aload_n dBo_restore_0 rfl ?_
  have g1 := h.1
  replace h := h.2
  refine Ev.getI dBo_restore_1 (Or.inl fBo_114) rfl g1 ?_
  refine Ev.iconst (v := 1) dBo_restore_4 (by decide) ?_
  refine Ev.icmp_ge 10 (by decide) dBo_restore_5 (fun c => ?_) (fun c => ?_)
  · replace h := h.1 c
    refine Ev.aload_n dBo_restore_10 rfl ?_
    refine Ev.dup dBo_restore_11 rfl ?_
    refine Ev.getI dBo_restore_12 (Or.inl fBo_114) rfl g1 ?_
    refine Ev.iconst (v := 1) dBo_restore_15 (by decide) ?_
    refine Ev.isub dBo_restore_16 ?_
    refine Ev.putI dBo_restore_17 ⟨_, Or.inl ⟨fBo_114, (fun h => by cases h)⟩⟩ rfl ⟨rfl, rfl⟩ g1 ?_
    refine Ev.aload_n dBo_restore_20 rfl ?_
    refine Ev.aload_n dBo_restore_21 rfl ?_
    refine Ev.getR dBo_restore_22 (Or.inl fBo_89) rfl g1 ?_
    refine Ev.aload_n dBo_restore_25 rfl ?_
    refine Ev.getI dBo_restore_26 (Or.inl fBo_114) rfl g1 ?_
    have g2 := h.1
    replace h := h.2
    have g3 := h.1
    replace h := h.2
    refine Ev.aald2 31 (by decide) dBo_restore_29 g2 g3 ?_
    refine Ev.aload_n dBo_restore_30 rfl ?_
    refine Ev.getR dBo_restore_31 (Or.inl fBo_27) rfl g1 ?_
    refine Ev.aload_n dBo_restore_34 rfl ?_
    refine Ev.getR dBo_restore_35 (Or.inl fBo_82) rfl g1 ?_
    have g4 := h.1
    replace h := h.2
    exact Ev.vcV (z := mIm_putBack) (ci := 2) [.ref (m_r M a0 4), .ref (m_r M a0 14)] [.ref a0] rfl dBo_restore_38 oIm_putBack rfl w686 iIm_putBack sIm_putBack (by decide) rfl g4 (Nat.le_of_ble_eq_true rfl) h
  · replace h := h.2 c
    refine Ev.iconst (v := (-1)) dBo_restore_8 (by decide) ?_
    exact Ev.iret dBo_restore_9 rfl rfl h
def mBo_untilsChanged : MR := (⟨"BowingRow", "untilsChanged", "()V"⟩, prog_1_method_40_code, 1, none)
theorem oBo_untilsChanged : MOK mBo_untilsChanged 0 := ⟨lwg_of 697 (by decide +kernel) (by decide +kernel), lwg_of 91 (by decide +kernel) (by decide +kernel), ⟨by decide +kernel, by decide +kernel⟩, by decide +kernel, by decide⟩
theorem iBo_untilsChanged : Cond.instanceMethod mBo_untilsChanged.1 ∈ lwg := lwg_of 696 (by decide +kernel) (by decide +kernel)
theorem sBo_untilsChanged : Cond.selects mBo_untilsChanged.1.cls mBo_untilsChanged.1 mBo_untilsChanged.1 ∈ lwg := lwg_of 10 (by decide +kernel) (by decide +kernel)
theorem w694 : Cond.methodLink "BowingRow" 148 ⟨"BowingRow", "untilsChanged", "()V"⟩ ∈ lwg := lwg_of 694 (by decide +kernel) (by decide +kernel)
theorem bBo_restore_41 {l : Launch} {G : Gx} {d : Nat} {bc bs : Nat} {Φ : OutV → Mm → Prop} (M : Mm) (a0 : Nat) (r0 : Nat) (s1 : Int32)
    (h : ((m_sh M r0).1 = 10) ∧ ((m_sh M a0).1 = 10) ∧ CallVC l G d mBo_restore 48 [.ref a0] [] mBo_untilsChanged [.ref a0] (m_si M r0 15 s1) bc bs Φ) :
    Ev l G d mBo_restore 41 [.ref a0] [.int s1, .ref r0] M bc bs Φ := by
  have g1 := h.1
  replace h := h.2
  refine Ev.putI dBo_restore_41 ⟨_, Or.inl ⟨fBo_111, (fun h => by cases h)⟩⟩ rfl ⟨rfl, rfl⟩ g1 ?_
  refine Ev.aload_n dBo_restore_44 rfl ?_
  have g2 := h.1
  replace h := h.2
  exact Ev.vcV (z := mBo_untilsChanged) (ci := 10) [] [] rfl dBo_restore_45 oBo_untilsChanged rfl w694 iBo_untilsChanged sBo_untilsChanged (by decide) rfl g2 (Nat.le_of_ble_eq_true rfl) h
theorem bBo_restore_48 {l : Launch} {G : Gx} {d : Nat} {bc bs : Nat} {Φ : OutV → Mm → Prop} (M : Mm) (a0 : Nat)
    (h : ((m_sh M a0).1 = 10) ∧ Φ (.inl (some (.int (m_i M a0 17)))) M) :
    Ev l G d mBo_restore 48 [.ref a0] [] M bc bs Φ := by
  refine Ev.aload_n dBo_restore_48 rfl ?_
  have g1 := h.1
  replace h := h.2
  refine Ev.getI dBo_restore_49 (Or.inl fBo_114) rfl g1 ?_
  exact Ev.iret dBo_restore_52 rfl rfl h
theorem dBo_untilsChanged_0 : decode mBo_untilsChanged.2.1 0 = .ok (.aload_n 0, 1) := by decide +kernel
theorem dBo_untilsChanged_1 : decode mBo_untilsChanged.2.1 1 = .ok (.getfield 71, 3) := by decide +kernel
theorem dBo_untilsChanged_4 : decode mBo_untilsChanged.2.1 4 = .ok (.iconst 1, 1) := by decide +kernel
theorem dBo_untilsChanged_5 : decode mBo_untilsChanged.2.1 5 = .ok (.putfield 321, 3) := by decide +kernel
theorem dBo_untilsChanged_8 : decode mBo_untilsChanged.2.1 8 = .ok (.aload_n 0, 1) := by decide +kernel
theorem dBo_untilsChanged_9 : decode mBo_untilsChanged.2.1 9 = .ok (.invokevirtual 145, 3) := by decide +kernel
theorem dBo_untilsChanged_12 : decode mBo_untilsChanged.2.1 12 = .ok (.return_, 1) := by decide +kernel
theorem fBo_321 : FOK "BowingRow" 321 9 1 false := ⟨RX9, TX9, nFd 9, rfl, by decide, rfl, by decide, rfl, lwg_of 421 (by decide +kernel) (by decide +kernel)⟩
def mBo_waysChanged : MR := (⟨"BowingRow", "waysChanged", "()V"⟩, prog_1_method_41_code, 1, none)
theorem oBo_waysChanged : MOK mBo_waysChanged 0 := ⟨lwg_of 701 (by decide +kernel) (by decide +kernel), lwg_of 91 (by decide +kernel) (by decide +kernel), ⟨by decide +kernel, by decide +kernel⟩, by decide +kernel, by decide⟩
theorem iBo_waysChanged : Cond.instanceMethod mBo_waysChanged.1 ∈ lwg := lwg_of 700 (by decide +kernel) (by decide +kernel)
theorem sBo_waysChanged : Cond.selects mBo_waysChanged.1.cls mBo_waysChanged.1 mBo_waysChanged.1 ∈ lwg := lwg_of 11 (by decide +kernel) (by decide +kernel)
theorem w698 : Cond.methodLink "BowingRow" 145 ⟨"BowingRow", "waysChanged", "()V"⟩ ∈ lwg := lwg_of 698 (by decide +kernel) (by decide +kernel)
theorem bBo_untilsChanged_0 {l : Launch} {G : Gx} {d : Nat} {bc bs : Nat} {Φ : OutV → Mm → Prop} (M : Mm) (a0 : Nat)
    (h : ((m_sh M a0).1 = 10) ∧ ((m_sh M (m_r M a0 12)).1 = 9) ∧ CallVC l G d mBo_untilsChanged 12 [.ref a0] [] mBo_waysChanged [.ref a0] (m_si M (m_r M a0 12) 1 1) bc bs Φ) :
    Ev l G d mBo_untilsChanged 0 [.ref a0] [] M bc bs Φ := by
  refine Ev.aload_n dBo_untilsChanged_0 rfl ?_
  have g1 := h.1
  replace h := h.2
  refine Ev.getR dBo_untilsChanged_1 (Or.inl fBo_71) rfl g1 ?_
  refine Ev.iconst (v := 1) dBo_untilsChanged_4 (by decide) ?_
  have g2 := h.1
  replace h := h.2
  refine Ev.putI dBo_untilsChanged_5 ⟨_, Or.inl ⟨fBo_321, (fun h => by cases h)⟩⟩ rfl ⟨rfl, rfl⟩ g2 ?_
  refine Ev.aload_n dBo_untilsChanged_8 rfl ?_
  exact Ev.vcV (z := mBo_waysChanged) (ci := 10) [] [] rfl dBo_untilsChanged_9 oBo_waysChanged rfl w698 iBo_waysChanged sBo_waysChanged (by decide) rfl g1 (Nat.le_of_ble_eq_true rfl) h
theorem bBo_untilsChanged_12 {l : Launch} {G : Gx} {d : Nat} {bc bs : Nat} {Φ : OutV → Mm → Prop} (M : Mm) (a0 : Nat)
    (h : Φ (.inl none) M) :
    Ev l G d mBo_untilsChanged 12 [.ref a0] [] M bc bs Φ := by
  exact Ev.vret dBo_untilsChanged_12 rfl h
theorem dBo_waysChanged_0 : decode mBo_waysChanged.2.1 0 = .ok (.aload_n 0, 1) := by decide +kernel
theorem dBo_waysChanged_1 : decode mBo_waysChanged.2.1 1 = .ok (.getfield 61, 3) := by decide +kernel
theorem dBo_waysChanged_4 : decode mBo_waysChanged.2.1 4 = .ok (.iconst 1, 1) := by decide +kernel
theorem dBo_waysChanged_5 : decode mBo_waysChanged.2.1 5 = .ok (.putfield 324, 3) := by decide +kernel
theorem dBo_waysChanged_8 : decode mBo_waysChanged.2.1 8 = .ok (.aload_n 0, 1) := by decide +kernel
theorem dBo_waysChanged_9 : decode mBo_waysChanged.2.1 9 = .ok (.getfield 78, 3) := by decide +kernel
theorem dBo_waysChanged_12 : decode mBo_waysChanged.2.1 12 = .ok (.iconst 1, 1) := by decide +kernel
theorem dBo_waysChanged_13 : decode mBo_waysChanged.2.1 13 = .ok (.putfield 325, 3) := by decide +kernel
theorem dBo_waysChanged_16 : decode mBo_waysChanged.2.1 16 = .ok (.return_, 1) := by decide +kernel
theorem fBo_325 : FOK "BowingRow" 325 7 0 false := ⟨RX7, TX7, nFd 7, rfl, by decide, rfl, by decide, rfl, lwg_of 450 (by decide +kernel) (by decide +kernel)⟩
theorem bBo_waysChanged_0 {l : Launch} {G : Gx} {d : Nat} {bc bs : Nat} {Φ : OutV → Mm → Prop} (M : Mm) (a0 : Nat)
    (h : ((m_sh M a0).1 = 10) ∧ ((m_sh M (m_r M a0 10)).1 = 1) ∧ ((m_sh M (m_r M a0 13)).1 = 7) ∧ Φ (.inl none) (m_si (m_si M (m_r M a0 10) 16 1) (m_r M a0 13) 0 1)) :
    Ev l G d mBo_waysChanged 0 [.ref a0] [] M bc bs Φ := by
  refine Ev.aload_n dBo_waysChanged_0 rfl ?_
  have g1 := h.1
  replace h := h.2
  refine Ev.getR dBo_waysChanged_1 (Or.inl fBo_61) rfl g1 ?_
  refine Ev.iconst (v := 1) dBo_waysChanged_4 (by decide) ?_
  have g2 := h.1
  replace h := h.2
  refine Ev.putI dBo_waysChanged_5 ⟨_, Or.inl ⟨fBo_324, (fun h => by cases h)⟩⟩ rfl ⟨rfl, rfl⟩ g2 ?_
  refine Ev.aload_n dBo_waysChanged_8 rfl ?_
  refine Ev.getR dBo_waysChanged_9 (Or.inl fBo_78) rfl g1 ?_
  refine Ev.iconst (v := 1) dBo_waysChanged_12 (by decide) ?_
  have g3 := h.1
  replace h := h.2
  refine Ev.putI dBo_waysChanged_13 ⟨_, Or.inl ⟨fBo_325, (fun h => by cases h)⟩⟩ rfl ⟨rfl, rfl⟩ g3 ?_
  exact Ev.vret dBo_waysChanged_16 rfl h
def mBo_count : MR := (⟨"BowingRow", "count", "(I)I"⟩, prog_1_method_32_code, 2, (Option.some .int))
theorem oBo_count : MOK mBo_count 1 := ⟨lwg_of 705 (by decide +kernel) (by decide +kernel), lwg_of 91 (by decide +kernel) (by decide +kernel), ⟨by decide +kernel, by decide +kernel⟩, by decide +kernel, by decide⟩
theorem iBo_count : Cond.instanceMethod mBo_count.1 ∈ lwg := lwg_of 703 (by decide +kernel) (by decide +kernel)
theorem sBo_count : Cond.selects mBo_count.1.cls mBo_count.1 mBo_count.1 ∈ lwg := lwg_of 704 (by decide +kernel) (by decide +kernel)
theorem dBo_count_0 : decode mBo_count.2.1 0 = .ok (.iload_n 1, 1) := by decide +kernel
theorem dBo_count_1 : decode mBo_count.2.1 1 = .ok (.tableswitch 42 0 2 #[27, 32, 37], 27) := by decide +kernel
theorem dBo_count_28 : decode mBo_count.2.1 28 = .ok (.aload_n 0, 1) := by decide +kernel
theorem dBo_count_29 : decode mBo_count.2.1 29 = .ok (.getfield 111, 3) := by decide +kernel
theorem dBo_count_32 : decode mBo_count.2.1 32 = .ok (.ireturn, 1) := by decide +kernel
theorem dBo_count_33 : decode mBo_count.2.1 33 = .ok (.aload_n 0, 1) := by decide +kernel
theorem dBo_count_34 : decode mBo_count.2.1 34 = .ok (.getfield 114, 3) := by decide +kernel
theorem dBo_count_37 : decode mBo_count.2.1 37 = .ok (.ireturn, 1) := by decide +kernel
theorem dBo_count_38 : decode mBo_count.2.1 38 = .ok (.aload_n 0, 1) := by decide +kernel
theorem dBo_count_39 : decode mBo_count.2.1 39 = .ok (.getfield 93, 3) := by decide +kernel
theorem dBo_count_42 : decode mBo_count.2.1 42 = .ok (.ireturn, 1) := by decide +kernel
theorem dBo_count_43 : decode mBo_count.2.1 43 = .ok (.iconst (-1), 1) := by decide +kernel
theorem dBo_count_44 : decode mBo_count.2.1 44 = .ok (.ireturn, 1) := by decide +kernel
theorem bBo_count_0 {l : Launch} {G : Gx} {d : Nat} {bc bs : Nat} {Φ : OutV → Mm → Prop} (M : Mm) (a0 : Nat) (x1 : Int32)
    (h : (x1 = 0 → ((m_sh M a0).1 = 10) ∧ Φ (.inl (some (.int (m_i M a0 15)))) M) ∧ ((x1 = 1 → ((m_sh M a0).1 = 10) ∧ Φ (.inl (some (.int (m_i M a0 17)))) M) ∧ ((x1 = 2 → ((m_sh M a0).1 = 10) ∧ Φ (.inl (some (.int (m_i M a0 1)))) M) ∧ (¬ x1 = 0 → ¬ x1 = 1 → ¬ x1 = 2 → Φ (.inl (some (.int ((-1))))) M)))) :
    Ev l G d mBo_count 0 [.ref a0, .int x1] [] M bc bs Φ := by
  refine Ev.iload_n dBo_count_0 rfl ?_
  skip
  by_cases c : x1 = 0
  · refine Ev.tblAt 28 dBo_count_1 (by rw [c]; decide) (by rw [c]; decide) (by rw [c]; rfl) (by decide) ?_
    replace h := h.1 c
    refine Ev.aload_n dBo_count_28 rfl ?_
    have g1 := h.1
    replace h := h.2
    refine Ev.getI dBo_count_29 (Or.inl fBo_111) rfl g1 ?_
    exact Ev.iret dBo_count_32 rfl rfl h
  have c2 := c
  clear c
  replace h := h.2
  by_cases c : x1 = 1
  · refine Ev.tblAt 33 dBo_count_1 (by rw [c]; decide) (by rw [c]; decide) (by rw [c]; rfl) (by decide) ?_
    replace h := h.1 c
    refine Ev.aload_n dBo_count_33 rfl ?_
    have g3 := h.1
    replace h := h.2
    refine Ev.getI dBo_count_34 (Or.inl fBo_114) rfl g3 ?_
    exact Ev.iret dBo_count_37 rfl rfl h
  have c4 := c
  clear c
  replace h := h.2
  by_cases c : x1 = 2
  · refine Ev.tblAt 38 dBo_count_1 (by rw [c]; decide) (by rw [c]; decide) (by rw [c]; rfl) (by decide) ?_
    replace h := h.1 c
    refine Ev.aload_n dBo_count_38 rfl ?_
    have g5 := h.1
    replace h := h.2
    refine Ev.getI dBo_count_39 (Or.inl fBo_93) rfl g5 ?_
    exact Ev.iret dBo_count_42 rfl rfl h
  have c6 := c
  clear c
  replace h := h.2
  refine Ev.tblOut 43 dBo_count_1 ?_ (by decide) ?_
  · have e : ∀ k : Int32, ¬ x1 = k → ¬ x1.toInt = k.toInt := fun k h1 h2 => h1 (Int32.toInt_inj.mp h2)
    have := e 0 c2
    rw [show ((0 : Int32)).toInt = 0 from rfl] at this
    have := e 1 c4
    rw [show ((1 : Int32)).toInt = 1 from rfl] at this
    have := e 2 c6
    rw [show ((2 : Int32)).toInt = 2 from rfl] at this
    omega
  · replace h := h c2 c4 c6
    refine Ev.iconst (v := (-1)) dBo_count_43 (by decide) ?_
    exact Ev.iret dBo_count_44 rfl rfl h
def mBo_row : MR := (⟨"BowingRow", "row", "(I)I"⟩, prog_1_method_3_code, 4, (Option.some .int))
theorem oBo_row : MOK mBo_row 1 := ⟨lwg_of 713 (by decide +kernel) (by decide +kernel), lwg_of 91 (by decide +kernel) (by decide +kernel), ⟨by decide +kernel, by decide +kernel⟩, by decide +kernel, by decide⟩
theorem iBo_row : Cond.instanceMethod mBo_row.1 ∈ lwg := lwg_of 711 (by decide +kernel) (by decide +kernel)
theorem sBo_row : Cond.selects mBo_row.1.cls mBo_row.1 mBo_row.1 ∈ lwg := lwg_of 712 (by decide +kernel) (by decide +kernel)
theorem dBo_row_0 : decode mBo_row.2.1 0 = .ok (.aload_n 0, 1) := by decide +kernel
theorem dBo_row_1 : decode mBo_row.2.1 1 = .ok (.iload_n 1, 1) := by decide +kernel
theorem dBo_row_2 : decode mBo_row.2.1 2 = .ok (.invokevirtual 100, 3) := by decide +kernel
theorem dBo_row_5 : decode mBo_row.2.1 5 = .ok (.aload_n 0, 1) := by decide +kernel
theorem dBo_row_6 : decode mBo_row.2.1 6 = .ok (.getfield 31, 3) := by decide +kernel
theorem dBo_row_9 : decode mBo_row.2.1 9 = .ok (.aload_n 0, 1) := by decide +kernel
theorem dBo_row_10 : decode mBo_row.2.1 10 = .ok (.getfield 16, 3) := by decide +kernel
theorem dBo_row_13 : decode mBo_row.2.1 13 = .ok (.invokevirtual 103, 3) := by decide +kernel
theorem dBo_row_16 : decode mBo_row.2.1 16 = .ok (.istore_n 2, 1) := by decide +kernel
theorem dBo_row_17 : decode mBo_row.2.1 17 = .ok (.aload_n 0, 1) := by decide +kernel
theorem dBo_row_18 : decode mBo_row.2.1 18 = .ok (.aload_n 0, 1) := by decide +kernel
theorem dBo_row_19 : decode mBo_row.2.1 19 = .ok (.getfield 16, 3) := by decide +kernel
theorem dBo_row_22 : decode mBo_row.2.1 22 = .ok (.getfield 107, 3) := by decide +kernel
theorem dBo_row_25 : decode mBo_row.2.1 25 = .ok (.putfield 20, 3) := by decide +kernel
theorem dBo_row_28 : decode mBo_row.2.1 28 = .ok (.iload_n 2, 1) := by decide +kernel
theorem dBo_row_29 : decode mBo_row.2.1 29 = .ok (.ifCond .ne 14, 3) := by decide +kernel
theorem dBo_row_32 : decode mBo_row.2.1 32 = .ok (.aload_n 0, 1) := by decide +kernel
theorem dBo_row_33 : decode mBo_row.2.1 33 = .ok (.getfield 16, 3) := by decide +kernel
theorem dBo_row_36 : decode mBo_row.2.1 36 = .ok (.getfield 108, 3) := by decide +kernel
theorem dBo_row_39 : decode mBo_row.2.1 39 = .ok (.bipush 10, 2) := by decide +kernel
theorem dBo_row_41 : decode mBo_row.2.1 41 = .ok (.isub, 1) := by decide +kernel
theorem dBo_row_42 : decode mBo_row.2.1 42 = .ok (.ireturn, 1) := by decide +kernel
theorem dBo_row_43 : decode mBo_row.2.1 43 = .ok (.aload_n 0, 1) := by decide +kernel
theorem dBo_row_44 : decode mBo_row.2.1 44 = .ok (.getfield 27, 3) := by decide +kernel
theorem dBo_row_47 : decode mBo_row.2.1 47 = .ok (.astore_n 3, 1) := by decide +kernel
theorem dBo_row_48 : decode mBo_row.2.1 48 = .ok (.aload_n 0, 1) := by decide +kernel
theorem dBo_row_49 : decode mBo_row.2.1 49 = .ok (.aload_n 0, 1) := by decide +kernel
theorem dBo_row_50 : decode mBo_row.2.1 50 = .ok (.getfield 31, 3) := by decide +kernel
theorem dBo_row_53 : decode mBo_row.2.1 53 = .ok (.putfield 27, 3) := by decide +kernel
theorem dBo_row_56 : decode mBo_row.2.1 56 = .ok (.aload_n 0, 1) := by decide +kernel
theorem dBo_row_57 : decode mBo_row.2.1 57 = .ok (.aload_n 3, 1) := by decide +kernel
theorem dBo_row_58 : decode mBo_row.2.1 58 = .ok (.putfield 31, 3) := by decide +kernel
theorem dBo_row_61 : decode mBo_row.2.1 61 = .ok (.aload_n 0, 1) := by decide +kernel
theorem dBo_row_62 : decode mBo_row.2.1 62 = .ok (.iconst 0, 1) := by decide +kernel
theorem dBo_row_63 : decode mBo_row.2.1 63 = .ok (.putfield 111, 3) := by decide +kernel
theorem dBo_row_66 : decode mBo_row.2.1 66 = .ok (.aload_n 0, 1) := by decide +kernel
theorem dBo_row_67 : decode mBo_row.2.1 67 = .ok (.iconst 0, 1) := by decide +kernel
theorem dBo_row_68 : decode mBo_row.2.1 68 = .ok (.putfield 114, 3) := by decide +kernel
theorem dBo_row_71 : decode mBo_row.2.1 71 = .ok (.aload_n 0, 1) := by decide +kernel
theorem dBo_row_72 : decode mBo_row.2.1 72 = .ok (.invokevirtual 117, 3) := by decide +kernel
theorem dBo_row_75 : decode mBo_row.2.1 75 = .ok (.aload_n 0, 1) := by decide +kernel
theorem dBo_row_76 : decode mBo_row.2.1 76 = .ok (.getfield 27, 3) := by decide +kernel
theorem dBo_row_79 : decode mBo_row.2.1 79 = .ok (.getfield 120, 3) := by decide +kernel
theorem dBo_row_82 : decode mBo_row.2.1 82 = .ok (.ireturn, 1) := by decide +kernel
def mBo_takeText : MR := (⟨"BowingRow", "takeText", "(I)V"⟩, prog_1_method_38_code, 2, none)
theorem oBo_takeText : MOK mBo_takeText 1 := ⟨lwg_of 717 (by decide +kernel) (by decide +kernel), lwg_of 91 (by decide +kernel) (by decide +kernel), ⟨by decide +kernel, by decide +kernel⟩, by decide +kernel, by decide⟩
theorem iBo_takeText : Cond.instanceMethod mBo_takeText.1 ∈ lwg := lwg_of 716 (by decide +kernel) (by decide +kernel)
theorem sBo_takeText : Cond.selects mBo_takeText.1.cls mBo_takeText.1 mBo_takeText.1 ∈ lwg := lwg_of 12 (by decide +kernel) (by decide +kernel)
theorem w714 : Cond.methodLink "BowingRow" 100 ⟨"BowingRow", "takeText", "(I)V"⟩ ∈ lwg := lwg_of 714 (by decide +kernel) (by decide +kernel)
theorem bBo_row_0 {l : Launch} {G : Gx} {d : Nat} {bc bs : Nat} {Φ : OutV → Mm → Prop} (M : Mm) (a0 : Nat) (x1 : Int32)
    (h : ((m_sh M a0).1 = 10) ∧ CallVC l G d mBo_row 5 [.ref a0, .int x1, .null, .null] [] mBo_takeText [.ref a0, .int x1] M bc bs Φ) :
    Ev l G d mBo_row 0 [.ref a0, .int x1, .null, .null] [] M bc bs Φ := by
  refine Ev.aload_n dBo_row_0 rfl ?_
  refine Ev.iload_n dBo_row_1 rfl ?_
  have g1 := h.1
  replace h := h.2
  exact Ev.vcV (z := mBo_takeText) (ci := 10) [.int x1] [] rfl dBo_row_2 oBo_takeText rfl w714 iBo_takeText sBo_takeText (by decide) rfl g1 (Nat.le_of_ble_eq_true rfl) h
theorem w859 : Cond.methodLink "BowingRow" 103 ⟨"BowingRow$People", "readClauses", "(LBowingRow$Tokens;)Z"⟩ ∈ lwg := lwg_of 859 (by decide +kernel) (by decide +kernel)
theorem bBo_row_5 {l : Launch} {G : Gx} {d : Nat} {bc bs : Nat} {Φ : OutV → Mm → Prop} (M : Mm) (a0 : Nat) (x1 : Int32) (u2 : Value) (u3 : Value)
    (h : ((m_sh M a0).1 = 10) ∧ ((m_sh M (m_r M a0 5)).1 = 6) ∧ CallVC l G d mBo_row 16 [.ref a0, .int x1, u2, u3] [] mPe_readClauses [.ref (m_r M a0 5), .ref (m_r M a0 2)] M bc bs Φ) :
    Ev l G d mBo_row 5 [.ref a0, .int x1, u2, u3] [] M bc bs Φ := by
  refine Ev.aload_n dBo_row_5 rfl ?_
  have g1 := h.1
  replace h := h.2
  refine Ev.getR dBo_row_6 (Or.inl fBo_31) rfl g1 ?_
  refine Ev.aload_n dBo_row_9 rfl ?_
  refine Ev.getR dBo_row_10 (Or.inl fBo_16) rfl g1 ?_
  have g2 := h.1
  replace h := h.2
  exact Ev.vcV (z := mPe_readClauses) (ci := 6) [.ref (m_r M a0 2)] [] rfl dBo_row_13 oPe_readClauses rfl w859 iPe_readClauses sPe_readClauses (by decide) rfl g2 (Nat.le_of_ble_eq_true rfl) h
theorem fBo_107 : FOK "BowingRow" 107 8 7 false := ⟨RX8, TX8, nFd 8, rfl, by decide, rfl, by decide, rfl, lwg_of 145 (by decide +kernel) (by decide +kernel)⟩
theorem fBo_108 : FOK "BowingRow" 108 8 6 false := ⟨RX8, TX8, nFd 8, rfl, by decide, rfl, by decide, rfl, lwg_of 143 (by decide +kernel) (by decide +kernel)⟩
theorem bBo_row_16 {l : Launch} {G : Gx} {d : Nat} {bc bs : Nat} {Φ : OutV → Mm → Prop} (M : Mm) (a0 : Nat) (x1 : Int32) (u2 : Value) (u3 : Value) (s0 : Int32)
    (h : ((m_sh M a0).1 = 10) ∧ ((m_sh M (m_r M a0 2)).1 = 8) ∧ (¬ s0 = 0 → Ev l G d mBo_row 56 [.ref a0, .int x1, .int s0, .ref (m_r M a0 4)] [] (m_sr (m_si M a0 3 (m_i M (m_r M a0 2) 7)) a0 4 (m_r M a0 5)) bc bs Φ) ∧ (s0 = 0 → Φ (.inl (some (.int ((m_i (m_si M a0 3 (m_i M (m_r M a0 2) 7)) (m_r M a0 2) 6) - 10)))) (m_si M a0 3 (m_i M (m_r M a0 2) 7)))) :
    Ev l G d mBo_row 16 [.ref a0, .int x1, u2, u3] [.int s0] M bc bs Φ := by
  refine Ev.istore_n dBo_row_16 (by decide) ?_
  show Ev l G d mBo_row (_ + _) [.ref a0, .int x1, .int s0, u3] [] M bc bs Φ
  refine Ev.aload_n dBo_row_17 rfl ?_
  refine Ev.aload_n dBo_row_18 rfl ?_
  have g1 := h.1
  replace h := h.2
  refine Ev.getR dBo_row_19 (Or.inl fBo_16) rfl g1 ?_
  have g2 := h.1
  replace h := h.2
  refine Ev.getI dBo_row_22 (Or.inl fBo_107) rfl g2 ?_
  refine Ev.putI dBo_row_25 ⟨_, Or.inl ⟨fBo_20, (fun h => by cases h)⟩⟩ rfl ⟨rfl, rfl⟩ g1 ?_
  refine Ev.iload_n dBo_row_28 rfl ?_
  refine Ev.if_ne 43 (by decide) dBo_row_29 (fun c => ?_) (fun c => ?_)
  · replace h := h.1 c
    refine Ev.aload_n dBo_row_43 rfl ?_
    refine Ev.getR dBo_row_44 (Or.inl fBo_27) rfl g1 ?_
    refine Ev.astore_n dBo_row_47 (by decide) ?_
    show Ev l G d mBo_row (_ + _) [.ref a0, .int x1, .int s0, .ref (m_r M a0 4)] [] (m_si M a0 3 (m_i M (m_r M a0 2) 7)) bc bs Φ
    refine Ev.aload_n dBo_row_48 rfl ?_
    refine Ev.aload_n dBo_row_49 rfl ?_
    refine Ev.getR dBo_row_50 (Or.inl fBo_31) rfl g1 ?_
    refine Ev.putR dBo_row_53 ⟨_, Or.inl ⟨fBo_27, (fun h => by cases h)⟩⟩ rfl (fun ad => fitR (by first | exact Or.inl ⟨_, rfl⟩ | exact Or.inr ⟨_, rfl⟩) _ ad) g1 ?_
    exact h
  · replace h := h.2 c
    refine Ev.aload_n dBo_row_32 rfl ?_
    refine Ev.getR dBo_row_33 (Or.inl fBo_16) rfl g1 ?_
    refine Ev.getI dBo_row_36 (Or.inl fBo_108) rfl g2 ?_
    refine Ev.bipush (v := 10) dBo_row_39 (by decide) ?_
    refine Ev.isub dBo_row_41 ?_
    exact Ev.iret dBo_row_42 rfl rfl h
theorem bBo_row_56 {l : Launch} {G : Gx} {d : Nat} {bc bs : Nat} {Φ : OutV → Mm → Prop} (M : Mm) (a0 : Nat) (x1 : Int32) (x2 : Int32) (a3 : Nat)
    (h : ((m_sh M a0).1 = 10) ∧ Ev l G d mBo_row 66 [.ref a0, .int x1, .int x2, .ref a3] [] (m_si (m_sr M a0 5 a3) a0 15 0) bc bs Φ) :
    Ev l G d mBo_row 56 [.ref a0, .int x1, .int x2, .ref a3] [] M bc bs Φ := by
  refine Ev.aload_n dBo_row_56 rfl ?_
  refine Ev.aload_n dBo_row_57 rfl ?_
  have g1 := h.1
  replace h := h.2
  refine Ev.putR dBo_row_58 ⟨_, Or.inl ⟨fBo_31, (fun h => by cases h)⟩⟩ rfl (fun ad => fitR (by first | exact Or.inl ⟨_, rfl⟩ | exact Or.inr ⟨_, rfl⟩) _ ad) g1 ?_
  refine Ev.aload_n dBo_row_61 rfl ?_
  refine Ev.iconst (v := 0) dBo_row_62 (by decide) ?_
  refine Ev.putI dBo_row_63 ⟨_, Or.inl ⟨fBo_111, (fun h => by cases h)⟩⟩ rfl ⟨rfl, rfl⟩ g1 ?_
  exact h
def mBo_textChanged : MR := (⟨"BowingRow", "textChanged", "()V"⟩, prog_1_method_39_code, 1, none)
theorem oBo_textChanged : MOK mBo_textChanged 0 := ⟨lwg_of 927 (by decide +kernel) (by decide +kernel), lwg_of 91 (by decide +kernel) (by decide +kernel), ⟨by decide +kernel, by decide +kernel⟩, by decide +kernel, by decide⟩
theorem iBo_textChanged : Cond.instanceMethod mBo_textChanged.1 ∈ lwg := lwg_of 926 (by decide +kernel) (by decide +kernel)
theorem sBo_textChanged : Cond.selects mBo_textChanged.1.cls mBo_textChanged.1 mBo_textChanged.1 ∈ lwg := lwg_of 21 (by decide +kernel) (by decide +kernel)
theorem w924 : Cond.methodLink "BowingRow" 117 ⟨"BowingRow", "textChanged", "()V"⟩ ∈ lwg := lwg_of 924 (by decide +kernel) (by decide +kernel)
theorem bBo_row_66 {l : Launch} {G : Gx} {d : Nat} {bc bs : Nat} {Φ : OutV → Mm → Prop} (M : Mm) (a0 : Nat) (x1 : Int32) (x2 : Int32) (a3 : Nat)
    (h : ((m_sh M a0).1 = 10) ∧ CallVC l G d mBo_row 75 [.ref a0, .int x1, .int x2, .ref a3] [] mBo_textChanged [.ref a0] (m_si M a0 17 0) bc bs Φ) :
    Ev l G d mBo_row 66 [.ref a0, .int x1, .int x2, .ref a3] [] M bc bs Φ := by
  refine Ev.aload_n dBo_row_66 rfl ?_
  refine Ev.iconst (v := 0) dBo_row_67 (by decide) ?_
  have g1 := h.1
  replace h := h.2
  refine Ev.putI dBo_row_68 ⟨_, Or.inl ⟨fBo_114, (fun h => by cases h)⟩⟩ rfl ⟨rfl, rfl⟩ g1 ?_
  refine Ev.aload_n dBo_row_71 rfl ?_
  exact Ev.vcV (z := mBo_textChanged) (ci := 10) [] [] rfl dBo_row_72 oBo_textChanged rfl w924 iBo_textChanged sBo_textChanged (by decide) rfl g1 (Nat.le_of_ble_eq_true rfl) h
theorem fBo_120 : FOK "BowingRow" 120 6 2 false := ⟨RX6, TX6, nFd 6, rfl, by decide, rfl, by decide, rfl, lwg_of 179 (by decide +kernel) (by decide +kernel)⟩
theorem bBo_row_75 {l : Launch} {G : Gx} {d : Nat} {bc bs : Nat} {Φ : OutV → Mm → Prop} (M : Mm) (a0 : Nat) (x1 : Int32) (x2 : Int32) (a3 : Nat)
    (h : ((m_sh M a0).1 = 10) ∧ ((m_sh M (m_r M a0 4)).1 = 6) ∧ Φ (.inl (some (.int (m_i M (m_r M a0 4) 2)))) M) :
    Ev l G d mBo_row 75 [.ref a0, .int x1, .int x2, .ref a3] [] M bc bs Φ := by
  refine Ev.aload_n dBo_row_75 rfl ?_
  have g1 := h.1
  replace h := h.2
  refine Ev.getR dBo_row_76 (Or.inl fBo_27) rfl g1 ?_
  have g2 := h.1
  replace h := h.2
  refine Ev.getI dBo_row_79 (Or.inl fBo_120) rfl g2 ?_
  exact Ev.iret dBo_row_82 rfl rfl h
theorem dBo_takeText_0 : decode mBo_takeText.2.1 0 = .ok (.aload_n 0, 1) := by decide +kernel
theorem dBo_takeText_1 : decode mBo_takeText.2.1 1 = .ok (.iload_n 1, 1) := by decide +kernel
theorem dBo_takeText_2 : decode mBo_takeText.2.1 2 = .ok (.aload_n 0, 1) := by decide +kernel
theorem dBo_takeText_3 : decode mBo_takeText.2.1 3 = .ok (.getfield 93, 3) := by decide +kernel
theorem dBo_takeText_6 : decode mBo_takeText.2.1 6 = .ok (.invokevirtual 127, 3) := by decide +kernel
theorem dBo_takeText_9 : decode mBo_takeText.2.1 9 = .ok (.aload_n 0, 1) := by decide +kernel
theorem dBo_takeText_10 : decode mBo_takeText.2.1 10 = .ok (.getfield 16, 3) := by decide +kernel
theorem dBo_takeText_13 : decode mBo_takeText.2.1 13 = .ok (.aload_n 0, 1) := by decide +kernel
theorem dBo_takeText_14 : decode mBo_takeText.2.1 14 = .ok (.getfield 9, 3) := by decide +kernel
theorem dBo_takeText_17 : decode mBo_takeText.2.1 17 = .ok (.iload_n 1, 1) := by decide +kernel
theorem dBo_takeText_18 : decode mBo_takeText.2.1 18 = .ok (.invokevirtual 311, 3) := by decide +kernel
theorem dBo_takeText_21 : decode mBo_takeText.2.1 21 = .ok (.aload_n 0, 1) := by decide +kernel
theorem dBo_takeText_22 : decode mBo_takeText.2.1 22 = .ok (.iconst 0, 1) := by decide +kernel
theorem dBo_takeText_23 : decode mBo_takeText.2.1 23 = .ok (.putfield 93, 3) := by decide +kernel
theorem dBo_takeText_26 : decode mBo_takeText.2.1 26 = .ok (.return_, 1) := by decide +kernel
def mBo_checkWhat : MR := (⟨"BowingRow", "checkWhat", "(II)V"⟩, prog_1_method_34_code, 3, none)
theorem oBo_checkWhat : MOK mBo_checkWhat 2 := ⟨lwg_of 721 (by decide +kernel) (by decide +kernel), lwg_of 91 (by decide +kernel) (by decide +kernel), ⟨by decide +kernel, by decide +kernel⟩, by decide +kernel, by decide⟩
theorem iBo_checkWhat : Cond.instanceMethod mBo_checkWhat.1 ∈ lwg := lwg_of 720 (by decide +kernel) (by decide +kernel)
theorem sBo_checkWhat : Cond.selects mBo_checkWhat.1.cls mBo_checkWhat.1 mBo_checkWhat.1 ∈ lwg := lwg_of 13 (by decide +kernel) (by decide +kernel)
theorem w718 : Cond.methodLink "BowingRow" 127 ⟨"BowingRow", "checkWhat", "(II)V"⟩ ∈ lwg := lwg_of 718 (by decide +kernel) (by decide +kernel)
theorem bBo_takeText_0 {l : Launch} {G : Gx} {d : Nat} {bc bs : Nat} {Φ : OutV → Mm → Prop} (M : Mm) (a0 : Nat) (x1 : Int32)
    (h : ((m_sh M a0).1 = 10) ∧ CallVC l G d mBo_takeText 9 [.ref a0, .int x1] [] mBo_checkWhat [.ref a0, .int x1, .int (m_i M a0 1)] M bc bs Φ) :
    Ev l G d mBo_takeText 0 [.ref a0, .int x1] [] M bc bs Φ := by
  refine Ev.aload_n dBo_takeText_0 rfl ?_
  refine Ev.iload_n dBo_takeText_1 rfl ?_
  refine Ev.aload_n dBo_takeText_2 rfl ?_
  have g1 := h.1
  replace h := h.2
  refine Ev.getI dBo_takeText_3 (Or.inl fBo_93) rfl g1 ?_
  exact Ev.vcV (z := mBo_checkWhat) (ci := 10) [.int x1, .int (m_i M a0 1)] [] rfl dBo_takeText_6 oBo_checkWhat rfl w718 iBo_checkWhat sBo_checkWhat (by decide) rfl g1 (Nat.le_of_ble_eq_true rfl) h
theorem w790 : Cond.methodLink "BowingRow" 311 ⟨"BowingRow$Tokens", "cut", "([BI)V"⟩ ∈ lwg := lwg_of 790 (by decide +kernel) (by decide +kernel)
theorem bBo_takeText_9 {l : Launch} {G : Gx} {d : Nat} {bc bs : Nat} {Φ : OutV → Mm → Prop} (M : Mm) (a0 : Nat) (x1 : Int32)
    (h : ((m_sh M a0).1 = 10) ∧ ((m_sh M (m_r M a0 2)).1 = 8) ∧ CallVC l G d mBo_takeText 21 [.ref a0, .int x1] [] mTo_cut [.ref (m_r M a0 2), .ref (m_r M a0 0), .int x1] M bc bs Φ) :
    Ev l G d mBo_takeText 9 [.ref a0, .int x1] [] M bc bs Φ := by
  refine Ev.aload_n dBo_takeText_9 rfl ?_
  have g1 := h.1
  replace h := h.2
  refine Ev.getR dBo_takeText_10 (Or.inl fBo_16) rfl g1 ?_
  refine Ev.aload_n dBo_takeText_13 rfl ?_
  refine Ev.getR dBo_takeText_14 (Or.inl fBo_9) rfl g1 ?_
  refine Ev.iload_n dBo_takeText_17 rfl ?_
  have g2 := h.1
  replace h := h.2
  exact Ev.vcV (z := mTo_cut) (ci := 8) [.ref (m_r M a0 0), .int x1] [] rfl dBo_takeText_18 oTo_cut rfl w790 iTo_cut sTo_cut (by decide) rfl g2 (Nat.le_of_ble_eq_true rfl) h
theorem bBo_takeText_21 {l : Launch} {G : Gx} {d : Nat} {bc bs : Nat} {Φ : OutV → Mm → Prop} (M : Mm) (a0 : Nat) (x1 : Int32)
    (h : ((m_sh M a0).1 = 10) ∧ Φ (.inl none) (m_si M a0 1 0)) :
    Ev l G d mBo_takeText 21 [.ref a0, .int x1] [] M bc bs Φ := by
  refine Ev.aload_n dBo_takeText_21 rfl ?_
  refine Ev.iconst (v := 0) dBo_takeText_22 (by decide) ?_
  have g1 := h.1
  replace h := h.2
  refine Ev.putI dBo_takeText_23 ⟨_, Or.inl ⟨fBo_93, (fun h => by cases h)⟩⟩ rfl ⟨rfl, rfl⟩ g1 ?_
  exact Ev.vret dBo_takeText_26 rfl h
theorem dBo_checkWhat_0 : decode mBo_checkWhat.2.1 0 = .ok (.iload_n 1, 1) := by decide +kernel
theorem dBo_checkWhat_1 : decode mBo_checkWhat.2.1 1 = .ok (.ifCond .lt 8, 3) := by decide +kernel
theorem dBo_checkWhat_4 : decode mBo_checkWhat.2.1 4 = .ok (.iload_n 1, 1) := by decide +kernel
theorem dBo_checkWhat_5 : decode mBo_checkWhat.2.1 5 = .ok (.iload_n 2, 1) := by decide +kernel
theorem dBo_checkWhat_6 : decode mBo_checkWhat.2.1 6 = .ok (.if_icmp .le 14, 3) := by decide +kernel
theorem dBo_checkWhat_9 : decode mBo_checkWhat.2.1 9 = .ok (.new 245, 3) := by decide +kernel
theorem dBo_checkWhat_12 : decode mBo_checkWhat.2.1 12 = .ok (.dup, 1) := by decide +kernel
theorem dBo_checkWhat_13 : decode mBo_checkWhat.2.1 13 = .ok (.ldc_w 302, 3) := by decide +kernel
theorem dBo_checkWhat_16 : decode mBo_checkWhat.2.1 16 = .ok (.invokespecial 249, 3) := by decide +kernel
theorem dBo_checkWhat_19 : decode mBo_checkWhat.2.1 19 = .ok (.athrow, 1) := by decide +kernel
theorem dBo_checkWhat_20 : decode mBo_checkWhat.2.1 20 = .ok (.return_, 1) := by decide +kernel
theorem bBo_checkWhat_0 {l : Launch} {G : Gx} {d : Nat} {bc bs : Nat} {Φ : OutV → Mm → Prop} (M : Mm) (a0 : Nat) (x1 : Int32) (x2 : Int32)
    (h : (x1 < 0 → Ev l G d mBo_checkWhat 9 [.ref a0, .int x1, .int x2] [] M bc bs Φ) ∧ (¬ x1 < 0 → (x1 ≤ x2 → Φ (.inl none) M) ∧ (¬ x1 ≤ x2 → Ev l G d mBo_checkWhat 9 [.ref a0, .int x1, .int x2] [] M bc bs Φ))) :
    Ev l G d mBo_checkWhat 0 [.ref a0, .int x1, .int x2] [] M bc bs Φ := by
  refine Ev.iload_n dBo_checkWhat_0 rfl ?_
  refine Ev.if_lt 9 (by decide) dBo_checkWhat_1 (fun c => ?_) (fun c => ?_)
  · replace h := h.1 c
    exact h
  · replace h := h.2 c
    refine Ev.iload_n dBo_checkWhat_4 rfl ?_
    refine Ev.iload_n dBo_checkWhat_5 rfl ?_
    refine Ev.icmp_le 20 (by decide) dBo_checkWhat_6 (fun c => ?_) (fun c => ?_)
    · replace h := h.1 c
      exact Ev.vret dBo_checkWhat_20 rfl h
    · replace h := h.2 c
      exact h
theorem tBo_249 : (vx_atS "BowingRow" 249 "java/lang/IllegalArgumentException" ["java/lang/RuntimeException", "java/lang/Exception"]).all (fun w => (lwg.contains w || lwx.contains w) && vx_ot w) = true := by decide +kernel
theorem w722 : Cond.classLink "BowingRow" 245 "java/lang/IllegalArgumentException" ∈ lwg := lwg_of 722 (by decide +kernel) (by decide +kernel)
theorem w107 : Cond.initialized "java/lang/IllegalArgumentException" ∈ lwg := lwg_of 107 (by decide +kernel) (by decide +kernel)
theorem bBo_checkWhat_9 {l : Launch} {G : Gx} {d : Nat} {bc bs : Nat} {Φ : OutV → Mm → Prop} (M : Mm) (a0 : Nat) (x1 : Int32) (x2 : Int32)
    (h : l.stackTraces = false ∧ 6 ≤ d ∧ 1 ≤ bc ∧ 6 ≤ bs ∧ Φ (.inr "java/lang/IllegalArgumentException") M) :
    Ev l G d mBo_checkWhat 9 [.ref a0, .int x1, .int x2] [] M bc bs Φ := by
  exact Ev.throwS (cls := "java/lang/IllegalArgumentException") (text := "no such number") (ik := 245) (is := 302) (ic := 249) h.1 (by decide +kernel) (w722) (w107) (by decide +kernel) tBo_249 dBo_checkWhat_9 dBo_checkWhat_12 (Or.inr ⟨dBo_checkWhat_13, dBo_checkWhat_16, dBo_checkWhat_19⟩) (Nat.le_of_ble_eq_true rfl) h.2.1 h.2.2.1 h.2.2.2.1 h.2.2.2.2
theorem dBo_textChanged_0 : decode mBo_textChanged.2.1 0 = .ok (.aload_n 0, 1) := by decide +kernel
theorem dBo_textChanged_1 : decode mBo_textChanged.2.1 1 = .ok (.getfield 49, 3) := by decide +kernel
theorem dBo_textChanged_4 : decode mBo_textChanged.2.1 4 = .ok (.invokevirtual 315, 3) := by decide +kernel
theorem dBo_textChanged_7 : decode mBo_textChanged.2.1 7 = .ok (.aload_n 0, 1) := by decide +kernel
theorem dBo_textChanged_8 : decode mBo_textChanged.2.1 8 = .ok (.getfield 53, 3) := by decide +kernel
theorem dBo_textChanged_11 : decode mBo_textChanged.2.1 11 = .ok (.invokevirtual 315, 3) := by decide +kernel
theorem dBo_textChanged_14 : decode mBo_textChanged.2.1 14 = .ok (.aload_n 0, 1) := by decide +kernel
theorem dBo_textChanged_15 : decode mBo_textChanged.2.1 15 = .ok (.getfield 49, 3) := by decide +kernel
theorem dBo_textChanged_18 : decode mBo_textChanged.2.1 18 = .ok (.aload_n 0, 1) := by decide +kernel
theorem dBo_textChanged_19 : decode mBo_textChanged.2.1 19 = .ok (.getfield 37, 3) := by decide +kernel
theorem dBo_textChanged_22 : decode mBo_textChanged.2.1 22 = .ok (.aload_n 0, 1) := by decide +kernel
theorem dBo_textChanged_23 : decode mBo_textChanged.2.1 23 = .ok (.getfield 27, 3) := by decide +kernel
theorem dBo_textChanged_26 : decode mBo_textChanged.2.1 26 = .ok (.iconst 0, 1) := by decide +kernel
theorem dBo_textChanged_27 : decode mBo_textChanged.2.1 27 = .ok (.invokevirtual 318, 3) := by decide +kernel
theorem dBo_textChanged_30 : decode mBo_textChanged.2.1 30 = .ok (.aload_n 0, 1) := by decide +kernel
theorem dBo_textChanged_31 : decode mBo_textChanged.2.1 31 = .ok (.invokevirtual 148, 3) := by decide +kernel
theorem dBo_textChanged_34 : decode mBo_textChanged.2.1 34 = .ok (.return_, 1) := by decide +kernel
theorem w928 : Cond.methodLink "BowingRow" 315 ⟨"BowingRow$InForce", "forgetAnswers", "()V"⟩ ∈ lwg := lwg_of 928 (by decide +kernel) (by decide +kernel)
theorem bBo_textChanged_0 {l : Launch} {G : Gx} {d : Nat} {bc bs : Nat} {Φ : OutV → Mm → Prop} (M : Mm) (a0 : Nat)
    (h : ((m_sh M a0).1 = 10) ∧ ((m_sh M (m_r M a0 8)).1 = 3) ∧ CallVC l G d mBo_textChanged 7 [.ref a0] [] mIf_forgetAnswers [.ref (m_r M a0 8)] M bc bs Φ) :
    Ev l G d mBo_textChanged 0 [.ref a0] [] M bc bs Φ := by
  refine Ev.aload_n dBo_textChanged_0 rfl ?_
  have g1 := h.1
  replace h := h.2
  refine Ev.getR dBo_textChanged_1 (Or.inl fBo_49) rfl g1 ?_
  have g2 := h.1
  replace h := h.2
  exact Ev.vcV (z := mIf_forgetAnswers) (ci := 3) [] [] rfl dBo_textChanged_4 oIf_forgetAnswers rfl w928 iIf_forgetAnswers sIf_forgetAnswers (by decide) rfl g2 (Nat.le_of_ble_eq_true rfl) h
theorem bBo_textChanged_7 {l : Launch} {G : Gx} {d : Nat} {bc bs : Nat} {Φ : OutV → Mm → Prop} (M : Mm) (a0 : Nat)
    (h : ((m_sh M a0).1 = 10) ∧ ((m_sh M (m_r M a0 9)).1 = 3) ∧ CallVC l G d mBo_textChanged 14 [.ref a0] [] mIf_forgetAnswers [.ref (m_r M a0 9)] M bc bs Φ) :
    Ev l G d mBo_textChanged 7 [.ref a0] [] M bc bs Φ := by
  refine Ev.aload_n dBo_textChanged_7 rfl ?_
  have g1 := h.1
  replace h := h.2
  refine Ev.getR dBo_textChanged_8 (Or.inl fBo_53) rfl g1 ?_
  have g2 := h.1
  replace h := h.2
  exact Ev.vcV (z := mIf_forgetAnswers) (ci := 3) [] [] rfl dBo_textChanged_11 oIf_forgetAnswers rfl w928 iIf_forgetAnswers sIf_forgetAnswers (by decide) rfl g2 (Nat.le_of_ble_eq_true rfl) h
theorem w932 : Cond.methodLink "BowingRow" 318 ⟨"BowingRow$InForce", "take", "(LBowingRow$Law;LBowingRow$People;I)V"⟩ ∈ lwg := lwg_of 932 (by decide +kernel) (by decide +kernel)
theorem bBo_textChanged_14 {l : Launch} {G : Gx} {d : Nat} {bc bs : Nat} {Φ : OutV → Mm → Prop} (M : Mm) (a0 : Nat)
    (h : ((m_sh M a0).1 = 10) ∧ ((m_sh M (m_r M a0 8)).1 = 3) ∧ CallVC l G d mBo_textChanged 30 [.ref a0] [] mIf_take [.ref (m_r M a0 8), .ref (m_r M a0 6), .ref (m_r M a0 4), .int 0] M bc bs Φ) :
    Ev l G d mBo_textChanged 14 [.ref a0] [] M bc bs Φ := by
  refine Ev.aload_n dBo_textChanged_14 rfl ?_
  have g1 := h.1
  replace h := h.2
  refine Ev.getR dBo_textChanged_15 (Or.inl fBo_49) rfl g1 ?_
  refine Ev.aload_n dBo_textChanged_18 rfl ?_
  refine Ev.getR dBo_textChanged_19 (Or.inl fBo_37) rfl g1 ?_
  refine Ev.aload_n dBo_textChanged_22 rfl ?_
  refine Ev.getR dBo_textChanged_23 (Or.inl fBo_27) rfl g1 ?_
  refine Ev.iconst (v := 0) dBo_textChanged_26 (by decide) ?_
  have g2 := h.1
  replace h := h.2
  exact Ev.vcV (z := mIf_take) (ci := 3) [.ref (m_r M a0 6), .ref (m_r M a0 4), .int 0] [] rfl dBo_textChanged_27 oIf_take rfl w932 iIf_take sIf_take (by decide) rfl g2 (Nat.le_of_ble_eq_true rfl) h
theorem bBo_textChanged_30 {l : Launch} {G : Gx} {d : Nat} {bc bs : Nat} {Φ : OutV → Mm → Prop} (M : Mm) (a0 : Nat)
    (h : ((m_sh M a0).1 = 10) ∧ CallVC l G d mBo_textChanged 34 [.ref a0] [] mBo_untilsChanged [.ref a0] M bc bs Φ) :
    Ev l G d mBo_textChanged 30 [.ref a0] [] M bc bs Φ := by
  refine Ev.aload_n dBo_textChanged_30 rfl ?_
  have g1 := h.1
  replace h := h.2
  exact Ev.vcV (z := mBo_untilsChanged) (ci := 10) [] [] rfl dBo_textChanged_31 oBo_untilsChanged rfl w694 iBo_untilsChanged sBo_untilsChanged (by decide) rfl g1 (Nat.le_of_ble_eq_true rfl) h
theorem bBo_textChanged_34 {l : Launch} {G : Gx} {d : Nat} {bc bs : Nat} {Φ : OutV → Mm → Prop} (M : Mm) (a0 : Nat)
    (h : Φ (.inl none) M) :
    Ev l G d mBo_textChanged 34 [.ref a0] [] M bc bs Φ := by
  exact Ev.vret dBo_textChanged_34 rfl h
def mBo_law : MR := (⟨"BowingRow", "law", "(I)I"⟩, prog_1_method_4_code, 4, (Option.some .int))
theorem oBo_law : MOK mBo_law 1 := ⟨lwg_of 939 (by decide +kernel) (by decide +kernel), lwg_of 91 (by decide +kernel) (by decide +kernel), ⟨by decide +kernel, by decide +kernel⟩, by decide +kernel, by decide⟩
theorem iBo_law : Cond.instanceMethod mBo_law.1 ∈ lwg := lwg_of 937 (by decide +kernel) (by decide +kernel)
theorem sBo_law : Cond.selects mBo_law.1.cls mBo_law.1 mBo_law.1 ∈ lwg := lwg_of 938 (by decide +kernel) (by decide +kernel)
theorem dBo_law_0 : decode mBo_law.2.1 0 = .ok (.aload_n 0, 1) := by decide +kernel
theorem dBo_law_1 : decode mBo_law.2.1 1 = .ok (.iload_n 1, 1) := by decide +kernel
theorem dBo_law_2 : decode mBo_law.2.1 2 = .ok (.invokevirtual 100, 3) := by decide +kernel
theorem dBo_law_5 : decode mBo_law.2.1 5 = .ok (.aload_n 0, 1) := by decide +kernel
theorem dBo_law_6 : decode mBo_law.2.1 6 = .ok (.getfield 41, 3) := by decide +kernel
theorem dBo_law_9 : decode mBo_law.2.1 9 = .ok (.aload_n 0, 1) := by decide +kernel
theorem dBo_law_10 : decode mBo_law.2.1 10 = .ok (.getfield 16, 3) := by decide +kernel
theorem dBo_law_13 : decode mBo_law.2.1 13 = .ok (.invokevirtual 123, 3) := by decide +kernel
theorem dBo_law_16 : decode mBo_law.2.1 16 = .ok (.istore_n 2, 1) := by decide +kernel
theorem dBo_law_17 : decode mBo_law.2.1 17 = .ok (.aload_n 0, 1) := by decide +kernel
theorem dBo_law_18 : decode mBo_law.2.1 18 = .ok (.aload_n 0, 1) := by decide +kernel
theorem dBo_law_19 : decode mBo_law.2.1 19 = .ok (.getfield 16, 3) := by decide +kernel
theorem dBo_law_22 : decode mBo_law.2.1 22 = .ok (.getfield 107, 3) := by decide +kernel
theorem dBo_law_25 : decode mBo_law.2.1 25 = .ok (.putfield 20, 3) := by decide +kernel
theorem dBo_law_28 : decode mBo_law.2.1 28 = .ok (.iload_n 2, 1) := by decide +kernel
theorem dBo_law_29 : decode mBo_law.2.1 29 = .ok (.ifCond .ne 14, 3) := by decide +kernel
theorem dBo_law_32 : decode mBo_law.2.1 32 = .ok (.aload_n 0, 1) := by decide +kernel
theorem dBo_law_33 : decode mBo_law.2.1 33 = .ok (.getfield 16, 3) := by decide +kernel
theorem dBo_law_36 : decode mBo_law.2.1 36 = .ok (.getfield 108, 3) := by decide +kernel
theorem dBo_law_39 : decode mBo_law.2.1 39 = .ok (.bipush 10, 2) := by decide +kernel
theorem dBo_law_41 : decode mBo_law.2.1 41 = .ok (.isub, 1) := by decide +kernel
theorem dBo_law_42 : decode mBo_law.2.1 42 = .ok (.ireturn, 1) := by decide +kernel
theorem dBo_law_43 : decode mBo_law.2.1 43 = .ok (.aload_n 0, 1) := by decide +kernel
theorem dBo_law_44 : decode mBo_law.2.1 44 = .ok (.getfield 37, 3) := by decide +kernel
theorem dBo_law_47 : decode mBo_law.2.1 47 = .ok (.astore_n 3, 1) := by decide +kernel
theorem dBo_law_48 : decode mBo_law.2.1 48 = .ok (.aload_n 0, 1) := by decide +kernel
theorem dBo_law_49 : decode mBo_law.2.1 49 = .ok (.aload_n 0, 1) := by decide +kernel
theorem dBo_law_50 : decode mBo_law.2.1 50 = .ok (.getfield 41, 3) := by decide +kernel
theorem dBo_law_53 : decode mBo_law.2.1 53 = .ok (.putfield 37, 3) := by decide +kernel
theorem dBo_law_56 : decode mBo_law.2.1 56 = .ok (.aload_n 0, 1) := by decide +kernel
theorem dBo_law_57 : decode mBo_law.2.1 57 = .ok (.aload_n 3, 1) := by decide +kernel
theorem dBo_law_58 : decode mBo_law.2.1 58 = .ok (.putfield 41, 3) := by decide +kernel
theorem dBo_law_61 : decode mBo_law.2.1 61 = .ok (.aload_n 0, 1) := by decide +kernel
theorem dBo_law_62 : decode mBo_law.2.1 62 = .ok (.invokevirtual 117, 3) := by decide +kernel
theorem dBo_law_65 : decode mBo_law.2.1 65 = .ok (.aload_n 0, 1) := by decide +kernel
theorem dBo_law_66 : decode mBo_law.2.1 66 = .ok (.getfield 37, 3) := by decide +kernel
theorem dBo_law_69 : decode mBo_law.2.1 69 = .ok (.getfield 126, 3) := by decide +kernel
theorem dBo_law_72 : decode mBo_law.2.1 72 = .ok (.ireturn, 1) := by decide +kernel
theorem bBo_law_0 {l : Launch} {G : Gx} {d : Nat} {bc bs : Nat} {Φ : OutV → Mm → Prop} (M : Mm) (a0 : Nat) (x1 : Int32)
    (h : ((m_sh M a0).1 = 10) ∧ CallVC l G d mBo_law 5 [.ref a0, .int x1, .null, .null] [] mBo_takeText [.ref a0, .int x1] M bc bs Φ) :
    Ev l G d mBo_law 0 [.ref a0, .int x1, .null, .null] [] M bc bs Φ := by
  refine Ev.aload_n dBo_law_0 rfl ?_
  refine Ev.iload_n dBo_law_1 rfl ?_
  have g1 := h.1
  replace h := h.2
  exact Ev.vcV (z := mBo_takeText) (ci := 10) [.int x1] [] rfl dBo_law_2 oBo_takeText rfl w714 iBo_takeText sBo_takeText (by decide) rfl g1 (Nat.le_of_ble_eq_true rfl) h
theorem w940 : Cond.methodLink "BowingRow" 123 ⟨"BowingRow$Law", "readRules", "(LBowingRow$Tokens;)Z"⟩ ∈ lwg := lwg_of 940 (by decide +kernel) (by decide +kernel)
theorem bBo_law_5 {l : Launch} {G : Gx} {d : Nat} {bc bs : Nat} {Φ : OutV → Mm → Prop} (M : Mm) (a0 : Nat) (x1 : Int32) (u2 : Value) (u3 : Value)
    (h : ((m_sh M a0).1 = 10) ∧ ((m_sh M (m_r M a0 7)).1 = 4) ∧ CallVC l G d mBo_law 16 [.ref a0, .int x1, u2, u3] [] mLa_readRules [.ref (m_r M a0 7), .ref (m_r M a0 2)] M bc bs Φ) :
    Ev l G d mBo_law 5 [.ref a0, .int x1, u2, u3] [] M bc bs Φ := by
  refine Ev.aload_n dBo_law_5 rfl ?_
  have g1 := h.1
  replace h := h.2
  refine Ev.getR dBo_law_6 (Or.inl fBo_41) rfl g1 ?_
  refine Ev.aload_n dBo_law_9 rfl ?_
  refine Ev.getR dBo_law_10 (Or.inl fBo_16) rfl g1 ?_
  have g2 := h.1
  replace h := h.2
  exact Ev.vcV (z := mLa_readRules) (ci := 4) [.ref (m_r M a0 2)] [] rfl dBo_law_13 oLa_readRules rfl w940 iLa_readRules sLa_readRules (by decide) rfl g2 (Nat.le_of_ble_eq_true rfl) h
theorem bBo_law_16 {l : Launch} {G : Gx} {d : Nat} {bc bs : Nat} {Φ : OutV → Mm → Prop} (M : Mm) (a0 : Nat) (x1 : Int32) (u2 : Value) (u3 : Value) (s0 : Int32)
    (h : ((m_sh M a0).1 = 10) ∧ ((m_sh M (m_r M a0 2)).1 = 8) ∧ (¬ s0 = 0 → Ev l G d mBo_law 56 [.ref a0, .int x1, .int s0, .ref (m_r M a0 6)] [] (m_sr (m_si M a0 3 (m_i M (m_r M a0 2) 7)) a0 6 (m_r M a0 7)) bc bs Φ) ∧ (s0 = 0 → Φ (.inl (some (.int ((m_i (m_si M a0 3 (m_i M (m_r M a0 2) 7)) (m_r M a0 2) 6) - 10)))) (m_si M a0 3 (m_i M (m_r M a0 2) 7)))) :
    Ev l G d mBo_law 16 [.ref a0, .int x1, u2, u3] [.int s0] M bc bs Φ := by
  refine Ev.istore_n dBo_law_16 (by decide) ?_
  show Ev l G d mBo_law (_ + _) [.ref a0, .int x1, .int s0, u3] [] M bc bs Φ
  refine Ev.aload_n dBo_law_17 rfl ?_
  refine Ev.aload_n dBo_law_18 rfl ?_
  have g1 := h.1
  replace h := h.2
  refine Ev.getR dBo_law_19 (Or.inl fBo_16) rfl g1 ?_
  have g2 := h.1
  replace h := h.2
  refine Ev.getI dBo_law_22 (Or.inl fBo_107) rfl g2 ?_
  refine Ev.putI dBo_law_25 ⟨_, Or.inl ⟨fBo_20, (fun h => by cases h)⟩⟩ rfl ⟨rfl, rfl⟩ g1 ?_
  refine Ev.iload_n dBo_law_28 rfl ?_
  refine Ev.if_ne 43 (by decide) dBo_law_29 (fun c => ?_) (fun c => ?_)
  · replace h := h.1 c
    refine Ev.aload_n dBo_law_43 rfl ?_
    refine Ev.getR dBo_law_44 (Or.inl fBo_37) rfl g1 ?_
    refine Ev.astore_n dBo_law_47 (by decide) ?_
    show Ev l G d mBo_law (_ + _) [.ref a0, .int x1, .int s0, .ref (m_r M a0 6)] [] (m_si M a0 3 (m_i M (m_r M a0 2) 7)) bc bs Φ
    refine Ev.aload_n dBo_law_48 rfl ?_
    refine Ev.aload_n dBo_law_49 rfl ?_
    refine Ev.getR dBo_law_50 (Or.inl fBo_41) rfl g1 ?_
    refine Ev.putR dBo_law_53 ⟨_, Or.inl ⟨fBo_37, (fun h => by cases h)⟩⟩ rfl (fun ad => fitR (by first | exact Or.inl ⟨_, rfl⟩ | exact Or.inr ⟨_, rfl⟩) _ ad) g1 ?_
    exact h
  · replace h := h.2 c
    refine Ev.aload_n dBo_law_32 rfl ?_
    refine Ev.getR dBo_law_33 (Or.inl fBo_16) rfl g1 ?_
    refine Ev.getI dBo_law_36 (Or.inl fBo_108) rfl g2 ?_
    refine Ev.bipush (v := 10) dBo_law_39 (by decide) ?_
    refine Ev.isub dBo_law_41 ?_
    exact Ev.iret dBo_law_42 rfl rfl h
theorem bBo_law_56 {l : Launch} {G : Gx} {d : Nat} {bc bs : Nat} {Φ : OutV → Mm → Prop} (M : Mm) (a0 : Nat) (x1 : Int32) (x2 : Int32) (a3 : Nat)
    (h : ((m_sh M a0).1 = 10) ∧ CallVC l G d mBo_law 65 [.ref a0, .int x1, .int x2, .ref a3] [] mBo_textChanged [.ref a0] (m_sr M a0 7 a3) bc bs Φ) :
    Ev l G d mBo_law 56 [.ref a0, .int x1, .int x2, .ref a3] [] M bc bs Φ := by
  refine Ev.aload_n dBo_law_56 rfl ?_
  refine Ev.aload_n dBo_law_57 rfl ?_
  have g1 := h.1
  replace h := h.2
  refine Ev.putR dBo_law_58 ⟨_, Or.inl ⟨fBo_41, (fun h => by cases h)⟩⟩ rfl (fun ad => fitR (by first | exact Or.inl ⟨_, rfl⟩ | exact Or.inr ⟨_, rfl⟩) _ ad) g1 ?_
  refine Ev.aload_n dBo_law_61 rfl ?_
  exact Ev.vcV (z := mBo_textChanged) (ci := 10) [] [] rfl dBo_law_62 oBo_textChanged rfl w924 iBo_textChanged sBo_textChanged (by decide) rfl g1 (Nat.le_of_ble_eq_true rfl) h
theorem fBo_126 : FOK "BowingRow" 126 4 7 false := ⟨RX4, TX4, nFd 4, rfl, by decide, rfl, by decide, rfl, lwg_of 206 (by decide +kernel) (by decide +kernel)⟩
theorem bBo_law_65 {l : Launch} {G : Gx} {d : Nat} {bc bs : Nat} {Φ : OutV → Mm → Prop} (M : Mm) (a0 : Nat) (x1 : Int32) (x2 : Int32) (a3 : Nat)
    (h : ((m_sh M a0).1 = 10) ∧ ((m_sh M (m_r M a0 6)).1 = 4) ∧ Φ (.inl (some (.int (m_i M (m_r M a0 6) 7)))) M) :
    Ev l G d mBo_law 65 [.ref a0, .int x1, .int x2, .ref a3] [] M bc bs Φ := by
  refine Ev.aload_n dBo_law_65 rfl ?_
  have g1 := h.1
  replace h := h.2
  refine Ev.getR dBo_law_66 (Or.inl fBo_37) rfl g1 ?_
  have g2 := h.1
  replace h := h.2
  refine Ev.getI dBo_law_69 (Or.inl fBo_126) rfl g2 ?_
  exact Ev.iret dBo_law_72 rfl rfl h
def mBo_told : MR := (⟨"BowingRow", "told", "(I)I"⟩, prog_1_method_6_code, 2, (Option.some .int))
theorem oBo_told : MOK mBo_told 1 := ⟨lwg_of 997 (by decide +kernel) (by decide +kernel), lwg_of 91 (by decide +kernel) (by decide +kernel), ⟨by decide +kernel, by decide +kernel⟩, by decide +kernel, by decide⟩
theorem iBo_told : Cond.instanceMethod mBo_told.1 ∈ lwg := lwg_of 995 (by decide +kernel) (by decide +kernel)
theorem sBo_told : Cond.selects mBo_told.1.cls mBo_told.1 mBo_told.1 ∈ lwg := lwg_of 996 (by decide +kernel) (by decide +kernel)
theorem dBo_told_0 : decode mBo_told.2.1 0 = .ok (.aload_n 0, 1) := by decide +kernel
theorem dBo_told_1 : decode mBo_told.2.1 1 = .ok (.iload_n 1, 1) := by decide +kernel
theorem dBo_told_2 : decode mBo_told.2.1 2 = .ok (.bipush 7, 2) := by decide +kernel
theorem dBo_told_4 : decode mBo_told.2.1 4 = .ok (.invokevirtual 127, 3) := by decide +kernel
theorem dBo_told_7 : decode mBo_told.2.1 7 = .ok (.iload_n 1, 1) := by decide +kernel
theorem dBo_told_8 : decode mBo_told.2.1 8 = .ok (.ifCond .ne 11, 3) := by decide +kernel
theorem dBo_told_11 : decode mBo_told.2.1 11 = .ok (.aload_n 0, 1) := by decide +kernel
theorem dBo_told_12 : decode mBo_told.2.1 12 = .ok (.getfield 27, 3) := by decide +kernel
theorem dBo_told_15 : decode mBo_told.2.1 15 = .ok (.getfield 120, 3) := by decide +kernel
theorem dBo_told_18 : decode mBo_told.2.1 18 = .ok (.ireturn, 1) := by decide +kernel
theorem dBo_told_19 : decode mBo_told.2.1 19 = .ok (.iload_n 1, 1) := by decide +kernel
theorem dBo_told_20 : decode mBo_told.2.1 20 = .ok (.iconst 1, 1) := by decide +kernel
theorem dBo_told_21 : decode mBo_told.2.1 21 = .ok (.if_icmp .ne 13, 3) := by decide +kernel
theorem dBo_told_24 : decode mBo_told.2.1 24 = .ok (.aload_n 0, 1) := by decide +kernel
theorem dBo_told_25 : decode mBo_told.2.1 25 = .ok (.getfield 37, 3) := by decide +kernel
theorem dBo_told_28 : decode mBo_told.2.1 28 = .ok (.getfield 126, 3) := by decide +kernel
theorem dBo_told_31 : decode mBo_told.2.1 31 = .ok (.goto 12, 3) := by decide +kernel
theorem dBo_told_34 : decode mBo_told.2.1 34 = .ok (.aload_n 0, 1) := by decide +kernel
theorem dBo_told_35 : decode mBo_told.2.1 35 = .ok (.getfield 49, 3) := by decide +kernel
theorem dBo_told_38 : decode mBo_told.2.1 38 = .ok (.getfield 131, 3) := by decide +kernel
theorem dBo_told_41 : decode mBo_told.2.1 41 = .ok (.iload_n 1, 1) := by decide +kernel
theorem dBo_told_42 : decode mBo_told.2.1 42 = .ok (.iaload, 1) := by decide +kernel
theorem dBo_told_43 : decode mBo_told.2.1 43 = .ok (.ireturn, 1) := by decide +kernel
theorem bBo_told_0 {l : Launch} {G : Gx} {d : Nat} {bc bs : Nat} {Φ : OutV → Mm → Prop} (M : Mm) (a0 : Nat) (x1 : Int32)
    (h : ((m_sh M a0).1 = 10) ∧ CallVC l G d mBo_told 7 [.ref a0, .int x1] [] mBo_checkWhat [.ref a0, .int x1, .int 7] M bc bs Φ) :
    Ev l G d mBo_told 0 [.ref a0, .int x1] [] M bc bs Φ := by
  refine Ev.aload_n dBo_told_0 rfl ?_
  refine Ev.iload_n dBo_told_1 rfl ?_
  refine Ev.bipush (v := 7) dBo_told_2 (by decide) ?_
  have g1 := h.1
  replace h := h.2
  exact Ev.vcV (z := mBo_checkWhat) (ci := 10) [.int x1, .int 7] [] rfl dBo_told_4 oBo_checkWhat rfl w718 iBo_checkWhat sBo_checkWhat (by decide) rfl g1 (Nat.le_of_ble_eq_true rfl) h
theorem fBo_131 : FOK "BowingRow" 131 3 0 true := ⟨RX3, TX3, nFd 3, rfl, by decide, rfl, by decide, rfl, lwg_of 239 (by decide +kernel) (by decide +kernel)⟩
theorem bBo_told_7 {l : Launch} {G : Gx} {d : Nat} {bc bs : Nat} {Φ : OutV → Mm → Prop} (M : Mm) (a0 : Nat) (x1 : Int32)
    (h : (¬ x1 = 0 → (¬ x1 = 1 → ((m_sh M a0).1 = 10) ∧ ((m_sh M (m_r M a0 8)).1 = 3) ∧ ((m_sh M (m_r M (m_r M a0 8) 0)).1 = 20) ∧ (vp_in x1 (m_sh M (m_r M (m_r M a0 8) 0)).2) ∧ Φ (.inl (some (.int (m_i M (m_r M (m_r M a0 8) 0) x1.toNatClampNeg)))) M) ∧ (x1 = 1 → ((m_sh M a0).1 = 10) ∧ ((m_sh M (m_r M a0 6)).1 = 4) ∧ Φ (.inl (some (.int (m_i M (m_r M a0 6) 7)))) M)) ∧ (x1 = 0 → ((m_sh M a0).1 = 10) ∧ ((m_sh M (m_r M a0 4)).1 = 6) ∧ Φ (.inl (some (.int (m_i M (m_r M a0 4) 2)))) M)) :
    Ev l G d mBo_told 7 [.ref a0, .int x1] [] M bc bs Φ := by
  refine Ev.iload_n dBo_told_7 rfl ?_
  refine Ev.if_ne 19 (by decide) dBo_told_8 (fun c => ?_) (fun c => ?_)
  · replace h := h.1 c
    refine Ev.iload_n dBo_told_19 rfl ?_
    refine Ev.iconst (v := 1) dBo_told_20 (by decide) ?_
    refine Ev.icmp_ne 34 (by decide) dBo_told_21 (fun c => ?_) (fun c => ?_)
    · replace h := h.1 c
      refine Ev.aload_n dBo_told_34 rfl ?_
      have g1 := h.1
      replace h := h.2
      refine Ev.getR dBo_told_35 (Or.inl fBo_49) rfl g1 ?_
      have g2 := h.1
      replace h := h.2
      refine Ev.getR dBo_told_38 (Or.inl fBo_131) rfl g2 ?_
      refine Ev.iload_n dBo_told_41 rfl ?_
      have g3 := h.1
      replace h := h.2
      have g4 := h.1
      replace h := h.2
      refine Ev.iald2 dBo_told_42 g3 g4 ?_
      exact Ev.iret dBo_told_43 rfl rfl h
    · replace h := h.2 c
      refine Ev.aload_n dBo_told_24 rfl ?_
      have g5 := h.1
      replace h := h.2
      refine Ev.getR dBo_told_25 (Or.inl fBo_37) rfl g5 ?_
      have g6 := h.1
      replace h := h.2
      refine Ev.getI dBo_told_28 (Or.inl fBo_126) rfl g6 ?_
      refine Ev.goto 43 dBo_told_31 (by decide) ?_
      exact Ev.iret dBo_told_43 rfl rfl h
  · replace h := h.2 c
    refine Ev.aload_n dBo_told_11 rfl ?_
    have g7 := h.1
    replace h := h.2
    refine Ev.getR dBo_told_12 (Or.inl fBo_27) rfl g7 ?_
    have g8 := h.1
    replace h := h.2
    refine Ev.getI dBo_told_15 (Or.inl fBo_120) rfl g8 ?_
    exact Ev.iret dBo_told_18 rfl rfl h
def mBo_person : MR := (⟨"BowingRow", "person", "(II)I"⟩, prog_1_method_7_code, 3, (Option.some .int))
theorem oBo_person : MOK mBo_person 2 := ⟨lwg_of 1005 (by decide +kernel) (by decide +kernel), lwg_of 91 (by decide +kernel) (by decide +kernel), ⟨by decide +kernel, by decide +kernel⟩, by decide +kernel, by decide⟩
theorem iBo_person : Cond.instanceMethod mBo_person.1 ∈ lwg := lwg_of 1003 (by decide +kernel) (by decide +kernel)
theorem sBo_person : Cond.selects mBo_person.1.cls mBo_person.1 mBo_person.1 ∈ lwg := lwg_of 1004 (by decide +kernel) (by decide +kernel)
theorem dBo_person_0 : decode mBo_person.2.1 0 = .ok (.aload_n 0, 1) := by decide +kernel
theorem dBo_person_1 : decode mBo_person.2.1 1 = .ok (.iload_n 1, 1) := by decide +kernel
theorem dBo_person_2 : decode mBo_person.2.1 2 = .ok (.invokevirtual 134, 3) := by decide +kernel
theorem dBo_person_5 : decode mBo_person.2.1 5 = .ok (.aload_n 0, 1) := by decide +kernel
theorem dBo_person_6 : decode mBo_person.2.1 6 = .ok (.iload_n 2, 1) := by decide +kernel
theorem dBo_person_7 : decode mBo_person.2.1 7 = .ok (.bipush 7, 2) := by decide +kernel
theorem dBo_person_9 : decode mBo_person.2.1 9 = .ok (.invokevirtual 127, 3) := by decide +kernel
theorem dBo_person_12 : decode mBo_person.2.1 12 = .ok (.aload_n 0, 1) := by decide +kernel
theorem dBo_person_13 : decode mBo_person.2.1 13 = .ok (.getfield 27, 3) := by decide +kernel
theorem dBo_person_16 : decode mBo_person.2.1 16 = .ok (.iload_n 1, 1) := by decide +kernel
theorem dBo_person_17 : decode mBo_person.2.1 17 = .ok (.iload_n 2, 1) := by decide +kernel
theorem dBo_person_18 : decode mBo_person.2.1 18 = .ok (.invokevirtual 137, 3) := by decide +kernel
theorem dBo_person_21 : decode mBo_person.2.1 21 = .ok (.ireturn, 1) := by decide +kernel
def mBo_checkPerson : MR := (⟨"BowingRow", "checkPerson", "(I)V"⟩, prog_1_method_33_code, 2, none)
theorem oBo_checkPerson : MOK mBo_checkPerson 1 := ⟨lwg_of 1009 (by decide +kernel) (by decide +kernel), lwg_of 91 (by decide +kernel) (by decide +kernel), ⟨by decide +kernel, by decide +kernel⟩, by decide +kernel, by decide⟩
theorem iBo_checkPerson : Cond.instanceMethod mBo_checkPerson.1 ∈ lwg := lwg_of 1008 (by decide +kernel) (by decide +kernel)
theorem sBo_checkPerson : Cond.selects mBo_checkPerson.1.cls mBo_checkPerson.1 mBo_checkPerson.1 ∈ lwg := lwg_of 28 (by decide +kernel) (by decide +kernel)
theorem w1006 : Cond.methodLink "BowingRow" 134 ⟨"BowingRow", "checkPerson", "(I)V"⟩ ∈ lwg := lwg_of 1006 (by decide +kernel) (by decide +kernel)
theorem bBo_person_0 {l : Launch} {G : Gx} {d : Nat} {bc bs : Nat} {Φ : OutV → Mm → Prop} (M : Mm) (a0 : Nat) (x1 : Int32) (x2 : Int32)
    (h : ((m_sh M a0).1 = 10) ∧ CallVC l G d mBo_person 5 [.ref a0, .int x1, .int x2] [] mBo_checkPerson [.ref a0, .int x1] M bc bs Φ) :
    Ev l G d mBo_person 0 [.ref a0, .int x1, .int x2] [] M bc bs Φ := by
  refine Ev.aload_n dBo_person_0 rfl ?_
  refine Ev.iload_n dBo_person_1 rfl ?_
  have g1 := h.1
  replace h := h.2
  exact Ev.vcV (z := mBo_checkPerson) (ci := 10) [.int x1] [] rfl dBo_person_2 oBo_checkPerson rfl w1006 iBo_checkPerson sBo_checkPerson (by decide) rfl g1 (Nat.le_of_ble_eq_true rfl) h
theorem bBo_person_5 {l : Launch} {G : Gx} {d : Nat} {bc bs : Nat} {Φ : OutV → Mm → Prop} (M : Mm) (a0 : Nat) (x1 : Int32) (x2 : Int32)
    (h : ((m_sh M a0).1 = 10) ∧ CallVC l G d mBo_person 12 [.ref a0, .int x1, .int x2] [] mBo_checkWhat [.ref a0, .int x2, .int 7] M bc bs Φ) :
    Ev l G d mBo_person 5 [.ref a0, .int x1, .int x2] [] M bc bs Φ := by
  refine Ev.aload_n dBo_person_5 rfl ?_
  refine Ev.iload_n dBo_person_6 rfl ?_
  refine Ev.bipush (v := 7) dBo_person_7 (by decide) ?_
  have g1 := h.1
  replace h := h.2
  exact Ev.vcV (z := mBo_checkWhat) (ci := 10) [.int x2, .int 7] [] rfl dBo_person_9 oBo_checkWhat rfl w718 iBo_checkWhat sBo_checkWhat (by decide) rfl g1 (Nat.le_of_ble_eq_true rfl) h
theorem w1026 : Cond.methodLink "BowingRow" 137 ⟨"BowingRow$People", "fact", "(II)I"⟩ ∈ lwg := lwg_of 1026 (by decide +kernel) (by decide +kernel)
theorem bBo_person_12 {l : Launch} {G : Gx} {d : Nat} {bc bs : Nat} {Φ : OutV → Mm → Prop} (M : Mm) (a0 : Nat) (x1 : Int32) (x2 : Int32)
    (h : ((m_sh M a0).1 = 10) ∧ ((m_sh M (m_r M a0 4)).1 = 6) ∧ CallVC l G d mBo_person 21 [.ref a0, .int x1, .int x2] [] mPe_fact [.ref (m_r M a0 4), .int x1, .int x2] M bc bs Φ) :
    Ev l G d mBo_person 12 [.ref a0, .int x1, .int x2] [] M bc bs Φ := by
  refine Ev.aload_n dBo_person_12 rfl ?_
  have g1 := h.1
  replace h := h.2
  refine Ev.getR dBo_person_13 (Or.inl fBo_27) rfl g1 ?_
  refine Ev.iload_n dBo_person_16 rfl ?_
  refine Ev.iload_n dBo_person_17 rfl ?_
  have g2 := h.1
  replace h := h.2
  exact Ev.vcV (z := mPe_fact) (ci := 6) [.int x1, .int x2] [] rfl dBo_person_18 oPe_fact rfl w1026 iPe_fact sPe_fact (by decide) rfl g2 (Nat.le_of_ble_eq_true rfl) h
theorem bBo_person_21 {l : Launch} {G : Gx} {d : Nat} {bc bs : Nat} {Φ : OutV → Mm → Prop} (M : Mm) (a0 : Nat) (x1 : Int32) (x2 : Int32) (s0 : Int32)
    (h : Φ (.inl (some (.int s0))) M) :
    Ev l G d mBo_person 21 [.ref a0, .int x1, .int x2] [.int s0] M bc bs Φ := by
  exact Ev.iret dBo_person_21 rfl rfl h
theorem dBo_checkPerson_0 : decode mBo_checkPerson.2.1 0 = .ok (.iload_n 1, 1) := by decide +kernel
theorem dBo_checkPerson_1 : decode mBo_checkPerson.2.1 1 = .ok (.ifCond .lt 14, 3) := by decide +kernel
theorem dBo_checkPerson_4 : decode mBo_checkPerson.2.1 4 = .ok (.iload_n 1, 1) := by decide +kernel
theorem dBo_checkPerson_5 : decode mBo_checkPerson.2.1 5 = .ok (.aload_n 0, 1) := by decide +kernel
theorem dBo_checkPerson_6 : decode mBo_checkPerson.2.1 6 = .ok (.getfield 27, 3) := by decide +kernel
theorem dBo_checkPerson_9 : decode mBo_checkPerson.2.1 9 = .ok (.getfield 120, 3) := by decide +kernel
theorem dBo_checkPerson_12 : decode mBo_checkPerson.2.1 12 = .ok (.if_icmp .lt 14, 3) := by decide +kernel
theorem dBo_checkPerson_15 : decode mBo_checkPerson.2.1 15 = .ok (.new 297, 3) := by decide +kernel
theorem dBo_checkPerson_18 : decode mBo_checkPerson.2.1 18 = .ok (.dup, 1) := by decide +kernel
theorem dBo_checkPerson_19 : decode mBo_checkPerson.2.1 19 = .ok (.ldc_w 299, 3) := by decide +kernel
theorem dBo_checkPerson_22 : decode mBo_checkPerson.2.1 22 = .ok (.invokespecial 301, 3) := by decide +kernel
theorem dBo_checkPerson_25 : decode mBo_checkPerson.2.1 25 = .ok (.athrow, 1) := by decide +kernel
theorem dBo_checkPerson_26 : decode mBo_checkPerson.2.1 26 = .ok (.return_, 1) := by decide +kernel
theorem bBo_checkPerson_0 {l : Launch} {G : Gx} {d : Nat} {bc bs : Nat} {Φ : OutV → Mm → Prop} (M : Mm) (a0 : Nat) (x1 : Int32)
    (h : (x1 < 0 → Ev l G d mBo_checkPerson 15 [.ref a0, .int x1] [] M bc bs Φ) ∧ (¬ x1 < 0 → ((m_sh M a0).1 = 10) ∧ ((m_sh M (m_r M a0 4)).1 = 6) ∧ (x1 < (m_i M (m_r M a0 4) 2) → Φ (.inl none) M) ∧ (¬ x1 < (m_i M (m_r M a0 4) 2) → Ev l G d mBo_checkPerson 15 [.ref a0, .int x1] [] M bc bs Φ))) :
    Ev l G d mBo_checkPerson 0 [.ref a0, .int x1] [] M bc bs Φ := by
  refine Ev.iload_n dBo_checkPerson_0 rfl ?_
  refine Ev.if_lt 15 (by decide) dBo_checkPerson_1 (fun c => ?_) (fun c => ?_)
  · replace h := h.1 c
    exact h
  · replace h := h.2 c
    refine Ev.iload_n dBo_checkPerson_4 rfl ?_
    refine Ev.aload_n dBo_checkPerson_5 rfl ?_
    have g1 := h.1
    replace h := h.2
    refine Ev.getR dBo_checkPerson_6 (Or.inl fBo_27) rfl g1 ?_
    have g2 := h.1
    replace h := h.2
    refine Ev.getI dBo_checkPerson_9 (Or.inl fBo_120) rfl g2 ?_
    refine Ev.icmp_lt 26 (by decide) dBo_checkPerson_12 (fun c => ?_) (fun c => ?_)
    · replace h := h.1 c
      exact Ev.vret dBo_checkPerson_26 rfl h
    · replace h := h.2 c
      exact h
theorem tBo_301 : ((Bundle.ownAtomsX "BowingRow" 301 "java/util/NoSuchElementException" 13 prog_34_method_4_code ["java/lang/RuntimeException", "java/lang/Exception"]).filter vx_no).all (fun w => (lwg.contains w || lwx.contains w) && vx_ot w) = true := by decide +kernel
theorem w1010 : Cond.classLink "BowingRow" 297 "java/util/NoSuchElementException" ∈ lwg := lwg_of 1010 (by decide +kernel) (by decide +kernel)
theorem w114 : Cond.initialized "java/util/NoSuchElementException" ∈ lwg := lwg_of 114 (by decide +kernel) (by decide +kernel)
theorem bBo_checkPerson_15 {l : Launch} {G : Gx} {d : Nat} {bc bs : Nat} {Φ : OutV → Mm → Prop} (M : Mm) (a0 : Nat) (x1 : Int32)
    (h : l.stackTraces = false ∧ 6 ≤ d ∧ 1 ≤ bc ∧ 6 ≤ bs ∧ Φ (.inr "java/util/NoSuchElementException") M) :
    Ev l G d mBo_checkPerson 15 [.ref a0, .int x1] [] M bc bs Φ := by
  exact Ev.throwX (cls := "java/util/NoSuchElementException") (text := "no such person") (ik := 297) (is := 299) (ic := 301) (ix := 13) (rx := prog_34_method_4_code) (by decide +kernel) (by decide +kernel) (by decide +kernel) (by decide +kernel) h.1 (by decide +kernel) (w1010) (w114) (by decide +kernel) tBo_301 dBo_checkPerson_15 dBo_checkPerson_18 dBo_checkPerson_19 dBo_checkPerson_22 dBo_checkPerson_25 (Nat.le_of_ble_eq_true rfl) h.2.1 h.2.2.1 h.2.2.2.1 h.2.2.2.2
def mBo_way : MR := (⟨"BowingRow", "way", "(II)I"⟩, prog_1_method_8_code, 4, (Option.some .int))
theorem oBo_way : MOK mBo_way 2 := ⟨lwg_of 1033 (by decide +kernel) (by decide +kernel), lwg_of 91 (by decide +kernel) (by decide +kernel), ⟨by decide +kernel, by decide +kernel⟩, by decide +kernel, by decide⟩
theorem iBo_way : Cond.instanceMethod mBo_way.1 ∈ lwg := lwg_of 1031 (by decide +kernel) (by decide +kernel)
theorem sBo_way : Cond.selects mBo_way.1.cls mBo_way.1 mBo_way.1 ∈ lwg := lwg_of 1032 (by decide +kernel) (by decide +kernel)
theorem dBo_way_0 : decode mBo_way.2.1 0 = .ok (.aload_n 0, 1) := by decide +kernel
theorem dBo_way_1 : decode mBo_way.2.1 1 = .ok (.iload_n 1, 1) := by decide +kernel
theorem dBo_way_2 : decode mBo_way.2.1 2 = .ok (.invokevirtual 134, 3) := by decide +kernel
theorem dBo_way_5 : decode mBo_way.2.1 5 = .ok (.aload_n 0, 1) := by decide +kernel
theorem dBo_way_6 : decode mBo_way.2.1 6 = .ok (.iload_n 2, 1) := by decide +kernel
theorem dBo_way_7 : decode mBo_way.2.1 7 = .ok (.iconst 4, 1) := by decide +kernel
theorem dBo_way_8 : decode mBo_way.2.1 8 = .ok (.invokevirtual 127, 3) := by decide +kernel
theorem dBo_way_11 : decode mBo_way.2.1 11 = .ok (.aload_n 0, 1) := by decide +kernel
theorem dBo_way_12 : decode mBo_way.2.1 12 = .ok (.getfield 27, 3) := by decide +kernel
theorem dBo_way_15 : decode mBo_way.2.1 15 = .ok (.iload_n 1, 1) := by decide +kernel
theorem dBo_way_16 : decode mBo_way.2.1 16 = .ok (.iconst 5, 1) := by decide +kernel
theorem dBo_way_17 : decode mBo_way.2.1 17 = .ok (.invokevirtual 137, 3) := by decide +kernel
theorem dBo_way_20 : decode mBo_way.2.1 20 = .ok (.istore_n 3, 1) := by decide +kernel
theorem dBo_way_21 : decode mBo_way.2.1 21 = .ok (.aload_n 0, 1) := by decide +kernel
theorem dBo_way_22 : decode mBo_way.2.1 22 = .ok (.getfield 27, 3) := by decide +kernel
theorem dBo_way_25 : decode mBo_way.2.1 25 = .ok (.iload_n 1, 1) := by decide +kernel
theorem dBo_way_26 : decode mBo_way.2.1 26 = .ok (.iconst 5, 1) := by decide +kernel
theorem dBo_way_27 : decode mBo_way.2.1 27 = .ok (.iload_n 2, 1) := by decide +kernel
theorem dBo_way_28 : decode mBo_way.2.1 28 = .ok (.invokevirtual 141, 3) := by decide +kernel
theorem dBo_way_31 : decode mBo_way.2.1 31 = .ok (.aload_n 0, 1) := by decide +kernel
theorem dBo_way_32 : decode mBo_way.2.1 32 = .ok (.invokevirtual 145, 3) := by decide +kernel
theorem dBo_way_35 : decode mBo_way.2.1 35 = .ok (.iload_n 3, 1) := by decide +kernel
theorem dBo_way_36 : decode mBo_way.2.1 36 = .ok (.ireturn, 1) := by decide +kernel
theorem bBo_way_0 {l : Launch} {G : Gx} {d : Nat} {bc bs : Nat} {Φ : OutV → Mm → Prop} (M : Mm) (a0 : Nat) (x1 : Int32) (x2 : Int32)
    (h : ((m_sh M a0).1 = 10) ∧ CallVC l G d mBo_way 5 [.ref a0, .int x1, .int x2, .null] [] mBo_checkPerson [.ref a0, .int x1] M bc bs Φ) :
    Ev l G d mBo_way 0 [.ref a0, .int x1, .int x2, .null] [] M bc bs Φ := by
  refine Ev.aload_n dBo_way_0 rfl ?_
  refine Ev.iload_n dBo_way_1 rfl ?_
  have g1 := h.1
  replace h := h.2
  exact Ev.vcV (z := mBo_checkPerson) (ci := 10) [.int x1] [] rfl dBo_way_2 oBo_checkPerson rfl w1006 iBo_checkPerson sBo_checkPerson (by decide) rfl g1 (Nat.le_of_ble_eq_true rfl) h
theorem bBo_way_5 {l : Launch} {G : Gx} {d : Nat} {bc bs : Nat} {Φ : OutV → Mm → Prop} (M : Mm) (a0 : Nat) (x1 : Int32) (x2 : Int32) (u3 : Value)
    (h : ((m_sh M a0).1 = 10) ∧ CallVC l G d mBo_way 11 [.ref a0, .int x1, .int x2, u3] [] mBo_checkWhat [.ref a0, .int x2, .int 4] M bc bs Φ) :
    Ev l G d mBo_way 5 [.ref a0, .int x1, .int x2, u3] [] M bc bs Φ := by
  refine Ev.aload_n dBo_way_5 rfl ?_
  refine Ev.iload_n dBo_way_6 rfl ?_
  refine Ev.iconst (v := 4) dBo_way_7 (by decide) ?_
  have g1 := h.1
  replace h := h.2
  exact Ev.vcV (z := mBo_checkWhat) (ci := 10) [.int x2, .int 4] [] rfl dBo_way_8 oBo_checkWhat rfl w718 iBo_checkWhat sBo_checkWhat (by decide) rfl g1 (Nat.le_of_ble_eq_true rfl) h
theorem bBo_way_11 {l : Launch} {G : Gx} {d : Nat} {bc bs : Nat} {Φ : OutV → Mm → Prop} (M : Mm) (a0 : Nat) (x1 : Int32) (x2 : Int32) (u3 : Value)
    (h : ((m_sh M a0).1 = 10) ∧ ((m_sh M (m_r M a0 4)).1 = 6) ∧ CallVC l G d mBo_way 20 [.ref a0, .int x1, .int x2, u3] [] mPe_fact [.ref (m_r M a0 4), .int x1, .int 5] M bc bs Φ) :
    Ev l G d mBo_way 11 [.ref a0, .int x1, .int x2, u3] [] M bc bs Φ := by
  refine Ev.aload_n dBo_way_11 rfl ?_
  have g1 := h.1
  replace h := h.2
  refine Ev.getR dBo_way_12 (Or.inl fBo_27) rfl g1 ?_
  refine Ev.iload_n dBo_way_15 rfl ?_
  refine Ev.iconst (v := 5) dBo_way_16 (by decide) ?_
  have g2 := h.1
  replace h := h.2
  exact Ev.vcV (z := mPe_fact) (ci := 6) [.int x1, .int 5] [] rfl dBo_way_17 oPe_fact rfl w1026 iPe_fact sPe_fact (by decide) rfl g2 (Nat.le_of_ble_eq_true rfl) h
theorem w1034 : Cond.methodLink "BowingRow" 141 ⟨"BowingRow$People", "setFact", "(III)V"⟩ ∈ lwg := lwg_of 1034 (by decide +kernel) (by decide +kernel)
theorem bBo_way_20 {l : Launch} {G : Gx} {d : Nat} {bc bs : Nat} {Φ : OutV → Mm → Prop} (M : Mm) (a0 : Nat) (x1 : Int32) (x2 : Int32) (u3 : Value) (s0 : Int32)
    (h : ((m_sh M a0).1 = 10) ∧ ((m_sh M (m_r M a0 4)).1 = 6) ∧ CallVC l G d mBo_way 31 [.ref a0, .int x1, .int x2, .int s0] [] mPe_setFact [.ref (m_r M a0 4), .int x1, .int 5, .int x2] M bc bs Φ) :
    Ev l G d mBo_way 20 [.ref a0, .int x1, .int x2, u3] [.int s0] M bc bs Φ := by
  refine Ev.istore_n dBo_way_20 (by decide) ?_
  show Ev l G d mBo_way (_ + _) [.ref a0, .int x1, .int x2, .int s0] [] M bc bs Φ
  refine Ev.aload_n dBo_way_21 rfl ?_
  have g1 := h.1
  replace h := h.2
  refine Ev.getR dBo_way_22 (Or.inl fBo_27) rfl g1 ?_
  refine Ev.iload_n dBo_way_25 rfl ?_
  refine Ev.iconst (v := 5) dBo_way_26 (by decide) ?_
  refine Ev.iload_n dBo_way_27 rfl ?_
  have g2 := h.1
  replace h := h.2
  exact Ev.vcV (z := mPe_setFact) (ci := 6) [.int x1, .int 5, .int x2] [] rfl dBo_way_28 oPe_setFact rfl w1034 iPe_setFact sPe_setFact (by decide) rfl g2 (Nat.le_of_ble_eq_true rfl) h
theorem bBo_way_31 {l : Launch} {G : Gx} {d : Nat} {bc bs : Nat} {Φ : OutV → Mm → Prop} (M : Mm) (a0 : Nat) (x1 : Int32) (x2 : Int32) (x3 : Int32)
    (h : ((m_sh M a0).1 = 10) ∧ CallVC l G d mBo_way 35 [.ref a0, .int x1, .int x2, .int x3] [] mBo_waysChanged [.ref a0] M bc bs Φ) :
    Ev l G d mBo_way 31 [.ref a0, .int x1, .int x2, .int x3] [] M bc bs Φ := by
  refine Ev.aload_n dBo_way_31 rfl ?_
  have g1 := h.1
  replace h := h.2
  exact Ev.vcV (z := mBo_waysChanged) (ci := 10) [] [] rfl dBo_way_32 oBo_waysChanged rfl w698 iBo_waysChanged sBo_waysChanged (by decide) rfl g1 (Nat.le_of_ble_eq_true rfl) h
theorem bBo_way_35 {l : Launch} {G : Gx} {d : Nat} {bc bs : Nat} {Φ : OutV → Mm → Prop} (M : Mm) (a0 : Nat) (x1 : Int32) (x2 : Int32) (x3 : Int32)
    (h : Φ (.inl (some (.int x3))) M) :
    Ev l G d mBo_way 35 [.ref a0, .int x1, .int x2, .int x3] [] M bc bs Φ := by
  refine Ev.iload_n dBo_way_35 rfl ?_
  exact Ev.iret dBo_way_36 rfl rfl h
def mBo_until : MR := (⟨"BowingRow", "until", "(II)I"⟩, prog_1_method_9_code, 4, (Option.some .int))
theorem oBo_until : MOK mBo_until 2 := ⟨lwg_of 1041 (by decide +kernel) (by decide +kernel), lwg_of 91 (by decide +kernel) (by decide +kernel), ⟨by decide +kernel, by decide +kernel⟩, by decide +kernel, by decide⟩
theorem iBo_until : Cond.instanceMethod mBo_until.1 ∈ lwg := lwg_of 1039 (by decide +kernel) (by decide +kernel)
theorem sBo_until : Cond.selects mBo_until.1.cls mBo_until.1 mBo_until.1 ∈ lwg := lwg_of 1040 (by decide +kernel) (by decide +kernel)
theorem dBo_until_0 : decode mBo_until.2.1 0 = .ok (.aload_n 0, 1) := by decide +kernel
theorem dBo_until_1 : decode mBo_until.2.1 1 = .ok (.iload_n 1, 1) := by decide +kernel
theorem dBo_until_2 : decode mBo_until.2.1 2 = .ok (.invokevirtual 134, 3) := by decide +kernel
theorem dBo_until_5 : decode mBo_until.2.1 5 = .ok (.aload_n 0, 1) := by decide +kernel
theorem dBo_until_6 : decode mBo_until.2.1 6 = .ok (.iload_n 2, 1) := by decide +kernel
theorem dBo_until_7 : decode mBo_until.2.1 7 = .ok (.bipush 99, 2) := by decide +kernel
theorem dBo_until_9 : decode mBo_until.2.1 9 = .ok (.invokevirtual 127, 3) := by decide +kernel
theorem dBo_until_12 : decode mBo_until.2.1 12 = .ok (.aload_n 0, 1) := by decide +kernel
theorem dBo_until_13 : decode mBo_until.2.1 13 = .ok (.getfield 27, 3) := by decide +kernel
theorem dBo_until_16 : decode mBo_until.2.1 16 = .ok (.iload_n 1, 1) := by decide +kernel
theorem dBo_until_17 : decode mBo_until.2.1 17 = .ok (.bipush 6, 2) := by decide +kernel
theorem dBo_until_19 : decode mBo_until.2.1 19 = .ok (.invokevirtual 137, 3) := by decide +kernel
theorem dBo_until_22 : decode mBo_until.2.1 22 = .ok (.istore_n 3, 1) := by decide +kernel
theorem dBo_until_23 : decode mBo_until.2.1 23 = .ok (.aload_n 0, 1) := by decide +kernel
theorem dBo_until_24 : decode mBo_until.2.1 24 = .ok (.getfield 27, 3) := by decide +kernel
theorem dBo_until_27 : decode mBo_until.2.1 27 = .ok (.iload_n 1, 1) := by decide +kernel
theorem dBo_until_28 : decode mBo_until.2.1 28 = .ok (.bipush 6, 2) := by decide +kernel
theorem dBo_until_30 : decode mBo_until.2.1 30 = .ok (.iload_n 2, 1) := by decide +kernel
theorem dBo_until_31 : decode mBo_until.2.1 31 = .ok (.invokevirtual 141, 3) := by decide +kernel
theorem dBo_until_34 : decode mBo_until.2.1 34 = .ok (.aload_n 0, 1) := by decide +kernel
theorem dBo_until_35 : decode mBo_until.2.1 35 = .ok (.invokevirtual 148, 3) := by decide +kernel
theorem dBo_until_38 : decode mBo_until.2.1 38 = .ok (.iload_n 3, 1) := by decide +kernel
theorem dBo_until_39 : decode mBo_until.2.1 39 = .ok (.ireturn, 1) := by decide +kernel
theorem bBo_until_0 {l : Launch} {G : Gx} {d : Nat} {bc bs : Nat} {Φ : OutV → Mm → Prop} (M : Mm) (a0 : Nat) (x1 : Int32) (x2 : Int32)
    (h : ((m_sh M a0).1 = 10) ∧ CallVC l G d mBo_until 5 [.ref a0, .int x1, .int x2, .null] [] mBo_checkPerson [.ref a0, .int x1] M bc bs Φ) :
    Ev l G d mBo_until 0 [.ref a0, .int x1, .int x2, .null] [] M bc bs Φ := by
  refine Ev.aload_n dBo_until_0 rfl ?_
  refine Ev.iload_n dBo_until_1 rfl ?_
  have g1 := h.1
  replace h := h.2
  exact Ev.vcV (z := mBo_checkPerson) (ci := 10) [.int x1] [] rfl dBo_until_2 oBo_checkPerson rfl w1006 iBo_checkPerson sBo_checkPerson (by decide) rfl g1 (Nat.le_of_ble_eq_true rfl) h
theorem bBo_until_5 {l : Launch} {G : Gx} {d : Nat} {bc bs : Nat} {Φ : OutV → Mm → Prop} (M : Mm) (a0 : Nat) (x1 : Int32) (x2 : Int32) (u3 : Value)
    (h : ((m_sh M a0).1 = 10) ∧ CallVC l G d mBo_until 12 [.ref a0, .int x1, .int x2, u3] [] mBo_checkWhat [.ref a0, .int x2, .int 99] M bc bs Φ) :
    Ev l G d mBo_until 5 [.ref a0, .int x1, .int x2, u3] [] M bc bs Φ := by
  refine Ev.aload_n dBo_until_5 rfl ?_
  refine Ev.iload_n dBo_until_6 rfl ?_
  refine Ev.bipush (v := 99) dBo_until_7 (by decide) ?_
  have g1 := h.1
  replace h := h.2
  exact Ev.vcV (z := mBo_checkWhat) (ci := 10) [.int x2, .int 99] [] rfl dBo_until_9 oBo_checkWhat rfl w718 iBo_checkWhat sBo_checkWhat (by decide) rfl g1 (Nat.le_of_ble_eq_true rfl) h
theorem bBo_until_12 {l : Launch} {G : Gx} {d : Nat} {bc bs : Nat} {Φ : OutV → Mm → Prop} (M : Mm) (a0 : Nat) (x1 : Int32) (x2 : Int32) (u3 : Value)
    (h : ((m_sh M a0).1 = 10) ∧ ((m_sh M (m_r M a0 4)).1 = 6) ∧ CallVC l G d mBo_until 22 [.ref a0, .int x1, .int x2, u3] [] mPe_fact [.ref (m_r M a0 4), .int x1, .int 6] M bc bs Φ) :
    Ev l G d mBo_until 12 [.ref a0, .int x1, .int x2, u3] [] M bc bs Φ := by
  refine Ev.aload_n dBo_until_12 rfl ?_
  have g1 := h.1
  replace h := h.2
  refine Ev.getR dBo_until_13 (Or.inl fBo_27) rfl g1 ?_
  refine Ev.iload_n dBo_until_16 rfl ?_
  refine Ev.bipush (v := 6) dBo_until_17 (by decide) ?_
  have g2 := h.1
  replace h := h.2
  exact Ev.vcV (z := mPe_fact) (ci := 6) [.int x1, .int 6] [] rfl dBo_until_19 oPe_fact rfl w1026 iPe_fact sPe_fact (by decide) rfl g2 (Nat.le_of_ble_eq_true rfl) h
theorem bBo_until_22 {l : Launch} {G : Gx} {d : Nat} {bc bs : Nat} {Φ : OutV → Mm → Prop} (M : Mm) (a0 : Nat) (x1 : Int32) (x2 : Int32) (u3 : Value) (s0 : Int32)
    (h : ((m_sh M a0).1 = 10) ∧ ((m_sh M (m_r M a0 4)).1 = 6) ∧ CallVC l G d mBo_until 34 [.ref a0, .int x1, .int x2, .int s0] [] mPe_setFact [.ref (m_r M a0 4), .int x1, .int 6, .int x2] M bc bs Φ) :
    Ev l G d mBo_until 22 [.ref a0, .int x1, .int x2, u3] [.int s0] M bc bs Φ := by
  refine Ev.istore_n dBo_until_22 (by decide) ?_
  show Ev l G d mBo_until (_ + _) [.ref a0, .int x1, .int x2, .int s0] [] M bc bs Φ
  refine Ev.aload_n dBo_until_23 rfl ?_
  have g1 := h.1
  replace h := h.2
  refine Ev.getR dBo_until_24 (Or.inl fBo_27) rfl g1 ?_
  refine Ev.iload_n dBo_until_27 rfl ?_
  refine Ev.bipush (v := 6) dBo_until_28 (by decide) ?_
  refine Ev.iload_n dBo_until_30 rfl ?_
  have g2 := h.1
  replace h := h.2
  exact Ev.vcV (z := mPe_setFact) (ci := 6) [.int x1, .int 6, .int x2] [] rfl dBo_until_31 oPe_setFact rfl w1034 iPe_setFact sPe_setFact (by decide) rfl g2 (Nat.le_of_ble_eq_true rfl) h
theorem bBo_until_34 {l : Launch} {G : Gx} {d : Nat} {bc bs : Nat} {Φ : OutV → Mm → Prop} (M : Mm) (a0 : Nat) (x1 : Int32) (x2 : Int32) (x3 : Int32)
    (h : ((m_sh M a0).1 = 10) ∧ CallVC l G d mBo_until 38 [.ref a0, .int x1, .int x2, .int x3] [] mBo_untilsChanged [.ref a0] M bc bs Φ) :
    Ev l G d mBo_until 34 [.ref a0, .int x1, .int x2, .int x3] [] M bc bs Φ := by
  refine Ev.aload_n dBo_until_34 rfl ?_
  have g1 := h.1
  replace h := h.2
  exact Ev.vcV (z := mBo_untilsChanged) (ci := 10) [] [] rfl dBo_until_35 oBo_untilsChanged rfl w694 iBo_untilsChanged sBo_untilsChanged (by decide) rfl g1 (Nat.le_of_ble_eq_true rfl) h
theorem bBo_until_38 {l : Launch} {G : Gx} {d : Nat} {bc bs : Nat} {Φ : OutV → Mm → Prop} (M : Mm) (a0 : Nat) (x1 : Int32) (x2 : Int32) (x3 : Int32)
    (h : Φ (.inl (some (.int x3))) M) :
    Ev l G d mBo_until 38 [.ref a0, .int x1, .int x2, .int x3] [] M bc bs Φ := by
  refine Ev.iload_n dBo_until_38 rfl ?_
  exact Ev.iret dBo_until_39 rfl rfl h
def mBo_must : MR := (⟨"BowingRow", "must", "(III)Z"⟩, prog_1_method_10_code, 4, (Option.some .boolean))
theorem oBo_must : MOK mBo_must 3 := ⟨lwg_of 1048 (by decide +kernel) (by decide +kernel), lwg_of 91 (by decide +kernel) (by decide +kernel), ⟨by decide +kernel, by decide +kernel⟩, by decide +kernel, by decide⟩
theorem iBo_must : Cond.instanceMethod mBo_must.1 ∈ lwg := lwg_of 1046 (by decide +kernel) (by decide +kernel)
theorem sBo_must : Cond.selects mBo_must.1.cls mBo_must.1 mBo_must.1 ∈ lwg := lwg_of 1047 (by decide +kernel) (by decide +kernel)
theorem dBo_must_0 : decode mBo_must.2.1 0 = .ok (.aload_n 0, 1) := by decide +kernel
theorem dBo_must_1 : decode mBo_must.2.1 1 = .ok (.iload_n 1, 1) := by decide +kernel
theorem dBo_must_2 : decode mBo_must.2.1 2 = .ok (.iload_n 2, 1) := by decide +kernel
theorem dBo_must_3 : decode mBo_must.2.1 3 = .ok (.iload_n 3, 1) := by decide +kernel
theorem dBo_must_4 : decode mBo_must.2.1 4 = .ok (.invokevirtual 151, 3) := by decide +kernel
theorem dBo_must_7 : decode mBo_must.2.1 7 = .ok (.aload_n 0, 1) := by decide +kernel
theorem dBo_must_8 : decode mBo_must.2.1 8 = .ok (.getfield 49, 3) := by decide +kernel
theorem dBo_must_11 : decode mBo_must.2.1 11 = .ok (.iload_n 1, 1) := by decide +kernel
theorem dBo_must_12 : decode mBo_must.2.1 12 = .ok (.iload_n 2, 1) := by decide +kernel
theorem dBo_must_13 : decode mBo_must.2.1 13 = .ok (.iload_n 3, 1) := by decide +kernel
theorem dBo_must_14 : decode mBo_must.2.1 14 = .ok (.invokevirtual 154, 3) := by decide +kernel
theorem dBo_must_17 : decode mBo_must.2.1 17 = .ok (.ireturn, 1) := by decide +kernel
def mBo_checkPair : MR := (⟨"BowingRow", "checkPair", "(III)V"⟩, prog_1_method_35_code, 4, none)
theorem oBo_checkPair : MOK mBo_checkPair 3 := ⟨lwg_of 1052 (by decide +kernel) (by decide +kernel), lwg_of 91 (by decide +kernel) (by decide +kernel), ⟨by decide +kernel, by decide +kernel⟩, by decide +kernel, by decide⟩
theorem iBo_checkPair : Cond.instanceMethod mBo_checkPair.1 ∈ lwg := lwg_of 1051 (by decide +kernel) (by decide +kernel)
theorem sBo_checkPair : Cond.selects mBo_checkPair.1.cls mBo_checkPair.1 mBo_checkPair.1 ∈ lwg := lwg_of 29 (by decide +kernel) (by decide +kernel)
theorem w1049 : Cond.methodLink "BowingRow" 151 ⟨"BowingRow", "checkPair", "(III)V"⟩ ∈ lwg := lwg_of 1049 (by decide +kernel) (by decide +kernel)
theorem bBo_must_0 {l : Launch} {G : Gx} {d : Nat} {bc bs : Nat} {Φ : OutV → Mm → Prop} (M : Mm) (a0 : Nat) (x1 : Int32) (x2 : Int32) (x3 : Int32)
    (h : ((m_sh M a0).1 = 10) ∧ CallVC l G d mBo_must 7 [.ref a0, .int x1, .int x2, .int x3] [] mBo_checkPair [.ref a0, .int x1, .int x2, .int x3] M bc bs Φ) :
    Ev l G d mBo_must 0 [.ref a0, .int x1, .int x2, .int x3] [] M bc bs Φ := by
  refine Ev.aload_n dBo_must_0 rfl ?_
  refine Ev.iload_n dBo_must_1 rfl ?_
  refine Ev.iload_n dBo_must_2 rfl ?_
  refine Ev.iload_n dBo_must_3 rfl ?_
  have g1 := h.1
  replace h := h.2
  exact Ev.vcV (z := mBo_checkPair) (ci := 10) [.int x1, .int x2, .int x3] [] rfl dBo_must_4 oBo_checkPair rfl w1049 iBo_checkPair sBo_checkPair (by decide) rfl g1 (Nat.le_of_ble_eq_true rfl) h
theorem w1054 : Cond.methodLink "BowingRow" 154 ⟨"BowingRow$InForce", "mustOffer", "(III)Z"⟩ ∈ lwg := lwg_of 1054 (by decide +kernel) (by decide +kernel)
theorem bBo_must_7 {l : Launch} {G : Gx} {d : Nat} {bc bs : Nat} {Φ : OutV → Mm → Prop} (M : Mm) (a0 : Nat) (x1 : Int32) (x2 : Int32) (x3 : Int32)
    (h : ((m_sh M a0).1 = 10) ∧ ((m_sh M (m_r M a0 8)).1 = 3) ∧ CallVC l G d mBo_must 17 [.ref a0, .int x1, .int x2, .int x3] [] mIf_mustOffer [.ref (m_r M a0 8), .int x1, .int x2, .int x3] M bc bs Φ) :
    Ev l G d mBo_must 7 [.ref a0, .int x1, .int x2, .int x3] [] M bc bs Φ := by
  refine Ev.aload_n dBo_must_7 rfl ?_
  have g1 := h.1
  replace h := h.2
  refine Ev.getR dBo_must_8 (Or.inl fBo_49) rfl g1 ?_
  refine Ev.iload_n dBo_must_11 rfl ?_
  refine Ev.iload_n dBo_must_12 rfl ?_
  refine Ev.iload_n dBo_must_13 rfl ?_
  have g2 := h.1
  replace h := h.2
  exact Ev.vcV (z := mIf_mustOffer) (ci := 3) [.int x1, .int x2, .int x3] [] rfl dBo_must_14 oIf_mustOffer rfl w1054 iIf_mustOffer sIf_mustOffer (by decide) rfl g2 (Nat.le_of_ble_eq_true rfl) h
theorem bBo_must_17 {l : Launch} {G : Gx} {d : Nat} {bc bs : Nat} {Φ : OutV → Mm → Prop} (M : Mm) (a0 : Nat) (x1 : Int32) (x2 : Int32) (x3 : Int32) (s0 : Int32)
    (h : (narrow .boolean (.int s0) = .int s0) ∧ Φ (.inl (some (.int s0))) M) :
    Ev l G d mBo_must 17 [.ref a0, .int x1, .int x2, .int x3] [.int s0] M bc bs Φ := by
  have g1 := h.1
  replace h := h.2
  exact Ev.iret dBo_must_17 rfl g1 h
theorem dBo_checkPair_0 : decode mBo_checkPair.2.1 0 = .ok (.aload_n 0, 1) := by decide +kernel
theorem dBo_checkPair_1 : decode mBo_checkPair.2.1 1 = .ok (.iload_n 1, 1) := by decide +kernel
theorem dBo_checkPair_2 : decode mBo_checkPair.2.1 2 = .ok (.invokevirtual 134, 3) := by decide +kernel
theorem dBo_checkPair_5 : decode mBo_checkPair.2.1 5 = .ok (.aload_n 0, 1) := by decide +kernel
theorem dBo_checkPair_6 : decode mBo_checkPair.2.1 6 = .ok (.iload_n 2, 1) := by decide +kernel
theorem dBo_checkPair_7 : decode mBo_checkPair.2.1 7 = .ok (.invokevirtual 134, 3) := by decide +kernel
theorem dBo_checkPair_10 : decode mBo_checkPair.2.1 10 = .ok (.aload_n 0, 1) := by decide +kernel
theorem dBo_checkPair_11 : decode mBo_checkPair.2.1 11 = .ok (.iload_n 3, 1) := by decide +kernel
theorem dBo_checkPair_12 : decode mBo_checkPair.2.1 12 = .ok (.bipush 16, 2) := by decide +kernel
theorem dBo_checkPair_14 : decode mBo_checkPair.2.1 14 = .ok (.invokevirtual 127, 3) := by decide +kernel
theorem dBo_checkPair_17 : decode mBo_checkPair.2.1 17 = .ok (.iload_n 1, 1) := by decide +kernel
theorem dBo_checkPair_18 : decode mBo_checkPair.2.1 18 = .ok (.iload_n 2, 1) := by decide +kernel
theorem dBo_checkPair_19 : decode mBo_checkPair.2.1 19 = .ok (.if_icmp .ne 14, 3) := by decide +kernel
theorem dBo_checkPair_22 : decode mBo_checkPair.2.1 22 = .ok (.new 245, 3) := by decide +kernel
theorem dBo_checkPair_25 : decode mBo_checkPair.2.1 25 = .ok (.dup, 1) := by decide +kernel
theorem dBo_checkPair_26 : decode mBo_checkPair.2.1 26 = .ok (.ldc_w 304, 3) := by decide +kernel
theorem dBo_checkPair_29 : decode mBo_checkPair.2.1 29 = .ok (.invokespecial 249, 3) := by decide +kernel
theorem dBo_checkPair_32 : decode mBo_checkPair.2.1 32 = .ok (.athrow, 1) := by decide +kernel
theorem dBo_checkPair_33 : decode mBo_checkPair.2.1 33 = .ok (.return_, 1) := by decide +kernel
theorem bBo_checkPair_0 {l : Launch} {G : Gx} {d : Nat} {bc bs : Nat} {Φ : OutV → Mm → Prop} (M : Mm) (a0 : Nat) (x1 : Int32) (x2 : Int32) (x3 : Int32)
    (h : ((m_sh M a0).1 = 10) ∧ CallVC l G d mBo_checkPair 5 [.ref a0, .int x1, .int x2, .int x3] [] mBo_checkPerson [.ref a0, .int x1] M bc bs Φ) :
    Ev l G d mBo_checkPair 0 [.ref a0, .int x1, .int x2, .int x3] [] M bc bs Φ := by
  refine Ev.aload_n dBo_checkPair_0 rfl ?_
  refine Ev.iload_n dBo_checkPair_1 rfl ?_
  have g1 := h.1
  replace h := h.2
  exact Ev.vcV (z := mBo_checkPerson) (ci := 10) [.int x1] [] rfl dBo_checkPair_2 oBo_checkPerson rfl w1006 iBo_checkPerson sBo_checkPerson (by decide) rfl g1 (Nat.le_of_ble_eq_true rfl) h
theorem bBo_checkPair_5 {l : Launch} {G : Gx} {d : Nat} {bc bs : Nat} {Φ : OutV → Mm → Prop} (M : Mm) (a0 : Nat) (x1 : Int32) (x2 : Int32) (x3 : Int32)
    (h : ((m_sh M a0).1 = 10) ∧ CallVC l G d mBo_checkPair 10 [.ref a0, .int x1, .int x2, .int x3] [] mBo_checkPerson [.ref a0, .int x2] M bc bs Φ) :
    Ev l G d mBo_checkPair 5 [.ref a0, .int x1, .int x2, .int x3] [] M bc bs Φ := by
  refine Ev.aload_n dBo_checkPair_5 rfl ?_
  refine Ev.iload_n dBo_checkPair_6 rfl ?_
  have g1 := h.1
  replace h := h.2
  exact Ev.vcV (z := mBo_checkPerson) (ci := 10) [.int x2] [] rfl dBo_checkPair_7 oBo_checkPerson rfl w1006 iBo_checkPerson sBo_checkPerson (by decide) rfl g1 (Nat.le_of_ble_eq_true rfl) h
theorem bBo_checkPair_10 {l : Launch} {G : Gx} {d : Nat} {bc bs : Nat} {Φ : OutV → Mm → Prop} (M : Mm) (a0 : Nat) (x1 : Int32) (x2 : Int32) (x3 : Int32)
    (h : ((m_sh M a0).1 = 10) ∧ CallVC l G d mBo_checkPair 17 [.ref a0, .int x1, .int x2, .int x3] [] mBo_checkWhat [.ref a0, .int x3, .int 16] M bc bs Φ) :
    Ev l G d mBo_checkPair 10 [.ref a0, .int x1, .int x2, .int x3] [] M bc bs Φ := by
  refine Ev.aload_n dBo_checkPair_10 rfl ?_
  refine Ev.iload_n dBo_checkPair_11 rfl ?_
  refine Ev.bipush (v := 16) dBo_checkPair_12 (by decide) ?_
  have g1 := h.1
  replace h := h.2
  exact Ev.vcV (z := mBo_checkWhat) (ci := 10) [.int x3, .int 16] [] rfl dBo_checkPair_14 oBo_checkWhat rfl w718 iBo_checkWhat sBo_checkWhat (by decide) rfl g1 (Nat.le_of_ble_eq_true rfl) h
theorem bBo_checkPair_17 {l : Launch} {G : Gx} {d : Nat} {bc bs : Nat} {Φ : OutV → Mm → Prop} (M : Mm) (a0 : Nat) (x1 : Int32) (x2 : Int32) (x3 : Int32)
    (h : (¬ x1 = x2 → Φ (.inl none) M) ∧ (x1 = x2 → l.stackTraces = false ∧ 6 ≤ d ∧ 1 ≤ bc ∧ 6 ≤ bs ∧ Φ (.inr "java/lang/IllegalArgumentException") M)) :
    Ev l G d mBo_checkPair 17 [.ref a0, .int x1, .int x2, .int x3] [] M bc bs Φ := by
  refine Ev.iload_n dBo_checkPair_17 rfl ?_
  refine Ev.iload_n dBo_checkPair_18 rfl ?_
  refine Ev.icmp_ne 33 (by decide) dBo_checkPair_19 (fun c => ?_) (fun c => ?_)
  · replace h := h.1 c
    exact Ev.vret dBo_checkPair_33 rfl h
  · replace h := h.2 c
    exact Ev.throwS (cls := "java/lang/IllegalArgumentException") (text := "one and the same person") (ik := 245) (is := 304) (ic := 249) h.1 (by decide +kernel) (w722) (w107) (by decide +kernel) tBo_249 dBo_checkPair_22 dBo_checkPair_25 (Or.inr ⟨dBo_checkPair_26, dBo_checkPair_29, dBo_checkPair_32⟩) (Nat.le_of_ble_eq_true rfl) h.2.1 h.2.2.1 h.2.2.2.1 h.2.2.2.2
def mBo_worth : MR := (⟨"BowingRow", "worth", "(III)I"⟩, prog_1_method_11_code, 4, (Option.some .int))
theorem oBo_worth : MOK mBo_worth 3 := ⟨lwg_of 1061 (by decide +kernel) (by decide +kernel), lwg_of 91 (by decide +kernel) (by decide +kernel), ⟨by decide +kernel, by decide +kernel⟩, by decide +kernel, by decide⟩
theorem iBo_worth : Cond.instanceMethod mBo_worth.1 ∈ lwg := lwg_of 1059 (by decide +kernel) (by decide +kernel)
theorem sBo_worth : Cond.selects mBo_worth.1.cls mBo_worth.1 mBo_worth.1 ∈ lwg := lwg_of 1060 (by decide +kernel) (by decide +kernel)
theorem dBo_worth_0 : decode mBo_worth.2.1 0 = .ok (.aload_n 0, 1) := by decide +kernel
theorem dBo_worth_1 : decode mBo_worth.2.1 1 = .ok (.iload_n 1, 1) := by decide +kernel
theorem dBo_worth_2 : decode mBo_worth.2.1 2 = .ok (.iload_n 2, 1) := by decide +kernel
theorem dBo_worth_3 : decode mBo_worth.2.1 3 = .ok (.iload_n 3, 1) := by decide +kernel
theorem dBo_worth_4 : decode mBo_worth.2.1 4 = .ok (.invokevirtual 151, 3) := by decide +kernel
theorem dBo_worth_7 : decode mBo_worth.2.1 7 = .ok (.aload_n 0, 1) := by decide +kernel
theorem dBo_worth_8 : decode mBo_worth.2.1 8 = .ok (.getfield 49, 3) := by decide +kernel
theorem dBo_worth_11 : decode mBo_worth.2.1 11 = .ok (.iload_n 1, 1) := by decide +kernel
theorem dBo_worth_12 : decode mBo_worth.2.1 12 = .ok (.iload_n 2, 1) := by decide +kernel
theorem dBo_worth_13 : decode mBo_worth.2.1 13 = .ok (.iload_n 3, 1) := by decide +kernel
theorem dBo_worth_14 : decode mBo_worth.2.1 14 = .ok (.invokevirtual 158, 3) := by decide +kernel
theorem dBo_worth_17 : decode mBo_worth.2.1 17 = .ok (.ireturn, 1) := by decide +kernel
theorem bBo_worth_0 {l : Launch} {G : Gx} {d : Nat} {bc bs : Nat} {Φ : OutV → Mm → Prop} (M : Mm) (a0 : Nat) (x1 : Int32) (x2 : Int32) (x3 : Int32)
    (h : ((m_sh M a0).1 = 10) ∧ CallVC l G d mBo_worth 7 [.ref a0, .int x1, .int x2, .int x3] [] mBo_checkPair [.ref a0, .int x1, .int x2, .int x3] M bc bs Φ) :
    Ev l G d mBo_worth 0 [.ref a0, .int x1, .int x2, .int x3] [] M bc bs Φ := by
  refine Ev.aload_n dBo_worth_0 rfl ?_
  refine Ev.iload_n dBo_worth_1 rfl ?_
  refine Ev.iload_n dBo_worth_2 rfl ?_
  refine Ev.iload_n dBo_worth_3 rfl ?_
  have g1 := h.1
  replace h := h.2
  exact Ev.vcV (z := mBo_checkPair) (ci := 10) [.int x1, .int x2, .int x3] [] rfl dBo_worth_4 oBo_checkPair rfl w1049 iBo_checkPair sBo_checkPair (by decide) rfl g1 (Nat.le_of_ble_eq_true rfl) h
theorem w1062 : Cond.methodLink "BowingRow" 158 ⟨"BowingRow$InForce", "passWorth", "(III)I"⟩ ∈ lwg := lwg_of 1062 (by decide +kernel) (by decide +kernel)
theorem bBo_worth_7 {l : Launch} {G : Gx} {d : Nat} {bc bs : Nat} {Φ : OutV → Mm → Prop} (M : Mm) (a0 : Nat) (x1 : Int32) (x2 : Int32) (x3 : Int32)
    (h : ((m_sh M a0).1 = 10) ∧ ((m_sh M (m_r M a0 8)).1 = 3) ∧ CallVC l G d mBo_worth 17 [.ref a0, .int x1, .int x2, .int x3] [] mIf_passWorth [.ref (m_r M a0 8), .int x1, .int x2, .int x3] M bc bs Φ) :
    Ev l G d mBo_worth 7 [.ref a0, .int x1, .int x2, .int x3] [] M bc bs Φ := by
  refine Ev.aload_n dBo_worth_7 rfl ?_
  have g1 := h.1
  replace h := h.2
  refine Ev.getR dBo_worth_8 (Or.inl fBo_49) rfl g1 ?_
  refine Ev.iload_n dBo_worth_11 rfl ?_
  refine Ev.iload_n dBo_worth_12 rfl ?_
  refine Ev.iload_n dBo_worth_13 rfl ?_
  have g2 := h.1
  replace h := h.2
  exact Ev.vcV (z := mIf_passWorth) (ci := 3) [.int x1, .int x2, .int x3] [] rfl dBo_worth_14 oIf_passWorth rfl w1062 iIf_passWorth sIf_passWorth (by decide) rfl g2 (Nat.le_of_ble_eq_true rfl) h
theorem bBo_worth_17 {l : Launch} {G : Gx} {d : Nat} {bc bs : Nat} {Φ : OutV → Mm → Prop} (M : Mm) (a0 : Nat) (x1 : Int32) (x2 : Int32) (x3 : Int32) (s0 : Int32)
    (h : Φ (.inl (some (.int s0))) M) :
    Ev l G d mBo_worth 17 [.ref a0, .int x1, .int x2, .int x3] [.int s0] M bc bs Φ := by
  exact Ev.iret dBo_worth_17 rfl rfl h
def mBo_day : MR := (⟨"BowingRow", "day", "(I)I"⟩, prog_1_method_12_code, 3, (Option.some .int))
theorem oBo_day : MOK mBo_day 1 := ⟨lwg_of 1069 (by decide +kernel) (by decide +kernel), lwg_of 91 (by decide +kernel) (by decide +kernel), ⟨by decide +kernel, by decide +kernel⟩, by decide +kernel, by decide⟩
theorem iBo_day : Cond.instanceMethod mBo_day.1 ∈ lwg := lwg_of 1067 (by decide +kernel) (by decide +kernel)
theorem sBo_day : Cond.selects mBo_day.1.cls mBo_day.1 mBo_day.1 ∈ lwg := lwg_of 1068 (by decide +kernel) (by decide +kernel)
theorem dBo_day_0 : decode mBo_day.2.1 0 = .ok (.aload_n 0, 1) := by decide +kernel
theorem dBo_day_1 : decode mBo_day.2.1 1 = .ok (.iload_n 1, 1) := by decide +kernel
theorem dBo_day_2 : decode mBo_day.2.1 2 = .ok (.bipush 6, 2) := by decide +kernel
theorem dBo_day_4 : decode mBo_day.2.1 4 = .ok (.invokevirtual 127, 3) := by decide +kernel
theorem dBo_day_7 : decode mBo_day.2.1 7 = .ok (.aload_n 0, 1) := by decide +kernel
theorem dBo_day_8 : decode mBo_day.2.1 8 = .ok (.invokevirtual 162, 3) := by decide +kernel
theorem dBo_day_11 : decode mBo_day.2.1 11 = .ok (.astore_n 2, 1) := by decide +kernel
theorem dBo_day_12 : decode mBo_day.2.1 12 = .ok (.iload_n 1, 1) := by decide +kernel
theorem dBo_day_13 : decode mBo_day.2.1 13 = .ok (.tableswitch 83 0 5 #[39, 44, 52, 57, 65, 78], 39) := by decide +kernel
theorem dBo_day_52 : decode mBo_day.2.1 52 = .ok (.aload_n 2, 1) := by decide +kernel
theorem dBo_day_53 : decode mBo_day.2.1 53 = .ok (.getfield 166, 3) := by decide +kernel
theorem dBo_day_56 : decode mBo_day.2.1 56 = .ok (.ireturn, 1) := by decide +kernel
theorem dBo_day_57 : decode mBo_day.2.1 57 = .ok (.aload_n 2, 1) := by decide +kernel
theorem dBo_day_58 : decode mBo_day.2.1 58 = .ok (.getfield 169, 3) := by decide +kernel
theorem dBo_day_61 : decode mBo_day.2.1 61 = .ok (.invokestatic 172, 3) := by decide +kernel
theorem dBo_day_64 : decode mBo_day.2.1 64 = .ok (.ireturn, 1) := by decide +kernel
theorem dBo_day_65 : decode mBo_day.2.1 65 = .ok (.aload_n 2, 1) := by decide +kernel
theorem dBo_day_66 : decode mBo_day.2.1 66 = .ok (.invokevirtual 178, 3) := by decide +kernel
theorem dBo_day_69 : decode mBo_day.2.1 69 = .ok (.ireturn, 1) := by decide +kernel
theorem dBo_day_70 : decode mBo_day.2.1 70 = .ok (.aload_n 2, 1) := by decide +kernel
theorem dBo_day_71 : decode mBo_day.2.1 71 = .ok (.getfield 182, 3) := by decide +kernel
theorem dBo_day_74 : decode mBo_day.2.1 74 = .ok (.getfield 186, 3) := by decide +kernel
theorem dBo_day_77 : decode mBo_day.2.1 77 = .ok (.ireturn, 1) := by decide +kernel
theorem dBo_day_78 : decode mBo_day.2.1 78 = .ok (.aload_n 2, 1) := by decide +kernel
theorem dBo_day_79 : decode mBo_day.2.1 79 = .ok (.getfield 191, 3) := by decide +kernel
theorem dBo_day_82 : decode mBo_day.2.1 82 = .ok (.ifCond .eq 7, 3) := by decide +kernel
theorem dBo_day_85 : decode mBo_day.2.1 85 = .ok (.iconst 1, 1) := by decide +kernel
theorem dBo_day_86 : decode mBo_day.2.1 86 = .ok (.goto 4, 3) := by decide +kernel
theorem dBo_day_89 : decode mBo_day.2.1 89 = .ok (.iconst 0, 1) := by decide +kernel
theorem dBo_day_90 : decode mBo_day.2.1 90 = .ok (.ireturn, 1) := by decide +kernel
theorem dBo_day_91 : decode mBo_day.2.1 91 = .ok (.aload_n 2, 1) := by decide +kernel
theorem dBo_day_92 : decode mBo_day.2.1 92 = .ok (.invokevirtual 195, 3) := by decide +kernel
theorem dBo_day_95 : decode mBo_day.2.1 95 = .ok (.ireturn, 1) := by decide +kernel
theorem dBo_day_96 : decode mBo_day.2.1 96 = .ok (.aload_n 2, 1) := by decide +kernel
theorem dBo_day_97 : decode mBo_day.2.1 97 = .ok (.invokevirtual 198, 3) := by decide +kernel
theorem dBo_day_100 : decode mBo_day.2.1 100 = .ok (.ireturn, 1) := by decide +kernel
theorem bBo_day_0 {l : Launch} {G : Gx} {d : Nat} {bc bs : Nat} {Φ : OutV → Mm → Prop} (M : Mm) (a0 : Nat) (x1 : Int32)
    (h : ((m_sh M a0).1 = 10) ∧ CallVC l G d mBo_day 7 [.ref a0, .int x1, .null] [] mBo_checkWhat [.ref a0, .int x1, .int 6] M bc bs Φ) :
    Ev l G d mBo_day 0 [.ref a0, .int x1, .null] [] M bc bs Φ := by
  refine Ev.aload_n dBo_day_0 rfl ?_
  refine Ev.iload_n dBo_day_1 rfl ?_
  refine Ev.bipush (v := 6) dBo_day_2 (by decide) ?_
  have g1 := h.1
  replace h := h.2
  exact Ev.vcV (z := mBo_checkWhat) (ci := 10) [.int x1, .int 6] [] rfl dBo_day_4 oBo_checkWhat rfl w718 iBo_checkWhat sBo_checkWhat (by decide) rfl g1 (Nat.le_of_ble_eq_true rfl) h
theorem bBo_day_7 {l : Launch} {G : Gx} {d : Nat} {bc bs : Nat} {Φ : OutV → Mm → Prop} (M : Mm) (a0 : Nat) (x1 : Int32) (u2 : Value)
    (h : ((m_sh M a0).1 = 10) ∧ CallVC l G d mBo_day 11 [.ref a0, .int x1, u2] [] mBo_dayAsItIs [.ref a0] M bc bs Φ) :
    Ev l G d mBo_day 7 [.ref a0, .int x1, u2] [] M bc bs Φ := by
  refine Ev.aload_n dBo_day_7 rfl ?_
  have g1 := h.1
  replace h := h.2
  exact Ev.vcV (z := mBo_dayAsItIs) (ci := 10) [] [] rfl dBo_day_8 oBo_dayAsItIs rfl w557 iBo_dayAsItIs sBo_dayAsItIs (by decide) rfl g1 (Nat.le_of_ble_eq_true rfl) h
theorem fBo_169 : FOK "BowingRow" 169 1 13 false := ⟨RX1, TX1, nFd 1, rfl, by decide, rfl, by decide, rfl, lwg_of 372 (by decide +kernel) (by decide +kernel)⟩
theorem w1070 : Cond.methodLink "BowingRow" 172 ⟨"java/lang/Integer", "bitCount", "(I)I"⟩ ∈ lwg := lwg_of 1070 (by decide +kernel) (by decide +kernel)
theorem w1071 : Cond.methodLink "BowingRow" 178 ⟨"BowingRow$Day", "allOffers", "()I"⟩ ∈ lwg := lwg_of 1071 (by decide +kernel) (by decide +kernel)
theorem fBo_182 : FOK "BowingRow" 182 1 12 true := ⟨RX1, TX1, nFd 1, rfl, by decide, rfl, by decide, rfl, lwg_of 369 (by decide +kernel) (by decide +kernel)⟩
theorem fBo_186 : FOK "BowingRow" 186 5 6 false := ⟨RX5, TX5, nFd 5, rfl, by decide, rfl, by decide, rfl, lwg_of 285 (by decide +kernel) (by decide +kernel)⟩
theorem fBo_191 : FOK "BowingRow" 191 1 14 false := ⟨RX1, TX1, nFd 1, rfl, by decide, rfl, by decide, rfl, lwg_of 374 (by decide +kernel) (by decide +kernel)⟩
theorem w1075 : Cond.methodLink "BowingRow" 195 ⟨"BowingRow$Day", "lastEnd", "()I"⟩ ∈ lwg := lwg_of 1075 (by decide +kernel) (by decide +kernel)
theorem w1080 : Cond.methodLink "BowingRow" 198 ⟨"BowingRow$Day", "unaskedCalls", "()I"⟩ ∈ lwg := lwg_of 1080 (by decide +kernel) (by decide +kernel)
theorem bBo_day_11 {l : Launch} {G : Gx} {d : Nat} {bc bs : Nat} {Φ : OutV → Mm → Prop} (M : Mm) (a0 : Nat) (x1 : Int32) (u2 : Value) (r0 : Nat)
    (h : (x1 = 0 → ((m_sh M r0).1 = 1) ∧ Φ (.inl (some (.int (m_i M r0 10)))) M) ∧ ((x1 = 1 → ((m_sh M r0).1 = 1) ∧ CallVC l G d mBo_day 64 [.ref a0, .int x1, .ref r0] [] mjI_bitCount [.int (m_i M r0 13)] M bc bs Φ) ∧ ((x1 = 2 → ((m_sh M r0).1 = 1) ∧ CallVC l G d mBo_day 69 [.ref a0, .int x1, .ref r0] [] mDa_allOffers [.ref r0] M bc bs Φ) ∧ ((x1 = 3 → ((m_sh M r0).1 = 1) ∧ ((m_sh M (m_r M r0 12)).1 = 5) ∧ Φ (.inl (some (.int (m_i M (m_r M r0 12) 6)))) M) ∧ ((x1 = 4 → ((m_sh M r0).1 = 1) ∧ ((m_i M r0 14) = 0 → Φ (.inl (some (.int 0))) M) ∧ (¬ (m_i M r0 14) = 0 → Φ (.inl (some (.int 1))) M)) ∧ ((x1 = 5 → ((m_sh M r0).1 = 1) ∧ CallVC l G d mBo_day 95 [.ref a0, .int x1, .ref r0] [] mDa_lastEnd [.ref r0] M bc bs Φ) ∧ (¬ x1 = 0 → ¬ x1 = 1 → ¬ x1 = 2 → ¬ x1 = 3 → ¬ x1 = 4 → ¬ x1 = 5 → ((m_sh M r0).1 = 1) ∧ CallVC l G d mBo_day 100 [.ref a0, .int x1, .ref r0] [] mDa_unaskedCalls [.ref r0] M bc bs Φ))))))) :
    Ev l G d mBo_day 11 [.ref a0, .int x1, u2] [.ref r0] M bc bs Φ := by
  refine Ev.astore_n dBo_day_11 (by decide) ?_
  show Ev l G d mBo_day (_ + _) [.ref a0, .int x1, .ref r0] [] M bc bs Φ
  refine Ev.iload_n dBo_day_12 rfl ?_
  skip
  by_cases c : x1 = 0
  · refine Ev.tblAt 52 dBo_day_13 (by rw [c]; decide) (by rw [c]; decide) (by rw [c]; rfl) (by decide) ?_
    replace h := h.1 c
    refine Ev.aload_n dBo_day_52 rfl ?_
    have g1 := h.1
    replace h := h.2
    refine Ev.getI dBo_day_53 (Or.inl fBo_166) rfl g1 ?_
    exact Ev.iret dBo_day_56 rfl rfl h
  have c2 := c
  clear c
  replace h := h.2
  by_cases c : x1 = 1
  · refine Ev.tblAt 57 dBo_day_13 (by rw [c]; decide) (by rw [c]; decide) (by rw [c]; rfl) (by decide) ?_
    replace h := h.1 c
    refine Ev.aload_n dBo_day_57 rfl ?_
    have g3 := h.1
    replace h := h.2
    refine Ev.getI dBo_day_58 (Or.inl fBo_169) rfl g3 ?_
    exact Ev.vcS (z := mjI_bitCount) [.int (m_i M r0 13)] [] rfl dBo_day_61 ojI_bitCount rfl w1070 ijI_bitCount (Nat.le_of_ble_eq_true rfl) h
  have c4 := c
  clear c
  replace h := h.2
  by_cases c : x1 = 2
  · refine Ev.tblAt 65 dBo_day_13 (by rw [c]; decide) (by rw [c]; decide) (by rw [c]; rfl) (by decide) ?_
    replace h := h.1 c
    refine Ev.aload_n dBo_day_65 rfl ?_
    have g5 := h.1
    replace h := h.2
    exact Ev.vcV (z := mDa_allOffers) (ci := 1) [] [] rfl dBo_day_66 oDa_allOffers rfl w1071 iDa_allOffers sDa_allOffers (by decide) rfl g5 (Nat.le_of_ble_eq_true rfl) h
  have c6 := c
  clear c
  replace h := h.2
  by_cases c : x1 = 3
  · refine Ev.tblAt 70 dBo_day_13 (by rw [c]; decide) (by rw [c]; decide) (by rw [c]; rfl) (by decide) ?_
    replace h := h.1 c
    refine Ev.aload_n dBo_day_70 rfl ?_
    have g7 := h.1
    replace h := h.2
    refine Ev.getR dBo_day_71 (Or.inl fBo_182) rfl g7 ?_
    have g8 := h.1
    replace h := h.2
    refine Ev.getI dBo_day_74 (Or.inl fBo_186) rfl g8 ?_
    exact Ev.iret dBo_day_77 rfl rfl h
  have c9 := c
  clear c
  replace h := h.2
  by_cases c : x1 = 4
  · refine Ev.tblAt 78 dBo_day_13 (by rw [c]; decide) (by rw [c]; decide) (by rw [c]; rfl) (by decide) ?_
    replace h := h.1 c
    refine Ev.aload_n dBo_day_78 rfl ?_
    have g10 := h.1
    replace h := h.2
    refine Ev.getI dBo_day_79 (Or.inl fBo_191) rfl g10 ?_
    refine Ev.if_eq 89 (by decide) dBo_day_82 (fun c => ?_) (fun c => ?_)
    · replace h := h.1 c
      refine Ev.iconst (v := 0) dBo_day_89 (by decide) ?_
      exact Ev.iret dBo_day_90 rfl rfl h
    · replace h := h.2 c
      refine Ev.iconst (v := 1) dBo_day_85 (by decide) ?_
      refine Ev.goto 90 dBo_day_86 (by decide) ?_
      exact Ev.iret dBo_day_90 rfl rfl h
  have c11 := c
  clear c
  replace h := h.2
  by_cases c : x1 = 5
  · refine Ev.tblAt 91 dBo_day_13 (by rw [c]; decide) (by rw [c]; decide) (by rw [c]; rfl) (by decide) ?_
    replace h := h.1 c
    refine Ev.aload_n dBo_day_91 rfl ?_
    have g12 := h.1
    replace h := h.2
    exact Ev.vcV (z := mDa_lastEnd) (ci := 1) [] [] rfl dBo_day_92 oDa_lastEnd rfl w1075 iDa_lastEnd sDa_lastEnd (by decide) rfl g12 (Nat.le_of_ble_eq_true rfl) h
  have c13 := c
  clear c
  replace h := h.2
  refine Ev.tblOut 96 dBo_day_13 ?_ (by decide) ?_
  · have e : ∀ k : Int32, ¬ x1 = k → ¬ x1.toInt = k.toInt := fun k h1 h2 => h1 (Int32.toInt_inj.mp h2)
    have := e 0 c2
    rw [show ((0 : Int32)).toInt = 0 from rfl] at this
    have := e 1 c4
    rw [show ((1 : Int32)).toInt = 1 from rfl] at this
    have := e 2 c6
    rw [show ((2 : Int32)).toInt = 2 from rfl] at this
    have := e 3 c9
    rw [show ((3 : Int32)).toInt = 3 from rfl] at this
    have := e 4 c11
    rw [show ((4 : Int32)).toInt = 4 from rfl] at this
    have := e 5 c13
    rw [show ((5 : Int32)).toInt = 5 from rfl] at this
    omega
  · replace h := h c2 c4 c6 c9 c11 c13
    refine Ev.aload_n dBo_day_96 rfl ?_
    have g14 := h.1
    replace h := h.2
    exact Ev.vcV (z := mDa_unaskedCalls) (ci := 1) [] [] rfl dBo_day_97 oDa_unaskedCalls rfl w1080 iDa_unaskedCalls sDa_unaskedCalls (by decide) rfl g14 (Nat.le_of_ble_eq_true rfl) h
theorem bBo_day_64 {l : Launch} {G : Gx} {d : Nat} {bc bs : Nat} {Φ : OutV → Mm → Prop} (M : Mm) (a0 : Nat) (x1 : Int32) (a2 : Nat) (s0 : Int32)
    (h : Φ (.inl (some (.int s0))) M) :
    Ev l G d mBo_day 64 [.ref a0, .int x1, .ref a2] [.int s0] M bc bs Φ := by
  exact Ev.iret dBo_day_64 rfl rfl h
theorem bBo_day_69 {l : Launch} {G : Gx} {d : Nat} {bc bs : Nat} {Φ : OutV → Mm → Prop} (M : Mm) (a0 : Nat) (x1 : Int32) (a2 : Nat) (s0 : Int32)
    (h : Φ (.inl (some (.int s0))) M) :
    Ev l G d mBo_day 69 [.ref a0, .int x1, .ref a2] [.int s0] M bc bs Φ := by
  exact Ev.iret dBo_day_69 rfl rfl h
theorem bBo_day_95 {l : Launch} {G : Gx} {d : Nat} {bc bs : Nat} {Φ : OutV → Mm → Prop} (M : Mm) (a0 : Nat) (x1 : Int32) (a2 : Nat) (s0 : Int32)
    (h : Φ (.inl (some (.int s0))) M) :
    Ev l G d mBo_day 95 [.ref a0, .int x1, .ref a2] [.int s0] M bc bs Φ := by
  exact Ev.iret dBo_day_95 rfl rfl h
theorem bBo_day_100 {l : Launch} {G : Gx} {d : Nat} {bc bs : Nat} {Φ : OutV → Mm → Prop} (M : Mm) (a0 : Nat) (x1 : Int32) (a2 : Nat) (s0 : Int32)
    (h : Φ (.inl (some (.int s0))) M) :
    Ev l G d mBo_day 100 [.ref a0, .int x1, .ref a2] [.int s0] M bc bs Φ := by
  exact Ev.iret dBo_day_100 rfl rfl h
def mBo_call : MR := (⟨"BowingRow", "call", "(II)I"⟩, prog_1_method_13_code, 4, (Option.some .int))
theorem oBo_call : MOK mBo_call 2 := ⟨lwg_of 1091 (by decide +kernel) (by decide +kernel), lwg_of 91 (by decide +kernel) (by decide +kernel), ⟨by decide +kernel, by decide +kernel⟩, by decide +kernel, by decide⟩
theorem iBo_call : Cond.instanceMethod mBo_call.1 ∈ lwg := lwg_of 1089 (by decide +kernel) (by decide +kernel)
theorem sBo_call : Cond.selects mBo_call.1.cls mBo_call.1 mBo_call.1 ∈ lwg := lwg_of 1090 (by decide +kernel) (by decide +kernel)
theorem dBo_call_0 : decode mBo_call.2.1 0 = .ok (.aload_n 0, 1) := by decide +kernel
theorem dBo_call_1 : decode mBo_call.2.1 1 = .ok (.invokevirtual 162, 3) := by decide +kernel
theorem dBo_call_4 : decode mBo_call.2.1 4 = .ok (.iload_n 1, 1) := by decide +kernel
theorem dBo_call_5 : decode mBo_call.2.1 5 = .ok (.invokestatic 201, 3) := by decide +kernel
theorem dBo_call_8 : decode mBo_call.2.1 8 = .ok (.astore_n 3, 1) := by decide +kernel
theorem dBo_call_9 : decode mBo_call.2.1 9 = .ok (.aload_n 0, 1) := by decide +kernel
theorem dBo_call_10 : decode mBo_call.2.1 10 = .ok (.iload_n 2, 1) := by decide +kernel
theorem dBo_call_11 : decode mBo_call.2.1 11 = .ok (.iconst 4, 1) := by decide +kernel
theorem dBo_call_12 : decode mBo_call.2.1 12 = .ok (.invokevirtual 127, 3) := by decide +kernel
theorem dBo_call_15 : decode mBo_call.2.1 15 = .ok (.iload_n 2, 1) := by decide +kernel
theorem dBo_call_16 : decode mBo_call.2.1 16 = .ok (.tableswitch 52 0 3 #[32, 37, 42, 47], 32) := by decide +kernel
theorem dBo_call_48 : decode mBo_call.2.1 48 = .ok (.aload_n 3, 1) := by decide +kernel
theorem dBo_call_49 : decode mBo_call.2.1 49 = .ok (.getfield 205, 3) := by decide +kernel
theorem dBo_call_52 : decode mBo_call.2.1 52 = .ok (.ireturn, 1) := by decide +kernel
theorem dBo_call_53 : decode mBo_call.2.1 53 = .ok (.aload_n 3, 1) := by decide +kernel
theorem dBo_call_54 : decode mBo_call.2.1 54 = .ok (.getfield 210, 3) := by decide +kernel
theorem dBo_call_57 : decode mBo_call.2.1 57 = .ok (.ireturn, 1) := by decide +kernel
theorem dBo_call_58 : decode mBo_call.2.1 58 = .ok (.aload_n 3, 1) := by decide +kernel
theorem dBo_call_59 : decode mBo_call.2.1 59 = .ok (.getfield 213, 3) := by decide +kernel
theorem dBo_call_62 : decode mBo_call.2.1 62 = .ok (.ireturn, 1) := by decide +kernel
theorem dBo_call_63 : decode mBo_call.2.1 63 = .ok (.aload_n 3, 1) := by decide +kernel
theorem dBo_call_64 : decode mBo_call.2.1 64 = .ok (.getfield 216, 3) := by decide +kernel
theorem dBo_call_67 : decode mBo_call.2.1 67 = .ok (.ireturn, 1) := by decide +kernel
theorem dBo_call_68 : decode mBo_call.2.1 68 = .ok (.aload_n 3, 1) := by decide +kernel
theorem dBo_call_69 : decode mBo_call.2.1 69 = .ok (.getfield 219, 3) := by decide +kernel
theorem dBo_call_72 : decode mBo_call.2.1 72 = .ok (.ireturn, 1) := by decide +kernel
theorem bBo_call_0 {l : Launch} {G : Gx} {d : Nat} {bc bs : Nat} {Φ : OutV → Mm → Prop} (M : Mm) (a0 : Nat) (x1 : Int32) (x2 : Int32)
    (h : ((m_sh M a0).1 = 10) ∧ CallVC l G d mBo_call 4 [.ref a0, .int x1, .int x2, .null] [] mBo_dayAsItIs [.ref a0] M bc bs Φ) :
    Ev l G d mBo_call 0 [.ref a0, .int x1, .int x2, .null] [] M bc bs Φ := by
  refine Ev.aload_n dBo_call_0 rfl ?_
  have g1 := h.1
  replace h := h.2
  exact Ev.vcV (z := mBo_dayAsItIs) (ci := 10) [] [] rfl dBo_call_1 oBo_dayAsItIs rfl w557 iBo_dayAsItIs sBo_dayAsItIs (by decide) rfl g1 (Nat.le_of_ble_eq_true rfl) h
def mBo_callOf : MR := (⟨"BowingRow", "callOf", "(LBowingRow$Day;I)LBowingRow$Call;"⟩, prog_1_method_43_code, 2, (Option.some (.object "BowingRow$Call")))
theorem oBo_callOf : MOK mBo_callOf 2 := ⟨lwg_of 1094 (by decide +kernel) (by decide +kernel), lwg_of 91 (by decide +kernel) (by decide +kernel), ⟨by decide +kernel, by decide +kernel⟩, by decide +kernel, by decide⟩
theorem iBo_callOf : Cond.static mBo_callOf.1 ∈ lwg := lwg_of 1093 (by decide +kernel) (by decide +kernel)
theorem w1092 : Cond.methodLink "BowingRow" 201 ⟨"BowingRow", "callOf", "(LBowingRow$Day;I)LBowingRow$Call;"⟩ ∈ lwg := lwg_of 1092 (by decide +kernel) (by decide +kernel)
theorem bBo_call_4 {l : Launch} {G : Gx} {d : Nat} {bc bs : Nat} {Φ : OutV → Mm → Prop} (M : Mm) (a0 : Nat) (x1 : Int32) (x2 : Int32) (u3 : Value) (r0 : Nat)
    (h : CallVC l G d mBo_call 8 [.ref a0, .int x1, .int x2, u3] [] mBo_callOf [.ref r0, .int x1] M bc bs Φ) :
    Ev l G d mBo_call 4 [.ref a0, .int x1, .int x2, u3] [.ref r0] M bc bs Φ := by
  refine Ev.iload_n dBo_call_4 rfl ?_
  exact Ev.vcS (z := mBo_callOf) [.ref r0, .int x1] [] rfl dBo_call_5 oBo_callOf rfl w1092 iBo_callOf (Nat.le_of_ble_eq_true rfl) h
theorem bBo_call_8 {l : Launch} {G : Gx} {d : Nat} {bc bs : Nat} {Φ : OutV → Mm → Prop} (M : Mm) (a0 : Nat) (x1 : Int32) (x2 : Int32) (u3 : Value) (r0 : Nat)
    (h : ((m_sh M a0).1 = 10) ∧ CallVC l G d mBo_call 15 [.ref a0, .int x1, .int x2, .ref r0] [] mBo_checkWhat [.ref a0, .int x2, .int 4] M bc bs Φ) :
    Ev l G d mBo_call 8 [.ref a0, .int x1, .int x2, u3] [.ref r0] M bc bs Φ := by
  refine Ev.astore_n dBo_call_8 (by decide) ?_
  show Ev l G d mBo_call (_ + _) [.ref a0, .int x1, .int x2, .ref r0] [] M bc bs Φ
  refine Ev.aload_n dBo_call_9 rfl ?_
  refine Ev.iload_n dBo_call_10 rfl ?_
  refine Ev.iconst (v := 4) dBo_call_11 (by decide) ?_
  have g1 := h.1
  replace h := h.2
  exact Ev.vcV (z := mBo_checkWhat) (ci := 10) [.int x2, .int 4] [] rfl dBo_call_12 oBo_checkWhat rfl w718 iBo_checkWhat sBo_checkWhat (by decide) rfl g1 (Nat.le_of_ble_eq_true rfl) h
theorem fBo_210 : FOK "BowingRow" 210 0 3 false := ⟨RX0, TX0, nFd 0, rfl, by decide, rfl, by decide, rfl, lwg_of 316 (by decide +kernel) (by decide +kernel)⟩
theorem fBo_213 : FOK "BowingRow" 213 0 4 false := ⟨RX0, TX0, nFd 0, rfl, by decide, rfl, by decide, rfl, lwg_of 319 (by decide +kernel) (by decide +kernel)⟩
theorem fBo_216 : FOK "BowingRow" 216 0 2 false := ⟨RX0, TX0, nFd 0, rfl, by decide, rfl, by decide, rfl, lwg_of 313 (by decide +kernel) (by decide +kernel)⟩
theorem fBo_219 : FOK "BowingRow" 219 0 6 false := ⟨RX0, TX0, nFd 0, rfl, by decide, rfl, by decide, rfl, lwg_of 325 (by decide +kernel) (by decide +kernel)⟩
theorem bBo_call_15 {l : Launch} {G : Gx} {d : Nat} {bc bs : Nat} {Φ : OutV → Mm → Prop} (M : Mm) (a0 : Nat) (x1 : Int32) (x2 : Int32) (a3 : Nat)
    (h : (x2 = 0 → ((m_sh M a3).1 = 0) ∧ Φ (.inl (some (.int (m_i M a3 5)))) M) ∧ ((x2 = 1 → ((m_sh M a3).1 = 0) ∧ Φ (.inl (some (.int (m_i M a3 3)))) M) ∧ ((x2 = 2 → ((m_sh M a3).1 = 0) ∧ Φ (.inl (some (.int (m_i M a3 4)))) M) ∧ ((x2 = 3 → ((m_sh M a3).1 = 0) ∧ Φ (.inl (some (.int (m_i M a3 2)))) M) ∧ (¬ x2 = 0 → ¬ x2 = 1 → ¬ x2 = 2 → ¬ x2 = 3 → ((m_sh M a3).1 = 0) ∧ Φ (.inl (some (.int (m_i M a3 6)))) M))))) :
    Ev l G d mBo_call 15 [.ref a0, .int x1, .int x2, .ref a3] [] M bc bs Φ := by
  refine Ev.iload_n dBo_call_15 rfl ?_
  skip
  by_cases c : x2 = 0
  · refine Ev.tblAt 48 dBo_call_16 (by rw [c]; decide) (by rw [c]; decide) (by rw [c]; rfl) (by decide) ?_
    replace h := h.1 c
    refine Ev.aload_n dBo_call_48 rfl ?_
    have g1 := h.1
    replace h := h.2
    refine Ev.getI dBo_call_49 (Or.inl fBo_205) rfl g1 ?_
    exact Ev.iret dBo_call_52 rfl rfl h
  have c2 := c
  clear c
  replace h := h.2
  by_cases c : x2 = 1
  · refine Ev.tblAt 53 dBo_call_16 (by rw [c]; decide) (by rw [c]; decide) (by rw [c]; rfl) (by decide) ?_
    replace h := h.1 c
    refine Ev.aload_n dBo_call_53 rfl ?_
    have g3 := h.1
    replace h := h.2
    refine Ev.getI dBo_call_54 (Or.inl fBo_210) rfl g3 ?_
    exact Ev.iret dBo_call_57 rfl rfl h
  have c4 := c
  clear c
  replace h := h.2
  by_cases c : x2 = 2
  · refine Ev.tblAt 58 dBo_call_16 (by rw [c]; decide) (by rw [c]; decide) (by rw [c]; rfl) (by decide) ?_
    replace h := h.1 c
    refine Ev.aload_n dBo_call_58 rfl ?_
    have g5 := h.1
    replace h := h.2
    refine Ev.getI dBo_call_59 (Or.inl fBo_213) rfl g5 ?_
    exact Ev.iret dBo_call_62 rfl rfl h
  have c6 := c
  clear c
  replace h := h.2
  by_cases c : x2 = 3
  · refine Ev.tblAt 63 dBo_call_16 (by rw [c]; decide) (by rw [c]; decide) (by rw [c]; rfl) (by decide) ?_
    replace h := h.1 c
    refine Ev.aload_n dBo_call_63 rfl ?_
    have g7 := h.1
    replace h := h.2
    refine Ev.getI dBo_call_64 (Or.inl fBo_216) rfl g7 ?_
    exact Ev.iret dBo_call_67 rfl rfl h
  have c8 := c
  clear c
  replace h := h.2
  refine Ev.tblOut 68 dBo_call_16 ?_ (by decide) ?_
  · have e : ∀ k : Int32, ¬ x2 = k → ¬ x2.toInt = k.toInt := fun k h1 h2 => h1 (Int32.toInt_inj.mp h2)
    have := e 0 c2
    rw [show ((0 : Int32)).toInt = 0 from rfl] at this
    have := e 1 c4
    rw [show ((1 : Int32)).toInt = 1 from rfl] at this
    have := e 2 c6
    rw [show ((2 : Int32)).toInt = 2 from rfl] at this
    have := e 3 c8
    rw [show ((3 : Int32)).toInt = 3 from rfl] at this
    omega
  · replace h := h c2 c4 c6 c8
    refine Ev.aload_n dBo_call_68 rfl ?_
    have g9 := h.1
    replace h := h.2
    refine Ev.getI dBo_call_69 (Or.inl fBo_219) rfl g9 ?_
    exact Ev.iret dBo_call_72 rfl rfl h
theorem dBo_callOf_0 : decode mBo_callOf.2.1 0 = .ok (.iload_n 1, 1) := by decide +kernel
theorem dBo_callOf_1 : decode mBo_callOf.2.1 1 = .ok (.ifCond .lt 11, 3) := by decide +kernel
theorem dBo_callOf_4 : decode mBo_callOf.2.1 4 = .ok (.iload_n 1, 1) := by decide +kernel
theorem dBo_callOf_5 : decode mBo_callOf.2.1 5 = .ok (.aload_n 0, 1) := by decide +kernel
theorem dBo_callOf_6 : decode mBo_callOf.2.1 6 = .ok (.getfield 166, 3) := by decide +kernel
theorem dBo_callOf_9 : decode mBo_callOf.2.1 9 = .ok (.if_icmp .lt 13, 3) := by decide +kernel
theorem dBo_callOf_12 : decode mBo_callOf.2.1 12 = .ok (.new 332, 3) := by decide +kernel
theorem dBo_callOf_15 : decode mBo_callOf.2.1 15 = .ok (.dup, 1) := by decide +kernel
theorem dBo_callOf_16 : decode mBo_callOf.2.1 16 = .ok (.ldc 247, 2) := by decide +kernel
theorem dBo_callOf_18 : decode mBo_callOf.2.1 18 = .ok (.invokespecial 334, 3) := by decide +kernel
theorem dBo_callOf_21 : decode mBo_callOf.2.1 21 = .ok (.athrow, 1) := by decide +kernel
theorem dBo_callOf_22 : decode mBo_callOf.2.1 22 = .ok (.aload_n 0, 1) := by decide +kernel
theorem dBo_callOf_23 : decode mBo_callOf.2.1 23 = .ok (.getfield 241, 3) := by decide +kernel
theorem dBo_callOf_26 : decode mBo_callOf.2.1 26 = .ok (.iload_n 1, 1) := by decide +kernel
theorem dBo_callOf_27 : decode mBo_callOf.2.1 27 = .ok (.aaload, 1) := by decide +kernel
theorem dBo_callOf_28 : decode mBo_callOf.2.1 28 = .ok (.areturn, 1) := by decide +kernel
theorem bBo_callOf_0 {l : Launch} {G : Gx} {d : Nat} {bc bs : Nat} {Φ : OutV → Mm → Prop} (M : Mm) (a0 : Nat) (x1 : Int32)
    (h : (x1 < 0 → Ev l G d mBo_callOf 12 [.ref a0, .int x1] [] M bc bs Φ) ∧ (¬ x1 < 0 → ((m_sh M a0).1 = 1) ∧ (x1 < (m_i M a0 10) → ((m_sh M (m_r M a0 9)).1 = 30) ∧ (vp_in x1 (m_sh M (m_r M a0 9)).2) ∧ Φ (.inl (some (.ref (m_r M (m_r M a0 9) x1.toNatClampNeg)))) M) ∧ (¬ x1 < (m_i M a0 10) → Ev l G d mBo_callOf 12 [.ref a0, .int x1] [] M bc bs Φ))) :
    Ev l G d mBo_callOf 0 [.ref a0, .int x1] [] M bc bs Φ := by
  refine Ev.iload_n dBo_callOf_0 rfl ?_
  refine Ev.if_lt 12 (by decide) dBo_callOf_1 (fun c => ?_) (fun c => ?_)
  · replace h := h.1 c
    exact h
  · replace h := h.2 c
    refine Ev.iload_n dBo_callOf_4 rfl ?_
    refine Ev.aload_n dBo_callOf_5 rfl ?_
    have g1 := h.1
    replace h := h.2
    refine Ev.getI dBo_callOf_6 (Or.inl fBo_166) rfl g1 ?_
    refine Ev.icmp_lt 22 (by decide) dBo_callOf_9 (fun c => ?_) (fun c => ?_)
    · replace h := h.1 c
      refine Ev.aload_n dBo_callOf_22 rfl ?_
      refine Ev.getR dBo_callOf_23 (Or.inl fBo_241) rfl g1 ?_
      refine Ev.iload_n dBo_callOf_26 rfl ?_
      have g2 := h.1
      replace h := h.2
      have g3 := h.1
      replace h := h.2
      refine Ev.aald2 30 (by decide) dBo_callOf_27 g2 g3 ?_
      exact Ev.aret dBo_callOf_28 rfl (by first | exact Or.inl ⟨_, rfl⟩ | exact Or.inr ⟨_, rfl⟩) h
    · replace h := h.2 c
      exact h
theorem tBo_334 : (vx_atS "BowingRow" 334 "java/lang/IndexOutOfBoundsException" ["java/lang/RuntimeException", "java/lang/Exception"]).all (fun w => (lwg.contains w || lwx.contains w) && vx_ot w) = true := by decide +kernel
theorem w1095 : Cond.classLink "BowingRow" 332 "java/lang/IndexOutOfBoundsException" ∈ lwg := lwg_of 1095 (by decide +kernel) (by decide +kernel)
theorem w117 : Cond.initialized "java/lang/IndexOutOfBoundsException" ∈ lwg := lwg_of 117 (by decide +kernel) (by decide +kernel)
theorem bBo_callOf_12 {l : Launch} {G : Gx} {d : Nat} {bc bs : Nat} {Φ : OutV → Mm → Prop} (M : Mm) (a0 : Nat) (x1 : Int32)
    (h : l.stackTraces = false ∧ 6 ≤ d ∧ 1 ≤ bc ∧ 6 ≤ bs ∧ Φ (.inr "java/lang/IndexOutOfBoundsException") M) :
    Ev l G d mBo_callOf 12 [.ref a0, .int x1] [] M bc bs Φ := by
  exact Ev.throwS (cls := "java/lang/IndexOutOfBoundsException") (text := "no such call") (ik := 332) (is := 247) (ic := 334) h.1 (by decide +kernel) (w1095) (w117) (by decide +kernel) tBo_334 dBo_callOf_12 dBo_callOf_15 (Or.inl ⟨dBo_callOf_16, dBo_callOf_18, dBo_callOf_21⟩) (Nat.le_of_ble_eq_true rfl) h.2.1 h.2.2.1 h.2.2.2.1 h.2.2.2.2
def mBo_holder : MR := (⟨"BowingRow", "holder", "(II)I"⟩, prog_1_method_14_code, 4, (Option.some .int))
theorem oBo_holder : MOK mBo_holder 2 := ⟨lwg_of 1117 (by decide +kernel) (by decide +kernel), lwg_of 91 (by decide +kernel) (by decide +kernel), ⟨by decide +kernel, by decide +kernel⟩, by decide +kernel, by decide⟩
theorem iBo_holder : Cond.instanceMethod mBo_holder.1 ∈ lwg := lwg_of 1115 (by decide +kernel) (by decide +kernel)
theorem sBo_holder : Cond.selects mBo_holder.1.cls mBo_holder.1 mBo_holder.1 ∈ lwg := lwg_of 1116 (by decide +kernel) (by decide +kernel)
theorem dBo_holder_0 : decode mBo_holder.2.1 0 = .ok (.aload_n 0, 1) := by decide +kernel
theorem dBo_holder_1 : decode mBo_holder.2.1 1 = .ok (.invokevirtual 162, 3) := by decide +kernel
theorem dBo_holder_4 : decode mBo_holder.2.1 4 = .ok (.iload_n 1, 1) := by decide +kernel
theorem dBo_holder_5 : decode mBo_holder.2.1 5 = .ok (.invokestatic 201, 3) := by decide +kernel
theorem dBo_holder_8 : decode mBo_holder.2.1 8 = .ok (.astore_n 3, 1) := by decide +kernel
theorem dBo_holder_9 : decode mBo_holder.2.1 9 = .ok (.aload_n 3, 1) := by decide +kernel
theorem dBo_holder_10 : decode mBo_holder.2.1 10 = .ok (.getfield 222, 3) := by decide +kernel
theorem dBo_holder_13 : decode mBo_holder.2.1 13 = .ok (.ifCond .ne 23, 3) := by decide +kernel
theorem dBo_holder_16 : decode mBo_holder.2.1 16 = .ok (.iload_n 2, 1) := by decide +kernel
theorem dBo_holder_17 : decode mBo_holder.2.1 17 = .ok (.ifCond .lt 19, 3) := by decide +kernel
theorem dBo_holder_20 : decode mBo_holder.2.1 20 = .ok (.iload_n 2, 1) := by decide +kernel
theorem dBo_holder_21 : decode mBo_holder.2.1 21 = .ok (.aload_n 3, 1) := by decide +kernel
theorem dBo_holder_22 : decode mBo_holder.2.1 22 = .ok (.getfield 213, 3) := by decide +kernel
theorem dBo_holder_25 : decode mBo_holder.2.1 25 = .ok (.if_icmp .gt 11, 3) := by decide +kernel
theorem dBo_holder_28 : decode mBo_holder.2.1 28 = .ok (.aload_n 3, 1) := by decide +kernel
theorem dBo_holder_29 : decode mBo_holder.2.1 29 = .ok (.getfield 225, 3) := by decide +kernel
theorem dBo_holder_32 : decode mBo_holder.2.1 32 = .ok (.iconst 1, 1) := by decide +kernel
theorem dBo_holder_33 : decode mBo_holder.2.1 33 = .ok (.if_icmp .ge 5, 3) := by decide +kernel
theorem dBo_holder_36 : decode mBo_holder.2.1 36 = .ok (.iconst (-1), 1) := by decide +kernel
theorem dBo_holder_37 : decode mBo_holder.2.1 37 = .ok (.ireturn, 1) := by decide +kernel
theorem dBo_holder_38 : decode mBo_holder.2.1 38 = .ok (.aload_n 3, 1) := by decide +kernel
theorem dBo_holder_39 : decode mBo_holder.2.1 39 = .ok (.getfield 226, 3) := by decide +kernel
theorem dBo_holder_42 : decode mBo_holder.2.1 42 = .ok (.iload_n 2, 1) := by decide +kernel
theorem dBo_holder_43 : decode mBo_holder.2.1 43 = .ok (.aload_n 3, 1) := by decide +kernel
theorem dBo_holder_44 : decode mBo_holder.2.1 44 = .ok (.getfield 225, 3) := by decide +kernel
theorem dBo_holder_47 : decode mBo_holder.2.1 47 = .ok (.irem, 1) := by decide +kernel
theorem dBo_holder_48 : decode mBo_holder.2.1 48 = .ok (.iaload, 1) := by decide +kernel
theorem dBo_holder_49 : decode mBo_holder.2.1 49 = .ok (.ireturn, 1) := by decide +kernel
theorem bBo_holder_0 {l : Launch} {G : Gx} {d : Nat} {bc bs : Nat} {Φ : OutV → Mm → Prop} (M : Mm) (a0 : Nat) (x1 : Int32) (x2 : Int32)
    (h : ((m_sh M a0).1 = 10) ∧ CallVC l G d mBo_holder 4 [.ref a0, .int x1, .int x2, .null] [] mBo_dayAsItIs [.ref a0] M bc bs Φ) :
    Ev l G d mBo_holder 0 [.ref a0, .int x1, .int x2, .null] [] M bc bs Φ := by
  refine Ev.aload_n dBo_holder_0 rfl ?_
  have g1 := h.1
  replace h := h.2
  exact Ev.vcV (z := mBo_dayAsItIs) (ci := 10) [] [] rfl dBo_holder_1 oBo_dayAsItIs rfl w557 iBo_dayAsItIs sBo_dayAsItIs (by decide) rfl g1 (Nat.le_of_ble_eq_true rfl) h
theorem bBo_holder_4 {l : Launch} {G : Gx} {d : Nat} {bc bs : Nat} {Φ : OutV → Mm → Prop} (M : Mm) (a0 : Nat) (x1 : Int32) (x2 : Int32) (u3 : Value) (r0 : Nat)
    (h : CallVC l G d mBo_holder 8 [.ref a0, .int x1, .int x2, u3] [] mBo_callOf [.ref r0, .int x1] M bc bs Φ) :
    Ev l G d mBo_holder 4 [.ref a0, .int x1, .int x2, u3] [.ref r0] M bc bs Φ := by
  refine Ev.iload_n dBo_holder_4 rfl ?_
  exact Ev.vcS (z := mBo_callOf) [.ref r0, .int x1] [] rfl dBo_holder_5 oBo_callOf rfl w1092 iBo_callOf (Nat.le_of_ble_eq_true rfl) h
theorem fBo_222 : FOK "BowingRow" 222 0 7 false := ⟨RX0, TX0, nFd 0, rfl, by decide, rfl, by decide, rfl, lwg_of 328 (by decide +kernel) (by decide +kernel)⟩
theorem fBo_225 : FOK "BowingRow" 225 0 1 false := ⟨RX0, TX0, nFd 0, rfl, by decide, rfl, by decide, rfl, lwg_of 311 (by decide +kernel) (by decide +kernel)⟩
theorem fBo_226 : FOK "BowingRow" 226 0 0 true := ⟨RX0, TX0, nFd 0, rfl, by decide, rfl, by decide, rfl, lwg_of 308 (by decide +kernel) (by decide +kernel)⟩
theorem bBo_holder_8 {l : Launch} {G : Gx} {d : Nat} {bc bs : Nat} {Φ : OutV → Mm → Prop} (M : Mm) (a0 : Nat) (x1 : Int32) (x2 : Int32) (u3 : Value) (r0 : Nat)
    (h : ((m_sh M r0).1 = 0) ∧ (¬ (m_i M r0 7) = 0 → Φ (.inl (some (.int ((-1))))) M) ∧ ((m_i M r0 7) = 0 → (x2 < 0 → Φ (.inl (some (.int ((-1))))) M) ∧ (¬ x2 < 0 → ((m_i M r0 4) < x2 → Φ (.inl (some (.int ((-1))))) M) ∧ (¬ (m_i M r0 4) < x2 → (1 ≤ (m_i M r0 1) → (¬ (m_i M r0 1) = 0) ∧ ((m_sh M (m_r M r0 0)).1 = 20) ∧ (vp_in (x2 - x2 / (m_i M r0 1) * (m_i M r0 1)) (m_sh M (m_r M r0 0)).2) ∧ Φ (.inl (some (.int (m_i M (m_r M r0 0) (x2 - x2 / (m_i M r0 1) * (m_i M r0 1)).toNatClampNeg)))) M) ∧ (¬ 1 ≤ (m_i M r0 1) → Φ (.inl (some (.int ((-1))))) M))))) :
    Ev l G d mBo_holder 8 [.ref a0, .int x1, .int x2, u3] [.ref r0] M bc bs Φ := by
  refine Ev.astore_n dBo_holder_8 (by decide) ?_
  show Ev l G d mBo_holder (_ + _) [.ref a0, .int x1, .int x2, .ref r0] [] M bc bs Φ
  refine Ev.aload_n dBo_holder_9 rfl ?_
  have g1 := h.1
  replace h := h.2
  refine Ev.getI dBo_holder_10 (Or.inl fBo_222) rfl g1 ?_
  refine Ev.if_ne 36 (by decide) dBo_holder_13 (fun c => ?_) (fun c => ?_)
  · replace h := h.1 c
    refine Ev.iconst (v := (-1)) dBo_holder_36 (by decide) ?_
    exact Ev.iret dBo_holder_37 rfl rfl h
  · replace h := h.2 c
    refine Ev.iload_n dBo_holder_16 rfl ?_
    refine Ev.if_lt 36 (by decide) dBo_holder_17 (fun c => ?_) (fun c => ?_)
    · replace h := h.1 c
      refine Ev.iconst (v := (-1)) dBo_holder_36 (by decide) ?_
      exact Ev.iret dBo_holder_37 rfl rfl h
    · replace h := h.2 c
      refine Ev.iload_n dBo_holder_20 rfl ?_
      refine Ev.aload_n dBo_holder_21 rfl ?_
      refine Ev.getI dBo_holder_22 (Or.inl fBo_213) rfl g1 ?_
      refine Ev.icmp_gt 36 (by decide) dBo_holder_25 (fun c => ?_) (fun c => ?_)
      · replace h := h.1 c
        refine Ev.iconst (v := (-1)) dBo_holder_36 (by decide) ?_
        exact Ev.iret dBo_holder_37 rfl rfl h
      · replace h := h.2 c
        refine Ev.aload_n dBo_holder_28 rfl ?_
        refine Ev.getI dBo_holder_29 (Or.inl fBo_225) rfl g1 ?_
        refine Ev.iconst (v := 1) dBo_holder_32 (by decide) ?_
        refine Ev.icmp_ge 38 (by decide) dBo_holder_33 (fun c => ?_) (fun c => ?_)
        · replace h := h.1 c
          refine Ev.aload_n dBo_holder_38 rfl ?_
          refine Ev.getR dBo_holder_39 (Or.inl fBo_226) rfl g1 ?_
          refine Ev.iload_n dBo_holder_42 rfl ?_
          refine Ev.aload_n dBo_holder_43 rfl ?_
          refine Ev.getI dBo_holder_44 (Or.inl fBo_225) rfl g1 ?_
          have g2 := h.1
          replace h := h.2
          refine Ev.irem dBo_holder_47 g2 ?_
          have g3 := h.1
          replace h := h.2
          have g4 := h.1
          replace h := h.2
          refine Ev.iald2 dBo_holder_48 g3 g4 ?_
          exact Ev.iret dBo_holder_49 rfl rfl h
        · replace h := h.2 c
          refine Ev.iconst (v := (-1)) dBo_holder_36 (by decide) ?_
          exact Ev.iret dBo_holder_37 rfl rfl h
def mBo_ends : MR := (⟨"BowingRow", "ends", "(I)I"⟩, prog_1_method_15_code, 2, (Option.some .int))
theorem oBo_ends : MOK mBo_ends 1 := ⟨lwg_of 1124 (by decide +kernel) (by decide +kernel), lwg_of 91 (by decide +kernel) (by decide +kernel), ⟨by decide +kernel, by decide +kernel⟩, by decide +kernel, by decide⟩
theorem iBo_ends : Cond.instanceMethod mBo_ends.1 ∈ lwg := lwg_of 1122 (by decide +kernel) (by decide +kernel)
theorem sBo_ends : Cond.selects mBo_ends.1.cls mBo_ends.1 mBo_ends.1 ∈ lwg := lwg_of 1123 (by decide +kernel) (by decide +kernel)
theorem dBo_ends_0 : decode mBo_ends.2.1 0 = .ok (.aload_n 0, 1) := by decide +kernel
theorem dBo_ends_1 : decode mBo_ends.2.1 1 = .ok (.iload_n 1, 1) := by decide +kernel
theorem dBo_ends_2 : decode mBo_ends.2.1 2 = .ok (.invokevirtual 134, 3) := by decide +kernel
theorem dBo_ends_5 : decode mBo_ends.2.1 5 = .ok (.aload_n 0, 1) := by decide +kernel
theorem dBo_ends_6 : decode mBo_ends.2.1 6 = .ok (.invokevirtual 162, 3) := by decide +kernel
theorem dBo_ends_9 : decode mBo_ends.2.1 9 = .ok (.getfield 229, 3) := by decide +kernel
theorem dBo_ends_12 : decode mBo_ends.2.1 12 = .ok (.iload_n 1, 1) := by decide +kernel
theorem dBo_ends_13 : decode mBo_ends.2.1 13 = .ok (.iaload, 1) := by decide +kernel
theorem dBo_ends_14 : decode mBo_ends.2.1 14 = .ok (.ireturn, 1) := by decide +kernel
theorem bBo_ends_0 {l : Launch} {G : Gx} {d : Nat} {bc bs : Nat} {Φ : OutV → Mm → Prop} (M : Mm) (a0 : Nat) (x1 : Int32)
    (h : ((m_sh M a0).1 = 10) ∧ CallVC l G d mBo_ends 5 [.ref a0, .int x1] [] mBo_checkPerson [.ref a0, .int x1] M bc bs Φ) :
    Ev l G d mBo_ends 0 [.ref a0, .int x1] [] M bc bs Φ := by
  refine Ev.aload_n dBo_ends_0 rfl ?_
  refine Ev.iload_n dBo_ends_1 rfl ?_
  have g1 := h.1
  replace h := h.2
  exact Ev.vcV (z := mBo_checkPerson) (ci := 10) [.int x1] [] rfl dBo_ends_2 oBo_checkPerson rfl w1006 iBo_checkPerson sBo_checkPerson (by decide) rfl g1 (Nat.le_of_ble_eq_true rfl) h
theorem bBo_ends_5 {l : Launch} {G : Gx} {d : Nat} {bc bs : Nat} {Φ : OutV → Mm → Prop} (M : Mm) (a0 : Nat) (x1 : Int32)
    (h : ((m_sh M a0).1 = 10) ∧ CallVC l G d mBo_ends 9 [.ref a0, .int x1] [] mBo_dayAsItIs [.ref a0] M bc bs Φ) :
    Ev l G d mBo_ends 5 [.ref a0, .int x1] [] M bc bs Φ := by
  refine Ev.aload_n dBo_ends_5 rfl ?_
  have g1 := h.1
  replace h := h.2
  exact Ev.vcV (z := mBo_dayAsItIs) (ci := 10) [] [] rfl dBo_ends_6 oBo_dayAsItIs rfl w557 iBo_dayAsItIs sBo_dayAsItIs (by decide) rfl g1 (Nat.le_of_ble_eq_true rfl) h
theorem fBo_229 : FOK "BowingRow" 229 1 11 true := ⟨RX1, TX1, nFd 1, rfl, by decide, rfl, by decide, rfl, lwg_of 367 (by decide +kernel) (by decide +kernel)⟩
theorem bBo_ends_9 {l : Launch} {G : Gx} {d : Nat} {bc bs : Nat} {Φ : OutV → Mm → Prop} (M : Mm) (a0 : Nat) (x1 : Int32) (r0 : Nat)
    (h : ((m_sh M r0).1 = 1) ∧ ((m_sh M (m_r M r0 11)).1 = 20) ∧ (vp_in x1 (m_sh M (m_r M r0 11)).2) ∧ Φ (.inl (some (.int (m_i M (m_r M r0 11) x1.toNatClampNeg)))) M) :
    Ev l G d mBo_ends 9 [.ref a0, .int x1] [.ref r0] M bc bs Φ := by
  have g1 := h.1
  replace h := h.2
  refine Ev.getR dBo_ends_9 (Or.inl fBo_229) rfl g1 ?_
  refine Ev.iload_n dBo_ends_12 rfl ?_
  have g2 := h.1
  replace h := h.2
  have g3 := h.1
  replace h := h.2
  refine Ev.iald2 dBo_ends_13 g2 g3 ?_
  exact Ev.iret dBo_ends_14 rfl rfl h
def mBo_balance : MR := (⟨"BowingRow", "balance", "(I)I"⟩, prog_1_method_16_code, 2, (Option.some .int))
theorem oBo_balance : MOK mBo_balance 1 := ⟨lwg_of 1131 (by decide +kernel) (by decide +kernel), lwg_of 91 (by decide +kernel) (by decide +kernel), ⟨by decide +kernel, by decide +kernel⟩, by decide +kernel, by decide⟩
theorem iBo_balance : Cond.instanceMethod mBo_balance.1 ∈ lwg := lwg_of 1129 (by decide +kernel) (by decide +kernel)
theorem sBo_balance : Cond.selects mBo_balance.1.cls mBo_balance.1 mBo_balance.1 ∈ lwg := lwg_of 1130 (by decide +kernel) (by decide +kernel)
theorem dBo_balance_0 : decode mBo_balance.2.1 0 = .ok (.aload_n 0, 1) := by decide +kernel
theorem dBo_balance_1 : decode mBo_balance.2.1 1 = .ok (.iload_n 1, 1) := by decide +kernel
theorem dBo_balance_2 : decode mBo_balance.2.1 2 = .ok (.invokevirtual 134, 3) := by decide +kernel
theorem dBo_balance_5 : decode mBo_balance.2.1 5 = .ok (.aload_n 0, 1) := by decide +kernel
theorem dBo_balance_6 : decode mBo_balance.2.1 6 = .ok (.invokevirtual 162, 3) := by decide +kernel
theorem dBo_balance_9 : decode mBo_balance.2.1 9 = .ok (.getfield 182, 3) := by decide +kernel
theorem dBo_balance_12 : decode mBo_balance.2.1 12 = .ok (.getfield 232, 3) := by decide +kernel
theorem dBo_balance_15 : decode mBo_balance.2.1 15 = .ok (.iload_n 1, 1) := by decide +kernel
theorem dBo_balance_16 : decode mBo_balance.2.1 16 = .ok (.iaload, 1) := by decide +kernel
theorem dBo_balance_17 : decode mBo_balance.2.1 17 = .ok (.ireturn, 1) := by decide +kernel
theorem bBo_balance_0 {l : Launch} {G : Gx} {d : Nat} {bc bs : Nat} {Φ : OutV → Mm → Prop} (M : Mm) (a0 : Nat) (x1 : Int32)
    (h : ((m_sh M a0).1 = 10) ∧ CallVC l G d mBo_balance 5 [.ref a0, .int x1] [] mBo_checkPerson [.ref a0, .int x1] M bc bs Φ) :
    Ev l G d mBo_balance 0 [.ref a0, .int x1] [] M bc bs Φ := by
  refine Ev.aload_n dBo_balance_0 rfl ?_
  refine Ev.iload_n dBo_balance_1 rfl ?_
  have g1 := h.1
  replace h := h.2
  exact Ev.vcV (z := mBo_checkPerson) (ci := 10) [.int x1] [] rfl dBo_balance_2 oBo_checkPerson rfl w1006 iBo_checkPerson sBo_checkPerson (by decide) rfl g1 (Nat.le_of_ble_eq_true rfl) h
theorem bBo_balance_5 {l : Launch} {G : Gx} {d : Nat} {bc bs : Nat} {Φ : OutV → Mm → Prop} (M : Mm) (a0 : Nat) (x1 : Int32)
    (h : ((m_sh M a0).1 = 10) ∧ CallVC l G d mBo_balance 9 [.ref a0, .int x1] [] mBo_dayAsItIs [.ref a0] M bc bs Φ) :
    Ev l G d mBo_balance 5 [.ref a0, .int x1] [] M bc bs Φ := by
  refine Ev.aload_n dBo_balance_5 rfl ?_
  have g1 := h.1
  replace h := h.2
  exact Ev.vcV (z := mBo_dayAsItIs) (ci := 10) [] [] rfl dBo_balance_6 oBo_dayAsItIs rfl w557 iBo_dayAsItIs sBo_dayAsItIs (by decide) rfl g1 (Nat.le_of_ble_eq_true rfl) h
theorem fBo_232 : FOK "BowingRow" 232 5 5 true := ⟨RX5, TX5, nFd 5, rfl, by decide, rfl, by decide, rfl, lwg_of 282 (by decide +kernel) (by decide +kernel)⟩
theorem bBo_balance_9 {l : Launch} {G : Gx} {d : Nat} {bc bs : Nat} {Φ : OutV → Mm → Prop} (M : Mm) (a0 : Nat) (x1 : Int32) (r0 : Nat)
    (h : ((m_sh M r0).1 = 1) ∧ ((m_sh M (m_r M r0 12)).1 = 5) ∧ ((m_sh M (m_r M (m_r M r0 12) 5)).1 = 20) ∧ (vp_in x1 (m_sh M (m_r M (m_r M r0 12) 5)).2) ∧ Φ (.inl (some (.int (m_i M (m_r M (m_r M r0 12) 5) x1.toNatClampNeg)))) M) :
    Ev l G d mBo_balance 9 [.ref a0, .int x1] [.ref r0] M bc bs Φ := by
  have g1 := h.1
  replace h := h.2
  refine Ev.getR dBo_balance_9 (Or.inl fBo_182) rfl g1 ?_
  have g2 := h.1
  replace h := h.2
  refine Ev.getR dBo_balance_12 (Or.inl fBo_232) rfl g2 ?_
  refine Ev.iload_n dBo_balance_15 rfl ?_
  have g3 := h.1
  replace h := h.2
  have g4 := h.1
  replace h := h.2
  refine Ev.iald2 dBo_balance_16 g3 g4 ?_
  exact Ev.iret dBo_balance_17 rfl rfl h
