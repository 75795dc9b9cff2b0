def mjA_fill : MR := (⟨"java/util/Arrays", "fill", "([II)V"⟩, prog_33_method_103_code, 4, none)
theorem ojA_fill : MOK mjA_fill 2 := ⟨lwg_of 236 (by decide +kernel) (by decide +kernel), lwg_of 96 (by decide +kernel) (by decide +kernel), ⟨by decide +kernel, by decide +kernel⟩, by decide +kernel, by decide⟩
theorem ijA_fill : Cond.static mjA_fill.1 ∈ lwg := lwg_of 235 (by decide +kernel) (by decide +kernel)
theorem djA_fill_0 : decode mjA_fill.2.1 0 = .ok (.iconst 0, 1) := by decide +kernel
theorem djA_fill_1 : decode mjA_fill.2.1 1 = .ok (.istore_n 2, 1) := by decide +kernel
theorem djA_fill_2 : decode mjA_fill.2.1 2 = .ok (.aload_n 0, 1) := by decide +kernel
theorem djA_fill_3 : decode mjA_fill.2.1 3 = .ok (.arraylength, 1) := by decide +kernel
theorem djA_fill_4 : decode mjA_fill.2.1 4 = .ok (.istore_n 3, 1) := by decide +kernel
theorem djA_fill_5 : decode mjA_fill.2.1 5 = .ok (.iload_n 2, 1) := by decide +kernel
theorem djA_fill_6 : decode mjA_fill.2.1 6 = .ok (.iload_n 3, 1) := by decide +kernel
theorem djA_fill_7 : decode mjA_fill.2.1 7 = .ok (.if_icmp .ge 13, 3) := by decide +kernel
theorem djA_fill_10 : decode mjA_fill.2.1 10 = .ok (.aload_n 0, 1) := by decide +kernel
theorem djA_fill_11 : decode mjA_fill.2.1 11 = .ok (.iload_n 2, 1) := by decide +kernel
theorem djA_fill_12 : decode mjA_fill.2.1 12 = .ok (.iload_n 1, 1) := by decide +kernel
theorem djA_fill_13 : decode mjA_fill.2.1 13 = .ok (.iastore, 1) := by decide +kernel
theorem djA_fill_14 : decode mjA_fill.2.1 14 = .ok (.iinc 2 1, 3) := by decide +kernel
theorem djA_fill_17 : decode mjA_fill.2.1 17 = .ok (.goto (-12), 3) := by decide +kernel
theorem djA_fill_20 : decode mjA_fill.2.1 20 = .ok (.return_, 1) := by decide +kernel
theorem bjA_fill_0 {l : Launch} {G : Gx} {d : Nat} {bc bs : Nat} {Φ : OutV → Mm → Prop} (M : Mm) (a0 : Nat) (x1 : Int32)
    (h : ((m_sh M a0).1 = 20) ∧ Ev l G d mjA_fill 5 [.ref a0, .int x1, .int 0, .int (Int32.ofNat (m_sh M a0).2)] [] M bc bs Φ) :
    Ev l G d mjA_fill 0 [.ref a0, .int x1, .null, .null] [] M bc bs Φ := by
  refine Ev.iconst (v := 0) djA_fill_0 (by decide) ?_
  refine Ev.istore_n djA_fill_1 (by decide) ?_
  show Ev l G d mjA_fill (_ + _) [.ref a0, .int x1, .int 0, .null] [] M bc bs Φ
  refine Ev.aload_n djA_fill_2 rfl ?_
  have g1 := h.1
  replace h := h.2
  refine Ev.alen2 20 (by decide) djA_fill_3 g1 ?_
  refine Ev.istore_n djA_fill_4 (by decide) ?_
  show Ev l G d mjA_fill (_ + _) [.ref a0, .int x1, .int 0, .int (Int32.ofNat (m_sh M a0).2)] [] M bc bs Φ
  exact h
theorem bjA_fill_5 {l : Launch} {G : Gx} {d : Nat} {bc bs : Nat} {Φ : OutV → Mm → Prop} (M : Mm) (a0 : Nat) (x1 : Int32) (x2 : Int32) (x3 : Int32)
    (h : (x3 ≤ x2 → Φ (.inl none) M) ∧ (¬ x3 ≤ x2 → ((m_sh M a0).1 = 20) ∧ (vp_in x2 (m_sh M a0).2) ∧ Ev l G d mjA_fill 5 [.ref a0, .int x1, .int (x2 + 1), .int x3] [] (m_si M a0 x2.toNatClampNeg x1) bc bs Φ)) :
    Ev l G d mjA_fill 5 [.ref a0, .int x1, .int x2, .int x3] [] M bc bs Φ := by
  refine Ev.iload_n djA_fill_5 rfl ?_
  refine Ev.iload_n djA_fill_6 rfl ?_
  refine Ev.icmp_ge 20 (by decide) djA_fill_7 (fun c => ?_) (fun c => ?_)
  · replace h := h.1 c
    exact Ev.vret djA_fill_20 rfl h
  · replace h := h.2 c
    refine Ev.aload_n djA_fill_10 rfl ?_
    refine Ev.iload_n djA_fill_11 rfl ?_
    refine Ev.iload_n djA_fill_12 rfl ?_
    have g1 := h.1
    replace h := h.2
    have g2 := h.1
    replace h := h.2
    refine Ev.iast2 djA_fill_13 g1 g2 ?_
    refine Ev.iinc (v := x2 + 1) djA_fill_14 (by decide) rfl rfl ?_
    show Ev l G d mjA_fill (_ + _) [.ref a0, .int x1, .int (x2 + 1), .int x3] [] (m_si M a0 x2.toNatClampNeg x1) bc bs Φ
    refine Ev.goto 5 djA_fill_17 (by decide) ?_
    exact h
def mjA_fill_2 : MR := (⟨"java/util/Arrays", "fill", "([BB)V"⟩, prog_33_method_109_code, 4, none)
theorem ojA_fill_2 : MOK mjA_fill_2 2 := ⟨lwg_of 667 (by decide +kernel) (by decide +kernel), lwg_of 96 (by decide +kernel) (by decide +kernel), ⟨by decide +kernel, by decide +kernel⟩, by decide +kernel, by decide⟩
theorem ijA_fill_2 : Cond.static mjA_fill_2.1 ∈ lwg := lwg_of 666 (by decide +kernel) (by decide +kernel)
theorem djA_fill_2_0 : decode mjA_fill_2.2.1 0 = .ok (.iconst 0, 1) := by decide +kernel
theorem djA_fill_2_1 : decode mjA_fill_2.2.1 1 = .ok (.istore_n 2, 1) := by decide +kernel
theorem djA_fill_2_2 : decode mjA_fill_2.2.1 2 = .ok (.aload_n 0, 1) := by decide +kernel
theorem djA_fill_2_3 : decode mjA_fill_2.2.1 3 = .ok (.arraylength, 1) := by decide +kernel
theorem djA_fill_2_4 : decode mjA_fill_2.2.1 4 = .ok (.istore_n 3, 1) := by decide +kernel
theorem djA_fill_2_5 : decode mjA_fill_2.2.1 5 = .ok (.iload_n 2, 1) := by decide +kernel
theorem djA_fill_2_6 : decode mjA_fill_2.2.1 6 = .ok (.iload_n 3, 1) := by decide +kernel
theorem djA_fill_2_7 : decode mjA_fill_2.2.1 7 = .ok (.if_icmp .ge 13, 3) := by decide +kernel
theorem djA_fill_2_10 : decode mjA_fill_2.2.1 10 = .ok (.aload_n 0, 1) := by decide +kernel
theorem djA_fill_2_11 : decode mjA_fill_2.2.1 11 = .ok (.iload_n 2, 1) := by decide +kernel
theorem djA_fill_2_12 : decode mjA_fill_2.2.1 12 = .ok (.iload_n 1, 1) := by decide +kernel
theorem djA_fill_2_13 : decode mjA_fill_2.2.1 13 = .ok (.bastore, 1) := by decide +kernel
theorem djA_fill_2_14 : decode mjA_fill_2.2.1 14 = .ok (.iinc 2 1, 3) := by decide +kernel
theorem djA_fill_2_17 : decode mjA_fill_2.2.1 17 = .ok (.goto (-12), 3) := by decide +kernel
theorem djA_fill_2_20 : decode mjA_fill_2.2.1 20 = .ok (.return_, 1) := by decide +kernel
theorem bjA_fill_2_0 {l : Launch} {G : Gx} {d : Nat} {bc bs : Nat} {Φ : OutV → Mm → Prop} (M : Mm) (a0 : Nat) (x1 : Int32)
    (h : ((m_sh M a0).1 = 21) ∧ Ev l G d mjA_fill_2 5 [.ref a0, .int x1, .int 0, .int (Int32.ofNat (m_sh M a0).2)] [] M bc bs Φ) :
    Ev l G d mjA_fill_2 0 [.ref a0, .int x1, .null, .null] [] M bc bs Φ := by
  refine Ev.iconst (v := 0) djA_fill_2_0 (by decide) ?_
  refine Ev.istore_n djA_fill_2_1 (by decide) ?_
  show Ev l G d mjA_fill_2 (_ + _) [.ref a0, .int x1, .int 0, .null] [] M bc bs Φ
  refine Ev.aload_n djA_fill_2_2 rfl ?_
  have g1 := h.1
  replace h := h.2
  refine Ev.alen2 21 (by decide) djA_fill_2_3 g1 ?_
  refine Ev.istore_n djA_fill_2_4 (by decide) ?_
  show Ev l G d mjA_fill_2 (_ + _) [.ref a0, .int x1, .int 0, .int (Int32.ofNat (m_sh M a0).2)] [] M bc bs Φ
  exact h
theorem bjA_fill_2_5 {l : Launch} {G : Gx} {d : Nat} {bc bs : Nat} {Φ : OutV → Mm → Prop} (M : Mm) (a0 : Nat) (x1 : Int32) (x2 : Int32) (x3 : Int32)
    (h : (x3 ≤ x2 → Φ (.inl none) M) ∧ (¬ x3 ≤ x2 → ((m_sh M a0).1 = 21) ∧ (vp_in x2 (m_sh M a0).2) ∧ Ev l G d mjA_fill_2 5 [.ref a0, .int x1, .int (x2 + 1), .int x3] [] (m_si M a0 x2.toNatClampNeg (vp_nar .byte x1)) bc bs Φ)) :
    Ev l G d mjA_fill_2 5 [.ref a0, .int x1, .int x2, .int x3] [] M bc bs Φ := by
  refine Ev.iload_n djA_fill_2_5 rfl ?_
  refine Ev.iload_n djA_fill_2_6 rfl ?_
  refine Ev.icmp_ge 20 (by decide) djA_fill_2_7 (fun c => ?_) (fun c => ?_)
  · replace h := h.1 c
    exact Ev.vret djA_fill_2_20 rfl h
  · replace h := h.2 c
    refine Ev.aload_n djA_fill_2_10 rfl ?_
    refine Ev.iload_n djA_fill_2_11 rfl ?_
    refine Ev.iload_n djA_fill_2_12 rfl ?_
    have g1 := h.1
    replace h := h.2
    have g2 := h.1
    replace h := h.2
    refine Ev.bast2 djA_fill_2_13 g1 g2 ?_
    refine Ev.iinc (v := x2 + 1) djA_fill_2_14 (by decide) rfl rfl ?_
    show Ev l G d mjA_fill_2 (_ + _) [.ref a0, .int x1, .int (x2 + 1), .int x3] [] (m_si M a0 x2.toNatClampNeg (vp_nar .byte x1)) bc bs Φ
    refine Ev.goto 5 djA_fill_2_17 (by decide) ?_
    exact h
