def mjM_min : MR := (⟨"java/lang/Math", "min", "(II)I"⟩, prog_24_method_69_code, 2, (Option.some .int))
theorem ojM_min : MOK mjM_min 2 := ⟨lwg_of 639 (by decide +kernel) (by decide +kernel), lwg_of 115 (by decide +kernel) (by decide +kernel), ⟨by decide +kernel, by decide +kernel⟩, by decide +kernel, by decide⟩
theorem ijM_min : Cond.static mjM_min.1 ∈ lwg := lwg_of 638 (by decide +kernel) (by decide +kernel)
theorem djM_min_0 : decode mjM_min.2.1 0 = .ok (.iload_n 0, 1) := by decide +kernel
theorem djM_min_1 : decode mjM_min.2.1 1 = .ok (.iload_n 1, 1) := by decide +kernel
theorem djM_min_2 : decode mjM_min.2.1 2 = .ok (.if_icmp .gt 7, 3) := by decide +kernel
theorem djM_min_5 : decode mjM_min.2.1 5 = .ok (.iload_n 0, 1) := by decide +kernel
theorem djM_min_6 : decode mjM_min.2.1 6 = .ok (.goto 4, 3) := by decide +kernel
theorem djM_min_9 : decode mjM_min.2.1 9 = .ok (.iload_n 1, 1) := by decide +kernel
theorem djM_min_10 : decode mjM_min.2.1 10 = .ok (.ireturn, 1) := by decide +kernel
theorem bjM_min_0 {l : Launch} {G : Gx} {d : Nat} {bc bs : Nat} {Φ : OutV → Mm → Prop} (M : Mm) (x0 : Int32) (x1 : Int32)
    (h : (x1 < x0 → Φ (.inl (some (.int x1))) M) ∧ (¬ x1 < x0 → Φ (.inl (some (.int x0))) M)) :
    Ev l G d mjM_min 0 [.int x0, .int x1] [] M bc bs Φ := by
  refine Ev.iload_n djM_min_0 rfl ?_
  refine Ev.iload_n djM_min_1 rfl ?_
  refine Ev.icmp_gt 9 (by decide) djM_min_2 (fun c => ?_) (fun c => ?_)
  · replace h := h.1 c
    refine Ev.iload_n djM_min_9 rfl ?_
    exact Ev.iret djM_min_10 rfl rfl h
  · replace h := h.2 c
    refine Ev.iload_n djM_min_5 rfl ?_
    refine Ev.goto 10 djM_min_6 (by decide) ?_
    exact Ev.iret djM_min_10 rfl rfl h
def mjM_max : MR := (⟨"java/lang/Math", "max", "(II)I"⟩, prog_24_method_65_code, 2, (Option.some .int))
theorem ojM_max : MOK mjM_max 2 := ⟨lwg_of 642 (by decide +kernel) (by decide +kernel), lwg_of 115 (by decide +kernel) (by decide +kernel), ⟨by decide +kernel, by decide +kernel⟩, by decide +kernel, by decide⟩
theorem ijM_max : Cond.static mjM_max.1 ∈ lwg := lwg_of 641 (by decide +kernel) (by decide +kernel)
theorem djM_max_0 : decode mjM_max.2.1 0 = .ok (.iload_n 0, 1) := by decide +kernel
theorem djM_max_1 : decode mjM_max.2.1 1 = .ok (.iload_n 1, 1) := by decide +kernel
theorem djM_max_2 : decode mjM_max.2.1 2 = .ok (.if_icmp .lt 7, 3) := by decide +kernel
theorem djM_max_5 : decode mjM_max.2.1 5 = .ok (.iload_n 0, 1) := by decide +kernel
theorem djM_max_6 : decode mjM_max.2.1 6 = .ok (.goto 4, 3) := by decide +kernel
theorem djM_max_9 : decode mjM_max.2.1 9 = .ok (.iload_n 1, 1) := by decide +kernel
theorem djM_max_10 : decode mjM_max.2.1 10 = .ok (.ireturn, 1) := by decide +kernel
theorem bjM_max_0 {l : Launch} {G : Gx} {d : Nat} {bc bs : Nat} {Φ : OutV → Mm → Prop} (M : Mm) (x0 : Int32) (x1 : Int32)
    (h : (x0 < x1 → Φ (.inl (some (.int x1))) M) ∧ (¬ x0 < x1 → Φ (.inl (some (.int x0))) M)) :
    Ev l G d mjM_max 0 [.int x0, .int x1] [] M bc bs Φ := by
  refine Ev.iload_n djM_max_0 rfl ?_
  refine Ev.iload_n djM_max_1 rfl ?_
  refine Ev.icmp_lt 9 (by decide) djM_max_2 (fun c => ?_) (fun c => ?_)
  · replace h := h.1 c
    refine Ev.iload_n djM_max_9 rfl ?_
    exact Ev.iret djM_max_10 rfl rfl h
  · replace h := h.2 c
    refine Ev.iload_n djM_max_5 rfl ?_
    refine Ev.goto 10 djM_max_6 (by decide) ?_
    exact Ev.iret djM_max_10 rfl rfl h
