/-! ===== the empty world ===== -/
def w0 : Wd := (0, fun _ _ => 0, fun _ => 0, [], 0, fun _ => 0, -1, fun _ => 0, 0, 0, fun _ => (fun _ => 0, fun _ => 0, fun _ => 0, 0))
theorem w0_ok : WOK w0 := ⟨Nat.zero_le _, fun p hp => absurd hp (Nat.not_lt_zero p), ⟨fun i hi => absurd hi (Nat.not_lt_zero i), fun i hi => absurd hi (Nat.not_lt_zero i), fun i j _ hj => absurd hj (Nat.not_lt_zero j)⟩, Nat.zero_le _, fun r hr => absurd hr List.not_mem_nil, Nat.zero_le _, fun i _ => by show 0 < 256; omega, Nat.zero_le _, Nat.zero_le _, fun i hi => absurd hi (Nat.not_lt_zero i)⟩
theorem w0_all (i : Nat) (hi : i < 3125) : m_r K196 357 i = 358 + i ∧ m_sh K196 (358 + i) = (20, 5) := by
  have n1 : m_nx K194 = 357 := by decide +kernel
  have n2 : m_nx K195 = 3483 := by decide +kernel
  refine ⟨?_, ?_⟩
  · show m_r (m_al K195 (22, 1)) 357 i = _
    rw [m_r_al, n2, if_neg (by omega)]
    show m_r (m_sr (m_mal K194 3125 5) 206 59 357) 357 i = _
    rw [m_r_sr, if_neg (by omega), m_r_mal, n1, if_pos rfl, if_pos hi]
  · show m_sh (m_al K195 (22, 1)) (358 + i) = _
    rw [m_sh_al, n2, if_neg (by omega)]
    show m_sh (m_sr (m_mal K194 3125 5) 206 59 357) (358 + i) = _
    rw [m_sh_sr, m_sh_mal, n1, if_neg (by omega), if_pos (by omega)]
theorem w0_rs : RS K196 := by
  unfold RS
  repeat' (apply And.intro)
  all_goals (first | exact w0_all | decide +kernel)
theorem w0_z : (∀ j, j < 1088 → m_i K196 133 j = 0) ∧ ∀ j, j < 1088 → m_i K196 134 j = 0 := ⟨by decide +kernel, by decide +kernel⟩
theorem w0_cs : CSH K196 107 113 190 0 := by
  refine ⟨?_, Or.inl rfl, Or.inl rfl, Or.inl rfl, by decide +kernel, by decide +kernel, by decide +kernel, by decide +kernel, ?_, ⟨127, 107, ?_⟩, ⟨127, 107, ?_⟩, by decide +kernel, by decide +kernel⟩
  · unfold CS0 TKok IMsh PEok LAok
    repeat' (apply And.intro)
    all_goals decide +kernel
  · unfold IFsh
    repeat' (apply And.intro)
    all_goals decide +kernel
  · unfold DAok PBok CAok
    repeat' (apply And.intro)
    all_goals decide +kernel
  · unfold DAok PBok CAok
    repeat' (apply And.intro)
    all_goals decide +kernel
theorem w0_pe : PErep K196 107 0 (w_f w0) (w_by w0) := ⟨by decide +kernel, Nat.zero_le _, fun p w hp => absurd hp (Nat.not_lt_zero p), fun i hi => absurd hi (Nat.not_lt_zero i)⟩
theorem w0_if : CIF K196 w0 113 107 := by
  refine ⟨?_, ?_, ?_, w0_pe, ?_, Or.inl ⟨by decide +kernel, fun g o h => ?_⟩, Or.inl ⟨by decide +kernel, fun g o h => ?_⟩, fun g o h hg => absurd hg (Nat.not_lt_zero g), fun g o h hg => absurd hg (Nat.not_lt_zero g)⟩
  · unfold IFok
    repeat' (apply And.intro)
    all_goals decide +kernel
  · unfold LAok
    repeat' (apply And.intro)
    all_goals decide +kernel
  · unfold PEok
    repeat' (apply And.intro)
    all_goals decide +kernel
  · decide +kernel
  · unfold mustF
    rw [if_pos (by decide +kernel)]
  · unfold worthF
    rw [if_pos (by decide +kernel)]
theorem w0_c : CINV K196 w0 107 113 190 0 := ⟨w0_cs, w0_pe, ⟨by decide +kernel, Nat.zero_le _, fun i hi => absurd hi (Nat.not_lt_zero i)⟩, w0_if, ⟨Or.inl w0_z.1, Or.inl w0_z.2⟩, fun z => absurd z (by decide +kernel), fun z => absurd z (by decide +kernel), fun z => absurd z (by decide +kernel), ⟨⟨by decide +kernel, fun i hi => absurd hi (Nat.not_lt_zero i)⟩, by decide +kernel⟩, ⟨by decide +kernel, by decide +kernel⟩, by decide +kernel, fun i hi => absurd hi (Nat.not_lt_zero i)⟩
theorem w0_r : RINV K196 w0 := ⟨w0_rs, ⟨by decide +kernel, Nat.zero_le _, fun p w hp => absurd hp (Nat.not_lt_zero p)⟩, ⟨by decide +kernel, Nat.zero_le _, fun i hi => absurd hi (Nat.not_lt_zero i)⟩, ⟨by decide +kernel, by decide +kernel, by decide +kernel⟩, ⟨by decide +kernel, fun i hi => absurd hi (Nat.not_lt_zero i)⟩, by decide +kernel, ⟨by decide +kernel, by decide +kernel⟩, by decide +kernel, fun i hi => absurd hi (Nat.not_lt_zero i)⟩
theorem w0_li : LI K196 w0 0 := ⟨w0_ok, ⟨107, 113, 190, w0_c⟩, w0_r, by decide +kernel, by decide +kernel, Nat.zero_le _⟩
