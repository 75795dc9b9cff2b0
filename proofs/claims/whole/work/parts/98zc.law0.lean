/-! ===== the start ===== -/
theorem fl_tr {l : Launch} (hf : l.flags = flags0) : l.stackTraces = false := by
  show (!l.flags.contains noTraceFlag) = false
  rw [hf]
  decide +kernel
section ST0
variable {l : Launch} {G : Gx} {d : Nat} {L : Nat} {xs : Nat → Int32}
theorem law_start (hSC : SC G L xs) (hl : l.stackTraces = false) (hL : L ≤ 3072) (hd : 50 < d) : EvT [] l G d mLw_law_ 0 [.ref 98, .null, .null, .null, .null, .null, .null] [] K0 601024 7293034 ΦL := by
  have fin := law_all (l := l) (d := d) hSC hl hL (by omega) 512 0 (by omega) (by omega) K196 w0 0 .null .null w0_li
  have h15 : EvT [] l G d mLw_law_ 15 [.ref 98, .ref 100, .null, .null, .null, .null, .null] [.ref 206] K195 2049 40000 ΦL := by
    refine bLw_law__15 hSC K195 100 _ _ _ _ _ 206 ⟨⟨by omega, by omega⟩, ?_⟩
    rw [show m_nx K195 = 3483 by decide +kernel]
    exact fin.mono (by omega) (by have := gr_le 0; omega)
  have h7 : EvT [] l G d mLw_law_ 7 [.ref 98, .null, .null, .null, .null, .null, .null] [.ref 100] K160 5326 77851 ΦL := by
    refine bLw_law__7 hSC K160 _ _ _ _ _ _ 100 ⟨⟨by omega, Nat.le_of_ble_eq_true rfl⟩, by decide +kernel, ?_⟩
    rw [show m_nx K160 = 206 by decide +kernel]
    refine ⟨d - 1, 3276, 37791, 2049, 40000, fun o M' => o = .inl none ∧ M' = K195, by omega, by decide +kernel, by decide +kernel, kRe_init_33 (by omega) ⟨rfl, rfl⟩, fun v M' hv => ?_, fun E M' hv => by cases hv.1⟩
    obtain ⟨hv, rfl⟩ := hv
    cases hv
    exact h15
  refine EvT.mono (bc := 5432) (bs := 86965) (by omega) (by omega) ?_
  refine bLw_law__0 hSC K0 ⟨⟨by omega, Nat.le_of_ble_eq_true rfl⟩, by decide +kernel, ?_⟩
  rw [show m_nx K0 = 100 by decide +kernel]
  refine ⟨d - 1, 105, 9096, 5326, 77851, fun o M' => o = .inl none ∧ M' = K160, by omega, by decide +kernel, by decide +kernel, kBo_init_32 (by omega) ⟨rfl, rfl⟩, fun v M' hv => ?_, fun E M' hv => by cases hv.1⟩
  obtain ⟨hv, rfl⟩ := hv
  cases hv
  exact h7
end ST0
