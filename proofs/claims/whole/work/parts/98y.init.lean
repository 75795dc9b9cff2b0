/-! ===== the constructors, from nothing ===== -/
def K0 : Mm := (fun _ _ => 0, fun _ _ => 0, fun _ _ => 0, fun _ => (99, 0), 100)
def K1 : Mm := m_al K0 (10, 0)
def K2 : Mm := m_sr (m_al K1 (21, 500)) 100 0 101
def K3 : Mm := m_al K2 (8, 0)
def K4 : Mm := m_sr (m_al K3 (20, 501)) 102 0 103
def K5 : Mm := m_sr (m_al K4 (20, 501)) 102 1 104
def K6 : Mm := m_sr (m_al K5 (20, 501)) 102 2 105
def K7 : Mm := m_sr (m_al K6 (32, 501)) 102 3 106
theorem kTo_init_0 {l : Launch} {G : Gx} {d : Nat} {Φ : OutV → Mm → Prop} (hd : 1 ≤ d) (h : Φ (.inl none) K7) : Ct l G d mTo_init 4 2004 [.ref 102] K3 Φ := by
  refine Ct.of rfl (Nat.le_of_ble_eq_true rfl) ?_
  refine bTo_init_0 K3 102 ⟨⟨by decide +kernel, by omega⟩, ⟨Nat.le_of_ble_eq_true rfl, Nat.le_of_ble_eq_true rfl⟩, by decide +kernel, ?_⟩
  rw [show m_nx K3 = 103 by decide +kernel]
  show Ev l G d mTo_init 13 [.ref 102] [] K4 3 1503 Φ
  refine bTo_init_13 K4 102 ⟨⟨Nat.le_of_ble_eq_true rfl, Nat.le_of_ble_eq_true rfl⟩, by decide +kernel, ?_⟩
  rw [show m_nx K4 = 104 by decide +kernel]
  show Ev l G d mTo_init 22 [.ref 102] [] K5 2 1002 Φ
  refine bTo_init_22 K5 102 ⟨⟨Nat.le_of_ble_eq_true rfl, Nat.le_of_ble_eq_true rfl⟩, by decide +kernel, ?_⟩
  rw [show m_nx K5 = 105 by decide +kernel]
  show Ev l G d mTo_init 31 [.ref 102] [] K6 1 501 Φ
  refine bTo_init_31 K6 102 ⟨⟨Nat.le_of_ble_eq_true rfl, Nat.le_of_ble_eq_true rfl⟩, by decide +kernel, ?_⟩
  rw [show m_nx K6 = 106 by decide +kernel]
  show Ev l G d mTo_init 41 [.ref 102] [] K7 0 0 Φ
  refine bTo_init_41 K7 102 ?_
  exact h
def K8 : Mm := m_sr K7 100 2 102
def K9 : Mm := m_si K8 100 3 ((-1))
def K10 : Mm := m_al K9 (6, 0)
def K11 : Mm := m_sr (m_al K10 (20, 64)) 107 0 108
def K12 : Mm := m_sr (m_al K11 (20, 8)) 107 1 109
theorem kPe_init_1 {l : Launch} {G : Gx} {d : Nat} {Φ : OutV → Mm → Prop} (hd : 1 ≤ d) (h : Φ (.inl none) K12) : Ct l G d mPe_init 2 72 [.ref 107] K10 Φ := by
  refine Ct.of rfl (Nat.le_of_ble_eq_true rfl) ?_
  refine bPe_init_0 K10 107 ⟨⟨by decide +kernel, by omega⟩, ⟨Nat.le_of_ble_eq_true rfl, Nat.le_of_ble_eq_true rfl⟩, by decide +kernel, ?_⟩
  rw [show m_nx K10 = 108 by decide +kernel]
  show Ev l G d mPe_init 12 [.ref 107] [] K11 1 8 Φ
  refine bPe_init_12 K11 107 ⟨⟨Nat.le_of_ble_eq_true rfl, Nat.le_of_ble_eq_true rfl⟩, by decide +kernel, ?_⟩
  rw [show m_nx K11 = 109 by decide +kernel]
  exact h
def K13 : Mm := m_sr K12 100 4 107
def K14 : Mm := m_al K13 (6, 0)
def K15 : Mm := m_sr (m_al K14 (20, 64)) 110 0 111
def K16 : Mm := m_sr (m_al K15 (20, 8)) 110 1 112
theorem kPe_init_2 {l : Launch} {G : Gx} {d : Nat} {Φ : OutV → Mm → Prop} (hd : 1 ≤ d) (h : Φ (.inl none) K16) : Ct l G d mPe_init 2 72 [.ref 110] K14 Φ := by
  refine Ct.of rfl (Nat.le_of_ble_eq_true rfl) ?_
  refine bPe_init_0 K14 110 ⟨⟨by decide +kernel, by omega⟩, ⟨Nat.le_of_ble_eq_true rfl, Nat.le_of_ble_eq_true rfl⟩, by decide +kernel, ?_⟩
  rw [show m_nx K14 = 111 by decide +kernel]
  show Ev l G d mPe_init 12 [.ref 110] [] K15 1 8 Φ
  refine bPe_init_12 K15 110 ⟨⟨Nat.le_of_ble_eq_true rfl, Nat.le_of_ble_eq_true rfl⟩, by decide +kernel, ?_⟩
  rw [show m_nx K15 = 112 by decide +kernel]
  exact h
def K17 : Mm := m_sr K16 100 5 110
def K18 : Mm := m_al K17 (4, 0)
def K19 : Mm := m_sr (m_al K18 (20, 10)) 113 0 114
def K20 : Mm := m_sr (m_al K19 (20, 10)) 113 1 115
def K21 : Mm := m_sr (m_al K20 (20, 10)) 113 2 116
def K22 : Mm := m_sr (m_al K21 (20, 10)) 113 3 117
def K23 : Mm := m_sr (m_al K22 (20, 500)) 113 4 118
def K24 : Mm := m_sr (m_al K23 (20, 64)) 113 5 119
theorem kLa_init_3 {l : Launch} {G : Gx} {d : Nat} {Φ : OutV → Mm → Prop} (hd : 1 ≤ d) (h : Φ (.inl none) K24) : Ct l G d mLa_init 6 604 [.ref 113] K18 Φ := by
  refine Ct.of rfl (Nat.le_of_ble_eq_true rfl) ?_
  refine bLa_init_0 K18 113 ⟨⟨by decide +kernel, by omega⟩, ⟨Nat.le_of_ble_eq_true rfl, Nat.le_of_ble_eq_true rfl⟩, by decide +kernel, ?_⟩
  rw [show m_nx K18 = 114 by decide +kernel]
  show Ev l G d mLa_init 12 [.ref 113] [] K19 5 594 Φ
  refine bLa_init_12 K19 113 ⟨⟨Nat.le_of_ble_eq_true rfl, Nat.le_of_ble_eq_true rfl⟩, by decide +kernel, ?_⟩
  rw [show m_nx K19 = 115 by decide +kernel]
  show Ev l G d mLa_init 20 [.ref 113] [] K20 4 584 Φ
  refine bLa_init_20 K20 113 ⟨⟨Nat.le_of_ble_eq_true rfl, Nat.le_of_ble_eq_true rfl⟩, by decide +kernel, ?_⟩
  rw [show m_nx K20 = 116 by decide +kernel]
  show Ev l G d mLa_init 28 [.ref 113] [] K21 3 574 Φ
  refine bLa_init_28 K21 113 ⟨⟨Nat.le_of_ble_eq_true rfl, Nat.le_of_ble_eq_true rfl⟩, by decide +kernel, ?_⟩
  rw [show m_nx K21 = 117 by decide +kernel]
  show Ev l G d mLa_init 36 [.ref 113] [] K22 2 564 Φ
  refine bLa_init_36 K22 113 ⟨⟨Nat.le_of_ble_eq_true rfl, Nat.le_of_ble_eq_true rfl⟩, by decide +kernel, ?_⟩
  rw [show m_nx K22 = 118 by decide +kernel]
  show Ev l G d mLa_init 45 [.ref 113] [] K23 1 64 Φ
  refine bLa_init_45 K23 113 ⟨⟨Nat.le_of_ble_eq_true rfl, Nat.le_of_ble_eq_true rfl⟩, by decide +kernel, ?_⟩
  rw [show m_nx K23 = 119 by decide +kernel]
  show Ev l G d mLa_init 53 [.ref 113] [] K24 0 0 Φ
  refine bLa_init_53 K24 113 ?_
  exact h
def K25 : Mm := m_sr K24 100 6 113
def K26 : Mm := m_al K25 (4, 0)
def K27 : Mm := m_sr (m_al K26 (20, 10)) 120 0 121
def K28 : Mm := m_sr (m_al K27 (20, 10)) 120 1 122
def K29 : Mm := m_sr (m_al K28 (20, 10)) 120 2 123
def K30 : Mm := m_sr (m_al K29 (20, 10)) 120 3 124
def K31 : Mm := m_sr (m_al K30 (20, 500)) 120 4 125
def K32 : Mm := m_sr (m_al K31 (20, 64)) 120 5 126
theorem kLa_init_4 {l : Launch} {G : Gx} {d : Nat} {Φ : OutV → Mm → Prop} (hd : 1 ≤ d) (h : Φ (.inl none) K32) : Ct l G d mLa_init 6 604 [.ref 120] K26 Φ := by
  refine Ct.of rfl (Nat.le_of_ble_eq_true rfl) ?_
  refine bLa_init_0 K26 120 ⟨⟨by decide +kernel, by omega⟩, ⟨Nat.le_of_ble_eq_true rfl, Nat.le_of_ble_eq_true rfl⟩, by decide +kernel, ?_⟩
  rw [show m_nx K26 = 121 by decide +kernel]
  show Ev l G d mLa_init 12 [.ref 120] [] K27 5 594 Φ
  refine bLa_init_12 K27 120 ⟨⟨Nat.le_of_ble_eq_true rfl, Nat.le_of_ble_eq_true rfl⟩, by decide +kernel, ?_⟩
  rw [show m_nx K27 = 122 by decide +kernel]
  show Ev l G d mLa_init 20 [.ref 120] [] K28 4 584 Φ
  refine bLa_init_20 K28 120 ⟨⟨Nat.le_of_ble_eq_true rfl, Nat.le_of_ble_eq_true rfl⟩, by decide +kernel, ?_⟩
  rw [show m_nx K28 = 123 by decide +kernel]
  show Ev l G d mLa_init 28 [.ref 120] [] K29 3 574 Φ
  refine bLa_init_28 K29 120 ⟨⟨Nat.le_of_ble_eq_true rfl, Nat.le_of_ble_eq_true rfl⟩, by decide +kernel, ?_⟩
  rw [show m_nx K29 = 124 by decide +kernel]
  show Ev l G d mLa_init 36 [.ref 120] [] K30 2 564 Φ
  refine bLa_init_36 K30 120 ⟨⟨Nat.le_of_ble_eq_true rfl, Nat.le_of_ble_eq_true rfl⟩, by decide +kernel, ?_⟩
  rw [show m_nx K30 = 125 by decide +kernel]
  show Ev l G d mLa_init 45 [.ref 120] [] K31 1 64 Φ
  refine bLa_init_45 K31 120 ⟨⟨Nat.le_of_ble_eq_true rfl, Nat.le_of_ble_eq_true rfl⟩, by decide +kernel, ?_⟩
  rw [show m_nx K31 = 126 by decide +kernel]
  show Ev l G d mLa_init 53 [.ref 120] [] K32 0 0 Φ
  refine bLa_init_53 K32 120 ?_
  exact h
def K33 : Mm := m_sr K32 100 7 120
def K34 : Mm := m_al K33 (3, 0)
def K35 : Mm := m_sr (m_al K34 (20, 10)) 127 0 128
def K36 : Mm := m_sr (m_al K35 (21, 1088)) 127 3 129
def K37 : Mm := m_sr (m_al K36 (21, 1088)) 127 4 130
def K38 : Mm := m_si K37 127 5 ((-1))
def K39 : Mm := m_si K38 127 6 ((-1))
def K40 : Mm := m_sr K39 127 1 113
def K41 : Mm := m_sr K40 127 2 107
def K42 : Mm := m_row K41 128 (fun k => if k < 10 then nuS [] 0 0 k else m_i K41 128 k)
theorem kIf_init_5 {l : Launch} {G : Gx} {d : Nat} {Φ : OutV → Mm → Prop} (hd : 2 ≤ d) (h : Φ (.inl none) K42) : Ct l G d mIf_init 3 2186 [.ref 127, .ref 113, .ref 107] K34 Φ := by
  refine Ct.of rfl (Nat.le_of_ble_eq_true rfl) ?_
  refine bIf_init_0 K34 127 113 107 ⟨⟨by decide +kernel, by omega⟩, ⟨Nat.le_of_ble_eq_true rfl, Nat.le_of_ble_eq_true rfl⟩, by decide +kernel, ?_⟩
  rw [show m_nx K34 = 128 by decide +kernel]
  show Ev l G d mIf_init 12 [.ref 127, .ref 113, .ref 107] [] K35 2 2176 Φ
  refine bIf_init_12 K35 127 113 107 ⟨⟨Nat.le_of_ble_eq_true rfl, Nat.le_of_ble_eq_true rfl⟩, by decide +kernel, ?_⟩
  rw [show m_nx K35 = 129 by decide +kernel]
  show Ev l G d mIf_init 21 [.ref 127, .ref 113, .ref 107] [] K36 1 1088 Φ
  refine bIf_init_21 K36 127 113 107 ⟨⟨Nat.le_of_ble_eq_true rfl, Nat.le_of_ble_eq_true rfl⟩, by decide +kernel, ?_⟩
  rw [show m_nx K36 = 130 by decide +kernel]
  show Ev l G d mIf_init 30 [.ref 127, .ref 113, .ref 107] [] K37 0 0 Φ
  refine bIf_init_30 K37 127 113 107 ⟨by decide +kernel, ?_⟩
  show Ev l G d mIf_init 35 [.ref 127, .ref 113, .ref 107] [] K38 0 0 Φ
  refine bIf_init_35 K38 127 113 107 ⟨by decide +kernel, ?_⟩
  show Ev l G d mIf_init 40 [.ref 127, .ref 113, .ref 107] [] K39 0 0 Φ
  refine bIf_init_40 K39 127 113 107 ⟨by decide +kernel, ?_⟩
  show Ev l G d mIf_init 45 [.ref 127, .ref 113, .ref 107] [] K40 0 0 Φ
  refine bIf_init_45 K40 127 113 107 ⟨by decide +kernel, ?_⟩
  show Ev l G d mIf_init 50 [.ref 127, .ref 113, .ref 107] [] K41 0 0 Φ
  refine bIf_init_50 K41 127 113 107 ⟨by decide +kernel, ?_⟩
  refine ⟨d - 1, 0, 0, 0, 0, fun o M' => o = .inl none ∧ M' = K42, by omega, rfl, rfl, (ct_setWithout K41 127 ⟨by decide +kernel, by decide +kernel, by decide +kernel, by decide +kernel, by decide +kernel, by decide +kernel, by decide +kernel⟩ (by omega) ⟨rfl, rfl⟩), fun v M' hv => ?_, fun E M' hv => by cases hv.1⟩
  obtain ⟨hv, rfl⟩ := hv
  cases hv
  show Ev l G d mIf_init 54 [.ref 127, .ref 113, .ref 107] [] K42 0 0 Φ
  refine bIf_init_54 K42 127 113 107 ?_
  exact h
def K43 : Mm := m_sr K42 100 8 127
def K44 : Mm := m_al K43 (3, 0)
def K45 : Mm := m_sr (m_al K44 (20, 10)) 131 0 132
def K46 : Mm := m_sr (m_al K45 (21, 1088)) 131 3 133
def K47 : Mm := m_sr (m_al K46 (21, 1088)) 131 4 134
def K48 : Mm := m_si K47 131 5 ((-1))
def K49 : Mm := m_si K48 131 6 ((-1))
def K50 : Mm := m_sr K49 131 1 113
def K51 : Mm := m_sr K50 131 2 107
def K52 : Mm := m_row K51 132 (fun k => if k < 10 then nuS [] 0 0 k else m_i K51 132 k)
theorem kIf_init_6 {l : Launch} {G : Gx} {d : Nat} {Φ : OutV → Mm → Prop} (hd : 2 ≤ d) (h : Φ (.inl none) K52) : Ct l G d mIf_init 3 2186 [.ref 131, .ref 113, .ref 107] K44 Φ := by
  refine Ct.of rfl (Nat.le_of_ble_eq_true rfl) ?_
  refine bIf_init_0 K44 131 113 107 ⟨⟨by decide +kernel, by omega⟩, ⟨Nat.le_of_ble_eq_true rfl, Nat.le_of_ble_eq_true rfl⟩, by decide +kernel, ?_⟩
  rw [show m_nx K44 = 132 by decide +kernel]
  show Ev l G d mIf_init 12 [.ref 131, .ref 113, .ref 107] [] K45 2 2176 Φ
  refine bIf_init_12 K45 131 113 107 ⟨⟨Nat.le_of_ble_eq_true rfl, Nat.le_of_ble_eq_true rfl⟩, by decide +kernel, ?_⟩
  rw [show m_nx K45 = 133 by decide +kernel]
  show Ev l G d mIf_init 21 [.ref 131, .ref 113, .ref 107] [] K46 1 1088 Φ
  refine bIf_init_21 K46 131 113 107 ⟨⟨Nat.le_of_ble_eq_true rfl, Nat.le_of_ble_eq_true rfl⟩, by decide +kernel, ?_⟩
  rw [show m_nx K46 = 134 by decide +kernel]
  show Ev l G d mIf_init 30 [.ref 131, .ref 113, .ref 107] [] K47 0 0 Φ
  refine bIf_init_30 K47 131 113 107 ⟨by decide +kernel, ?_⟩
  show Ev l G d mIf_init 35 [.ref 131, .ref 113, .ref 107] [] K48 0 0 Φ
  refine bIf_init_35 K48 131 113 107 ⟨by decide +kernel, ?_⟩
  show Ev l G d mIf_init 40 [.ref 131, .ref 113, .ref 107] [] K49 0 0 Φ
  refine bIf_init_40 K49 131 113 107 ⟨by decide +kernel, ?_⟩
  show Ev l G d mIf_init 45 [.ref 131, .ref 113, .ref 107] [] K50 0 0 Φ
  refine bIf_init_45 K50 131 113 107 ⟨by decide +kernel, ?_⟩
  show Ev l G d mIf_init 50 [.ref 131, .ref 113, .ref 107] [] K51 0 0 Φ
  refine bIf_init_50 K51 131 113 107 ⟨by decide +kernel, ?_⟩
  refine ⟨d - 1, 0, 0, 0, 0, fun o M' => o = .inl none ∧ M' = K52, by omega, rfl, rfl, (ct_setWithout K51 131 ⟨by decide +kernel, by decide +kernel, by decide +kernel, by decide +kernel, by decide +kernel, by decide +kernel, by decide +kernel⟩ (by omega) ⟨rfl, rfl⟩), fun v M' hv => ?_, fun E M' hv => by cases hv.1⟩
  obtain ⟨hv, rfl⟩ := hv
  cases hv
  show Ev l G d mIf_init 54 [.ref 131, .ref 113, .ref 107] [] K52 0 0 Φ
  refine bIf_init_54 K52 131 113 107 ?_
  exact h
def K53 : Mm := m_sr K52 100 9 131
def K54 : Mm := m_al K53 (1, 0)
def K55 : Mm := m_sr (m_al K54 (20, 8)) 135 2 136
def K56 : Mm := m_si K55 135 3 ((-1))
def K57 : Mm := m_si K56 135 6 ((-1))
def K58 : Mm := m_si K57 135 7 ((-1))
def K59 : Mm := m_sr (m_al K58 (30, 8)) 135 9 137
def K60 : Mm := m_sr (m_al K59 (20, 8)) 135 11 138
def K61 : Mm := m_al K60 (5, 0)
def K62 : Mm := m_sr (m_al K61 (20, 28)) 139 0 140
def K63 : Mm := m_sr (m_al K62 (20, 28)) 139 1 141
def K64 : Mm := m_sr (m_al K63 (20, 28)) 139 2 142
def K65 : Mm := m_sr (m_al K64 (20, 28)) 139 3 143
def K66 : Mm := m_sr (m_al K65 (20, 64)) 139 4 144
def K67 : Mm := m_sr (m_al K66 (20, 8)) 139 5 145
theorem kPb_init_7 {l : Launch} {G : Gx} {d : Nat} {Φ : OutV → Mm → Prop} (hd : 1 ≤ d) (h : Φ (.inl none) K67) : Ct l G d mPb_init 6 184 [.ref 139] K61 Φ := by
  refine Ct.of rfl (Nat.le_of_ble_eq_true rfl) ?_
  refine bPb_init_0 K61 139 ⟨⟨by decide +kernel, by omega⟩, ⟨Nat.le_of_ble_eq_true rfl, Nat.le_of_ble_eq_true rfl⟩, by decide +kernel, ?_⟩
  rw [show m_nx K61 = 140 by decide +kernel]
  show Ev l G d mPb_init 12 [.ref 139] [] K62 5 156 Φ
  refine bPb_init_12 K62 139 ⟨⟨Nat.le_of_ble_eq_true rfl, Nat.le_of_ble_eq_true rfl⟩, by decide +kernel, ?_⟩
  rw [show m_nx K62 = 141 by decide +kernel]
  show Ev l G d mPb_init 20 [.ref 139] [] K63 4 128 Φ
  refine bPb_init_20 K63 139 ⟨⟨Nat.le_of_ble_eq_true rfl, Nat.le_of_ble_eq_true rfl⟩, by decide +kernel, ?_⟩
  rw [show m_nx K63 = 142 by decide +kernel]
  show Ev l G d mPb_init 28 [.ref 139] [] K64 3 100 Φ
  refine bPb_init_28 K64 139 ⟨⟨Nat.le_of_ble_eq_true rfl, Nat.le_of_ble_eq_true rfl⟩, by decide +kernel, ?_⟩
  rw [show m_nx K64 = 143 by decide +kernel]
  show Ev l G d mPb_init 36 [.ref 139] [] K65 2 72 Φ
  refine bPb_init_36 K65 139 ⟨⟨Nat.le_of_ble_eq_true rfl, Nat.le_of_ble_eq_true rfl⟩, by decide +kernel, ?_⟩
  rw [show m_nx K65 = 144 by decide +kernel]
  show Ev l G d mPb_init 44 [.ref 139] [] K66 1 8 Φ
  refine bPb_init_44 K66 139 ⟨⟨Nat.le_of_ble_eq_true rfl, Nat.le_of_ble_eq_true rfl⟩, by decide +kernel, ?_⟩
  rw [show m_nx K66 = 145 by decide +kernel]
  show Ev l G d mPb_init 52 [.ref 139] [] K67 0 0 Φ
  refine bPb_init_52 K67 139 ?_
  exact h
def K68 : Mm := m_sr K67 135 12 139
def K69 : Mm := m_si K68 135 16 1
def K70 : Mm := m_sr K69 135 0 107
def K71 : Mm := m_sr K70 135 1 127
def K72 : Mm := m_al K71 (0, 0)
def K73 : Mm := m_sr (m_al K72 (20, 8)) 146 0 147
theorem kCa_init_8 {l : Launch} {G : Gx} {d : Nat} {Φ : OutV → Mm → Prop} (hd : 1 ≤ d) (h : Φ (.inl none) K73) : Ct l G d mCa_init 1 8 [.ref 146] K72 Φ := by
  refine Ct.of rfl (Nat.le_of_ble_eq_true rfl) ?_
  refine bCa_init_0 K72 146 ⟨⟨by decide +kernel, by omega⟩, ⟨Nat.le_of_ble_eq_true rfl, Nat.le_of_ble_eq_true rfl⟩, by decide +kernel, ?_⟩
  rw [show m_nx K72 = 147 by decide +kernel]
  exact h
def K74 : Mm := m_sr K73 137 0 146
def K75 : Mm := m_al K74 (0, 0)
def K76 : Mm := m_sr (m_al K75 (20, 8)) 148 0 149
theorem kCa_init_9 {l : Launch} {G : Gx} {d : Nat} {Φ : OutV → Mm → Prop} (hd : 1 ≤ d) (h : Φ (.inl none) K76) : Ct l G d mCa_init 1 8 [.ref 148] K75 Φ := by
  refine Ct.of rfl (Nat.le_of_ble_eq_true rfl) ?_
  refine bCa_init_0 K75 148 ⟨⟨by decide +kernel, by omega⟩, ⟨Nat.le_of_ble_eq_true rfl, Nat.le_of_ble_eq_true rfl⟩, by decide +kernel, ?_⟩
  rw [show m_nx K75 = 149 by decide +kernel]
  exact h
def K77 : Mm := m_sr K76 137 1 148
def K78 : Mm := m_al K77 (0, 0)
def K79 : Mm := m_sr (m_al K78 (20, 8)) 150 0 151
theorem kCa_init_10 {l : Launch} {G : Gx} {d : Nat} {Φ : OutV → Mm → Prop} (hd : 1 ≤ d) (h : Φ (.inl none) K79) : Ct l G d mCa_init 1 8 [.ref 150] K78 Φ := by
  refine Ct.of rfl (Nat.le_of_ble_eq_true rfl) ?_
  refine bCa_init_0 K78 150 ⟨⟨by decide +kernel, by omega⟩, ⟨Nat.le_of_ble_eq_true rfl, Nat.le_of_ble_eq_true rfl⟩, by decide +kernel, ?_⟩
  rw [show m_nx K78 = 151 by decide +kernel]
  exact h
def K80 : Mm := m_sr K79 137 2 150
def K81 : Mm := m_al K80 (0, 0)
def K82 : Mm := m_sr (m_al K81 (20, 8)) 152 0 153
theorem kCa_init_11 {l : Launch} {G : Gx} {d : Nat} {Φ : OutV → Mm → Prop} (hd : 1 ≤ d) (h : Φ (.inl none) K82) : Ct l G d mCa_init 1 8 [.ref 152] K81 Φ := by
  refine Ct.of rfl (Nat.le_of_ble_eq_true rfl) ?_
  refine bCa_init_0 K81 152 ⟨⟨by decide +kernel, by omega⟩, ⟨Nat.le_of_ble_eq_true rfl, Nat.le_of_ble_eq_true rfl⟩, by decide +kernel, ?_⟩
  rw [show m_nx K81 = 153 by decide +kernel]
  exact h
def K83 : Mm := m_sr K82 137 3 152
def K84 : Mm := m_al K83 (0, 0)
def K85 : Mm := m_sr (m_al K84 (20, 8)) 154 0 155
theorem kCa_init_12 {l : Launch} {G : Gx} {d : Nat} {Φ : OutV → Mm → Prop} (hd : 1 ≤ d) (h : Φ (.inl none) K85) : Ct l G d mCa_init 1 8 [.ref 154] K84 Φ := by
  refine Ct.of rfl (Nat.le_of_ble_eq_true rfl) ?_
  refine bCa_init_0 K84 154 ⟨⟨by decide +kernel, by omega⟩, ⟨Nat.le_of_ble_eq_true rfl, Nat.le_of_ble_eq_true rfl⟩, by decide +kernel, ?_⟩
  rw [show m_nx K84 = 155 by decide +kernel]
  exact h
def K86 : Mm := m_sr K85 137 4 154
def K87 : Mm := m_al K86 (0, 0)
def K88 : Mm := m_sr (m_al K87 (20, 8)) 156 0 157
theorem kCa_init_13 {l : Launch} {G : Gx} {d : Nat} {Φ : OutV → Mm → Prop} (hd : 1 ≤ d) (h : Φ (.inl none) K88) : Ct l G d mCa_init 1 8 [.ref 156] K87 Φ := by
  refine Ct.of rfl (Nat.le_of_ble_eq_true rfl) ?_
  refine bCa_init_0 K87 156 ⟨⟨by decide +kernel, by omega⟩, ⟨Nat.le_of_ble_eq_true rfl, Nat.le_of_ble_eq_true rfl⟩, by decide +kernel, ?_⟩
  rw [show m_nx K87 = 157 by decide +kernel]
  exact h
def K89 : Mm := m_sr K88 137 5 156
def K90 : Mm := m_al K89 (0, 0)
def K91 : Mm := m_sr (m_al K90 (20, 8)) 158 0 159
theorem kCa_init_14 {l : Launch} {G : Gx} {d : Nat} {Φ : OutV → Mm → Prop} (hd : 1 ≤ d) (h : Φ (.inl none) K91) : Ct l G d mCa_init 1 8 [.ref 158] K90 Φ := by
  refine Ct.of rfl (Nat.le_of_ble_eq_true rfl) ?_
  refine bCa_init_0 K90 158 ⟨⟨by decide +kernel, by omega⟩, ⟨Nat.le_of_ble_eq_true rfl, Nat.le_of_ble_eq_true rfl⟩, by decide +kernel, ?_⟩
  rw [show m_nx K90 = 159 by decide +kernel]
  exact h
def K92 : Mm := m_sr K91 137 6 158
def K93 : Mm := m_al K92 (0, 0)
def K94 : Mm := m_sr (m_al K93 (20, 8)) 160 0 161
theorem kCa_init_15 {l : Launch} {G : Gx} {d : Nat} {Φ : OutV → Mm → Prop} (hd : 1 ≤ d) (h : Φ (.inl none) K94) : Ct l G d mCa_init 1 8 [.ref 160] K93 Φ := by
  refine Ct.of rfl (Nat.le_of_ble_eq_true rfl) ?_
  refine bCa_init_0 K93 160 ⟨⟨by decide +kernel, by omega⟩, ⟨Nat.le_of_ble_eq_true rfl, Nat.le_of_ble_eq_true rfl⟩, by decide +kernel, ?_⟩
  rw [show m_nx K93 = 161 by decide +kernel]
  exact h
def K95 : Mm := m_sr K94 137 7 160
theorem kDa_init_16 {l : Launch} {G : Gx} {d : Nat} {Φ : OutV → Mm → Prop} (hd : 2 ≤ d) (h : Φ (.inl none) K95) : Ct l G d mDa_init 26 343 [.ref 135, .ref 107, .ref 127] K54 Φ := by
  refine Ct.of rfl (Nat.le_of_ble_eq_true rfl) ?_
  refine bDa_init_0 K54 135 107 127 ⟨⟨by decide +kernel, by omega⟩, ⟨Nat.le_of_ble_eq_true rfl, Nat.le_of_ble_eq_true rfl⟩, by decide +kernel, ?_⟩
  rw [show m_nx K54 = 136 by decide +kernel]
  show Ev l G d mDa_init 12 [.ref 135, .ref 107, .ref 127, .null] [] K55 25 335 Φ
  refine bDa_init_12 K55 135 107 127 (.null) ⟨by decide +kernel, ?_⟩
  show Ev l G d mDa_init 17 [.ref 135, .ref 107, .ref 127, .null] [] K56 25 335 Φ
  refine bDa_init_17 K56 135 107 127 (.null) ⟨by decide +kernel, ?_⟩
  show Ev l G d mDa_init 22 [.ref 135, .ref 107, .ref 127, .null] [] K57 25 335 Φ
  refine bDa_init_22 K57 135 107 127 (.null) ⟨by decide +kernel, ?_⟩
  show Ev l G d mDa_init 27 [.ref 135, .ref 107, .ref 127, .null] [] K58 25 335 Φ
  refine bDa_init_27 K58 135 107 127 (.null) ⟨⟨Nat.le_of_ble_eq_true rfl, Nat.le_of_ble_eq_true rfl⟩, by decide +kernel, ?_⟩
  rw [show m_nx K58 = 137 by decide +kernel]
  show Ev l G d mDa_init 36 [.ref 135, .ref 107, .ref 127, .null] [] K59 24 327 Φ
  refine bDa_init_36 K59 135 107 127 (.null) ⟨⟨Nat.le_of_ble_eq_true rfl, Nat.le_of_ble_eq_true rfl⟩, by decide +kernel, ?_⟩
  rw [show m_nx K59 = 138 by decide +kernel]
  show Ev l G d mDa_init 44 [.ref 135, .ref 107, .ref 127, .null] [] K60 23 319 Φ
  refine bDa_init_44 K60 135 107 127 (.null) ⟨⟨Nat.le_of_ble_eq_true rfl, Nat.le_of_ble_eq_true rfl⟩, by decide +kernel, ?_⟩
  rw [show m_nx K60 = 139 by decide +kernel]
  refine ⟨d - 1, 6, 184, 16, 128, fun o M' => o = .inl none ∧ M' = K67, by omega, rfl, rfl, (kPb_init_7 (by omega) ⟨rfl, rfl⟩), fun v M' hv => ?_, fun E M' hv => by cases hv.1⟩
  obtain ⟨hv, rfl⟩ := hv
  cases hv
  show Ev l G d mDa_init 52 [.ref 135, .ref 107, .ref 127, .null] [.ref 139, .ref 135] K67 16 128 Φ
  refine bDa_init_52 K67 135 107 127 (.null) 135 139 ⟨by decide +kernel, ?_⟩
  show Ev l G d mDa_init 55 [.ref 135, .ref 107, .ref 127, .null] [] K68 16 128 Φ
  refine bDa_init_55 K68 135 107 127 (.null) ⟨by decide +kernel, ?_⟩
  show Ev l G d mDa_init 60 [.ref 135, .ref 107, .ref 127, .null] [] K69 16 128 Φ
  refine bDa_init_60 K69 135 107 127 (.null) ⟨by decide +kernel, ?_⟩
  show Ev l G d mDa_init 65 [.ref 135, .ref 107, .ref 127, .null] [] K70 16 128 Φ
  refine bDa_init_65 K70 135 107 127 (.null) ⟨by decide +kernel, ?_⟩
  show Ev l G d mDa_init 70 [.ref 135, .ref 107, .ref 127, .null] [] K71 16 128 Φ
  refine bDa_init_70 K71 135 107 127 (.null) ?_
  show Ev l G d mDa_init 72 [.ref 135, .ref 107, .ref 127, .int 0] [] K71 16 128 Φ
  refine bDa_init_72 K71 135 107 127 0 ⟨fun z => absurd z (by decide), fun _ => ⟨by decide +kernel, ⟨Nat.le_of_ble_eq_true rfl, Nat.le_of_ble_eq_true rfl⟩, by decide +kernel, ?_⟩⟩
  rw [show m_nx K71 = 146 by decide +kernel, show m_r K71 135 9 = 137 by decide +kernel]
  refine ⟨d - 1, 1, 8, 14, 112, fun o M' => o = .inl none ∧ M' = K73, by omega, rfl, rfl, (kCa_init_8 (by omega) ⟨rfl, rfl⟩), fun v M' hv => ?_, fun E M' hv => by cases hv.1⟩
  obtain ⟨hv, rfl⟩ := hv
  cases hv
  show Ev l G d mDa_init 90 [.ref 135, .ref 107, .ref 127, .int 0] [.ref 146, .int 0, .ref 137] K73 14 112 Φ
  refine bDa_init_90 K73 135 107 127 0 137 0 146 ⟨by decide +kernel, vp_in_dec (by decide +kernel), by decide +kernel, ?_⟩
  rw [show (0 + 1 : Int32) = 1 by decide]
  show Ev l G d mDa_init 72 [.ref 135, .ref 107, .ref 127, .int 1] [] K74 14 112 Φ
  refine bDa_init_72 K74 135 107 127 1 ⟨fun z => absurd z (by decide), fun _ => ⟨by decide +kernel, ⟨Nat.le_of_ble_eq_true rfl, Nat.le_of_ble_eq_true rfl⟩, by decide +kernel, ?_⟩⟩
  rw [show m_nx K74 = 148 by decide +kernel, show m_r K74 135 9 = 137 by decide +kernel]
  refine ⟨d - 1, 1, 8, 12, 96, fun o M' => o = .inl none ∧ M' = K76, by omega, rfl, rfl, (kCa_init_9 (by omega) ⟨rfl, rfl⟩), fun v M' hv => ?_, fun E M' hv => by cases hv.1⟩
  obtain ⟨hv, rfl⟩ := hv
  cases hv
  show Ev l G d mDa_init 90 [.ref 135, .ref 107, .ref 127, .int 1] [.ref 148, .int 1, .ref 137] K76 12 96 Φ
  refine bDa_init_90 K76 135 107 127 1 137 1 148 ⟨by decide +kernel, vp_in_dec (by decide +kernel), by decide +kernel, ?_⟩
  rw [show (1 + 1 : Int32) = 2 by decide]
  show Ev l G d mDa_init 72 [.ref 135, .ref 107, .ref 127, .int 2] [] K77 12 96 Φ
  refine bDa_init_72 K77 135 107 127 2 ⟨fun z => absurd z (by decide), fun _ => ⟨by decide +kernel, ⟨Nat.le_of_ble_eq_true rfl, Nat.le_of_ble_eq_true rfl⟩, by decide +kernel, ?_⟩⟩
  rw [show m_nx K77 = 150 by decide +kernel, show m_r K77 135 9 = 137 by decide +kernel]
  refine ⟨d - 1, 1, 8, 10, 80, fun o M' => o = .inl none ∧ M' = K79, by omega, rfl, rfl, (kCa_init_10 (by omega) ⟨rfl, rfl⟩), fun v M' hv => ?_, fun E M' hv => by cases hv.1⟩
  obtain ⟨hv, rfl⟩ := hv
  cases hv
  show Ev l G d mDa_init 90 [.ref 135, .ref 107, .ref 127, .int 2] [.ref 150, .int 2, .ref 137] K79 10 80 Φ
  refine bDa_init_90 K79 135 107 127 2 137 2 150 ⟨by decide +kernel, vp_in_dec (by decide +kernel), by decide +kernel, ?_⟩
  rw [show (2 + 1 : Int32) = 3 by decide]
  show Ev l G d mDa_init 72 [.ref 135, .ref 107, .ref 127, .int 3] [] K80 10 80 Φ
  refine bDa_init_72 K80 135 107 127 3 ⟨fun z => absurd z (by decide), fun _ => ⟨by decide +kernel, ⟨Nat.le_of_ble_eq_true rfl, Nat.le_of_ble_eq_true rfl⟩, by decide +kernel, ?_⟩⟩
  rw [show m_nx K80 = 152 by decide +kernel, show m_r K80 135 9 = 137 by decide +kernel]
  refine ⟨d - 1, 1, 8, 8, 64, fun o M' => o = .inl none ∧ M' = K82, by omega, rfl, rfl, (kCa_init_11 (by omega) ⟨rfl, rfl⟩), fun v M' hv => ?_, fun E M' hv => by cases hv.1⟩
  obtain ⟨hv, rfl⟩ := hv
  cases hv
  show Ev l G d mDa_init 90 [.ref 135, .ref 107, .ref 127, .int 3] [.ref 152, .int 3, .ref 137] K82 8 64 Φ
  refine bDa_init_90 K82 135 107 127 3 137 3 152 ⟨by decide +kernel, vp_in_dec (by decide +kernel), by decide +kernel, ?_⟩
  rw [show (3 + 1 : Int32) = 4 by decide]
  show Ev l G d mDa_init 72 [.ref 135, .ref 107, .ref 127, .int 4] [] K83 8 64 Φ
  refine bDa_init_72 K83 135 107 127 4 ⟨fun z => absurd z (by decide), fun _ => ⟨by decide +kernel, ⟨Nat.le_of_ble_eq_true rfl, Nat.le_of_ble_eq_true rfl⟩, by decide +kernel, ?_⟩⟩
  rw [show m_nx K83 = 154 by decide +kernel, show m_r K83 135 9 = 137 by decide +kernel]
  refine ⟨d - 1, 1, 8, 6, 48, fun o M' => o = .inl none ∧ M' = K85, by omega, rfl, rfl, (kCa_init_12 (by omega) ⟨rfl, rfl⟩), fun v M' hv => ?_, fun E M' hv => by cases hv.1⟩
  obtain ⟨hv, rfl⟩ := hv
  cases hv
  show Ev l G d mDa_init 90 [.ref 135, .ref 107, .ref 127, .int 4] [.ref 154, .int 4, .ref 137] K85 6 48 Φ
  refine bDa_init_90 K85 135 107 127 4 137 4 154 ⟨by decide +kernel, vp_in_dec (by decide +kernel), by decide +kernel, ?_⟩
  rw [show (4 + 1 : Int32) = 5 by decide]
  show Ev l G d mDa_init 72 [.ref 135, .ref 107, .ref 127, .int 5] [] K86 6 48 Φ
  refine bDa_init_72 K86 135 107 127 5 ⟨fun z => absurd z (by decide), fun _ => ⟨by decide +kernel, ⟨Nat.le_of_ble_eq_true rfl, Nat.le_of_ble_eq_true rfl⟩, by decide +kernel, ?_⟩⟩
  rw [show m_nx K86 = 156 by decide +kernel, show m_r K86 135 9 = 137 by decide +kernel]
  refine ⟨d - 1, 1, 8, 4, 32, fun o M' => o = .inl none ∧ M' = K88, by omega, rfl, rfl, (kCa_init_13 (by omega) ⟨rfl, rfl⟩), fun v M' hv => ?_, fun E M' hv => by cases hv.1⟩
  obtain ⟨hv, rfl⟩ := hv
  cases hv
  show Ev l G d mDa_init 90 [.ref 135, .ref 107, .ref 127, .int 5] [.ref 156, .int 5, .ref 137] K88 4 32 Φ
  refine bDa_init_90 K88 135 107 127 5 137 5 156 ⟨by decide +kernel, vp_in_dec (by decide +kernel), by decide +kernel, ?_⟩
  rw [show (5 + 1 : Int32) = 6 by decide]
  show Ev l G d mDa_init 72 [.ref 135, .ref 107, .ref 127, .int 6] [] K89 4 32 Φ
  refine bDa_init_72 K89 135 107 127 6 ⟨fun z => absurd z (by decide), fun _ => ⟨by decide +kernel, ⟨Nat.le_of_ble_eq_true rfl, Nat.le_of_ble_eq_true rfl⟩, by decide +kernel, ?_⟩⟩
  rw [show m_nx K89 = 158 by decide +kernel, show m_r K89 135 9 = 137 by decide +kernel]
  refine ⟨d - 1, 1, 8, 2, 16, fun o M' => o = .inl none ∧ M' = K91, by omega, rfl, rfl, (kCa_init_14 (by omega) ⟨rfl, rfl⟩), fun v M' hv => ?_, fun E M' hv => by cases hv.1⟩
  obtain ⟨hv, rfl⟩ := hv
  cases hv
  show Ev l G d mDa_init 90 [.ref 135, .ref 107, .ref 127, .int 6] [.ref 158, .int 6, .ref 137] K91 2 16 Φ
  refine bDa_init_90 K91 135 107 127 6 137 6 158 ⟨by decide +kernel, vp_in_dec (by decide +kernel), by decide +kernel, ?_⟩
  rw [show (6 + 1 : Int32) = 7 by decide]
  show Ev l G d mDa_init 72 [.ref 135, .ref 107, .ref 127, .int 7] [] K92 2 16 Φ
  refine bDa_init_72 K92 135 107 127 7 ⟨fun z => absurd z (by decide), fun _ => ⟨by decide +kernel, ⟨Nat.le_of_ble_eq_true rfl, Nat.le_of_ble_eq_true rfl⟩, by decide +kernel, ?_⟩⟩
  rw [show m_nx K92 = 160 by decide +kernel, show m_r K92 135 9 = 137 by decide +kernel]
  refine ⟨d - 1, 1, 8, 0, 0, fun o M' => o = .inl none ∧ M' = K94, by omega, rfl, rfl, (kCa_init_15 (by omega) ⟨rfl, rfl⟩), fun v M' hv => ?_, fun E M' hv => by cases hv.1⟩
  obtain ⟨hv, rfl⟩ := hv
  cases hv
  show Ev l G d mDa_init 90 [.ref 135, .ref 107, .ref 127, .int 7] [.ref 160, .int 7, .ref 137] K94 0 0 Φ
  refine bDa_init_90 K94 135 107 127 7 137 7 160 ⟨by decide +kernel, vp_in_dec (by decide +kernel), by decide +kernel, ?_⟩
  rw [show (7 + 1 : Int32) = 8 by decide]
  show Ev l G d mDa_init 72 [.ref 135, .ref 107, .ref 127, .int 8] [] K95 0 0 Φ
  refine bDa_init_72 K95 135 107 127 8 ⟨fun _ => ?_, fun z => absurd (by decide) z⟩
  exact h
def K96 : Mm := m_sr K95 100 10 135
def K97 : Mm := m_al K96 (1, 0)
def K98 : Mm := m_sr (m_al K97 (20, 8)) 162 2 163
def K99 : Mm := m_si K98 162 3 ((-1))
def K100 : Mm := m_si K99 162 6 ((-1))
def K101 : Mm := m_si K100 162 7 ((-1))
def K102 : Mm := m_sr (m_al K101 (30, 8)) 162 9 164
def K103 : Mm := m_sr (m_al K102 (20, 8)) 162 11 165
def K104 : Mm := m_al K103 (5, 0)
def K105 : Mm := m_sr (m_al K104 (20, 28)) 166 0 167
def K106 : Mm := m_sr (m_al K105 (20, 28)) 166 1 168
def K107 : Mm := m_sr (m_al K106 (20, 28)) 166 2 169
def K108 : Mm := m_sr (m_al K107 (20, 28)) 166 3 170
def K109 : Mm := m_sr (m_al K108 (20, 64)) 166 4 171
def K110 : Mm := m_sr (m_al K109 (20, 8)) 166 5 172
theorem kPb_init_17 {l : Launch} {G : Gx} {d : Nat} {Φ : OutV → Mm → Prop} (hd : 1 ≤ d) (h : Φ (.inl none) K110) : Ct l G d mPb_init 6 184 [.ref 166] K104 Φ := by
  refine Ct.of rfl (Nat.le_of_ble_eq_true rfl) ?_
  refine bPb_init_0 K104 166 ⟨⟨by decide +kernel, by omega⟩, ⟨Nat.le_of_ble_eq_true rfl, Nat.le_of_ble_eq_true rfl⟩, by decide +kernel, ?_⟩
  rw [show m_nx K104 = 167 by decide +kernel]
  show Ev l G d mPb_init 12 [.ref 166] [] K105 5 156 Φ
  refine bPb_init_12 K105 166 ⟨⟨Nat.le_of_ble_eq_true rfl, Nat.le_of_ble_eq_true rfl⟩, by decide +kernel, ?_⟩
  rw [show m_nx K105 = 168 by decide +kernel]
  show Ev l G d mPb_init 20 [.ref 166] [] K106 4 128 Φ
  refine bPb_init_20 K106 166 ⟨⟨Nat.le_of_ble_eq_true rfl, Nat.le_of_ble_eq_true rfl⟩, by decide +kernel, ?_⟩
  rw [show m_nx K106 = 169 by decide +kernel]
  show Ev l G d mPb_init 28 [.ref 166] [] K107 3 100 Φ
  refine bPb_init_28 K107 166 ⟨⟨Nat.le_of_ble_eq_true rfl, Nat.le_of_ble_eq_true rfl⟩, by decide +kernel, ?_⟩
  rw [show m_nx K107 = 170 by decide +kernel]
  show Ev l G d mPb_init 36 [.ref 166] [] K108 2 72 Φ
  refine bPb_init_36 K108 166 ⟨⟨Nat.le_of_ble_eq_true rfl, Nat.le_of_ble_eq_true rfl⟩, by decide +kernel, ?_⟩
  rw [show m_nx K108 = 171 by decide +kernel]
  show Ev l G d mPb_init 44 [.ref 166] [] K109 1 8 Φ
  refine bPb_init_44 K109 166 ⟨⟨Nat.le_of_ble_eq_true rfl, Nat.le_of_ble_eq_true rfl⟩, by decide +kernel, ?_⟩
  rw [show m_nx K109 = 172 by decide +kernel]
  show Ev l G d mPb_init 52 [.ref 166] [] K110 0 0 Φ
  refine bPb_init_52 K110 166 ?_
  exact h
def K111 : Mm := m_sr K110 162 12 166
def K112 : Mm := m_si K111 162 16 1
def K113 : Mm := m_sr K112 162 0 107
def K114 : Mm := m_sr K113 162 1 127
def K115 : Mm := m_al K114 (0, 0)
def K116 : Mm := m_sr (m_al K115 (20, 8)) 173 0 174
theorem kCa_init_18 {l : Launch} {G : Gx} {d : Nat} {Φ : OutV → Mm → Prop} (hd : 1 ≤ d) (h : Φ (.inl none) K116) : Ct l G d mCa_init 1 8 [.ref 173] K115 Φ := by
  refine Ct.of rfl (Nat.le_of_ble_eq_true rfl) ?_
  refine bCa_init_0 K115 173 ⟨⟨by decide +kernel, by omega⟩, ⟨Nat.le_of_ble_eq_true rfl, Nat.le_of_ble_eq_true rfl⟩, by decide +kernel, ?_⟩
  rw [show m_nx K115 = 174 by decide +kernel]
  exact h
def K117 : Mm := m_sr K116 164 0 173
def K118 : Mm := m_al K117 (0, 0)
def K119 : Mm := m_sr (m_al K118 (20, 8)) 175 0 176
theorem kCa_init_19 {l : Launch} {G : Gx} {d : Nat} {Φ : OutV → Mm → Prop} (hd : 1 ≤ d) (h : Φ (.inl none) K119) : Ct l G d mCa_init 1 8 [.ref 175] K118 Φ := by
  refine Ct.of rfl (Nat.le_of_ble_eq_true rfl) ?_
  refine bCa_init_0 K118 175 ⟨⟨by decide +kernel, by omega⟩, ⟨Nat.le_of_ble_eq_true rfl, Nat.le_of_ble_eq_true rfl⟩, by decide +kernel, ?_⟩
  rw [show m_nx K118 = 176 by decide +kernel]
  exact h
def K120 : Mm := m_sr K119 164 1 175
def K121 : Mm := m_al K120 (0, 0)
def K122 : Mm := m_sr (m_al K121 (20, 8)) 177 0 178
theorem kCa_init_20 {l : Launch} {G : Gx} {d : Nat} {Φ : OutV → Mm → Prop} (hd : 1 ≤ d) (h : Φ (.inl none) K122) : Ct l G d mCa_init 1 8 [.ref 177] K121 Φ := by
  refine Ct.of rfl (Nat.le_of_ble_eq_true rfl) ?_
  refine bCa_init_0 K121 177 ⟨⟨by decide +kernel, by omega⟩, ⟨Nat.le_of_ble_eq_true rfl, Nat.le_of_ble_eq_true rfl⟩, by decide +kernel, ?_⟩
  rw [show m_nx K121 = 178 by decide +kernel]
  exact h
def K123 : Mm := m_sr K122 164 2 177
def K124 : Mm := m_al K123 (0, 0)
def K125 : Mm := m_sr (m_al K124 (20, 8)) 179 0 180
theorem kCa_init_21 {l : Launch} {G : Gx} {d : Nat} {Φ : OutV → Mm → Prop} (hd : 1 ≤ d) (h : Φ (.inl none) K125) : Ct l G d mCa_init 1 8 [.ref 179] K124 Φ := by
  refine Ct.of rfl (Nat.le_of_ble_eq_true rfl) ?_
  refine bCa_init_0 K124 179 ⟨⟨by decide +kernel, by omega⟩, ⟨Nat.le_of_ble_eq_true rfl, Nat.le_of_ble_eq_true rfl⟩, by decide +kernel, ?_⟩
  rw [show m_nx K124 = 180 by decide +kernel]
  exact h
def K126 : Mm := m_sr K125 164 3 179
def K127 : Mm := m_al K126 (0, 0)
def K128 : Mm := m_sr (m_al K127 (20, 8)) 181 0 182
theorem kCa_init_22 {l : Launch} {G : Gx} {d : Nat} {Φ : OutV → Mm → Prop} (hd : 1 ≤ d) (h : Φ (.inl none) K128) : Ct l G d mCa_init 1 8 [.ref 181] K127 Φ := by
  refine Ct.of rfl (Nat.le_of_ble_eq_true rfl) ?_
  refine bCa_init_0 K127 181 ⟨⟨by decide +kernel, by omega⟩, ⟨Nat.le_of_ble_eq_true rfl, Nat.le_of_ble_eq_true rfl⟩, by decide +kernel, ?_⟩
  rw [show m_nx K127 = 182 by decide +kernel]
  exact h
def K129 : Mm := m_sr K128 164 4 181
def K130 : Mm := m_al K129 (0, 0)
def K131 : Mm := m_sr (m_al K130 (20, 8)) 183 0 184
theorem kCa_init_23 {l : Launch} {G : Gx} {d : Nat} {Φ : OutV → Mm → Prop} (hd : 1 ≤ d) (h : Φ (.inl none) K131) : Ct l G d mCa_init 1 8 [.ref 183] K130 Φ := by
  refine Ct.of rfl (Nat.le_of_ble_eq_true rfl) ?_
  refine bCa_init_0 K130 183 ⟨⟨by decide +kernel, by omega⟩, ⟨Nat.le_of_ble_eq_true rfl, Nat.le_of_ble_eq_true rfl⟩, by decide +kernel, ?_⟩
  rw [show m_nx K130 = 184 by decide +kernel]
  exact h
def K132 : Mm := m_sr K131 164 5 183
def K133 : Mm := m_al K132 (0, 0)
def K134 : Mm := m_sr (m_al K133 (20, 8)) 185 0 186
theorem kCa_init_24 {l : Launch} {G : Gx} {d : Nat} {Φ : OutV → Mm → Prop} (hd : 1 ≤ d) (h : Φ (.inl none) K134) : Ct l G d mCa_init 1 8 [.ref 185] K133 Φ := by
  refine Ct.of rfl (Nat.le_of_ble_eq_true rfl) ?_
  refine bCa_init_0 K133 185 ⟨⟨by decide +kernel, by omega⟩, ⟨Nat.le_of_ble_eq_true rfl, Nat.le_of_ble_eq_true rfl⟩, by decide +kernel, ?_⟩
  rw [show m_nx K133 = 186 by decide +kernel]
  exact h
def K135 : Mm := m_sr K134 164 6 185
def K136 : Mm := m_al K135 (0, 0)
def K137 : Mm := m_sr (m_al K136 (20, 8)) 187 0 188
theorem kCa_init_25 {l : Launch} {G : Gx} {d : Nat} {Φ : OutV → Mm → Prop} (hd : 1 ≤ d) (h : Φ (.inl none) K137) : Ct l G d mCa_init 1 8 [.ref 187] K136 Φ := by
  refine Ct.of rfl (Nat.le_of_ble_eq_true rfl) ?_
  refine bCa_init_0 K136 187 ⟨⟨by decide +kernel, by omega⟩, ⟨Nat.le_of_ble_eq_true rfl, Nat.le_of_ble_eq_true rfl⟩, by decide +kernel, ?_⟩
  rw [show m_nx K136 = 188 by decide +kernel]
  exact h
def K138 : Mm := m_sr K137 164 7 187
theorem kDa_init_26 {l : Launch} {G : Gx} {d : Nat} {Φ : OutV → Mm → Prop} (hd : 2 ≤ d) (h : Φ (.inl none) K138) : Ct l G d mDa_init 26 343 [.ref 162, .ref 107, .ref 127] K97 Φ := by
  refine Ct.of rfl (Nat.le_of_ble_eq_true rfl) ?_
  refine bDa_init_0 K97 162 107 127 ⟨⟨by decide +kernel, by omega⟩, ⟨Nat.le_of_ble_eq_true rfl, Nat.le_of_ble_eq_true rfl⟩, by decide +kernel, ?_⟩
  rw [show m_nx K97 = 163 by decide +kernel]
  show Ev l G d mDa_init 12 [.ref 162, .ref 107, .ref 127, .null] [] K98 25 335 Φ
  refine bDa_init_12 K98 162 107 127 (.null) ⟨by decide +kernel, ?_⟩
  show Ev l G d mDa_init 17 [.ref 162, .ref 107, .ref 127, .null] [] K99 25 335 Φ
  refine bDa_init_17 K99 162 107 127 (.null) ⟨by decide +kernel, ?_⟩
  show Ev l G d mDa_init 22 [.ref 162, .ref 107, .ref 127, .null] [] K100 25 335 Φ
  refine bDa_init_22 K100 162 107 127 (.null) ⟨by decide +kernel, ?_⟩
  show Ev l G d mDa_init 27 [.ref 162, .ref 107, .ref 127, .null] [] K101 25 335 Φ
  refine bDa_init_27 K101 162 107 127 (.null) ⟨⟨Nat.le_of_ble_eq_true rfl, Nat.le_of_ble_eq_true rfl⟩, by decide +kernel, ?_⟩
  rw [show m_nx K101 = 164 by decide +kernel]
  show Ev l G d mDa_init 36 [.ref 162, .ref 107, .ref 127, .null] [] K102 24 327 Φ
  refine bDa_init_36 K102 162 107 127 (.null) ⟨⟨Nat.le_of_ble_eq_true rfl, Nat.le_of_ble_eq_true rfl⟩, by decide +kernel, ?_⟩
  rw [show m_nx K102 = 165 by decide +kernel]
  show Ev l G d mDa_init 44 [.ref 162, .ref 107, .ref 127, .null] [] K103 23 319 Φ
  refine bDa_init_44 K103 162 107 127 (.null) ⟨⟨Nat.le_of_ble_eq_true rfl, Nat.le_of_ble_eq_true rfl⟩, by decide +kernel, ?_⟩
  rw [show m_nx K103 = 166 by decide +kernel]
  refine ⟨d - 1, 6, 184, 16, 128, fun o M' => o = .inl none ∧ M' = K110, by omega, rfl, rfl, (kPb_init_17 (by omega) ⟨rfl, rfl⟩), fun v M' hv => ?_, fun E M' hv => by cases hv.1⟩
  obtain ⟨hv, rfl⟩ := hv
  cases hv
  show Ev l G d mDa_init 52 [.ref 162, .ref 107, .ref 127, .null] [.ref 166, .ref 162] K110 16 128 Φ
  refine bDa_init_52 K110 162 107 127 (.null) 162 166 ⟨by decide +kernel, ?_⟩
  show Ev l G d mDa_init 55 [.ref 162, .ref 107, .ref 127, .null] [] K111 16 128 Φ
  refine bDa_init_55 K111 162 107 127 (.null) ⟨by decide +kernel, ?_⟩
  show Ev l G d mDa_init 60 [.ref 162, .ref 107, .ref 127, .null] [] K112 16 128 Φ
  refine bDa_init_60 K112 162 107 127 (.null) ⟨by decide +kernel, ?_⟩
  show Ev l G d mDa_init 65 [.ref 162, .ref 107, .ref 127, .null] [] K113 16 128 Φ
  refine bDa_init_65 K113 162 107 127 (.null) ⟨by decide +kernel, ?_⟩
  show Ev l G d mDa_init 70 [.ref 162, .ref 107, .ref 127, .null] [] K114 16 128 Φ
  refine bDa_init_70 K114 162 107 127 (.null) ?_
  show Ev l G d mDa_init 72 [.ref 162, .ref 107, .ref 127, .int 0] [] K114 16 128 Φ
  refine bDa_init_72 K114 162 107 127 0 ⟨fun z => absurd z (by decide), fun _ => ⟨by decide +kernel, ⟨Nat.le_of_ble_eq_true rfl, Nat.le_of_ble_eq_true rfl⟩, by decide +kernel, ?_⟩⟩
  rw [show m_nx K114 = 173 by decide +kernel, show m_r K114 162 9 = 164 by decide +kernel]
  refine ⟨d - 1, 1, 8, 14, 112, fun o M' => o = .inl none ∧ M' = K116, by omega, rfl, rfl, (kCa_init_18 (by omega) ⟨rfl, rfl⟩), fun v M' hv => ?_, fun E M' hv => by cases hv.1⟩
  obtain ⟨hv, rfl⟩ := hv
  cases hv
  show Ev l G d mDa_init 90 [.ref 162, .ref 107, .ref 127, .int 0] [.ref 173, .int 0, .ref 164] K116 14 112 Φ
  refine bDa_init_90 K116 162 107 127 0 164 0 173 ⟨by decide +kernel, vp_in_dec (by decide +kernel), by decide +kernel, ?_⟩
  rw [show (0 + 1 : Int32) = 1 by decide]
  show Ev l G d mDa_init 72 [.ref 162, .ref 107, .ref 127, .int 1] [] K117 14 112 Φ
  refine bDa_init_72 K117 162 107 127 1 ⟨fun z => absurd z (by decide), fun _ => ⟨by decide +kernel, ⟨Nat.le_of_ble_eq_true rfl, Nat.le_of_ble_eq_true rfl⟩, by decide +kernel, ?_⟩⟩
  rw [show m_nx K117 = 175 by decide +kernel, show m_r K117 162 9 = 164 by decide +kernel]
  refine ⟨d - 1, 1, 8, 12, 96, fun o M' => o = .inl none ∧ M' = K119, by omega, rfl, rfl, (kCa_init_19 (by omega) ⟨rfl, rfl⟩), fun v M' hv => ?_, fun E M' hv => by cases hv.1⟩
  obtain ⟨hv, rfl⟩ := hv
  cases hv
  show Ev l G d mDa_init 90 [.ref 162, .ref 107, .ref 127, .int 1] [.ref 175, .int 1, .ref 164] K119 12 96 Φ
  refine bDa_init_90 K119 162 107 127 1 164 1 175 ⟨by decide +kernel, vp_in_dec (by decide +kernel), by decide +kernel, ?_⟩
  rw [show (1 + 1 : Int32) = 2 by decide]
  show Ev l G d mDa_init 72 [.ref 162, .ref 107, .ref 127, .int 2] [] K120 12 96 Φ
  refine bDa_init_72 K120 162 107 127 2 ⟨fun z => absurd z (by decide), fun _ => ⟨by decide +kernel, ⟨Nat.le_of_ble_eq_true rfl, Nat.le_of_ble_eq_true rfl⟩, by decide +kernel, ?_⟩⟩
  rw [show m_nx K120 = 177 by decide +kernel, show m_r K120 162 9 = 164 by decide +kernel]
  refine ⟨d - 1, 1, 8, 10, 80, fun o M' => o = .inl none ∧ M' = K122, by omega, rfl, rfl, (kCa_init_20 (by omega) ⟨rfl, rfl⟩), fun v M' hv => ?_, fun E M' hv => by cases hv.1⟩
  obtain ⟨hv, rfl⟩ := hv
  cases hv
  show Ev l G d mDa_init 90 [.ref 162, .ref 107, .ref 127, .int 2] [.ref 177, .int 2, .ref 164] K122 10 80 Φ
  refine bDa_init_90 K122 162 107 127 2 164 2 177 ⟨by decide +kernel, vp_in_dec (by decide +kernel), by decide +kernel, ?_⟩
  rw [show (2 + 1 : Int32) = 3 by decide]
  show Ev l G d mDa_init 72 [.ref 162, .ref 107, .ref 127, .int 3] [] K123 10 80 Φ
  refine bDa_init_72 K123 162 107 127 3 ⟨fun z => absurd z (by decide), fun _ => ⟨by decide +kernel, ⟨Nat.le_of_ble_eq_true rfl, Nat.le_of_ble_eq_true rfl⟩, by decide +kernel, ?_⟩⟩
  rw [show m_nx K123 = 179 by decide +kernel, show m_r K123 162 9 = 164 by decide +kernel]
  refine ⟨d - 1, 1, 8, 8, 64, fun o M' => o = .inl none ∧ M' = K125, by omega, rfl, rfl, (kCa_init_21 (by omega) ⟨rfl, rfl⟩), fun v M' hv => ?_, fun E M' hv => by cases hv.1⟩
  obtain ⟨hv, rfl⟩ := hv
  cases hv
  show Ev l G d mDa_init 90 [.ref 162, .ref 107, .ref 127, .int 3] [.ref 179, .int 3, .ref 164] K125 8 64 Φ
  refine bDa_init_90 K125 162 107 127 3 164 3 179 ⟨by decide +kernel, vp_in_dec (by decide +kernel), by decide +kernel, ?_⟩
  rw [show (3 + 1 : Int32) = 4 by decide]
  show Ev l G d mDa_init 72 [.ref 162, .ref 107, .ref 127, .int 4] [] K126 8 64 Φ
  refine bDa_init_72 K126 162 107 127 4 ⟨fun z => absurd z (by decide), fun _ => ⟨by decide +kernel, ⟨Nat.le_of_ble_eq_true rfl, Nat.le_of_ble_eq_true rfl⟩, by decide +kernel, ?_⟩⟩
  rw [show m_nx K126 = 181 by decide +kernel, show m_r K126 162 9 = 164 by decide +kernel]
  refine ⟨d - 1, 1, 8, 6, 48, fun o M' => o = .inl none ∧ M' = K128, by omega, rfl, rfl, (kCa_init_22 (by omega) ⟨rfl, rfl⟩), fun v M' hv => ?_, fun E M' hv => by cases hv.1⟩
  obtain ⟨hv, rfl⟩ := hv
  cases hv
  show Ev l G d mDa_init 90 [.ref 162, .ref 107, .ref 127, .int 4] [.ref 181, .int 4, .ref 164] K128 6 48 Φ
  refine bDa_init_90 K128 162 107 127 4 164 4 181 ⟨by decide +kernel, vp_in_dec (by decide +kernel), by decide +kernel, ?_⟩
  rw [show (4 + 1 : Int32) = 5 by decide]
  show Ev l G d mDa_init 72 [.ref 162, .ref 107, .ref 127, .int 5] [] K129 6 48 Φ
  refine bDa_init_72 K129 162 107 127 5 ⟨fun z => absurd z (by decide), fun _ => ⟨by decide +kernel, ⟨Nat.le_of_ble_eq_true rfl, Nat.le_of_ble_eq_true rfl⟩, by decide +kernel, ?_⟩⟩
  rw [show m_nx K129 = 183 by decide +kernel, show m_r K129 162 9 = 164 by decide +kernel]
  refine ⟨d - 1, 1, 8, 4, 32, fun o M' => o = .inl none ∧ M' = K131, by omega, rfl, rfl, (kCa_init_23 (by omega) ⟨rfl, rfl⟩), fun v M' hv => ?_, fun E M' hv => by cases hv.1⟩
  obtain ⟨hv, rfl⟩ := hv
  cases hv
  show Ev l G d mDa_init 90 [.ref 162, .ref 107, .ref 127, .int 5] [.ref 183, .int 5, .ref 164] K131 4 32 Φ
  refine bDa_init_90 K131 162 107 127 5 164 5 183 ⟨by decide +kernel, vp_in_dec (by decide +kernel), by decide +kernel, ?_⟩
  rw [show (5 + 1 : Int32) = 6 by decide]
  show Ev l G d mDa_init 72 [.ref 162, .ref 107, .ref 127, .int 6] [] K132 4 32 Φ
  refine bDa_init_72 K132 162 107 127 6 ⟨fun z => absurd z (by decide), fun _ => ⟨by decide +kernel, ⟨Nat.le_of_ble_eq_true rfl, Nat.le_of_ble_eq_true rfl⟩, by decide +kernel, ?_⟩⟩
  rw [show m_nx K132 = 185 by decide +kernel, show m_r K132 162 9 = 164 by decide +kernel]
  refine ⟨d - 1, 1, 8, 2, 16, fun o M' => o = .inl none ∧ M' = K134, by omega, rfl, rfl, (kCa_init_24 (by omega) ⟨rfl, rfl⟩), fun v M' hv => ?_, fun E M' hv => by cases hv.1⟩
  obtain ⟨hv, rfl⟩ := hv
  cases hv
  show Ev l G d mDa_init 90 [.ref 162, .ref 107, .ref 127, .int 6] [.ref 185, .int 6, .ref 164] K134 2 16 Φ
  refine bDa_init_90 K134 162 107 127 6 164 6 185 ⟨by decide +kernel, vp_in_dec (by decide +kernel), by decide +kernel, ?_⟩
  rw [show (6 + 1 : Int32) = 7 by decide]
  show Ev l G d mDa_init 72 [.ref 162, .ref 107, .ref 127, .int 7] [] K135 2 16 Φ
  refine bDa_init_72 K135 162 107 127 7 ⟨fun z => absurd z (by decide), fun _ => ⟨by decide +kernel, ⟨Nat.le_of_ble_eq_true rfl, Nat.le_of_ble_eq_true rfl⟩, by decide +kernel, ?_⟩⟩
  rw [show m_nx K135 = 187 by decide +kernel, show m_r K135 162 9 = 164 by decide +kernel]
  refine ⟨d - 1, 1, 8, 0, 0, fun o M' => o = .inl none ∧ M' = K137, by omega, rfl, rfl, (kCa_init_25 (by omega) ⟨rfl, rfl⟩), fun v M' hv => ?_, fun E M' hv => by cases hv.1⟩
  obtain ⟨hv, rfl⟩ := hv
  cases hv
  show Ev l G d mDa_init 90 [.ref 162, .ref 107, .ref 127, .int 7] [.ref 187, .int 7, .ref 164] K137 0 0 Φ
  refine bDa_init_90 K137 162 107 127 7 164 7 187 ⟨by decide +kernel, vp_in_dec (by decide +kernel), by decide +kernel, ?_⟩
  rw [show (7 + 1 : Int32) = 8 by decide]
  show Ev l G d mDa_init 72 [.ref 162, .ref 107, .ref 127, .int 8] [] K138 0 0 Φ
  refine bDa_init_72 K138 162 107 127 8 ⟨fun _ => ?_, fun z => absurd (by decide) z⟩
  exact h
def K139 : Mm := m_sr K138 100 11 162
def K140 : Mm := m_al K139 (9, 0)
def K141 : Mm := m_sr (m_al K140 (20, 0)) 189 0 190
def K142 : Mm := m_si K141 189 1 1
theorem kWr_init_27 {l : Launch} {G : Gx} {d : Nat} {Φ : OutV → Mm → Prop} (hd : 1 ≤ d) (h : Φ (.inl none) K142) : Ct l G d mWr_init 1 0 [.ref 189] K140 Φ := by
  refine Ct.of rfl (Nat.le_of_ble_eq_true rfl) ?_
  refine bWr_init_0 K140 189 ⟨⟨by decide +kernel, by omega⟩, ⟨Nat.le_of_ble_eq_true rfl, Nat.le_of_ble_eq_true rfl⟩, by decide +kernel, ?_⟩
  rw [show m_nx K140 = 190 by decide +kernel]
  show Ev l G d mWr_init 11 [.ref 189] [] K141 0 0 Φ
  refine bWr_init_11 K141 189 ⟨by decide +kernel, ?_⟩
  exact h
def K143 : Mm := m_sr K142 100 12 189
def K144 : Mm := m_al K143 (7, 0)
def K145 : Mm := m_si K144 191 0 1
theorem kSk_init_28 {l : Launch} {G : Gx} {d : Nat} {Φ : OutV → Mm → Prop} (hd : 1 ≤ d) (h : Φ (.inl none) K145) : Ct l G d mSk_init 0 0 [.ref 191] K144 Φ := by
  refine Ct.of rfl (Nat.le_of_ble_eq_true rfl) ?_
  refine bSk_init_0 K144 191 ⟨⟨by decide +kernel, by omega⟩, by decide +kernel, ?_⟩
  exact h
def K146 : Mm := m_sr K145 100 13 191
def K147 : Mm := m_sr (m_al K146 (20, 8)) 100 14 192
def K148 : Mm := m_al (m_al K147 (31, 3)) (2, 0)
def K149 : Mm := m_sr (m_al K148 (20, 8)) 194 0 195
def K150 : Mm := m_sr (m_al K149 (20, 8)) 194 1 196
def K151 : Mm := m_sr (m_al K150 (20, 8)) 194 2 197
theorem kIm_init_29 {l : Launch} {G : Gx} {d : Nat} {Φ : OutV → Mm → Prop} (hd : 1 ≤ d) (h : Φ (.inl none) K151) : Ct l G d mIm_init 3 24 [.ref 194] K148 Φ := by
  refine Ct.of rfl (Nat.le_of_ble_eq_true rfl) ?_
  refine bIm_init_0 K148 194 ⟨⟨by decide +kernel, by omega⟩, ⟨Nat.le_of_ble_eq_true rfl, Nat.le_of_ble_eq_true rfl⟩, by decide +kernel, ?_⟩
  rw [show m_nx K148 = 195 by decide +kernel]
  show Ev l G d mIm_init 12 [.ref 194] [] K149 2 16 Φ
  refine bIm_init_12 K149 194 ⟨⟨Nat.le_of_ble_eq_true rfl, Nat.le_of_ble_eq_true rfl⟩, by decide +kernel, ?_⟩
  rw [show m_nx K149 = 196 by decide +kernel]
  show Ev l G d mIm_init 20 [.ref 194] [] K150 1 8 Φ
  refine bIm_init_20 K150 194 ⟨⟨Nat.le_of_ble_eq_true rfl, Nat.le_of_ble_eq_true rfl⟩, by decide +kernel, ?_⟩
  rw [show m_nx K150 = 197 by decide +kernel]
  show Ev l G d mIm_init 28 [.ref 194] [] K151 0 0 Φ
  refine bIm_init_28 K151 194 ?_
  exact h
def K152 : Mm := m_al (m_sr K151 193 0 194) (2, 0)
def K153 : Mm := m_sr (m_al K152 (20, 8)) 198 0 199
def K154 : Mm := m_sr (m_al K153 (20, 8)) 198 1 200
def K155 : Mm := m_sr (m_al K154 (20, 8)) 198 2 201
theorem kIm_init_30 {l : Launch} {G : Gx} {d : Nat} {Φ : OutV → Mm → Prop} (hd : 1 ≤ d) (h : Φ (.inl none) K155) : Ct l G d mIm_init 3 24 [.ref 198] K152 Φ := by
  refine Ct.of rfl (Nat.le_of_ble_eq_true rfl) ?_
  refine bIm_init_0 K152 198 ⟨⟨by decide +kernel, by omega⟩, ⟨Nat.le_of_ble_eq_true rfl, Nat.le_of_ble_eq_true rfl⟩, by decide +kernel, ?_⟩
  rw [show m_nx K152 = 199 by decide +kernel]
  show Ev l G d mIm_init 12 [.ref 198] [] K153 2 16 Φ
  refine bIm_init_12 K153 198 ⟨⟨Nat.le_of_ble_eq_true rfl, Nat.le_of_ble_eq_true rfl⟩, by decide +kernel, ?_⟩
  rw [show m_nx K153 = 200 by decide +kernel]
  show Ev l G d mIm_init 20 [.ref 198] [] K154 1 8 Φ
  refine bIm_init_20 K154 198 ⟨⟨Nat.le_of_ble_eq_true rfl, Nat.le_of_ble_eq_true rfl⟩, by decide +kernel, ?_⟩
  rw [show m_nx K154 = 201 by decide +kernel]
  show Ev l G d mIm_init 28 [.ref 198] [] K155 0 0 Φ
  refine bIm_init_28 K155 198 ?_
  exact h
def K156 : Mm := m_al (m_sr K155 193 1 198) (2, 0)
def K157 : Mm := m_sr (m_al K156 (20, 8)) 202 0 203
def K158 : Mm := m_sr (m_al K157 (20, 8)) 202 1 204
def K159 : Mm := m_sr (m_al K158 (20, 8)) 202 2 205
theorem kIm_init_31 {l : Launch} {G : Gx} {d : Nat} {Φ : OutV → Mm → Prop} (hd : 1 ≤ d) (h : Φ (.inl none) K159) : Ct l G d mIm_init 3 24 [.ref 202] K156 Φ := by
  refine Ct.of rfl (Nat.le_of_ble_eq_true rfl) ?_
  refine bIm_init_0 K156 202 ⟨⟨by decide +kernel, by omega⟩, ⟨Nat.le_of_ble_eq_true rfl, Nat.le_of_ble_eq_true rfl⟩, by decide +kernel, ?_⟩
  rw [show m_nx K156 = 203 by decide +kernel]
  show Ev l G d mIm_init 12 [.ref 202] [] K157 2 16 Φ
  refine bIm_init_12 K157 202 ⟨⟨Nat.le_of_ble_eq_true rfl, Nat.le_of_ble_eq_true rfl⟩, by decide +kernel, ?_⟩
  rw [show m_nx K157 = 204 by decide +kernel]
  show Ev l G d mIm_init 20 [.ref 202] [] K158 1 8 Φ
  refine bIm_init_20 K158 202 ⟨⟨Nat.le_of_ble_eq_true rfl, Nat.le_of_ble_eq_true rfl⟩, by decide +kernel, ?_⟩
  rw [show m_nx K158 = 205 by decide +kernel]
  show Ev l G d mIm_init 28 [.ref 202] [] K159 0 0 Φ
  refine bIm_init_28 K159 202 ?_
  exact h
def K160 : Mm := m_sr (m_sr K159 193 2 202) 100 16 193
theorem kBo_init_32 {l : Launch} {G : Gx} {d : Nat} {Φ : OutV → Mm → Prop} (hd : 3 ≤ d) (h : Φ (.inl none) K160) : Ct l G d mBo_init 105 9096 [.ref 100] K1 Φ := by
  refine Ct.of rfl (Nat.le_of_ble_eq_true rfl) ?_
  refine bBo_init_0 K1 100 ⟨⟨by decide +kernel, by omega⟩, ⟨Nat.le_of_ble_eq_true rfl, Nat.le_of_ble_eq_true rfl⟩, by decide +kernel, ?_⟩
  rw [show m_nx K1 = 101 by decide +kernel]
  show Ev l G d mBo_init 13 [.ref 100] [] K2 104 8596 Φ
  refine bBo_init_13 K2 100 ⟨⟨Nat.le_of_ble_eq_true rfl, Nat.le_of_ble_eq_true rfl⟩, by decide +kernel, ?_⟩
  rw [show m_nx K2 = 102 by decide +kernel]
  refine ⟨d - 1, 4, 2004, 99, 6584, fun o M' => o = .inl none ∧ M' = K7, by omega, rfl, rfl, (kTo_init_0 (by omega) ⟨rfl, rfl⟩), fun v M' hv => ?_, fun E M' hv => by cases hv.1⟩
  obtain ⟨hv, rfl⟩ := hv
  cases hv
  show Ev l G d mBo_init 21 [.ref 100] [.ref 102, .ref 100] K7 99 6584 Φ
  refine bBo_init_21 K7 100 100 102 ⟨by decide +kernel, ?_⟩
  show Ev l G d mBo_init 24 [.ref 100] [] K8 99 6584 Φ
  refine bBo_init_24 K8 100 ⟨by decide +kernel, ?_⟩
  show Ev l G d mBo_init 29 [.ref 100] [] K9 99 6584 Φ
  refine bBo_init_29 K9 100 ⟨⟨Nat.le_of_ble_eq_true rfl, Nat.le_of_ble_eq_true rfl⟩, by decide +kernel, ?_⟩
  rw [show m_nx K9 = 107 by decide +kernel]
  refine ⟨d - 1, 2, 72, 96, 6509, fun o M' => o = .inl none ∧ M' = K12, by omega, rfl, rfl, (kPe_init_1 (by omega) ⟨rfl, rfl⟩), fun v M' hv => ?_, fun E M' hv => by cases hv.1⟩
  obtain ⟨hv, rfl⟩ := hv
  cases hv
  show Ev l G d mBo_init 37 [.ref 100] [.ref 107, .ref 100] K12 96 6509 Φ
  refine bBo_init_37 K12 100 100 107 ⟨by decide +kernel, ?_⟩
  show Ev l G d mBo_init 40 [.ref 100] [] K13 96 6509 Φ
  refine bBo_init_40 K13 100 ⟨⟨Nat.le_of_ble_eq_true rfl, Nat.le_of_ble_eq_true rfl⟩, by decide +kernel, ?_⟩
  rw [show m_nx K13 = 110 by decide +kernel]
  refine ⟨d - 1, 2, 72, 93, 6434, fun o M' => o = .inl none ∧ M' = K16, by omega, rfl, rfl, (kPe_init_2 (by omega) ⟨rfl, rfl⟩), fun v M' hv => ?_, fun E M' hv => by cases hv.1⟩
  obtain ⟨hv, rfl⟩ := hv
  cases hv
  show Ev l G d mBo_init 48 [.ref 100] [.ref 110, .ref 100] K16 93 6434 Φ
  refine bBo_init_48 K16 100 100 110 ⟨by decide +kernel, ?_⟩
  show Ev l G d mBo_init 51 [.ref 100] [] K17 93 6434 Φ
  refine bBo_init_51 K17 100 ⟨⟨Nat.le_of_ble_eq_true rfl, Nat.le_of_ble_eq_true rfl⟩, by decide +kernel, ?_⟩
  rw [show m_nx K17 = 113 by decide +kernel]
  refine ⟨d - 1, 6, 604, 86, 5822, fun o M' => o = .inl none ∧ M' = K24, by omega, rfl, rfl, (kLa_init_3 (by omega) ⟨rfl, rfl⟩), fun v M' hv => ?_, fun E M' hv => by cases hv.1⟩
  obtain ⟨hv, rfl⟩ := hv
  cases hv
  show Ev l G d mBo_init 59 [.ref 100] [.ref 113, .ref 100] K24 86 5822 Φ
  refine bBo_init_59 K24 100 100 113 ⟨by decide +kernel, ?_⟩
  show Ev l G d mBo_init 62 [.ref 100] [] K25 86 5822 Φ
  refine bBo_init_62 K25 100 ⟨⟨Nat.le_of_ble_eq_true rfl, Nat.le_of_ble_eq_true rfl⟩, by decide +kernel, ?_⟩
  rw [show m_nx K25 = 120 by decide +kernel]
  refine ⟨d - 1, 6, 604, 79, 5210, fun o M' => o = .inl none ∧ M' = K32, by omega, rfl, rfl, (kLa_init_4 (by omega) ⟨rfl, rfl⟩), fun v M' hv => ?_, fun E M' hv => by cases hv.1⟩
  obtain ⟨hv, rfl⟩ := hv
  cases hv
  show Ev l G d mBo_init 70 [.ref 100] [.ref 120, .ref 100] K32 79 5210 Φ
  refine bBo_init_70 K32 100 100 120 ⟨by decide +kernel, ?_⟩
  show Ev l G d mBo_init 73 [.ref 100] [] K33 79 5210 Φ
  refine bBo_init_73 K33 100 ⟨⟨Nat.le_of_ble_eq_true rfl, Nat.le_of_ble_eq_true rfl⟩, by decide +kernel, by decide +kernel, ?_⟩
  rw [show m_nx K33 = 127 by decide +kernel, show m_r (m_al K33 (3, 0)) 100 6 = 113 by decide +kernel, show m_r (m_al K33 (3, 0)) 100 4 = 107 by decide +kernel]
  refine ⟨d - 1, 3, 2186, 75, 3017, fun o M' => o = .inl none ∧ M' = K42, by omega, rfl, rfl, (kIf_init_5 (by omega) ⟨rfl, rfl⟩), fun v M' hv => ?_, fun E M' hv => by cases hv.1⟩
  obtain ⟨hv, rfl⟩ := hv
  cases hv
  show Ev l G d mBo_init 89 [.ref 100] [.ref 127, .ref 100] K42 75 3017 Φ
  refine bBo_init_89 K42 100 100 127 ⟨by decide +kernel, ?_⟩
  show Ev l G d mBo_init 92 [.ref 100] [] K43 75 3017 Φ
  refine bBo_init_92 K43 100 ⟨⟨Nat.le_of_ble_eq_true rfl, Nat.le_of_ble_eq_true rfl⟩, by decide +kernel, by decide +kernel, ?_⟩
  rw [show m_nx K43 = 131 by decide +kernel, show m_r (m_al K43 (3, 0)) 100 6 = 113 by decide +kernel, show m_r (m_al K43 (3, 0)) 100 4 = 107 by decide +kernel]
  refine ⟨d - 1, 3, 2186, 71, 824, fun o M' => o = .inl none ∧ M' = K52, by omega, rfl, rfl, (kIf_init_6 (by omega) ⟨rfl, rfl⟩), fun v M' hv => ?_, fun E M' hv => by cases hv.1⟩
  obtain ⟨hv, rfl⟩ := hv
  cases hv
  show Ev l G d mBo_init 108 [.ref 100] [.ref 131, .ref 100] K52 71 824 Φ
  refine bBo_init_108 K52 100 100 131 ⟨by decide +kernel, ?_⟩
  show Ev l G d mBo_init 111 [.ref 100] [] K53 71 824 Φ
  refine bBo_init_111 K53 100 ⟨⟨Nat.le_of_ble_eq_true rfl, Nat.le_of_ble_eq_true rfl⟩, by decide +kernel, by decide +kernel, ?_⟩
  rw [show m_nx K53 = 135 by decide +kernel, show m_r (m_al K53 (1, 0)) 100 4 = 107 by decide +kernel, show m_r (m_al K53 (1, 0)) 100 8 = 127 by decide +kernel]
  refine ⟨d - 1, 26, 343, 44, 464, fun o M' => o = .inl none ∧ M' = K95, by omega, rfl, rfl, (kDa_init_16 (by omega) ⟨rfl, rfl⟩), fun v M' hv => ?_, fun E M' hv => by cases hv.1⟩
  obtain ⟨hv, rfl⟩ := hv
  cases hv
  show Ev l G d mBo_init 127 [.ref 100] [.ref 135, .ref 100] K95 44 464 Φ
  refine bBo_init_127 K95 100 100 135 ⟨by decide +kernel, ?_⟩
  show Ev l G d mBo_init 130 [.ref 100] [] K96 44 464 Φ
  refine bBo_init_130 K96 100 ⟨⟨Nat.le_of_ble_eq_true rfl, Nat.le_of_ble_eq_true rfl⟩, by decide +kernel, by decide +kernel, ?_⟩
  rw [show m_nx K96 = 162 by decide +kernel, show m_r (m_al K96 (1, 0)) 100 4 = 107 by decide +kernel, show m_r (m_al K96 (1, 0)) 100 8 = 127 by decide +kernel]
  refine ⟨d - 1, 26, 343, 17, 104, fun o M' => o = .inl none ∧ M' = K138, by omega, rfl, rfl, (kDa_init_26 (by omega) ⟨rfl, rfl⟩), fun v M' hv => ?_, fun E M' hv => by cases hv.1⟩
  obtain ⟨hv, rfl⟩ := hv
  cases hv
  show Ev l G d mBo_init 146 [.ref 100] [.ref 162, .ref 100] K138 17 104 Φ
  refine bBo_init_146 K138 100 100 162 ⟨by decide +kernel, ?_⟩
  show Ev l G d mBo_init 149 [.ref 100] [] K139 17 104 Φ
  refine bBo_init_149 K139 100 ⟨⟨Nat.le_of_ble_eq_true rfl, Nat.le_of_ble_eq_true rfl⟩, by decide +kernel, ?_⟩
  rw [show m_nx K139 = 189 by decide +kernel]
  refine ⟨d - 1, 1, 0, 15, 98, fun o M' => o = .inl none ∧ M' = K142, by omega, rfl, rfl, (kWr_init_27 (by omega) ⟨rfl, rfl⟩), fun v M' hv => ?_, fun E M' hv => by cases hv.1⟩
  obtain ⟨hv, rfl⟩ := hv
  cases hv
  show Ev l G d mBo_init 157 [.ref 100] [.ref 189, .ref 100] K142 15 98 Φ
  refine bBo_init_157 K142 100 100 189 ⟨by decide +kernel, ?_⟩
  show Ev l G d mBo_init 160 [.ref 100] [] K143 15 98 Φ
  refine bBo_init_160 K143 100 ⟨⟨Nat.le_of_ble_eq_true rfl, Nat.le_of_ble_eq_true rfl⟩, by decide +kernel, ?_⟩
  rw [show m_nx K143 = 191 by decide +kernel]
  refine ⟨d - 1, 0, 0, 14, 95, fun o M' => o = .inl none ∧ M' = K145, by omega, rfl, rfl, (kSk_init_28 (by omega) ⟨rfl, rfl⟩), fun v M' hv => ?_, fun E M' hv => by cases hv.1⟩
  obtain ⟨hv, rfl⟩ := hv
  cases hv
  show Ev l G d mBo_init 168 [.ref 100] [.ref 191, .ref 100] K145 14 95 Φ
  refine bBo_init_168 K145 100 100 191 ⟨by decide +kernel, ?_⟩
  show Ev l G d mBo_init 171 [.ref 100] [] K146 14 95 Φ
  refine bBo_init_171 K146 100 ⟨⟨Nat.le_of_ble_eq_true rfl, Nat.le_of_ble_eq_true rfl⟩, by decide +kernel, ?_⟩
  rw [show m_nx K146 = 192 by decide +kernel]
  show Ev l G d mBo_init 179 [.ref 100] [] K147 13 87 Φ
  refine bBo_init_179 K147 100 ⟨⟨Nat.le_of_ble_eq_true rfl, Nat.le_of_ble_eq_true rfl⟩, ⟨Nat.le_of_ble_eq_true rfl, Nat.le_of_ble_eq_true rfl⟩, by decide +kernel, ?_⟩
  rw [show m_nx K147 = 193 by decide +kernel, show m_nx (m_al K147 (31, 3)) = 194 by decide +kernel]
  refine ⟨d - 1, 3, 24, 8, 56, fun o M' => o = .inl none ∧ M' = K151, by omega, rfl, rfl, (kIm_init_29 (by omega) ⟨rfl, rfl⟩), fun v M' hv => ?_, fun E M' hv => by cases hv.1⟩
  obtain ⟨hv, rfl⟩ := hv
  cases hv
  show Ev l G d mBo_init 193 [.ref 100] [.ref 194, .int 0, .ref 193, .ref 193, .ref 100] K151 8 56 Φ
  refine bBo_init_193 K151 100 100 193 193 0 194 ⟨by decide +kernel, vp_in_dec (by decide +kernel), by decide +kernel, ⟨Nat.le_of_ble_eq_true rfl, Nat.le_of_ble_eq_true rfl⟩, by decide +kernel, ?_⟩
  rw [show m_nx (m_sr K151 193 (0 : Int32).toNatClampNeg 194) = 198 by decide +kernel]
  refine ⟨d - 1, 3, 24, 4, 28, fun o M' => o = .inl none ∧ M' = K155, by omega, rfl, rfl, (kIm_init_30 (by omega) ⟨rfl, rfl⟩), fun v M' hv => ?_, fun E M' hv => by cases hv.1⟩
  obtain ⟨hv, rfl⟩ := hv
  cases hv
  show Ev l G d mBo_init 203 [.ref 100] [.ref 198, .int 1, .ref 193, .ref 193, .ref 100] K155 4 28 Φ
  refine bBo_init_203 K155 100 100 193 193 1 198 ⟨by decide +kernel, vp_in_dec (by decide +kernel), by decide +kernel, ⟨Nat.le_of_ble_eq_true rfl, Nat.le_of_ble_eq_true rfl⟩, by decide +kernel, ?_⟩
  rw [show m_nx (m_sr K155 193 (1 : Int32).toNatClampNeg 198) = 202 by decide +kernel]
  refine ⟨d - 1, 3, 24, 0, 0, fun o M' => o = .inl none ∧ M' = K159, by omega, rfl, rfl, (kIm_init_31 (by omega) ⟨rfl, rfl⟩), fun v M' hv => ?_, fun E M' hv => by cases hv.1⟩
  obtain ⟨hv, rfl⟩ := hv
  cases hv
  show Ev l G d mBo_init 213 [.ref 100] [.ref 202, .int 2, .ref 193, .ref 193, .ref 100] K159 0 0 Φ
  refine bBo_init_213 K159 100 100 193 193 2 202 ⟨by decide +kernel, vp_in_dec (by decide +kernel), by decide +kernel, by decide +kernel, ?_⟩
  show Ev l G d mBo_init 217 [.ref 100] [] K160 0 0 Φ
  refine bBo_init_217 K160 100 ?_
  exact h
def K161 : Mm := m_al K160 (11, 0)
def K162 : Mm := m_si K161 206 3 ((-1))
def K163 : Mm := m_sr (m_al K162 (20, 500)) 206 9 207
def K164 : Mm := m_sr (m_mal K163 8 8) 206 12 208
def K165 : Mm := m_sr (m_mal K164 8 8) 206 13 217
def K166 : Mm := m_sr (m_al K165 (20, 10)) 206 17 226
def K167 : Mm := m_sr (m_al K166 (20, 10)) 206 18 227
def K168 : Mm := m_sr (m_al K167 (20, 10)) 206 19 228
def K169 : Mm := m_sr (m_al K168 (20, 10)) 206 20 229
def K170 : Mm := m_sr (m_al K169 (20, 10)) 206 21 230
def K171 : Mm := m_sr (m_al K170 (20, 10)) 206 22 231
def K172 : Mm := m_sr (m_mal K171 10 800) 206 23 232
def K173 : Mm := m_sr (m_mal K172 10 800) 206 24 243
def K174 : Mm := m_sr (m_al K173 (20, 800)) 206 25 254
def K175 : Mm := m_sr (m_al K174 (20, 7)) 206 26 255
def K176 : Mm := m_sr (m_al K175 (20, 8)) 206 29 256
def K177 : Mm := m_sr (m_mal K176 3 32) 206 30 257
def K178 : Mm := m_sr (m_al K177 (20, 8)) 206 31 261
def K179 : Mm := m_sr (m_al K178 (20, 8)) 206 32 262
def K180 : Mm := m_si K179 206 34 ((-1))
def K181 : Mm := m_si K180 206 37 ((-1))
def K182 : Mm := m_sr (m_al K181 (20, 9)) 206 45 263
def K183 : Mm := m_sr (m_al K182 (20, 9)) 206 46 264
def K184 : Mm := m_sr (m_al K183 (20, 9)) 206 47 265
def K185 : Mm := m_sr (m_al K184 (20, 9)) 206 48 266
def K186 : Mm := m_sr (m_al K185 (20, 9)) 206 49 267
def K187 : Mm := m_sr (m_al K186 (20, 9)) 206 50 268
def K188 : Mm := m_sr (m_al K187 (20, 8)) 206 51 269
def K189 : Mm := m_sr (m_mal K188 9 100) 206 52 270
def K190 : Mm := m_sr (m_mal K189 64 4) 206 53 280
def K191 : Mm := m_sr (m_al K190 (20, 8)) 206 54 345
def K192 : Mm := m_sr (m_al K191 (20, 8)) 206 55 346
def K193 : Mm := m_sr (m_al K192 (20, 8)) 206 56 347
def K194 : Mm := m_sr (m_mal K193 8 8) 206 58 348
def K195 : Mm := m_sr (m_mal K194 3125 5) 206 59 357
theorem kRe_init_33 {l : Launch} {G : Gx} {d : Nat} {Φ : OutV → Mm → Prop} (hd : 1 ≤ d) (h : Φ (.inl none) K195) : Ct l G d mRe_init 3276 37791 [.ref 206] K161 Φ := by
  refine Ct.of rfl (Nat.le_of_ble_eq_true rfl) ?_
  refine bRe_init_0 K161 206 ⟨⟨by decide +kernel, by omega⟩, by decide +kernel, ?_⟩
  show Ev l G d mRe_init 9 [.ref 206] [] K162 3276 37791 Φ
  refine bRe_init_9 K162 206 ⟨⟨Nat.le_of_ble_eq_true rfl, Nat.le_of_ble_eq_true rfl⟩, by decide +kernel, ?_⟩
  rw [show m_nx K162 = 207 by decide +kernel]
  show Ev l G d mRe_init 18 [.ref 206] [] K163 3275 37291 Φ
  refine bRe_init_18 K163 206 ⟨⟨Nat.le_of_ble_eq_true rfl, Nat.le_of_ble_eq_true rfl⟩, by decide +kernel, ?_⟩
  rw [show m_nx K163 = 208 by decide +kernel]
  show Ev l G d mRe_init 30 [.ref 206] [] K164 3266 37219 Φ
  refine bRe_init_30 K164 206 ⟨⟨Nat.le_of_ble_eq_true rfl, Nat.le_of_ble_eq_true rfl⟩, by decide +kernel, ?_⟩
  rw [show m_nx K164 = 217 by decide +kernel]
  show Ev l G d mRe_init 42 [.ref 206] [] K165 3257 37147 Φ
  refine bRe_init_42 K165 206 ⟨⟨Nat.le_of_ble_eq_true rfl, Nat.le_of_ble_eq_true rfl⟩, by decide +kernel, ?_⟩
  rw [show m_nx K165 = 226 by decide +kernel]
  show Ev l G d mRe_init 50 [.ref 206] [] K166 3256 37137 Φ
  refine bRe_init_50 K166 206 ⟨⟨Nat.le_of_ble_eq_true rfl, Nat.le_of_ble_eq_true rfl⟩, by decide +kernel, ?_⟩
  rw [show m_nx K166 = 227 by decide +kernel]
  show Ev l G d mRe_init 58 [.ref 206] [] K167 3255 37127 Φ
  refine bRe_init_58 K167 206 ⟨⟨Nat.le_of_ble_eq_true rfl, Nat.le_of_ble_eq_true rfl⟩, by decide +kernel, ?_⟩
  rw [show m_nx K167 = 228 by decide +kernel]
  show Ev l G d mRe_init 66 [.ref 206] [] K168 3254 37117 Φ
  refine bRe_init_66 K168 206 ⟨⟨Nat.le_of_ble_eq_true rfl, Nat.le_of_ble_eq_true rfl⟩, by decide +kernel, ?_⟩
  rw [show m_nx K168 = 229 by decide +kernel]
  show Ev l G d mRe_init 74 [.ref 206] [] K169 3253 37107 Φ
  refine bRe_init_74 K169 206 ⟨⟨Nat.le_of_ble_eq_true rfl, Nat.le_of_ble_eq_true rfl⟩, by decide +kernel, ?_⟩
  rw [show m_nx K169 = 230 by decide +kernel]
  show Ev l G d mRe_init 82 [.ref 206] [] K170 3252 37097 Φ
  refine bRe_init_82 K170 206 ⟨⟨Nat.le_of_ble_eq_true rfl, Nat.le_of_ble_eq_true rfl⟩, by decide +kernel, ?_⟩
  rw [show m_nx K170 = 231 by decide +kernel]
  show Ev l G d mRe_init 90 [.ref 206] [] K171 3251 37087 Φ
  refine bRe_init_90 K171 206 ⟨⟨Nat.le_of_ble_eq_true rfl, Nat.le_of_ble_eq_true rfl⟩, by decide +kernel, ?_⟩
  rw [show m_nx K171 = 232 by decide +kernel]
  show Ev l G d mRe_init 103 [.ref 206] [] K172 3240 29077 Φ
  refine bRe_init_103 K172 206 ⟨⟨Nat.le_of_ble_eq_true rfl, Nat.le_of_ble_eq_true rfl⟩, by decide +kernel, ?_⟩
  rw [show m_nx K172 = 243 by decide +kernel]
  show Ev l G d mRe_init 116 [.ref 206] [] K173 3229 21067 Φ
  refine bRe_init_116 K173 206 ⟨⟨Nat.le_of_ble_eq_true rfl, Nat.le_of_ble_eq_true rfl⟩, by decide +kernel, ?_⟩
  rw [show m_nx K173 = 254 by decide +kernel]
  show Ev l G d mRe_init 125 [.ref 206] [] K174 3228 20267 Φ
  refine bRe_init_125 K174 206 ⟨⟨Nat.le_of_ble_eq_true rfl, Nat.le_of_ble_eq_true rfl⟩, by decide +kernel, ?_⟩
  rw [show m_nx K174 = 255 by decide +kernel]
  show Ev l G d mRe_init 133 [.ref 206] [] K175 3227 20260 Φ
  refine bRe_init_133 K175 206 ⟨⟨Nat.le_of_ble_eq_true rfl, Nat.le_of_ble_eq_true rfl⟩, by decide +kernel, ?_⟩
  rw [show m_nx K175 = 256 by decide +kernel]
  show Ev l G d mRe_init 141 [.ref 206] [] K176 3226 20252 Φ
  refine bRe_init_141 K176 206 ⟨⟨Nat.le_of_ble_eq_true rfl, Nat.le_of_ble_eq_true rfl⟩, by decide +kernel, ?_⟩
  rw [show m_nx K176 = 257 by decide +kernel]
  show Ev l G d mRe_init 152 [.ref 206] [] K177 3222 20153 Φ
  refine bRe_init_152 K177 206 ⟨⟨Nat.le_of_ble_eq_true rfl, Nat.le_of_ble_eq_true rfl⟩, by decide +kernel, ?_⟩
  rw [show m_nx K177 = 261 by decide +kernel]
  show Ev l G d mRe_init 160 [.ref 206] [] K178 3221 20145 Φ
  refine bRe_init_160 K178 206 ⟨⟨Nat.le_of_ble_eq_true rfl, Nat.le_of_ble_eq_true rfl⟩, by decide +kernel, ?_⟩
  rw [show m_nx K178 = 262 by decide +kernel]
  show Ev l G d mRe_init 168 [.ref 206] [] K179 3220 20137 Φ
  refine bRe_init_168 K179 206 ⟨by decide +kernel, ?_⟩
  show Ev l G d mRe_init 173 [.ref 206] [] K180 3220 20137 Φ
  refine bRe_init_173 K180 206 ⟨by decide +kernel, ?_⟩
  show Ev l G d mRe_init 178 [.ref 206] [] K181 3220 20137 Φ
  refine bRe_init_178 K181 206 ⟨⟨Nat.le_of_ble_eq_true rfl, Nat.le_of_ble_eq_true rfl⟩, by decide +kernel, ?_⟩
  rw [show m_nx K181 = 263 by decide +kernel]
  show Ev l G d mRe_init 186 [.ref 206] [] K182 3219 20128 Φ
  refine bRe_init_186 K182 206 ⟨⟨Nat.le_of_ble_eq_true rfl, Nat.le_of_ble_eq_true rfl⟩, by decide +kernel, ?_⟩
  rw [show m_nx K182 = 264 by decide +kernel]
  show Ev l G d mRe_init 194 [.ref 206] [] K183 3218 20119 Φ
  refine bRe_init_194 K183 206 ⟨⟨Nat.le_of_ble_eq_true rfl, Nat.le_of_ble_eq_true rfl⟩, by decide +kernel, ?_⟩
  rw [show m_nx K183 = 265 by decide +kernel]
  show Ev l G d mRe_init 202 [.ref 206] [] K184 3217 20110 Φ
  refine bRe_init_202 K184 206 ⟨⟨Nat.le_of_ble_eq_true rfl, Nat.le_of_ble_eq_true rfl⟩, by decide +kernel, ?_⟩
  rw [show m_nx K184 = 266 by decide +kernel]
  show Ev l G d mRe_init 210 [.ref 206] [] K185 3216 20101 Φ
  refine bRe_init_210 K185 206 ⟨⟨Nat.le_of_ble_eq_true rfl, Nat.le_of_ble_eq_true rfl⟩, by decide +kernel, ?_⟩
  rw [show m_nx K185 = 267 by decide +kernel]
  show Ev l G d mRe_init 218 [.ref 206] [] K186 3215 20092 Φ
  refine bRe_init_218 K186 206 ⟨⟨Nat.le_of_ble_eq_true rfl, Nat.le_of_ble_eq_true rfl⟩, by decide +kernel, ?_⟩
  rw [show m_nx K186 = 268 by decide +kernel]
  show Ev l G d mRe_init 226 [.ref 206] [] K187 3214 20083 Φ
  refine bRe_init_226 K187 206 ⟨⟨Nat.le_of_ble_eq_true rfl, Nat.le_of_ble_eq_true rfl⟩, by decide +kernel, ?_⟩
  rw [show m_nx K187 = 269 by decide +kernel]
  show Ev l G d mRe_init 234 [.ref 206] [] K188 3213 20075 Φ
  refine bRe_init_234 K188 206 ⟨⟨Nat.le_of_ble_eq_true rfl, Nat.le_of_ble_eq_true rfl⟩, by decide +kernel, ?_⟩
  rw [show m_nx K188 = 270 by decide +kernel]
  show Ev l G d mRe_init 246 [.ref 206] [] K189 3203 19166 Φ
  refine bRe_init_246 K189 206 ⟨⟨Nat.le_of_ble_eq_true rfl, Nat.le_of_ble_eq_true rfl⟩, by decide +kernel, ?_⟩
  rw [show m_nx K189 = 280 by decide +kernel]
  show Ev l G d mRe_init 257 [.ref 206] [] K190 3138 18846 Φ
  refine bRe_init_257 K190 206 ⟨⟨Nat.le_of_ble_eq_true rfl, Nat.le_of_ble_eq_true rfl⟩, by decide +kernel, ?_⟩
  rw [show m_nx K190 = 345 by decide +kernel]
  show Ev l G d mRe_init 265 [.ref 206] [] K191 3137 18838 Φ
  refine bRe_init_265 K191 206 ⟨⟨Nat.le_of_ble_eq_true rfl, Nat.le_of_ble_eq_true rfl⟩, by decide +kernel, ?_⟩
  rw [show m_nx K191 = 346 by decide +kernel]
  show Ev l G d mRe_init 273 [.ref 206] [] K192 3136 18830 Φ
  refine bRe_init_273 K192 206 ⟨⟨Nat.le_of_ble_eq_true rfl, Nat.le_of_ble_eq_true rfl⟩, by decide +kernel, ?_⟩
  rw [show m_nx K192 = 347 by decide +kernel]
  show Ev l G d mRe_init 281 [.ref 206] [] K193 3135 18822 Φ
  refine bRe_init_281 K193 206 ⟨⟨Nat.le_of_ble_eq_true rfl, Nat.le_of_ble_eq_true rfl⟩, by decide +kernel, ?_⟩
  rw [show m_nx K193 = 348 by decide +kernel]
  show Ev l G d mRe_init 293 [.ref 206] [] K194 3126 18750 Φ
  refine bRe_init_293 K194 206 ⟨⟨Nat.le_of_ble_eq_true rfl, Nat.le_of_ble_eq_true rfl⟩, by decide +kernel, ?_⟩
  rw [show m_nx K194 = 357 by decide +kernel]
  show Ev l G d mRe_init 305 [.ref 206] [] K195 0 0 Φ
  refine bRe_init_305 K195 206 ?_
  exact h
def K196 : Mm := m_al K195 (22, 1)
