/-! ===== Math.max, Math.min: entries of the machine ===== -/
section MM_
variable {l : Launch} {G : Gx} {d : Nat} {y : MR} {pc : Nat} {ls st : List Value} {M : Mm} {bc bs : Nat} {Φ : OutV → Mm → Prop}
theorem Ev.mmax {idx : Nat} {x z : Int32} (hd : decode y.2.1 pc = .ok (.invokestatic idx, 3)) (hl : Cond.methodLink y.1.cls idx Lib.Math.max.name ∈ lwg) (h1 : Cond.static Lib.Math.max.name ∈ lwg) (h2 : Cond.initialized "java/lang/Math" ∈ lwg) (h3 : Cond.code Lib.Math.max.name Lib.Math.max.code 2 (some .int) ∈ lwg) (hst : (st.map fun v => v.category).sum ≤ 8) (hd1 : 1 ≤ d)
    (kk : Ev l G d y (pc + 3) ls (.int (if x < z then z else x) :: st) M bc bs Φ) : Ev l G d y pc ls (.int z :: .int x :: st) M bc bs Φ := by
  intro p e s m args below meth c mc ms ad0 n0 H locs cells slots ad lsA F X0
  obtain ⟨x1, x2, x3, x4, x5, x6, x7, x8, x9⟩ := id X0
  have K := kk p e s m args below meth c mc ms ad0 n0 H locs cells slots ad lsA F ⟨x1, x2, x3, x4, x5, x6, bd_i (bd_t (bd_t x7)), x8, x9⟩
  have hsum := m_sum (ad := ad) hst
  exact va_mmax F.1 F.2.1 (F.2.2.2.1.trans x5.1.symm) F.2.2.2.2.1 (F.2.2.2.2.2.1 _ hl) (F.2.2.2.2.2.1 _ h1) (F.2.2.2.2.2.1 _ h2) (F.2.2.2.2.2.1 _ h3) hd1 (show _ ≤ 64 * d by omega) (show cells ≤ mc by omega) (show slots ≤ ms by omega) hd K
theorem Ev.mmin {idx : Nat} {x z : Int32} (hd : decode y.2.1 pc = .ok (.invokestatic idx, 3)) (hl : Cond.methodLink y.1.cls idx Lib.Math.min.name ∈ lwg) (h1 : Cond.static Lib.Math.min.name ∈ lwg) (h2 : Cond.initialized "java/lang/Math" ∈ lwg) (h3 : Cond.code Lib.Math.min.name Lib.Math.min.code 2 (some .int) ∈ lwg) (hst : (st.map fun v => v.category).sum ≤ 8) (hd1 : 1 ≤ d)
    (kk : Ev l G d y (pc + 3) ls (.int (if z < x then z else x) :: st) M bc bs Φ) : Ev l G d y pc ls (.int z :: .int x :: st) M bc bs Φ := by
  intro p e s m args below meth c mc ms ad0 n0 H locs cells slots ad lsA F X0
  obtain ⟨x1, x2, x3, x4, x5, x6, x7, x8, x9⟩ := id X0
  have K := kk p e s m args below meth c mc ms ad0 n0 H locs cells slots ad lsA F ⟨x1, x2, x3, x4, x5, x6, bd_i (bd_t (bd_t x7)), x8, x9⟩
  have hsum := m_sum (ad := ad) hst
  exact va_mmin F.1 F.2.1 (F.2.2.2.1.trans x5.1.symm) F.2.2.2.2.1 (F.2.2.2.2.2.1 _ hl) (F.2.2.2.2.2.1 _ h1) (F.2.2.2.2.2.1 _ h2) (F.2.2.2.2.2.1 _ h3) hd1 (show _ ≤ 64 * d by omega) (show cells ≤ mc by omega) (show slots ≤ ms by omega) hd K
end MM_
