/-! ===== rules: arrays ===== -/
section R3
variable {l : Launch} {G : Gx} {d : Nat} {y : MR} {pc : Nat} {ls st : List Value} {M : Mm} {bc bs : Nat} {Φ : OutV → Mm → Prop}
theorem Ev.iald {a n : Nat} {i : Int32} (hd : decode y.2.1 pc = .ok (.iaload, 1)) (hs : m_sh M a = (20, n)) (hin : vp_in i n) (kk : Ev l G d y (pc + 1) ls (.int (m_i M a i.toNatClampNeg) :: st) M bc bs Φ) : Ev l G d y pc ls (.int i :: .ref a :: st) M bc bs Φ :=
  Ev.st1 (fun n hls h => bd_i (bd_t (bd_t h))) (fun p e R s m args below meth c H locs cells slots Q ad lsA F L X S k => by
    obtain ⟨o1, o2⟩ := m_own X (a := a) (by rw [hs]; simp)
    have hw := m_ws_at G.2.1 ad M ⟨o1, o2⟩
    rw [m_cell_I G.2.1 ad M hs (by decide) (by decide)] at hw
    obtain ⟨b, rfl⟩ : ∃ b, a = b + 1 := ⟨a - 1, by omega⟩
    exact va_iald (D := G.1) (cl := vwCl) F.1 F.2.1 F.2.2.2.2.2.2.2.2.1.1 X.1 (b + 1 - 100) 0 hw rfl hin hd k) kk
theorem Ev.bald {a n : Nat} {i : Int32} (hd : decode y.2.1 pc = .ok (.baload, 1)) (hs : m_sh M a = (21, n)) (hin : vp_in i n) (kk : Ev l G d y (pc + 1) ls (.int (m_i M a i.toNatClampNeg) :: st) M bc bs Φ) : Ev l G d y pc ls (.int i :: .ref a :: st) M bc bs Φ :=
  Ev.st1 (fun n hls h => bd_i (bd_t (bd_t h))) (fun p e R s m args below meth c H locs cells slots Q ad lsA F L X S k => by
    obtain ⟨o1, o2⟩ := m_own X (a := a) (by rw [hs]; simp)
    have hw := m_ws_at G.2.1 ad M ⟨o1, o2⟩
    rw [m_cell_I G.2.1 ad M hs (by decide) (by decide)] at hw
    obtain ⟨b, rfl⟩ : ∃ b, a = b + 1 := ⟨a - 1, by omega⟩
    exact va_bald (D := G.1) (cl := vwCl) F.1 F.2.1 F.2.2.2.2.2.2.2.2.1.1 X.1 (b + 1 - 100) 1 hw rfl hin hd k) kk
theorem Ev.lald {a n : Nat} {i : Int32} (hd : decode y.2.1 pc = .ok (.laload, 1)) (hs : m_sh M a = (22, n)) (hin : vp_in i n) (kk : Ev l G d y (pc + 1) ls (.long (m_l M a i.toNatClampNeg) :: st) M bc bs Φ) : Ev l G d y pc ls (.int i :: .ref a :: st) M bc bs Φ :=
  Ev.st1 (fun n hls h => bd_l (bd_t (bd_t h))) (fun p e R s m args below meth c H locs cells slots Q ad lsA F L X S k => by
    obtain ⟨o1, o2⟩ := m_own X (a := a) (by rw [hs]; simp)
    have hw := m_ws_at G.2.1 ad M ⟨o1, o2⟩
    rw [m_cell_L G.2.1 ad M hs] at hw
    obtain ⟨b, rfl⟩ : ∃ b, a = b + 1 := ⟨a - 1, by omega⟩
    exact va_lald (D := G.1) (cl := vwCl) F.1 F.2.1 F.2.2.2.2.2.2.2.2.1.1 X.1 (b + 1 - 100) 2 hw rfl hin hd k) kk
theorem Ev.alen {a t n : Nat} (hd : decode y.2.1 pc = .ok (.arraylength, 1)) (hs : m_sh M a = (t, n)) (ht : t = 20 ∨ t = 21) (kk : Ev l G d y (pc + 1) ls (.int (Int32.ofNat n) :: st) M bc bs Φ) : Ev l G d y pc ls (.ref a :: st) M bc bs Φ :=
  Ev.st1 (fun n hls h => bd_i (bd_t h)) (fun p e R s m args below meth c H locs cells slots Q ad lsA F L X S k => by
    obtain ⟨o1, o2⟩ := m_own X (a := a) (by rw [hs]; show t ≠ 99; omega)
    have hw := m_ws_at G.2.1 ad M ⟨o1, o2⟩
    rw [m_cell_I G.2.1 ad M hs (by omega) (by omega)] at hw
    obtain ⟨b, rfl⟩ : ∃ b, a = b + 1 := ⟨a - 1, by omega⟩
    rcases ht with rfl | rfl
    · exact va_alen (D := G.1) (cl := vwCl) F.1 F.2.1 F.2.2.2.2.2.2.2.2.1.1 X.1 (b + 1 - 100) 0 hw (ty := .int) rfl rfl hd k
    · exact va_alen (D := G.1) (cl := vwCl) F.1 F.2.1 F.2.2.2.2.2.2.2.2.1.1 X.1 (b + 1 - 100) 1 hw (ty := .byte) rfl rfl hd k) kk
theorem m_isArr {U : State} {cA : ClassId} {ty : FieldType} (h : ArrOfT U cA ty) (n : Nat) (f : Nat → Value) : U.isArrayOf (arrV cA n f) ty := by
  obtain ⟨h1, k, h2, comp, h3⟩ := h n f
  exact ⟨h1, k, h2, comp, h3⟩
theorem Ev.aald {a t n : Nat} {i : Int32} (hd : decode y.2.1 pc = .ok (.aaload, 1)) (hs : m_sh M a = (t, n)) (ht : t = 30 ∨ t = 31 ∨ t = 32 ∨ t = 33) (hin : vp_in i n) (kk : Ev l G d y (pc + 1) ls (.ref (m_r M a i.toNatClampNeg) :: st) M bc bs Φ) : Ev l G d y pc ls (.int i :: .ref a :: st) M bc bs Φ := by
  intro p e s m args below meth c mc ms ad0 n0 H locs cells slots ad lsA F X0
  obtain ⟨x1, x2, x3, x4, x5, x6, x7, x8, x9⟩ := id X0
  have K := kk p e s m args below meth c mc ms ad0 n0 H locs cells slots ad lsA F ⟨x1, x2, x3, x4, x5, x6, bd_r (x3.2.2.2.1 _ _) (bd_t (bd_t x7)), x8, x9⟩
  obtain ⟨o1, o2⟩ := m_own x3 (a := a) (by rw [hs]; show t ≠ 99; omega)
  have hw := m_ws_at G.2.1 ad M ⟨o1, o2⟩
  rw [m_cell_R G.2.1 ad M hs (by omega)] at hw
  obtain ⟨b, rfl⟩ : ∃ b, a = b + 1 := ⟨a - 1, by omega⟩
  rw [List.map_cons, tr_rf] at K
  rcases ht with rfl | rfl | rfl | rfl
  · exact va_aldq (D := G.1) (cl := vwCl) F.1 F.2.1 F.2.2.2.2.2.2.2.2.1.1 x3.1 (b + 1 - 100) 3 hw rfl hin hd K
  · exact va_aldq (D := G.1) (cl := vwCl) F.1 F.2.1 F.2.2.2.2.2.2.2.2.1.1 x3.1 (b + 1 - 100) 4 hw rfl hin hd K
  · exact va_aldq (D := G.1) (cl := vwCl) F.1 F.2.1 F.2.2.2.2.2.2.2.2.1.1 x3.1 (b + 1 - 100) 5 hw rfl hin hd K
  · have hc : H[ad (b + 1)]? = some (arrV (G.2.1 33) n (fun j => va_rf (rf_ ad (m_r M (b + 1) j)))) := x3.1 _ _ hw
    have hA := (F.2.2.2.2.2.2.2.2.1.1.2 6 (G.2.1 33, .array .int) rfl).1
    refine W.aald F.1 F.2.1 hc (m_isArr hA _ _) rfl (fun h => by cases h) (by rw [show (arrV (G.2.1 33) n (fun j => va_rf (rf_ ad (m_r M (b + 1) j)))).slots.size = n from Array.size_ofFn]; exact hin) (v := va_rf (rf_ ad (m_r M (b + 1) i.toNatClampNeg))) ?_ rfl rfl hd K
    have hlt : i.toNatClampNeg < n := Nat.lt_of_not_le fun q => hin (Or.inr q)
    show (Array.ofFn (n := n) fun j => va_rf (rf_ ad (m_r M (b + 1) j.val)))[i.toNatClampNeg]? = _
    rw [Array.getElem?_ofFn, dif_pos hlt]
/-- what a store into one cell of the world leaves: M' is M but for the cell a -/
theorem m_stored {M' : Mm} {a : Nat} {ad : Nat → Nat} {s : State} {H H1 : Heap} {locs1 : List Loc} {e1 : va_E} (x3 : RelE G M ad H) (o : 100 ≤ a ∧ a < m_nx M) (hn : m_nx M' = m_nx M) (hsh : ∀ b, m_sh M' b = m_sh M b) (hr : ∀ b j, m_r M' b j < m_nx M') (hc : ∀ (b : Nat), b ≠ a → m_cell G.2.1 ad M' b = m_cell G.2.1 ad M b) (he : m_cell G.2.1 ad M' a = e1)
    (hF : G.2.2.1.size ≤ s.heap.size ∧ ∀ q : Nat, q < G.2.2.1.size → s.heap[q]? = G.2.2.1[q]?) (p1 : va_P G.1 vwCl ((m_ws G.2.1 ad M).set (a - 100) (ad a, e1)) H1) (p2 : va_D (fun q => G.2.2.1.size ≤ q) ((m_ws G.2.1 ad M).set (a - 100) (ad a, e1))) (p3 : va_S (fun q => G.2.2.1.size ≤ q) s.heap H1 locs1) : RelE G M' ad H1 := by
  rw [m_ws_set G.2.1 ad M M' o hn hc he] at p1 p2
  refine ⟨p1, p2, by rw [hn]; exact x3.2.2.1, hr, Nat.le_trans hF.1 p3.1, fun q hq => ?_, x3.2.2.2.2.2.2.1, fun b hb => by rw [hsh]; exact x3.2.2.2.2.2.2.2 b (by rw [← hn]; exact hb)⟩
  rw [p3.2.1 q (Nat.lt_of_lt_of_le hq hF.1) (Nat.not_le.mpr hq)]
  exact hF.2 q hq
theorem m_i_upd (M : Mm) (a k : Nat) (x : Int32) : m_i (m_si M a k x) a = upd (m_i M a) k x := funext fun j => by
  rw [m_i_si]
  by_cases h : j = k
  · subst h; rw [if_pos ⟨rfl, rfl⟩, pk_us]
  · rw [if_neg (fun q => h q.2), pk_un h]
theorem m_l_upd (M : Mm) (a k : Nat) (x : Int64) : m_l (m_sl M a k x) a = vp_updL (m_l M a) k x := funext fun j => by
  rw [m_l_sl]
  by_cases h : j = k
  · subst h; rw [if_pos ⟨rfl, rfl⟩, pk_uLs]
  · rw [if_neg (fun q => h q.2), pk_uLn h]
theorem Ev.iast {a n : Nat} {i x : Int32} (hd : decode y.2.1 pc = .ok (.iastore, 1)) (hs : m_sh M a = (20, n)) (hin : vp_in i n) (kk : Ev l G d y (pc + 1) ls st (m_si M a i.toNatClampNeg x) bc bs Φ) : Ev l G d y pc ls (.int x :: .int i :: .ref a :: st) M bc bs Φ := by
  intro p e s m args below meth c mc ms ad0 n0 H locs cells slots ad lsA F X0
  obtain ⟨x1, x2, x3, x4, x5, x6, x7, x8, x9⟩ := id X0
  obtain ⟨o1, o2⟩ := m_own x3 (a := a) (by rw [hs]; simp)
  have hw := m_ws_at G.2.1 ad M ⟨o1, o2⟩
  rw [m_cell_I G.2.1 ad M hs (by decide) (by decide)] at hw
  obtain ⟨b, rfl⟩ : ∃ b, a = b + 1 := ⟨a - 1, by omega⟩
  refine va_iast (D := G.1) (cl := vwCl) F.1 F.2.1 F.2.2.2.2.2.2.2.2.1.1 x3.1 x3.2.1 x4 (b + 1 - 100) 0 hw rfl hin hd fun H1 locs1 p1 p2 p3 => ?_
  have hR : RelE G (m_si M (b + 1) i.toNatClampNeg x) ad H1 := m_stored x3 ⟨o1, o2⟩ rfl (fun _ => rfl) x3.2.2.2.1 (fun q hq => m_cell_si G.2.1 ad M (b + 1) _ x hq) (by rw [m_cell_I G.2.1 ad (m_si M (b + 1) i.toNatClampNeg x) (t := 20) (n := n) hs (by decide) (by decide), m_i_upd]) F.2.2.2.2.2.2.2.2.2.2 p1 p2 p3
  exact kk p e s m args below meth c mc ms ad0 n0 H1 locs1 cells slots ad lsA F ⟨x1, x2, hR, p3, x5, x6, bd_t (bd_t (bd_t x7)), x8, x9⟩
theorem Ev.bast {a n : Nat} {i x : Int32} (hd : decode y.2.1 pc = .ok (.bastore, 1)) (hs : m_sh M a = (21, n)) (hin : vp_in i n) (kk : Ev l G d y (pc + 1) ls st (m_si M a i.toNatClampNeg (vp_nar .byte x)) bc bs Φ) : Ev l G d y pc ls (.int x :: .int i :: .ref a :: st) M bc bs Φ := by
  intro p e s m args below meth c mc ms ad0 n0 H locs cells slots ad lsA F X0
  obtain ⟨x1, x2, x3, x4, x5, x6, x7, x8, x9⟩ := id X0
  obtain ⟨o1, o2⟩ := m_own x3 (a := a) (by rw [hs]; simp)
  have hw := m_ws_at G.2.1 ad M ⟨o1, o2⟩
  rw [m_cell_I G.2.1 ad M hs (by decide) (by decide)] at hw
  obtain ⟨b, rfl⟩ : ∃ b, a = b + 1 := ⟨a - 1, by omega⟩
  refine va_bast (D := G.1) (cl := vwCl) F.1 F.2.1 F.2.2.2.2.2.2.2.2.1.1 x3.1 x3.2.1 x4 (b + 1 - 100) 1 hw rfl hin hd fun H1 locs1 p1 p2 p3 => ?_
  have hR : RelE G (m_si M (b + 1) i.toNatClampNeg (vp_nar .byte x)) ad H1 := m_stored x3 ⟨o1, o2⟩ rfl (fun _ => rfl) x3.2.2.2.1 (fun q hq => m_cell_si G.2.1 ad M (b + 1) _ _ hq) (by rw [m_cell_I G.2.1 ad (m_si M (b + 1) i.toNatClampNeg (vp_nar .byte x)) (t := 21) (n := n) hs (by decide) (by decide), m_i_upd]) F.2.2.2.2.2.2.2.2.2.2 p1 p2 p3
  exact kk p e s m args below meth c mc ms ad0 n0 H1 locs1 cells slots ad lsA F ⟨x1, x2, hR, p3, x5, x6, bd_t (bd_t (bd_t x7)), x8, x9⟩
theorem Ev.last {a n : Nat} {i : Int32} {x : Int64} (hd : decode y.2.1 pc = .ok (.lastore, 1)) (hs : m_sh M a = (22, n)) (hin : vp_in i n) (kk : Ev l G d y (pc + 1) ls st (m_sl M a i.toNatClampNeg x) bc bs Φ) : Ev l G d y pc ls (.long x :: .int i :: .ref a :: st) M bc bs Φ := by
  intro p e s m args below meth c mc ms ad0 n0 H locs cells slots ad lsA F X0
  obtain ⟨x1, x2, x3, x4, x5, x6, x7, x8, x9⟩ := id X0
  obtain ⟨o1, o2⟩ := m_own x3 (a := a) (by rw [hs]; simp)
  have hw := m_ws_at G.2.1 ad M ⟨o1, o2⟩
  rw [m_cell_L G.2.1 ad M hs] at hw
  obtain ⟨b, rfl⟩ : ∃ b, a = b + 1 := ⟨a - 1, by omega⟩
  refine va_last (D := G.1) (cl := vwCl) F.1 F.2.1 F.2.2.2.2.2.2.2.2.1.1 x3.1 x3.2.1 x4 (b + 1 - 100) 2 hw rfl hin hd fun H1 locs1 p1 p2 p3 => ?_
  have hR : RelE G (m_sl M (b + 1) i.toNatClampNeg x) ad H1 := m_stored x3 ⟨o1, o2⟩ rfl (fun _ => rfl) x3.2.2.2.1 (fun q hq => m_cell_sl G.2.1 ad M (b + 1) _ _ hq) (by rw [m_cell_L G.2.1 ad (m_sl M (b + 1) i.toNatClampNeg x) (n := n) hs, m_l_upd]) F.2.2.2.2.2.2.2.2.2.2 p1 p2 p3
  exact kk p e s m args below meth c mc ms ad0 n0 H1 locs1 cells slots ad lsA F ⟨x1, x2, hR, p3, x5, x6, bd_t (bd_t (bd_t x7)), x8, x9⟩
end R3
