/-! ===== rules: fields, arrays, new cells ===== -/
theorem m_own {G : Gx} {M : Mm} {ad : Nat → Nat} {H : Heap} (h : RelE G M ad H) {a : Nat} (hs : (m_sh M a).1 ≠ 99) : 100 ≤ a ∧ a < m_nx M := by
  by_cases q : 100 ≤ a ∧ a < m_nx M
  · exact q
  · exact absurd (h.2.2.2.2.2.2.2 a q) hs
theorem m_ws_at (cA : Nat → ClassId) (ad : Nat → Nat) (M : Mm) {a : Nat} (h : 100 ≤ a ∧ a < m_nx M) : (m_ws cA ad M)[a - 100]? = some (ad a, m_cell cA ad M a) := by
  unfold m_ws
  rw [List.getElem?_map, List.getElem?_range (by omega)]
  show some (ad (100 + (a - 100)), m_cell cA ad M (100 + (a - 100))) = _
  rw [show 100 + (a - 100) = a by omega]
theorem m_ws_set (cA : Nat → ClassId) (ad : Nat → Nat) (M M' : Mm) {a : Nat} (h : 100 ≤ a ∧ a < m_nx M) (hn : m_nx M' = m_nx M) (hc : ∀ b, b ≠ a → m_cell cA ad M' b = m_cell cA ad M b) {e : va_E} (he : m_cell cA ad M' a = e) : (m_ws cA ad M).set (a - 100) (ad a, e) = m_ws cA ad M' := by
  apply List.ext_getElem?
  intro i
  by_cases hi : i = a - 100
  · subst hi
    rw [List.getElem?_set_self (by unfold m_ws; rw [List.length_map, List.length_range]; omega), m_ws_at cA ad M' (by rw [hn]; exact h), he]
  · rw [List.getElem?_set_ne (Ne.symm hi)]
    unfold m_ws
    rw [hn, List.getElem?_map, List.getElem?_map]
    by_cases hl : i < m_nx M - 100
    · rw [List.getElem?_range hl]
      show some (ad (100 + i), m_cell cA ad M (100 + i)) = some (ad (100 + i), m_cell cA ad M' (100 + i))
      rw [hc (100 + i) (by omega)]
    · rw [List.getElem?_eq_none (by rw [List.length_range]; omega)]
      rfl
theorem m_cell_O (cA : Nat → ClassId) (ad : Nat → Nat) (M : Mm) {a ci : Nat} (hs : (m_sh M a).1 = ci) (hc : ci < 12) : m_cell cA ad M a = .inr (ci, (List.range (nFd ci)).map (m_fv ad M a ci)) := by
  unfold m_cell
  rw [hs, if_pos hc]
theorem m_cell_I (cA : Nat → ClassId) (ad : Nat → Nat) (M : Mm) {a t n : Nat} (hs : m_sh M a = (t, n)) (h1 : ¬ t < 12) (h2 : t < 22) : m_cell cA ad M a = .inl (cA t, n, .inl (m_i M a)) := by
  unfold m_cell
  rw [hs]
  show (if t < 12 then _ else if t < 22 then _ else _) = _
  rw [if_neg h1, if_pos h2]
theorem m_cell_L (cA : Nat → ClassId) (ad : Nat → Nat) (M : Mm) {a n : Nat} (hs : m_sh M a = (22, n)) : m_cell cA ad M a = .inl (cA 22, n, .inr (.inl (m_l M a))) := by
  unfold m_cell
  rw [hs]
  rfl
theorem m_cell_R (cA : Nat → ClassId) (ad : Nat → Nat) (M : Mm) {a t n : Nat} (hs : m_sh M a = (t, n)) (h1 : 22 < t) : m_cell cA ad M a = .inl (cA t, n, .inr (.inr (.inr (.inr (fun j => rf_ ad (m_r M a j)))))) := by
  unfold m_cell
  rw [hs]
  show (if t < 12 then _ else if t < 22 then _ else if t = 22 then _ else _) = _
  rw [if_neg (by omega), if_neg (by omega), if_neg (by omega)]
theorem m_cell_si (cA : Nat → ClassId) (ad : Nat → Nat) (M : Mm) (a k : Nat) (v : Int32) {b : Nat} (h : b ≠ a) : m_cell cA ad (m_si M a k v) b = m_cell cA ad M b := by
  have e1 : m_i (m_si M a k v) b = m_i M b := funext fun j => by rw [m_i_si, if_neg (fun q => h q.1)]
  have e2 : ∀ ci, m_fv ad (m_si M a k v) b ci = m_fv ad M b ci := fun ci => funext fun j => by
    unfold m_fv
    rw [e1, m_r_si]
  unfold m_cell
  rw [m_sh_si, e1, e2]
  rfl
theorem m_cell_sr (cA : Nat → ClassId) (ad : Nat → Nat) (M : Mm) (a k v : Nat) {b : Nat} (h : b ≠ a) : m_cell cA ad (m_sr M a k v) b = m_cell cA ad M b := by
  have e1 : m_r (m_sr M a k v) b = m_r M b := funext fun j => by rw [m_r_sr, if_neg (fun q => h q.1)]
  have e2 : ∀ ci, m_fv ad (m_sr M a k v) b ci = m_fv ad M b ci := fun ci => funext fun j => by
    unfold m_fv
    rw [e1, m_i_sr]
  unfold m_cell
  rw [m_sh_sr, e1, e2]
  rfl
theorem m_cell_sl (cA : Nat → ClassId) (ad : Nat → Nat) (M : Mm) (a k : Nat) (v : Int64) {b : Nat} (h : b ≠ a) : m_cell cA ad (m_sl M a k v) b = m_cell cA ad M b := by
  have e1 : m_l (m_sl M a k v) b = m_l M b := funext fun j => by rw [m_l_sl, if_neg (fun q => h q.1)]
  unfold m_cell
  rw [m_sh_sl, e1]
  rfl
theorem m_fs_set (ad : Nat → Nat) (M M' : Mm) (a ci k N : Nat) (w : Value) (hk : m_fv ad M' a ci k = w) (h : ∀ j, j ≠ k → m_fv ad M' a ci j = m_fv ad M a ci j) : ((List.range N).map (m_fv ad M a ci)).set k w = (List.range N).map (m_fv ad M' a ci) := by
  apply List.ext_getElem?
  intro i
  by_cases hi : i = k
  · subst hi
    by_cases hl : i < N
    · rw [List.getElem?_set_self (by rw [List.length_map, List.length_range]; exact hl), List.getElem?_map, List.getElem?_range hl, ← hk]
      rfl
    · rw [List.getElem?_eq_none (by rw [List.length_set, List.length_map, List.length_range]; omega), List.getElem?_eq_none (by rw [List.length_map, List.length_range]; omega)]
  · rw [List.getElem?_set_ne (Ne.symm hi), List.getElem?_map, List.getElem?_map]
    by_cases hl : i < N
    · rw [List.getElem?_range hl]
      show some (m_fv ad M a ci i) = some (m_fv ad M' a ci i)
      rw [h i hi]
    · rw [List.getElem?_eq_none (by rw [List.length_range]; omega)]
      rfl
/-- a field of a class of vwCl, as a class's pool names it -/
def FOK (own : String) (idx ci k : Nat) (fin : Bool) : Prop := ∃ (C : String) (T : u_T) (N : Nat), vwCl[ci]? = some (C, T, N) ∧ ci < 12 ∧ N = nFd ci ∧ k < N ∧ (T k).2.2.2 = fin ∧ Cond.fieldLink own idx (T k).1 (T k).2.1 (T k).2.2.1 ∈ lwg
def FON (own : String) (idx ci k : Nat) (fin : Bool) : Prop := ∃ (C : String) (T : u_T) (N : Nat) (host : String), vwCl[ci]? = some (C, T, N) ∧ ci < 12 ∧ N = nFd ci ∧ k < N ∧ (T k).2.2.2 = fin ∧ Cond.fieldLinkNest own idx (T k).1 (T k).2.1 (T k).2.2.1 host ∈ lwx
theorem m_fs_at (ad : Nat → Nat) (M : Mm) (a ci k N : Nat) (h : k < N) : ((List.range N).map (m_fv ad M a ci))[k]? = some (m_fv ad M a ci k) := by
  rw [List.getElem?_map, List.getElem?_range h]
  rfl
section R2
variable {l : Launch} {G : Gx} {d : Nat} {y : MR} {pc : Nat} {ls st : List Value} {M : Mm} {bc bs : Nat} {Φ : OutV → Mm → Prop}
theorem Ev.getV {idx ci k a : Nat} {fin : Bool} {v : Value} (hd : decode y.2.1 pc = .ok (.getfield idx, 3)) (hf : FOK y.1.cls idx ci k fin ∨ FON y.1.cls idx ci k fin) (hs : (m_sh M a).1 = ci) (hv : ∀ ad, m_fv ad M a ci k = tr ad v) (hb : (∀ a k, m_r M a k < m_nx M) → bdL (m_nx M) [v]) (kk : Ev l G d y (pc + 3) ls (v :: st) M bc bs Φ) : Ev l G d y pc ls (.ref a :: st) M bc bs Φ := by
  intro p e s m args below meth c mc ms ad0 n0 H locs cells slots ad lsA F X
  obtain ⟨x1, x2, x3, x4, x5, x6, x7, x8, x9⟩ := id X
  have K := kk p e s m args below meth c mc ms ad0 n0 H locs cells slots ad lsA F ⟨x1, x2, x3, x4, x5, x6, (fun b hb' => (List.mem_cons.mp hb').elim (fun e => hb x3.2.2.2.1 b (by rw [e]; exact List.mem_cons_self)) (bd_t x7 b)), x8, x9⟩
  rcases hf with ⟨C, T, N, h1, h2, h3, h4, h5, h6⟩ | ⟨C, T, N, host, h1, h2, h3, h4, h5, h6⟩
  · subst h3
    obtain ⟨o1, o2⟩ := m_own x3 (a := a) (by rw [hs]; omega)
    obtain ⟨b, rfl⟩ : ∃ b, a = b + 1 := ⟨a - 1, by omega⟩
    have hw := m_ws_at G.2.1 ad M ⟨o1, o2⟩
    rw [m_cell_O G.2.1 ad M hs h2] at hw
    refine va_get (D := G.1) (cl := vwCl) F.1 F.2.1 (C := C) (T := T) (N := nFd ci) F.2.2.2.2.2.1 (in_C ci h2 _ h1) F.2.2.2.2.1 F.2.2.2.2.2.2.2.2.1.1 x3.1 (b + 1 - 100) hw h1 k h4 (F.2.2.2.2.2.1 _ h6) (fun _ h => h) (v := tr ad v) ?_ hd K
    rw [m_fs_at _ _ _ _ _ _ h4, hv]
  · subst h3
    obtain ⟨o1, o2⟩ := m_own x3 (a := a) (by rw [hs]; omega)
    obtain ⟨b, rfl⟩ : ∃ b, a = b + 1 := ⟨a - 1, by omega⟩
    have hw := m_ws_at G.2.1 ad M ⟨o1, o2⟩
    rw [m_cell_O G.2.1 ad M hs h2] at hw
    refine va_getN (D := G.1) (cl := vwCl) F.1 F.2.1 (C := C) (T := T) (N := nFd ci) F.2.2.2.2.2.1 (in_C ci h2 _ h1) F.2.2.2.2.1 F.2.2.2.2.2.2.2.2.1.1 x3.1 (b + 1 - 100) hw h1 k h4 (va_Nw.use rfl (F.2.2.2.2.2.2.2.2.1.2.2.2.2.2.2.2.2.2 _ h6)) (fun _ h => h) (v := tr ad v) ?_ hd K
    rw [m_fs_at _ _ _ _ _ _ h4, hv]
theorem Ev.getI {idx ci k a : Nat} {fin : Bool} (hd : decode y.2.1 pc = .ok (.getfield idx, 3)) (hf : FOK y.1.cls idx ci k fin ∨ FON y.1.cls idx ci k fin) (hi : isI (tyC ci k) = true) (hs : (m_sh M a).1 = ci) (kk : Ev l G d y (pc + 3) ls (.int (m_i M a k) :: st) M bc bs Φ) : Ev l G d y pc ls (.ref a :: st) M bc bs Φ :=
  Ev.getV hd hf hs (fun ad => by unfold m_fv; rw [if_pos hi]; rfl) (fun _ => bd_i (fun a h => by cases h)) kk
theorem Ev.getR {idx ci k a : Nat} {fin : Bool} (hd : decode y.2.1 pc = .ok (.getfield idx, 3)) (hf : FOK y.1.cls idx ci k fin ∨ FON y.1.cls idx ci k fin) (hi : isI (tyC ci k) = false) (hs : (m_sh M a).1 = ci) (kk : Ev l G d y (pc + 3) ls (.ref (m_r M a k) :: st) M bc bs Φ) : Ev l G d y pc ls (.ref a :: st) M bc bs Φ :=
  Ev.getV hd hf hs (fun ad => by unfold m_fv; rw [hi]; rfl) (fun h => bd_r (h a k) (fun a h => by cases h)) kk
/-- a store into a field: the memory M' differs from M at that field alone -/
theorem Ev.putV {idx ci k a : Nat} {fin : Bool} {v : Value} {M' : Mm} (hd : decode y.2.1 pc = .ok (.putfield idx, 3)) (hf : (FOK y.1.cls idx ci k fin ∧ (fin = true → y.1.name = "<init>" ∧ ∀ r : vw_C, vwCl[ci]? = some r → (r.2.1 k).1 = y.1.cls)) ∨ (FON y.1.cls idx ci k fin ∧ fin = false)) (hs : (m_sh M a).1 = ci)
    (hfit : ∀ ad, narrow (tyC ci k) (tr ad v) = tr ad v ∧ fits (tyC ci k) (tr ad v) = true)
    (hn : m_nx M' = m_nx M) (hsh : ∀ b, m_sh M' b = m_sh M b) (hr : bdL (m_nx M) [v] → (∀ b j, m_r M b j < m_nx M) → ∀ b j, m_r M' b j < m_nx M')
    (hc : ∀ (cA : Nat → ClassId) (ad : Nat → Nat) (b : Nat), b ≠ a → m_cell cA ad M' b = m_cell cA ad M b) (hk : ∀ ad, m_fv ad M' a ci k = tr ad v) (hj : ∀ ad j, j ≠ k → m_fv ad M' a ci j = m_fv ad M a ci j)
    (kk : Ev l G d y (pc + 3) ls st M' bc bs Φ) : Ev l G d y pc ls (v :: .ref a :: st) M bc bs Φ := by
  intro p e s m args below meth c mc ms ad0 n0 H locs cells slots ad lsA F X
  obtain ⟨x1, x2, x3, x4, x5, x6, x7, x8, x9⟩ := id X
  have hci : ci < 12 := by
    rcases hf with ⟨⟨C, T, N, h1, h2, h3⟩, -⟩ | ⟨⟨C, T, N, host, h1, h2, h3⟩, -⟩ <;> exact h2
  obtain ⟨o1, o2⟩ := m_own x3 (a := a) (by rw [hs]; omega)
  have hw := m_ws_at G.2.1 ad M ⟨o1, o2⟩
  rw [m_cell_O G.2.1 ad M hs hci] at hw
  have hset : (m_ws G.2.1 ad M).set (a - 100) (ad a, .inr (ci, ((List.range (nFd ci)).map (m_fv ad M a ci)).set k (tr ad v))) = m_ws G.2.1 ad M' := by
    refine m_ws_set G.2.1 ad M M' ⟨o1, o2⟩ hn (hc G.2.1 ad) ?_
    rw [m_cell_O G.2.1 ad M' (by rw [hsh]; exact hs) hci, m_fs_set ad M M' a ci k (nFd ci) (tr ad v) (hk ad) (hj ad)]
  have K : ∀ (H1 : Heap) (locs1 : List Loc), va_P G.1 vwCl ((m_ws G.2.1 ad M).set (a - 100) (ad a, .inr (ci, ((List.range (nFd ci)).map (m_fv ad M a ci)).set k (tr ad v)))) H1 → va_D (fun q => G.2.2.1.size ≤ q) ((m_ws G.2.1 ad M).set (a - 100) (ad a, .inr (ci, ((List.range (nFd ci)).map (m_fv ad M a ci)).set k (tr ad v)))) → va_S (fun q => G.2.2.1.size ≤ q) s.heap H1 locs1 → W p l e (rmO d mc ms) s m args below meth c H1 locs1 cells slots (vx_MQ below (QcO G ad0 n0 Φ) (XcO G ad0 n0 Φ) args s mc ms (fun q => G.2.2.1.size ≤ q)) (F0 m (pc + 3) lsA (st.map (tr ad))) := by
    intro H1 locs1 p1 p2 p3
    rw [hset] at p1 p2
    refine kk p e s m args below meth c mc ms ad0 n0 H1 locs1 cells slots ad lsA F ⟨x1, x2, ⟨p1, p2, by rw [hn]; exact x3.2.2.1, hr (bd_v x7) x3.2.2.2.1, Nat.le_trans F.2.2.2.2.2.2.2.2.2.2.1 p3.1, fun q hq => ?_, x3.2.2.2.2.2.2.1, fun b hb => by rw [hsh]; exact x3.2.2.2.2.2.2.2 b (by rw [← hn]; exact hb)⟩, p3, x5, by rw [hn]; exact x6, by rw [hn]; exact bd_t (bd_t x7), x8, by rw [hn]; exact x9⟩
    rw [p3.2.1 q (Nat.lt_of_lt_of_le hq F.2.2.2.2.2.2.2.2.2.2.1) (Nat.not_le.mpr hq)]
    exact F.2.2.2.2.2.2.2.2.2.2.2 q hq
  obtain ⟨b, rfl⟩ : ∃ b, a = b + 1 := ⟨a - 1, by omega⟩
  rcases hf with ⟨⟨C, T, N, h1, h2, h3, h4, h5, h6⟩, h7⟩ | ⟨⟨C, T, N, host, h1, h2, h3, h4, h5, h6⟩, h7⟩
  · subst h3
    have hty := ty_C ci h2 _ h1
    have hl : k < ((List.range (nFd ci)).map (m_fv ad M (b + 1) ci)).length := by rw [List.length_map, List.length_range]; exact h4
    cases fin with
    | true =>
      obtain ⟨g1, g2⟩ := h7 rfl
      exact va_putF (D := G.1) (cl := vwCl) F.1 F.2.1 (C := C) (T := T) (N := nFd ci) F.2.2.2.2.2.1 (in_C ci h2 _ h1) (tyC ci) hty (nm_C ci h2 _ h1) F.2.2.2.2.1 F.2.2.2.2.2.2.2.2.1.1 x3.1 x3.2.1 x4 (b + 1 - 100) hw h1 k h4 (F.2.2.2.2.2.1 _ h6) (fun _ h => h) h5 (F.2.2.2.2.2.2.2.1.trans g1) (g2 _ h1) (hty k h4) (hfit ad).1 (hfit ad).2 hl hd K
    | false =>
      exact va_put (D := G.1) (cl := vwCl) F.1 F.2.1 (C := C) (T := T) (N := nFd ci) F.2.2.2.2.2.1 (in_C ci h2 _ h1) (tyC ci) hty (nm_C ci h2 _ h1) F.2.2.2.2.1 F.2.2.2.2.2.2.2.2.1.1 x3.1 x3.2.1 x4 (b + 1 - 100) hw h1 k h4 (F.2.2.2.2.2.1 _ h6) (fun _ h => h) h5 (hty k h4) (hfit ad).1 (hfit ad).2 hl hd K
  · subst h3
    subst h7
    have hty := ty_C ci h2 _ h1
    have hl : k < ((List.range (nFd ci)).map (m_fv ad M (b + 1) ci)).length := by rw [List.length_map, List.length_range]; exact h4
    exact va_putN (D := G.1) (cl := vwCl) F.1 F.2.1 (C := C) (T := T) (N := nFd ci) F.2.2.2.2.2.1 (in_C ci h2 _ h1) (tyC ci) hty (nm_C ci h2 _ h1) F.2.2.2.2.1 F.2.2.2.2.2.2.2.2.1.1 x3.1 x3.2.1 x4 (b + 1 - 100) hw h1 k h4 (va_Nw.use rfl (F.2.2.2.2.2.2.2.2.1.2.2.2.2.2.2.2.2.2 _ h6)) (fun _ h => h) h5 (hty k h4) (hfit ad).1 (hfit ad).2 hl hd K
/-- 'may be stored there' : a field's pool entry, and its finality -/
def POK (y : MR) (idx ci k : Nat) : Prop := ∃ fin, (FOK y.1.cls idx ci k fin ∧ (fin = true → y.1.name = "<init>" ∧ ∀ r : vw_C, vwCl[ci]? = some r → (r.2.1 k).1 = y.1.cls)) ∨ (FON y.1.cls idx ci k fin ∧ fin = false)
theorem Ev.putI {idx ci k a : Nat} {x : Int32} (hd : decode y.2.1 pc = .ok (.putfield idx, 3)) (hf : POK y idx ci k) (hi : isI (tyC ci k) = true) (hx : narrow (tyC ci k) (.int x) = .int x ∧ fits (tyC ci k) (.int x) = true) (hs : (m_sh M a).1 = ci) (kk : Ev l G d y (pc + 3) ls st (m_si M a k x) bc bs Φ) : Ev l G d y pc ls (.int x :: .ref a :: st) M bc bs Φ := by
  obtain ⟨fin, hf⟩ := hf
  refine Ev.putV (M' := m_si M a k x) hd hf hs (fun _ => hx) rfl (fun _ => rfl) (fun _ h b j => h b j) (fun cA ad b hb => m_cell_si cA ad M a k x hb) (fun ad => ?_) (fun ad j hj => ?_) kk
  · unfold m_fv
    rw [if_pos hi, m_i_si, if_pos ⟨rfl, rfl⟩]
    rfl
  · have e1 : m_i (m_si M a k x) a j = m_i M a j := by rw [m_i_si, if_neg (fun q => hj q.2)]
    unfold m_fv
    rw [e1, m_r_si]
theorem Ev.putR {idx ci k a v : Nat} (hd : decode y.2.1 pc = .ok (.putfield idx, 3)) (hf : POK y idx ci k) (hi : isI (tyC ci k) = false) (hx : ∀ ad, narrow (tyC ci k) (tr ad (.ref v)) = tr ad (.ref v) ∧ fits (tyC ci k) (tr ad (.ref v)) = true) (hs : (m_sh M a).1 = ci) (kk : Ev l G d y (pc + 3) ls st (m_sr M a k v) bc bs Φ) : Ev l G d y pc ls (.ref v :: .ref a :: st) M bc bs Φ := by
  obtain ⟨fin, hf⟩ := hf
  refine Ev.putV (M' := m_sr M a k v) hd hf hs hx rfl (fun _ => rfl) (fun hv h b j => ?_) (fun cA ad b hb => m_cell_sr cA ad M a k v hb) (fun ad => ?_) (fun ad j hj => ?_) kk
  · rw [m_r_sr]
    split
    · exact bd_h hv
    · exact h b j
  · have e1 : m_r (m_sr M a k v) a k = v := by rw [m_r_sr, if_pos ⟨rfl, rfl⟩]
    unfold m_fv
    rw [hi, e1]
    rfl
  · have e1 : m_r (m_sr M a k v) a j = m_r M a j := by rw [m_r_sr, if_neg (fun q => hj q.2)]
    unfold m_fv
    rw [e1, m_i_sr]
end R2
