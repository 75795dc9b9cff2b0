/-! ===== THE CORE: a method's steps over a picture of all cells made since the law's entry =====
A cell has a NAME (a number): 0 null; 1 to 99 what was there before (constants); 100 and on the cells that were made, in their order.
M : Mm holds ints, references (names), longs by name and slot, a cell's shape (kind, length), the next name. -/
abbrev vwCl : List vw_C := [(RX0, TX0, 8), (RX1, TX1, 17), (RX2, TX2, 4), (RX3, TX3, 7), (RX4, TX4, 8), (RX5, TX5, 7), (RX6, TX6, 3), (RX7, TX7, 3), (RX8, TX8, 8), (RX9, TX9, 6), (RX11, TX11, 18), (RX12, TX12, 60)]
abbrev Mm : Type := (Nat → Nat → Int32) × (Nat → Nat → Nat) × (Nat → Nat → Int64) × (Nat → Nat × Nat) × Nat
def m_i (M : Mm) (a k : Nat) : Int32 := M.1 a k
def m_r (M : Mm) (a k : Nat) : Nat := M.2.1 a k
def m_l (M : Mm) (a k : Nat) : Int64 := M.2.2.1 a k
def m_sh (M : Mm) (a : Nat) : Nat × Nat := M.2.2.2.1 a
def m_nx (M : Mm) : Nat := M.2.2.2.2
def m_si (M : Mm) (a k : Nat) (v : Int32) : Mm := (fun b j => if b = a ∧ j = k then v else M.1 b j, M.2)
def m_sr (M : Mm) (a k : Nat) (v : Nat) : Mm := (M.1, fun b j => if b = a ∧ j = k then v else M.2.1 b j, M.2.2)
def m_sl (M : Mm) (a k : Nat) (v : Int64) : Mm := (M.1, M.2.1, fun b j => if b = a ∧ j = k then v else M.2.2.1 b j, M.2.2.2)
def m_al (M : Mm) (t : Nat × Nat) : Mm := (fun b j => if b = M.2.2.2.2 then 0 else M.1 b j, fun b j => if b = M.2.2.2.2 then 0 else M.2.1 b j, fun b j => if b = M.2.2.2.2 then 0 else M.2.2.1 b j, fun b => if b = M.2.2.2.2 then t else M.2.2.2.1 b, M.2.2.2.2 + 1)
theorem m_i_si (M : Mm) (a k : Nat) (v : Int32) (b j : Nat) : m_i (m_si M a k v) b j = if b = a ∧ j = k then v else m_i M b j := rfl
theorem m_r_si (M : Mm) (a k : Nat) (v : Int32) (b j : Nat) : m_r (m_si M a k v) b j = m_r M b j := rfl
theorem m_l_si (M : Mm) (a k : Nat) (v : Int32) (b j : Nat) : m_l (m_si M a k v) b j = m_l M b j := rfl
theorem m_sh_si (M : Mm) (a k : Nat) (v : Int32) (b : Nat) : m_sh (m_si M a k v) b = m_sh M b := rfl
theorem m_nx_si (M : Mm) (a k : Nat) (v : Int32) : m_nx (m_si M a k v) = m_nx M := rfl
theorem m_i_sr (M : Mm) (a k v : Nat) (b j : Nat) : m_i (m_sr M a k v) b j = m_i M b j := rfl
theorem m_r_sr (M : Mm) (a k v : Nat) (b j : Nat) : m_r (m_sr M a k v) b j = if b = a ∧ j = k then v else m_r M b j := rfl
theorem m_l_sr (M : Mm) (a k v : Nat) (b j : Nat) : m_l (m_sr M a k v) b j = m_l M b j := rfl
theorem m_sh_sr (M : Mm) (a k v : Nat) (b : Nat) : m_sh (m_sr M a k v) b = m_sh M b := rfl
theorem m_nx_sr (M : Mm) (a k v : Nat) : m_nx (m_sr M a k v) = m_nx M := rfl
theorem m_i_sl (M : Mm) (a k : Nat) (v : Int64) (b j : Nat) : m_i (m_sl M a k v) b j = m_i M b j := rfl
theorem m_r_sl (M : Mm) (a k : Nat) (v : Int64) (b j : Nat) : m_r (m_sl M a k v) b j = m_r M b j := rfl
theorem m_l_sl (M : Mm) (a k : Nat) (v : Int64) (b j : Nat) : m_l (m_sl M a k v) b j = if b = a ∧ j = k then v else m_l M b j := rfl
theorem m_sh_sl (M : Mm) (a k : Nat) (v : Int64) (b : Nat) : m_sh (m_sl M a k v) b = m_sh M b := rfl
theorem m_nx_sl (M : Mm) (a k : Nat) (v : Int64) : m_nx (m_sl M a k v) = m_nx M := rfl
theorem m_i_al (M : Mm) (t : Nat × Nat) (b j : Nat) : m_i (m_al M t) b j = if b = m_nx M then 0 else m_i M b j := rfl
theorem m_r_al (M : Mm) (t : Nat × Nat) (b j : Nat) : m_r (m_al M t) b j = if b = m_nx M then 0 else m_r M b j := rfl
theorem m_l_al (M : Mm) (t : Nat × Nat) (b j : Nat) : m_l (m_al M t) b j = if b = m_nx M then 0 else m_l M b j := rfl
theorem m_sh_al (M : Mm) (t : Nat × Nat) (b : Nat) : m_sh (m_al M t) b = if b = m_nx M then t else m_sh M b := rfl
theorem m_nx_al (M : Mm) (t : Nat × Nat) : m_nx (m_al M t) = m_nx M + 1 := rfl
/-- types of fields, by the class's place in vwCl -/
def tyC (ci : Nat) : Nat → FieldType := match ci with
  | 0 => tyX0 | 1 => tyX1 | 2 => tyX2 | 3 => tyX3 | 4 => tyX4 | 5 => tyX5 | 6 => tyX6 | 7 => tyX7 | 8 => tyX8 | 9 => tyX9 | 10 => tyX11 | _ => tyX12
def nFd (ci : Nat) : Nat := match ci with
  | 0 => 8 | 1 => 17 | 2 => 4 | 3 => 7 | 4 => 8 | 5 => 7 | 6 => 3 | 7 => 3 | 8 => 8 | 9 => 6 | 10 => 18 | 11 => 60 | _ => 0
def isI (t : FieldType) : Bool := match t with
  | .int => true
  | .boolean => true
  | _ => false
def tr (ad : Nat → Nat) : Value → Value
  | .ref 0 => .null
  | .ref (k + 1) => .ref (ad (k + 1))
  | v => v
def rf_ (ad : Nat → Nat) (k : Nat) : Option Nat := if k = 0 then none else some (ad k)
theorem tr_rf (ad : Nat → Nat) (k : Nat) : tr ad (.ref k) = va_rf (rf_ ad k) := by
  cases k with
  | zero => rfl
  | succ k => rfl
theorem tr_cat (ad : Nat → Nat) (v : Value) : (tr ad v).category = v.category := by
  cases v with
  | ref k => cases k <;> rfl
  | _ => rfl
def m_fv (ad : Nat → Nat) (M : Mm) (a ci k : Nat) : Value := if isI (tyC ci k) = true then .int (m_i M a k) else tr ad (.ref (m_r M a k))
def m_cell (cA : Nat → ClassId) (ad : Nat → Nat) (M : Mm) (a : Nat) : va_E :=
  if (m_sh M a).1 < 12 then .inr ((m_sh M a).1, (List.range (nFd (m_sh M a).1)).map (m_fv ad M a (m_sh M a).1))
  else if (m_sh M a).1 < 22 then .inl (cA (m_sh M a).1, (m_sh M a).2, .inl (m_i M a))
  else if (m_sh M a).1 = 22 then .inl (cA 22, (m_sh M a).2, .inr (.inl (m_l M a)))
  else .inl (cA (m_sh M a).1, (m_sh M a).2, .inr (.inr (.inr (.inr (fun j => rf_ ad (m_r M a j))))))
def m_ws (cA : Nat → ClassId) (ad : Nat → Nat) (M : Mm) : va_W := (List.range (m_nx M - 100)).map (fun i => (ad (100 + i), m_cell cA ad M (100 + i)))
def kTys (cA : Nat → ClassId) : List (ClassId × FieldType) := [(cA 20, .int), (cA 21, .byte), (cA 22, .long), (cA 30, .object "BowingRow$Call"), (cA 31, .object "BowingRow$Image"), (cA 32, .object "BowingRow$Word"), (cA 33, .array .int)]
abbrev Gx : Type := va_G × (Nat → ClassId) × Heap × (Nat → Nat)
def bdL (n : Nat) (l : List Value) : Prop := ∀ a, Value.ref a ∈ l → a < n
def RelE (G : Gx) (M : Mm) (ad : Nat → Nat) (H : Heap) : Prop :=
  va_P G.1 vwCl (m_ws G.2.1 ad M) H ∧ va_D (fun q => G.2.2.1.size ≤ q) (m_ws G.2.1 ad M) ∧ 100 ≤ m_nx M ∧ (∀ a k, m_r M a k < m_nx M) ∧ G.2.2.1.size ≤ H.size ∧ (∀ q : Nat, q < G.2.2.1.size → H[q]? = G.2.2.1[q]?) ∧ (∀ a, a < 100 → ad a = G.2.2.2 a) ∧ ∀ a, ¬ (100 ≤ a ∧ a < m_nx M) → (m_sh M a).1 = 99
/-- the tables' words that keep through calls -/
def lwg : List Cond := lw_tbl.filter goodWord
theorem lwg_in {w : Cond} (h : w ∈ lwg) : w ∈ lw_tbl := (List.mem_filter.mp h).1
theorem lwg_good {w : Cond} (h : w ∈ lwg) : (w.onTables && w.keeps) = true ∨ ∃ ty, w = .arrayClass ty := good_of_word (List.mem_filter.mp h).2
theorem lwg_of {w : Cond} (i : Nat) (h : lw_tbl[i]? = some w) (hg : goodWord w = true) : w ∈ lwg := List.mem_filter.mpr ⟨List.mem_of_getElem? h, hg⟩
abbrev MR : Type := MethodName × ByteArray × Nat × Option FieldType
def Lv (ad : Nat → Nat) (ls : List Value) (n : Nat) (lsA : Array Slot) : Prop := lsA.size = n ∧ lv_wf lsA ∧ ∀ (i : Nat) (v : Value), ls[i]? = some v → v ≠ .null → lsA[i]? = some (.val (tr ad v))
abbrev OutV : Type := Option Value ⊕ String
def QcO (G : Gx) (ad0 : Nat → Nat) (n0 : Nat) (Φ : OutV → Mm → Prop) : Array Value → State → Outcome → State → Prop := fun _ s0 o t =>
  ∃ (v : Option Value) (M' : Mm) (ad' : Nat → Nat), o = .returned (v.map (tr ad')) ∧ Φ (.inl v) M' ∧ (∀ a, a < n0 → ad' a = ad0 a) ∧ n0 ≤ m_nx M' ∧ bdL (m_nx M') v.toList ∧ RelE G M' ad' t.heap ∧ s0.heap.size ≤ t.heap.size
def XcO (G : Gx) (ad0 : Nat → Nat) (n0 : Nat) (Φ : OutV → Mm → Prop) : String → State → State → Prop := fun E s0 t =>
  ∃ (M' : Mm) (ad' : Nat → Nat), Φ (.inr E) M' ∧ (∀ a, a < n0 → ad' a = ad0 a) ∧ n0 ≤ m_nx M' ∧ RelE G M' ad' t.heap ∧ s0.heap.size ≤ t.heap.size
def rmO (d mc ms : Nat) : Room := { frames := d, cells := mc, slots := ms, locals := 64 * d }
