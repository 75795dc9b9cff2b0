/-! ===== Law: claims ===== -/
def stW (w : Nat) : Int32 := if w = 14 then -17 else -16
section CJN
variable {l : Launch} {G : Gx} {d : Nat} {bc bs : Nat} {Φ : OutV → Mm → Prop}
theorem jn_loop (M : Mm) {A n : Nat} {tp : Nat → Nat} {sz i k : Nat} (hki : k ≤ i) (w : Nat) (hw : w = 14 ∨ w = 15) (x3 : Int32) (f : Nat → Pr) (r : Pr) (hd : 2 < d)
    (sub : ∀ M1 i1 k1 x5, TKS M1 n tp sz i1 → LAst M1 A k1 → k1 ≤ i1 → LdPost M1 A n tp sz i1 k1 (f (tb n tp i1)) (fun o M2 => ∃ v, o = .inl (some (.int v)) ∧ Ev l G d mLa_readJoined 80 [.ref A, .ref 102, .ref w, .int x3, .int 1, .int x5] [.int v] M2 bc bs Φ) → Ev l G d mLa_readJoined 55 [.ref A, .ref 102, .ref w, .int x3, .int 1, .int x5] [] M1 bc bs Φ)
    (hp : LdPost M A n tp sz i k r Φ) : ∀ q c M1 i1 S, c + q = 500 → TKS M1 n tp sz i1 → LPg M M1 A i k i1 S → joinL n tp (isW n tp w) (fun _ => stW w) f q (tb n tp i1) S = r → Ev l G d mLa_readJoined 30 [.ref A, .ref 102, .ref w, .int x3, .int 1, .int (nI c)] [] M1 bc bs Φ := by
  have add : ∀ M3 k3 s x5, LAst M3 A k3 → (∀ M4 k4, FrS (fun a j => (a = A ∧ j = 6) ∨ a = A + 5) M3 M4 → LAst M4 A k4 → (k3 < 500 → k4 = k3 + 1 ∧ (∀ j, j < k3 → m_i M4 (A + 5) j = m_i M3 (A + 5) j) ∧ m_i M4 (A + 5) k3 = stW w) → Ev l G d mLa_readJoined 100 [.ref A, .ref 102, .ref w, .int x3, .int s, .int x5] [] M4 bc bs Φ) → Ev l G d mLa_readJoined 80 [.ref A, .ref 102, .ref w, .int x3, .int 1, .int x5] [.int s] M3 bc bs Φ := fun M3 k3 s x5 hA3 h => by
    refine bLa_readJoined_80 M3 _ _ _ _ _ _ _ ⟨⟨by omega, by omega⟩, fun z => ⟨hA3.1.1, CallVC.cps0 (by omega) (ct_addStep M3 hA3 _ (fun M4 k4 F4 hA4 hs => h M4 k4 F4 hA4 (fun q => ?_)))⟩, fun z => ⟨hA3.1.1, CallVC.cps0 (by omega) (ct_addStep M3 hA3 _ (fun M4 k4 F4 hA4 hs => h M4 k4 F4 hA4 (fun q => ?_)))⟩⟩
    · have e : stW w = -16 := if_neg z
      rw [e]; exact hs q
    · have e : stW w = -17 := if_pos z
      rw [e]; exact hs q
  intro q
  induction q with
  | zero =>
    intro c M1 i1 S hc hT hL he
    exact bLa_readJoined_30 M1 _ _ _ _ _ _ ⟨fun _ => ⟨rfl, hL.ok hT he.symm hp⟩, fun z => absurd (by show nI 500 ≤ nI c; exact nI_le (by omega) (by omega)) z⟩
  | succ q ih =>
    intro c M1 i1 S hc hT hL he
    have he' : (if isW n tp w (tb n tp i1) = true then (if (f (nx n tp (tb n tp i1))).1 = 0 then joinL n tp (isW n tp w) (fun _ => stW w) f q (f (nx n tp (tb n tp i1))).2.1 (S ++ (f (nx n tp (tb n tp i1))).2.2 ++ [stW w]) else ((f (nx n tp (tb n tp i1))).1, (f (nx n tp (tb n tp i1))).2.1, [])) else (0, tb n tp i1, S)) = r := he
    refine bLa_readJoined_30 M1 _ _ _ _ _ _ ⟨fun z => absurd z (by show ¬ nI 500 ≤ nI c; exact nI_not_le (by omega) (by omega)), fun _ => ⟨fun z => absurd z (by decide), fun _ => ⟨hT.1.1, CallVC.cps0 (by omega) (ct_here M1 hT ?_)⟩⟩⟩
    refine bLa_readJoined_47 M1 _ _ _ _ _ _ _ ⟨wd_rng _ _ _, ⟨by omega, by omega⟩, fun z => ⟨rfl, ?_⟩, fun z => ⟨hT.1.1, CallVC.cps0 (by omega) ?_⟩⟩
    · rw [if_neg (show ¬ isW n tp w (tb n tp i1) = true from fun y => z (of_decide_eq_true y))] at he'
      exact hL.ok hT he'.symm hp
    · rw [if_pos (show isW n tp w (tb n tp i1) = true from decide_eq_true z)] at he'
      refine ct_goOn M1 hT (wd_k (by omega)) (fun M2 F2 hT2 => ?_)
      have hL2 := hL.b F2 (i2 := i1 + 1) (by omega)
      have enx : nx n tp (tb n tp i1) = tb n tp (i1 + 1) := rfl
      rw [enx] at he'
      have hki1 : k + S.length ≤ i1 + 1 := by have := hL.2.2.1; omega
      refine sub M2 (i1 + 1) (k + S.length) _ hT2 hL2.2.1 hki1 ⟨fun e M3 i3 F3 hT3 hpos hi3 hA3 g1 g2 => ⟨1, rfl, ?_⟩, fun e M3 i3 k3 F3 hT3 hfl hA3 => ⟨0, rfl, ?_⟩⟩
      · rw [if_pos e] at he'
        have hlen : k + S.length + (f (tb n tp (i1 + 1))).2.2.length < 500 := by
          have := hL.2.2.1
          have := hT3.2.2.1
          have := hT3.2.1.2.1
          have := hT3.2.2.2.2.1
          omega
        have hL3 : LPg M M3 A i k (i3 - 1) (S ++ (f (tb n tp (i1 + 1))).2.2) := (LPg.app (i1 := i1) ⟨hL2.1, hL2.2.1, hL.2.2.1, hL2.2.2.2.1, hL2.2.2.2.2⟩ F3 hA3 (by omega) g1 g2)
        refine add M3 _ 1 _ hL3.2.1 (fun M4 k4 F4 hA4 hs4 => ?_)
        have hlen' : k + (S ++ (f (tb n tp (i1 + 1))).2.2).length < 500 := by rw [List.length_append]; omega
        have hL4 := hL3.one (i2 := i3) F4 hA4 hlen' (by omega) hs4
        have hT4 : TKS M4 n tp sz i3 := hT3.keepS F4 (fun a j h1 h2 => by have := hA3.2.2.2; omega)
        refine bLa_readJoined_100 M4 _ _ _ _ _ _ ?_
        rw [nI_1]
        exact ih (c + 1) M4 i3 _ (by omega) hT4 hL4 (by rw [hpos]; exact he')
      · rw [if_neg e] at he'
        refine add M3 _ 0 _ hA3 (fun M4 k4 F4 hA4 _ => ?_)
        have hT4 : TKS M4 n tp sz i3 := hT3.keepS F4 (fun a j h1 h2 => by have := hA3.2.2.2; omega)
        refine bLa_readJoined_100 M4 _ _ _ _ _ _ ?_
        have fin : Φ (.inl (some (.int 0))) M4 := by
          subst he'
          have h6 := hA3.2.2.2
          exact hp.2 e M4 i3 k4 ((hL2.1.mono XLs_f).tr (F3.tr (F4.mono (fun a j z => by unfold XLf; omega)))) hT4 ⟨by rw [F4.1 _ _ (by omega)]; exact hfl.1, by rw [F4.1 _ _ (by omega)]; exact hfl.2⟩ hA4
        exact bLa_readJoined_30 M4 _ _ _ _ _ _ ⟨fun _ => ⟨rfl, fin⟩, fun _ => ⟨fun _ => ⟨rfl, fin⟩, fun z => absurd rfl z⟩⟩
theorem jn_enter (M : Mm) {A n : Nat} {tp : Nat → Nat} {sz i k : Nat} (hki : k ≤ i) (w : Nat) (hw : w = 14 ∨ w = 15) (x3 : Int32) (u4 u5 : Value) (f : Nat → Pr) (hd : 2 < d)
    (sub : ∀ M1 i1 k1 x5, TKS M1 n tp sz i1 → LAst M1 A k1 → k1 ≤ i1 → LdPost M1 A n tp sz i1 k1 (f (tb n tp i1)) (fun o M2 => ∃ v, o = .inl (some (.int v)) ∧ Ev l G d mLa_readJoined 80 [.ref A, .ref 102, .ref w, .int x3, .int 1, .int x5] [.int v] M2 bc bs Φ) → Ev l G d mLa_readJoined 55 [.ref A, .ref 102, .ref w, .int x3, .int 1, .int x5] [] M1 bc bs Φ)
    (hp : LdPost M A n tp sz i k (joinF n tp (isW n tp w) (fun _ => stW w) f (tb n tp i)) Φ) : LdPost M A n tp sz i k (f (tb n tp i)) (fun o M2 => ∃ v, o = .inl (some (.int v)) ∧ Ev l G d mLa_readJoined 25 [.ref A, .ref 102, .ref w, .int x3, u4, u5] [.int v] M2 bc bs Φ) := by
  refine ⟨fun e M1 i1 F1 hT1 hpos hi1 hA1 g1 g2 => ⟨1, rfl, ?_⟩, fun e M1 i1 k1 F1 hT1 hfl hA1 => ⟨0, rfl, ?_⟩⟩
  · refine bLa_readJoined_25 M1 _ _ _ _ _ _ _ ?_
    refine jn_loop M hki w hw x3 f _ hd sub hp 500 0 M1 i1 (f (tb n tp i)).2.2 rfl hT1 ⟨F1, hA1, hi1, g1, g2⟩ ?_
    unfold joinF
    rw [if_pos e, hpos]
  · have e1 : joinF n tp (isW n tp w) (fun _ => stW w) f (tb n tp i) = ((f (tb n tp i)).1, (f (tb n tp i)).2.1, []) := if_neg e
    rw [e1] at hp
    refine bLa_readJoined_25 M1 _ _ _ _ _ _ _ ?_
    have fin := hp.2 e M1 i1 k1 F1 hT1 hfl hA1
    exact bLa_readJoined_30 M1 _ _ _ _ _ _ ⟨fun _ => ⟨rfl, fin⟩, fun _ => ⟨fun _ => ⟨rfl, fin⟩, fun z => absurd rfl z⟩⟩
end CJN
section CCL
variable {l : Launch} {G : Gx}
theorem rd_and {A n : Nat} {tp : Nat → Nat} {sz d : Nat} {f : Nat → Pr} (x3 : Int32) (hd : 2 < d) (hs : RDR l G A n tp sz (d - 1) mLa_readClaim [.ref A, .ref 102, .int x3] f) : RDR l G A n tp sz d mLa_readJoined [.ref A, .ref 102, .ref 15, .int x3] (andF n tp f) := by
  intro bc bs Φ M i k hT hA hki hp
  refine Ct.of rfl (Nat.le_of_ble_eq_true rfl) (bLa_readJoined_0 M _ _ _ _ ⟨⟨by omega, by omega⟩, fun _ => ⟨hA.1.1, CallVC.cps0 (by omega) ?_⟩, fun z => absurd z (by decide)⟩)
  refine hs _ _ _ M i k hT hA hki ((jn_enter (l := l) (G := G) (d := d) (bc := bc) (bs := bs) M hki 15 (by omega) x3 .null .null f hd (fun M1 i1 k1 x5 hT1 hA1 hk1 h1 => ?_) hp).im (fun o M2 ⟨v, e, hv⟩ => by subst e; exact hv))
  refine bLa_readJoined_55 M1 _ _ _ _ _ _ ⟨⟨by omega, by omega⟩, fun _ => ⟨hA1.1.1, CallVC.cps0 (by omega) ?_⟩, fun z => absurd z (by decide)⟩
  exact hs _ _ _ M1 i1 k1 hT1 hA1 hk1 (h1.im (fun o M2 ⟨v, e, hv⟩ => by subst e; exact hv))
theorem rd_or {A n : Nat} {tp : Nat → Nat} {sz d : Nat} {f : Nat → Pr} (x3 : Int32) (hd : 3 < d) (hs : RDR l G A n tp sz (d - 1) mLa_readJoined [.ref A, .ref 102, .ref 15, .int x3] (andF n tp f)) : RDR l G A n tp sz d mLa_readJoined [.ref A, .ref 102, .ref 14, .int x3] (orF n tp f) := by
  intro bc bs Φ M i k hT hA hki hp
  refine Ct.of rfl (Nat.le_of_ble_eq_true rfl) (bLa_readJoined_0 M _ _ _ _ ⟨⟨by omega, by omega⟩, fun z => absurd rfl z, fun _ => ⟨hA.1.1, CallVC.cps0 (by omega) ?_⟩⟩)
  refine hs _ _ _ M i k hT hA hki ((jn_enter (l := l) (G := G) (d := d) (bc := bc) (bs := bs) M hki 14 (by omega) x3 .null .null (andF n tp f) (by omega) (fun M1 i1 k1 x5 hT1 hA1 hk1 h1 => ?_) hp).im (fun o M2 ⟨v, e, hv⟩ => by subst e; exact bLa_readJoined_16 M2 _ _ _ _ _ _ _ hv))
  refine bLa_readJoined_55 M1 _ _ _ _ _ _ ⟨⟨by omega, by omega⟩, fun z => absurd rfl z, fun _ => ⟨hA1.1.1, CallVC.cps0 (by omega) ?_⟩⟩
  exact hs _ _ _ M1 i1 k1 hT1 hA1 hk1 (h1.im (fun o M2 ⟨v, e, hv⟩ => by subst e; exact bLa_readJoined_71 M2 _ _ _ _ _ _ _ hv))
end CCL
