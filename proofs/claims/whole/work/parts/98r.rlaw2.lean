/-! ===== the reference: law, answered ===== -/
def XQ2 : Nat → Nat → Prop := fun a j => (a = 206 ∧ (j = 1 ∨ j = 2 ∨ j = 4 ∨ j = 5 ∨ j = 6 ∨ j = 7 ∨ j = 8 ∨ j = 14 ∨ j = 16)) ∨ a = 226 ∨ a = 228 ∨ a = 230 ∨ (233 ≤ a ∧ a < 233 + 10)
section RL3
variable {l : Launch} {G : Gx} {d : Nat} {bc bs : Nat} {Φ : OutV → Mm → Prop}
theorem ct_r_law (M : Mm) (w : Wd) (hw : WOK w) (hI : RINV M w) (x : Int32) (hd : 33 < d) (h : RPost M (aLaw w x) Φ) : Ct l G d mRe_law bc bs [.ref 206, .int x] M Φ := by
  refine Ct.of rfl (Nat.le_of_ble_eq_true rfl) ?_
  have n8 := hw.1
  obtain ⟨hF0, hI0, t0⟩ := hI.t0 hw
  have hS0 := hI0.1
  have hT := hw.2.2.2.2.2.1
  have e1 := hI0.2.2.2.2.1.1
  refine bRe_law_0 _ _ _ ⟨hI.1.c, CallVC.cps0 (by omega) ?_⟩
  rw [e1]
  generalize m_si M 206 0 0 = M0 at *
  refine ct_inV M0 (w_T w) x (fun q => ?_) (fun q => ?_)
  rotate_left
  · refine bRe_law_15 _ _ _ _ _ _ _ ?_
    refine ⟨fun z => ?_, fun z => ?_⟩ <;> first | exact absurd rfl z | exact absurd z (by decide) | skip
    refine ⟨hS0.c, CallVC.cps0 (by omega) (ct_bad1 M0 _ hS0 t0 (by decide) ?_)⟩
    refine bRe_law_27 _ _ _ _ _ _ ?_
    refine ⟨fun z => ?_, fun z => ?_⟩ <;> first | exact absurd rfl z | exact absurd z (by decide) | skip
    exact h.fail hw hF0 hI0 (code := 1) rfl (okV_n q)
  refine bRe_law_15 _ _ _ _ _ _ _ ?_
  refine ⟨fun z => ?_, fun z => ?_⟩ <;> first | exact absurd rfl z | exact absurd z (by decide) | skip
  refine ⟨hS0.c, CallVC.cps0 (by omega) (ct_bad0 M0 _ hS0 t0 ?_)⟩
  refine bRe_law_27 _ _ _ _ _ _ ?_
  refine ⟨fun z => ?_, fun z => ?_⟩ <;> first | exact absurd rfl z | exact absurd z (by decide) | skip
  obtain ⟨n, hn, rfl⟩ := (vIn_nI (by omega)).mp q
  have ha : aLaw w (nI n) = lawA w (rlS n (w_tp w)) := by
    refine (okV_y q).trans ?_
    rw [tN_nI (by omega)]
  rw [ha] at h
  refine ⟨hS0.c, CallVC.cps0 (by omega) (ct_starts M0 hS0 n (fun M1 F1 b1 b2 b4 b5 b6 b7 b8 => ?_))⟩
  refine bRe_law_37 _ _ _ _ _ ⟨(hS0.fr F1).c, ?_⟩
  have F2 : FrS (fun a j => a = 206 ∧ j = 14) M1 (m_si M1 206 14 0) := FrS.si (P := fun a j => a = 206 ∧ j = 14) ⟨rfl, rfl⟩ _
  have b14 : m_i (m_si M1 206 14 0) 206 14 = 0 := by rw [m_i_si, if_pos ⟨rfl, rfl⟩]
  generalize m_si M1 206 14 0 = M2 at F2 b14 ⊢
  have F02 : FrS XQ2 M0 M2 := (F1.mono (fun a j k => by unfold XQ2; omega)).tr (F2.mono (fun a j k => by unfold XQ2; omega))
  have c1 : m_i M2 206 1 = 0 := by rw [F2.1 _ _ (by omega)]; exact b1
  have c6 : m_i M2 206 6 = -1 := by rw [F2.1 _ _ (by omega)]; exact b6
  have c8 : m_i M2 206 8 = 0 := by rw [F2.1 _ _ (by omega)]; exact b8
  have hA2 : RA M2 n (w_tp w) 0 := hI0.txt hw hn F02 (fun j => by unfold XQ2; omega) (by rw [F2.1 _ _ (by omega)]; exact b2) (by rw [F2.1 _ _ (by omega)]; exact b4) (by rw [F2.1 _ _ (by omega)]; exact b5)
  have hR2 : RLs M2 [] := ⟨b14, by show 0 ≤ 10; omega, fun i hi => absurd hi (Nat.not_lt_zero i)⟩
  clear b1 b2 b4 b5 b6 b7 b8 F1 F2 b14 M1
  refine CallVC.cps0 (by omega) (ct_blanksA M2 hA2 (by omega) (fun M3 F3 hA3 => ?_))
  refine law_loop M2 (n := n) (tp := w_tp w) (by omega) _ _ _ (rlS n (w_tp w)) (fun e M4 q4 F4 hA4 hR4 => ?_) (fun e M4 q4 F4 hF4 => ?_) 11 _ [] M3 rfl (by show 0 ≤ 10; omega) (F3.mono X4_Mr) hA3 (rn_idem _) ⟨by rw [X4_5 F3 (by omega)]; exact hR2.1, hR2.2.1, fun i hi => absurd hi (Nat.not_lt_zero i)⟩ (by rw [X4_5 F3 (by omega)]; exact c8) rfl
  · have hS4 := hA4.1.1
    have d6 : m_i M4 206 6 = -1 := by rw [F4.1 _ _ (by unfold XMr; omega)]; exact c6
    have d1 : m_i M4 206 1 = 0 := by rw [F4.1 _ _ (by unfold XMr; omega)]; exact c1
    have F04 : FrS XQ2 M0 M4 := F02.tr (F4.mono (fun a j k => by unfold XMr at k; unfold XQ2; omega))
    have hr : lawA w (rlS n (w_tp w)) = (0, nI (rlS n (w_tp w)).2.2.length, wLaw w (rlS n (w_tp w)).2.2) := if_pos e
    rw [hr] at h
    generalize (rlS n (w_tp w)).2.2 = R at h hR4
    have hR10 := hR4.2.1
    refine bRe_law_75 _ _ _ _ _ ⟨hS4.c, ?_⟩
    rw [d6]
    have F5 : FrS (fun a j => a = 206 ∧ j = 3) M4 (m_si M4 206 3 (-1)) := FrS.si (P := fun a j => a = 206 ∧ j = 3) ⟨rfl, rfl⟩ _
    have v3 : m_i (m_si M4 206 3 (-1)) 206 3 = -1 := by rw [m_i_si, if_pos ⟨rfl, rfl⟩]
    generalize m_si M4 206 3 (-1) = M5 at F5 v3 ⊢
    rw [F5.1 _ 5 (by omega), F5.1 _ 14 (by omega), hR4.1, hA4.2.2.2]
    refine ⟨fun _ => bRe_law_106 _ _ _ _ _ ?_, fun z => absurd rfl z⟩
    have F6 : FrS (fun a j => a = 206 ∧ j = 15) M5 (m_si M5 206 15 (nI R.length)) := FrS.si (P := fun a j => a = 206 ∧ j = 15) ⟨rfl, rfl⟩ _
    have v15 : m_i (m_si M5 206 15 (nI R.length)) 206 15 = nI R.length := by rw [m_i_si, if_pos ⟨rfl, rfl⟩]
    generalize m_si M5 206 15 (nI R.length) = M6 at F6 v15 ⊢
    have F46 : FrS (fun a j => a = 206 ∧ (j = 3 ∨ j = 15)) M4 M6 := (F5.mono (fun a j k => by omega)).tr (F6.mono (fun a j k => by omega))
    refine law_copy M6 (hS4.fr F46) R v15 hR10 (fun i hi => (hR4.2.2 i hi).fr F46 (by omega) (by omega) (by omega) (fun j => by omega)) _ (fun M7 F7 hc7 => ?_) _
    have F08 : FrS (fun a j => XQ2 a j ∨ (a = 206 ∧ (j = 3 ∨ j = 15)) ∨ XCp a j) M0 M7 := ((F04.mono (fun a j k => Or.inl k)).tr (F46.mono (fun a j k => Or.inr (Or.inl k)))).tr (F7.mono (fun a j k => Or.inr (Or.inr k)))
    have w15 : m_i M7 206 15 = nI R.length := by rw [F7.1 _ _ (by unfold XCp; omega)]; exact v15
    have hic := hw.2.2.2.2.2.2.2.2.1
    obtain ⟨a1, a2, a3, ⟨a4, a5, a6⟩, -, -, ⟨a10, a11⟩, a12, a13⟩ := hI0
    refine h M7 ((hF0.mono QR.f).tr (F08.mono (fun a j k => by unfold XQ2 XCp at k; unfold RF; omega))) ⟨hS0.fr F08, a2.fr F08 (by unfold XQ2 XCp; omega) (fun p j hp => by unfold XQ2 XCp; omega), ⟨w15, hR10, fun i hi => ?_⟩, ⟨by rw [F08.1 _ _ (by unfold XQ2 XCp; omega)]; exact a4, by rw [F08.1 _ _ (by unfold XQ2 XCp; omega)]; exact a5, by rw [F08.1 _ _ (by unfold XQ2 XCp; omega)]; exact a6⟩, ⟨by rw [F7.1 _ _ (by unfold XCp; omega), F46.1 _ _ (by omega)]; exact d1, fun i hi => absurd hi (Nat.not_lt_zero i)⟩, by rw [F7.1 _ _ (by unfold XCp; omega), F6.1 _ _ (by omega)]; exact v3, ⟨by rw [F08.1 _ _ (by unfold XQ2 XCp; omega)]; exact a10, fun j hj => by rw [F08.1 _ _ (by unfold XQ2 XCp; omega)]; exact a11 j hj⟩, by rw [F08.1 _ _ (by unfold XQ2 XCp; omega)]; exact a12, fun i hi => ?_⟩ (by rw [F08.1 _ _ (by unfold XQ2 XCp; omega)]; exact t0)
    · obtain ⟨k1, k2, k3, k4, k5⟩ := hc7 i hi
      obtain ⟨y1, y2⟩ := CDrep_of k5
      rw [← y2] at k3 k4
      exact ⟨k1, fun _ => k2, fun _ => ⟨k3, k4, y1⟩⟩
    · have hi' : i < w_ic w := hi
      exact (a13 i hi').fr F08 (fun j => by unfold XQ2 XCp; omega)
  · have hS4 := hF4.1.1
    have hfc := hF4.2.2.1
    have d1 : m_i M4 206 1 = 0 := by rw [F4.1 _ _ (by unfold XMq; omega)]; exact c1
    have F04 : FrS XQ2 M0 M4 := F02.tr (F4.mono (fun a j k => by unfold XMq at k; unfold XQ2; omega))
    have hr : lawA w (rlS n (w_tp w)) = (0, nI (rlS n (w_tp w)).1 - 10, wFlt w (nI (rlS n (w_tp w)).2.1)) := if_neg e
    rw [hr] at h
    refine bRe_law_75 _ _ _ _ _ ⟨hS4.c, ?_⟩
    rw [hF4.2.2.2.1]
    have F5 : FrS (fun a j => a = 206 ∧ j = 3) M4 (m_si M4 206 3 (nI (rlS n (w_tp w)).2.1)) := FrS.si (P := fun a j => a = 206 ∧ j = 3) ⟨rfl, rfl⟩ _
    have v3 : m_i (m_si M4 206 3 (nI (rlS n (w_tp w)).2.1)) 206 3 = nI (rlS n (w_tp w)).2.1 := by rw [m_i_si, if_pos ⟨rfl, rfl⟩]
    generalize m_si M4 206 3 (nI (rlS n (w_tp w)).2.1) = M5 at F5 v3 ⊢
    have v5 : m_i M5 206 5 = nI (rlS n (w_tp w)).1 := by rw [F5.1 _ _ (by omega)]; exact hF4.2.1
    have F05 : FrS (fun a j => XQ2 a j ∨ (a = 206 ∧ j = 3)) M0 M5 := (F04.mono (fun a j k => Or.inl k)).tr (F5.mono (fun a j k => Or.inr k))
    refine ⟨fun z => ?_, fun _ => ?_⟩
    · rw [F5.1 _ _ (by omega)] at z; exact absurd z hF4.ne
    · rw [v5]
      exact h M5 ((hF0.mono QR.f).tr (F05.mono (fun a j k => by unfold XQ2 at k; unfold RF; omega))) (hI0.flt hw F05 (by rw [F5.1 _ _ (by omega)]; exact d1) v3 (by unfold XQ2; omega) (fun p j hp => by unfold XQ2; omega) (by unfold XQ2; omega) (fun j => by unfold XQ2; omega) (fun j => by unfold XQ2; omega) (fun j => by unfold XQ2; omega) (fun i j hi => by unfold XQ2; omega) (by unfold XQ2; omega) (by unfold XQ2; omega) (by unfold XQ2; omega) (by unfold XQ2; omega) (fun j => by unfold XQ2; omega) (by unfold XQ2; omega) (fun i j hi => by unfold XQ2; omega)) (by rw [F05.1 _ _ (by unfold XQ2; omega)]; exact t0)
end RL3
