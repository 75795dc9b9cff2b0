/-! ===== Law: one claim ===== -/
section CC2
variable {l : Launch} {G : Gx}
theorem rd_clm {A n : Nat} {tp : Nat → Nat} {sz d o : Nat} (ho : o ≤ 6) (hd : 2 < d) (hsm : RDR l G A n tp sz (d - 1) mLa_readSum [.ref A, .ref 102, .int 43, .int 45, .int (nI (6 - o))] (sumS n tp o))
    (hcl : ∀ o', o = o' + 1 → RDR l G A n tp sz (d - 1) mLa_readClaim [.ref A, .ref 102, .int (nI (6 - o'))] (clmS n tp o')) (hor : ∀ o', o = o' + 1 → RDR l G A n tp sz (d - 1) mLa_readJoined [.ref A, .ref 102, .ref 14, .int (nI (6 - o'))] (orF n tp (clmS n tp o'))) :
    RDR l G A n tp sz d mLa_readClaim [.ref A, .ref 102, .int (nI (6 - o))] (clmS n tp o) := by
  intro bc bs Φ M i k hT hA hki hp
  have hsg := sg_lt hT
  have hw := wd_rng n tp (tb n tp i)
  have h6 := hA.2.2.2
  have e91 : sb (sg n tp (tb n tp i)) = 91 ↔ sg n tp (tb n tp i) = 91 := sb_eq (c := 91) hsg (by omega)
  -- too many open
  have tm : (wd n tp (tb n tp i) = 16 ∨ sg n tp (tb n tp i) = 91) → ∀ x3 x4 u5 u6, ¬ nI (6 - o) < 6 → Ct l G (d - 1) mTo_fail 0 0 [.ref 102, .int 3] M (contΦ l G d mLa_readClaim 52 [.ref A, .ref 102, .int (nI (6 - o)), .int x3, .int x4, u5, u6] [] bc bs Φ) := fun hc x3 x4 u5 u6 hn => by
    cases o with
    | zero =>
      have e0 : clmS n tp 0 (tb n tp i) = (3, tb n tp i, []) := if_pos hc
      rw [e0] at hp
      refine ct_fail M hT 3 3 rfl (fun M1 F1 hT1 hfl => ?_)
      exact bLa_readClaim_52 M1 _ _ _ _ _ _ _ _ ⟨rfl, hp.2 (by show ¬ 3 = 0; decide) M1 i k (F1.mono XA_Lf) hT1 hfl (hA.fr F1 XA_le)⟩
    | succ o => exact absurd (by show nI (6 - (o + 1)) < nI 6; exact nI_lt (by omega) (by omega)) hn
  -- a comparison
  have cmp : ∀ hi cl, clmS n tp o = clmF n tp hi (sumS n tp o) cl → ¬ (wd n tp (tb n tp i) = 16 ∨ sg n tp (tb n tp i) = 91) → ∀ u5 u6, Ev l G d mLa_readClaim 53 [.ref A, .ref 102, .int (nI (6 - o)), .int 0, .int 0, u5, u6] [] M bc bs Φ := fun hi cl he hne u5 u6 => by
    have e0 : clmS n tp o (tb n tp i) = cmpP n tp (sumS n tp o) (sumS n tp o (tb n tp i)) := by
      rw [he]
      exact if_neg hne
    rw [e0] at hp
    refine bLa_readClaim_53 M _ _ _ _ _ _ _ ⟨fun _ => ⟨fun _ => ⟨hA.1.1, CallVC.cps0 (by omega) ?_⟩, fun z => absurd rfl z⟩, fun z => absurd rfl z⟩
    generalize hr1 : sumS n tp o (tb n tp i) = r1 at hp
    refine hsm _ _ _ M i k hT hA hki ?_
    rw [hr1]
    unfold cmpP at hp
    refine ⟨fun e M1 i1 F1 hT1 hpos hi1 hA1 g1 g2 => ?_, fun e M1 i1 k1 F1 hT1 hfl hA1 => ?_⟩
    · rw [if_pos e] at hp
      have hL1 : LPg M M1 A i k i1 r1.2.2 := ⟨F1, hA1, hi1, g1, g2⟩
      have hsg1 := sg_lt hT1
      refine bLa_readClaim_128 M1 _ _ _ _ _ _ _ _ ⟨fun _ => ⟨hT1.1.1, CallVC.cps0 (by omega) (ct_signHere M1 hT1 ?_)⟩, fun z => absurd z (by decide)⟩
      rw [← hpos] at hp
      have good : (sg n tp (tb n tp i1) = 60 ∨ sg n tp (tb n tp i1) = 62 ∨ sg n tp (tb n tp i1) = 61) → Ev l G d mLa_readClaim 166 [.ref A, .ref 102, .int (nI (6 - o)), .int 0, .int 0, .int (sb (sg n tp (tb n tp i1))), u6] [] M1 bc bs Φ := fun hc => by
        rw [if_pos hc] at hp
        have hs128 : sg n tp (tb n tp i1) < 128 := by omega
        rw [sb_l hs128]
        refine bLa_readClaim_166 M1 _ _ _ _ _ _ _ ⟨hT1.1.1, CallVC.cps0 (by omega) (ct_goOn M1 hT1 (sg_k (by omega)) (fun M2 F2 hT2 => ?_))⟩
        have hL2 := hL1.b F2 (i2 := i1 + 1) (by omega)
        have enx : nx n tp (tb n tp i1) = tb n tp (i1 + 1) := rfl
        rw [enx] at hp
        refine bLa_readClaim_170 M2 _ _ _ _ _ _ _ ⟨hL2.2.1.1.1, CallVC.cps0 (by omega) ?_⟩
        refine hsm _ _ _ M2 (i1 + 1) (k + r1.2.2.length) hT2 hL2.2.1 (by omega) ⟨fun e2 M3 i3 F3 hT3 hpos3 hi3 hA3 g3 g4 => ?_, fun e2 M3 i3 k3 F3 hT3 hfl hA3 => ?_⟩
        · rw [if_pos e2] at hp
          refine bLa_readClaim_180 M3 _ _ _ _ _ _ _ _ (CallVC.cps0 (by omega) (ct_stepFor M3 _ hs128 ?_))
          refine bLa_readClaim_188 M3 _ _ _ _ _ _ _ _ _ ⟨hA3.1.1, CallVC.cps0 (by omega) ?_⟩
          have hlen : k + r1.2.2.length + (sumS n tp o (tb n tp (i1 + 1))).2.2.length < 500 := by
            have := hT3.2.2.1
            have := hT3.2.1.2.1
            have := hT3.2.2.2.2.1
            omega
          have hL3 : LPg M M3 A i k (i3 - 1) (r1.2.2 ++ (sumS n tp o (tb n tp (i1 + 1))).2.2) := (LPg.app (i1 := i1) ⟨hL2.1, hL2.2.1, hL1.2.2.1, hL2.2.2.2.1, hL2.2.2.2.2⟩ F3 hA3 (by omega) g3 g4)
          refine ct_addStep M3 hL3.2.1 _ (fun M4 k4 F4 hA4 hs4 => ?_)
          have hlen' : k + (r1.2.2 ++ (sumS n tp o (tb n tp (i1 + 1))).2.2).length < 500 := by rw [List.length_append]; omega
          have hL4 := hL3.one (i2 := i3) F4 hA4 hlen' (by omega) hs4
          have hT4 : TKS M4 n tp sz i3 := hT3.keepS F4 (fun a j h1 h2 => by omega)
          exact bLa_readClaim_191 M4 _ _ _ _ _ _ _ ⟨rfl, hL4.ok hT4 (by rw [hpos3]) hp⟩
        · rw [if_neg e2] at hp
          refine bLa_readClaim_180 M3 _ _ _ _ _ _ _ _ (CallVC.cps0 (by omega) (ct_stepFor M3 _ hs128 ?_))
          refine bLa_readClaim_188 M3 _ _ _ _ _ _ _ _ _ ⟨hA3.1.1, CallVC.cps0 (by omega) ?_⟩
          refine ct_addStep M3 hA3 _ (fun M4 k4 F4 hA4 _ => ?_)
          have hT4 : TKS M4 n tp sz i3 := hT3.keepS F4 (fun a j h1 h2 => by omega)
          exact bLa_readClaim_191 M4 _ _ _ _ _ _ _ ⟨rfl, hp.2 e2 M4 i3 k4 ((hL2.1.mono XLs_f).tr (F3.tr (F4.mono (fun a j z => by unfold XLf; omega)))) hT4 ⟨by rw [F4.1 _ _ (by omega)]; exact hfl.1, by rw [F4.1 _ _ (by omega)]; exact hfl.2⟩ hA4⟩
      have q60 : sb (sg n tp (tb n tp i1)) = 60 ↔ sg n tp (tb n tp i1) = 60 := sb_eq (c := 60) hsg1 (by omega)
      have q62 : sb (sg n tp (tb n tp i1)) = 62 ↔ sg n tp (tb n tp i1) = 62 := sb_eq (c := 62) hsg1 (by omega)
      have q61 : sb (sg n tp (tb n tp i1)) = 61 ↔ sg n tp (tb n tp i1) = 61 := sb_eq (c := 61) hsg1 (by omega)
      refine bLa_readClaim_137 M1 _ _ _ _ _ _ _ _ ⟨fun z => good (Or.inl (q60.mp z)), fun z1 => ⟨fun z => good (Or.inr (Or.inl (q62.mp z))), fun z2 => ⟨fun z => good (Or.inr (Or.inr (q61.mp z))), fun z3 => ⟨hT1.1.1, CallVC.cps0 (by omega) ?_⟩⟩⟩⟩
      rw [if_neg (fun y => y.elim (fun q => z1 (q60.mpr q)) (fun y => y.elim (fun q => z2 (q62.mpr q)) (fun q => z3 (q61.mpr q))))] at hp
      refine ct_fail M1 hT1 1 1 rfl (fun M2 F2 hT2 hfl => ?_)
      exact bLa_readClaim_165 M2 _ _ _ _ _ _ _ _ ⟨rfl, hp.2 (by show ¬ 1 = 0; decide) M2 i1 _ ((F1.mono XLs_f).tr (F2.mono XA_Lf)) hT2 hfl (hA1.fr F2 XA_le)⟩
    · rw [if_neg e] at hp
      exact bLa_readClaim_128 M1 _ _ _ _ _ _ _ _ ⟨fun z => absurd rfl z, fun _ => hp.2 e M1 i1 k1 F1 hT1 hfl hA1⟩
  -- not
  have nt : wd n tp (tb n tp i) = 16 → nI (6 - o) < 6 → ∀ x4 u5 u6, Ev l G d mLa_readClaim 53 [.ref A, .ref 102, .int (nI (6 - o)), .int 1, .int x4, u5, u6] [] M bc bs Φ := fun h16 hlt x4 u5 u6 => by
    cases o with
    | zero => exact absurd hlt (by decide)
    | succ o =>
      have e0 : clmS n tp (o + 1) (tb n tp i) = notP (clmS n tp o (tb n tp (i + 1))) := by
        refine (if_pos (Or.inl h16)).trans ?_
        rw [if_pos rfl, if_pos h16]
        rfl
      rw [e0] at hp
      refine bLa_readClaim_53 M _ _ _ _ _ _ _ ⟨fun z => absurd z (by decide), fun _ => ⟨hT.1.1, CallVC.cps0 (by omega) (ct_goOn M hT (wd_k (by omega)) (fun M1 F1 hT1 => ?_))⟩⟩
      have hA1 := hA.fr F1 XB_le
      refine bLa_readClaim_61 M1 _ _ _ _ _ _ _ ⟨hA1.1.1, CallVC.cps0 (by omega) ?_⟩
      rw [nI_1, show 6 - (o + 1) + 1 = 6 - o by omega]
      unfold notP at hp
      refine hcl o rfl _ _ _ M1 (i + 1) k hT1 hA1 (by omega) ⟨fun e M2 i2 F2 hT2 hpos hi2 hA2 g1 g2 => ?_, fun e M2 i2 k2 F2 hT2 hfl hA2 => ?_⟩
      · rw [if_pos e] at hp
        have hL1 := (LPg.rf hA i).b F1 (Nat.le_refl i)
        have hL2 : LPg M M2 A i k (i2 - 1) ([] ++ (clmS n tp o (tb n tp (i + 1))).2.2) := hL1.app F2 hA2 (by omega) g1 g2
        refine bLa_readClaim_69 M2 _ _ _ _ _ _ _ _ ⟨hA2.1.1, CallVC.cps0 (by omega) (ct_addStep M2 hL2.2.1 _ (fun M3 k3 F3 hA3 hs3 => ?_))⟩
        have hlen : k + ([] ++ (clmS n tp o (tb n tp (i + 1))).2.2).length < 500 := by
          have := hT2.2.2.1
          have := hT2.2.1.2.1
          have := hT2.2.2.2.2.1
          rw [List.nil_append]
          omega
        have hL3 := hL2.one (i2 := i2) F3 hA3 hlen (by omega) hs3
        have hT3 : TKS M3 n tp sz i2 := hT2.keepS F3 (fun a j h1 h2 => by omega)
        exact bLa_readClaim_77 M3 _ _ _ _ _ _ _ ⟨rfl, hL3.ok hT3 (by rw [hpos]; rfl) hp⟩
      · rw [if_neg e] at hp
        refine bLa_readClaim_69 M2 _ _ _ _ _ _ _ _ ⟨hA2.1.1, CallVC.cps0 (by omega) (ct_addStep M2 hA2 _ (fun M3 k3 F3 hA3 _ => ?_))⟩
        have hT3 : TKS M3 n tp sz i2 := hT2.keepS F3 (fun a j h1 h2 => by omega)
        exact bLa_readClaim_77 M3 _ _ _ _ _ _ _ ⟨rfl, hp.2 e M3 i2 k3 ((F1.mono XB_Lf).tr (F2.tr (F3.mono (fun a j z => by unfold XLf; omega)))) hT3 ⟨by rw [F3.1 _ _ (by omega)]; exact hfl.1, by rw [F3.1 _ _ (by omega)]; exact hfl.2⟩ hA3⟩
  -- a bracket
  have br : ¬ wd n tp (tb n tp i) = 16 → sg n tp (tb n tp i) = 91 → nI (6 - o) < 6 → ∀ u5 u6, Ev l G d mLa_readClaim 53 [.ref A, .ref 102, .int (nI (6 - o)), .int 0, .int 1, u5, u6] [] M bc bs Φ := fun h16 h91 hlt u5 u6 => by
    cases o with
    | zero => exact absurd hlt (by decide)
    | succ o =>
      have e0 : clmS n tp (o + 1) (tb n tp i) = cloP n tp 93 (orF n tp (clmS n tp o) (tb n tp (i + 1))) := by
        refine (if_pos (Or.inr h91)).trans ?_
        rw [if_pos rfl, if_neg h16]
        rfl
      rw [e0] at hp
      refine bLa_readClaim_53 M _ _ _ _ _ _ _ ⟨fun _ => ⟨fun z => absurd z (by decide), fun _ => ⟨hT.1.1, CallVC.cps0 (by omega) (ct_goOn M hT (sg_k (by omega)) (fun M1 F1 hT1 => ?_))⟩⟩, fun z => absurd rfl z⟩
      have hA1 := hA.fr F1 XB_le
      refine bLa_readClaim_89 M1 _ _ _ _ _ _ _ ⟨hA1.1.1, CallVC.cps0 (by omega) ?_⟩
      rw [nI_1, show 6 - (o + 1) + 1 = 6 - o by omega]
      refine hor o rfl _ _ _ M1 (i + 1) k hT1 hA1 (by omega) ⟨fun e M2 i2 F2 hT2 hpos hi2 hA2 g1 g2 => ?_, fun e M2 i2 k2 F2 hT2 hfl hA2 => ?_⟩
      · refine bLa_readClaim_100 M2 _ _ _ _ _ _ _ _ ⟨fun q => absurd q (by decide), fun _ => ⟨hT2.1.1, CallVC.cps0 (by omega) ?_⟩⟩
        have hL2 := ((LPg.rf hA i).b F1 (i2 := i + 1) (by omega)).app F2 hA2 hi2 g1 g2
        refine ct_takeSign M2 hT2 93 (by omega) (fun ok M3 F3 hT3 => ?_) (fun bad M3 F3 hT3 hfl => ?_)
        · refine bLa_readClaim_109 M3 _ _ _ _ _ _ _ _ ⟨fun q => absurd q (by decide), fun _ => ?_⟩
          rw [hpos] at ok
          refine (hL2.b F3 (i2 := i2 + 1) (by omega)).ok hT3 ?_ hp
          unfold cloP
          rw [if_pos e, if_pos ok]
          show _ = (0, nx n tp (tb n tp i2), _)
          rw [hpos]
          rfl
        · refine bLa_readClaim_109 M3 _ _ _ _ _ _ _ _ ⟨fun _ => ?_, fun q => absurd rfl q⟩
          rw [hpos] at bad hfl
          have e1 : cloP n tp 93 (orF n tp (clmS n tp o) (tb n tp (i + 1))) = (1, (orF n tp (clmS n tp o) (tb n tp (i + 1))).2.1, []) := by unfold cloP; rw [if_pos e, if_neg bad]
          rw [e1] at hp
          exact hp.2 (by show ¬ 1 = 0; decide) M3 i2 _ ((hL2.1.mono XLs_f).tr (F3.mono XA_Lf)) hT3 hfl (hA2.fr F3 XA_le)
      · refine bLa_readClaim_100 M2 _ _ _ _ _ _ _ _ ⟨fun _ => ?_, fun q => absurd rfl q⟩
        have e1 : cloP n tp 93 (orF n tp (clmS n tp o) (tb n tp (i + 1))) = orF n tp (clmS n tp o) (tb n tp (i + 1)) := if_neg e
        rw [e1] at hp
        exact hp.2 e M2 i2 k2 ((F1.mono XB_Lf).tr F2) hT2 hfl hA2
  have xx : wd n tp (tb n tp i) = 16 → ¬ sg n tp (tb n tp i) = 91 := fun h1 h2 => by
    unfold wd at h1
    unfold sg at h2
    by_cases z : tk n tp (tb n tp i) = 2
    · rw [if_neg (by omega)] at h2; omega
    · rw [if_neg z] at h1; omega
  refine Ct.of rfl (Nat.le_of_ble_eq_true rfl) (bLa_readClaim_0 M _ _ _ ⟨hT.1.1, CallVC.cps0 (by omega) (ct_here M hT ?_)⟩)
  refine bLa_readClaim_4 M _ _ _ _ _ _ _ _ ⟨hw, fun z => ⟨hT.1.1, CallVC.cps0 (by omega) (ct_signHere M hT ?_)⟩, fun z => ⟨hT.1.1, CallVC.cps0 (by omega) (ct_signHere M hT ?_)⟩⟩
  · refine bLa_readClaim_20 M _ _ _ _ _ _ _ _ ⟨fun y => ⟨fun q => absurd rfl q, fun _ => ?_⟩, fun y => ⟨fun q => absurd rfl q, fun _ => ?_⟩⟩
    · cases o with
      | zero => exact cmp _ _ rfl (fun q => q.elim z (fun q => y (e91.mpr q))) _ _
      | succ o => exact cmp _ _ rfl (fun q => q.elim z (fun q => y (e91.mpr q))) _ _
    · exact bLa_readClaim_41 M _ _ _ _ _ _ _ ⟨fun q => br z (e91.mp y) q _ _, fun q => ⟨hT.1.1, CallVC.cps0 (by omega) (tm (Or.inr (e91.mp y)) _ _ _ _ q)⟩⟩
  · refine bLa_readClaim_20 M _ _ _ _ _ _ _ _ ⟨fun y => ⟨fun _ => ?_, fun q => absurd q (by decide)⟩, fun y => absurd (e91.mp y) (xx z)⟩
    exact bLa_readClaim_41 M _ _ _ _ _ _ _ ⟨fun q => nt z q _ _ _, fun q => ⟨hT.1.1, CallVC.cps0 (by omega) (tm (Or.inl z) _ _ _ _ q)⟩⟩
theorem rd_clms {A n : Nat} {tp : Nat → Nat} {sz : Nat} : ∀ o, o ≤ 6 → ∀ d, 3 * o + 4 < d → RDR l G A n tp sz d mLa_readClaim [.ref A, .ref 102, .int (nI (6 - o))] (clmS n tp o)
  | 0, ho, d, hd => rd_clm ho (by omega) (rd_sums 0 ho _ (by omega)) (fun o' h => absurd h (by omega)) (fun o' h => absurd h (by omega))
  | o + 1, ho, d, hd => rd_clm ho (by omega) (rd_sums (o + 1) ho _ (by omega)) (fun o' h => by
      have : o' = o := by omega
      subst this
      exact rd_clms o' (by omega) _ (by omega)) (fun o' h => by
      have : o' = o := by omega
      subst this
      exact rd_or _ (by omega) (rd_and _ (by omega) (rd_clms o' (by omega) _ (by omega))))
end CC2
