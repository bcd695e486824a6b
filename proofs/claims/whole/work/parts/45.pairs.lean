/-! CALLS, 12: pairs -/
theorem tel_bd {t : Int} {M : gMem} (h : InvA t M) : ∀ (k : Nat) (i u v : Int), 0 ≤ i → i + (k : Int) ≤ 3 → 0 ≤ u ∧ u < nN M → 0 ≤ v ∧ v < nN M → (tel (M 230) k i u v).1 = 0 → (0 ≤ (tel (M 230) k i u v).2.2.2.1 ∧ (tel (M 230) k i u v).2.2.2.1 < nN M) ∧ 0 ≤ (tel (M 230) k i u v).2.2.2.2 ∧ (tel (M 230) k i u v).2.2.2.2 ≤ 2400
  | 0, i, u, v, _, _, _, _, e => absurd e (by show (3 : Int) ≠ 0; decide)
  | k + 1, i, u, v, i0, i1, hu, hv, e => by
    have hn := h.1
    unfold tel at e ⊢
    by_cases c1 : M 230 (20 * u) ≠ 1
    · rw [if_pos c1] at e; exact absurd e (by show (1 : Int) ≠ 0; decide)
    · rw [if_neg c1] at e ⊢
      by_cases c2 : M 230 (20 * u + 1 + i) = -1
      · rw [if_pos c2] at e; exact absurd e (by show (2 : Int) ≠ 0; decide)
      · rw [if_neg c2] at e ⊢
        by_cases c3 : M 230 (20 * v) ≠ 1
        · rw [if_pos c3] at e; exact absurd e (by show (1 : Int) ≠ 0; decide)
        · rw [if_neg c3] at e ⊢
          by_cases c4 : M 230 (20 * v + 8 + M 230 (20 * u + 1 + i)) = -1
          · rw [if_pos c4] at e ⊢
            exact tel_bd h k (i + 1) v u (by omega) (by omega) hv hu e
          · rw [if_neg c4] at e ⊢
            have na := (h.noteM (v := u) (by omega) (by omega)).1 i i0 (by omega)
            have nb := (h.noteM (v := v) (by omega) (by omega)).2 (M 230 (20 * u + 1 + i)) (by omega) (by omega)
            show (0 ≤ M 230 (20 * u + 1 + i) ∧ M 230 (20 * u + 1 + i) < nN M) ∧ 0 ≤ M 230 (20 * v + 8 + M 230 (20 * u + 1 + i)) + M 230 (20 * u + 4 + i) ∧ M 230 (20 * v + 8 + M 230 (20 * u + 1 + i)) + M 230 (20 * u + 4 + i) ≤ 2400
            omega
abbrev tl (M : gMem) (k : Int) : T5 := tel (M 230) 3 0 (k / 12) (k % 12)
noncomputable def okT (M : gMem) (k : Int) : Bool := decide ((k / 12 < k % 12 ∧ k % 12 < nN M ∧ dd M (k / 12) (k % 12) ≠ -1) ∧ (tl M k).1 = 0)
noncomputable def unT (M : gMem) (k : Int) : Bool := decide ((k / 12 < k % 12 ∧ k % 12 < nN M ∧ dd M (k / 12) (k % 12) ≠ -1) ∧ (tl M k).1 ≠ 0)
def pA (M : gMem) (k : Int) : Int := (tl M k).2.2.2.2
theorem okT_no {M : gMem} {k : Int} (h : ¬ (k / 12 < k % 12 ∧ k % 12 < nN M ∧ dd M (k / 12) (k % 12) ≠ -1)) : okT M k = false ∧ unT M k = false := ⟨by unfold okT; exact decide_eq_false (fun q => h q.1), by unfold unT; exact decide_eq_false (fun q => h q.1)⟩
theorem okT_bd {t : Int} {M : gMem} (h : InvA t M) (hF : FarOK M) : ∀ k, 0 ≤ k → k < 144 → okT M k = true → (-1 + 1 ≤ pA M k ∧ pA M k ≤ 2400) ∧ (1 ≤ tB M k ∧ tB M k ≤ 1200) := by
  intro k k0 k1 hk
  unfold okT at hk
  have hk := of_decide_eq_true hk
  have hn := h.1
  have a := tel_bd h 3 0 (k / 12) (k % 12) (by omega) (by decide) (by omega) (by omega) hk.2
  have b := dd_all h hF (u := k / 12) (v := k % 12) (by omega) (by omega)
  have c := b.2.2.2.2.2 (by omega) hk.1.2.2
  unfold pA tB
  have a2 : 0 ≤ (tl M k).2.2.2.2 ∧ (tl M k).2.2.2.2 ≤ 2400 := a.2
  omega
def WF (M M' : gMem) : Prop := ∀ c, c ≠ 226 → c ≠ 227 → M' c = M c
theorem WF.aside {M M' : gMem} (h : WF M M') : Aside M M' := ⟨fun c' h1 h2 => h c' (fun e => h1 (by subst e; unfold scr; omega)) (fun e => h1 (by subst e; unfold scr; omega)), by rw [h 4 (by omega) (by omega)], by rw [h 228 (by omega) (by omega)], by rw [h 228 (by omega) (by omega)], by rw [h 228 (by omega) (by omega)]⟩
theorem Inv.wf {t : Int} {M M' : gMem} (h : Inv t M) (o : WF M M') : Inv t M' :=
  ⟨h.1.cong o.aside, h.2.1.cong h.1.1.2 (by rw [o 1 (by omega) (by omega)]) (fun c a b => o c (by omega) (by omega)) (by rw [o 228 (by omega) (by omega)]) (o 229 (by omega) (by omega)), h.2.2.cong h.1.1.2 (by rw [o 1 (by omega) (by omega)]) (fun c a b => o c (by omega) (by omega)) (by rw [o 228 (by omega) (by omega)]) (o 229 (by omega) (by omega))⟩
theorem p_weighTold {t : Int} {K : Int → gMem → Prop} {M : gMem} (h : Inv t M) (hK : ∀ M1 M', Inv t M1 → nN M1 = nN M → FarOK M1 → WF M1 M' → PkC (pkS (okT M1) (pA M1) (tB M1) (-1) 144) M' → K (cnt (unT M1) 144) M') : wX9_weighTold 0 K M := by
  unfold wX9_weighTold
  simp only [Int.reduceAdd]
  refine p_follow1 h.1 h.2.1 (fun M1 f1 F1 => ?_)
  have h1 := h.q f1.q F1
  have eN : nN M1 = nN M := f1.aside.2.2.2.1
  have hK := hK M1
  have hn := h1.1.1
  have e0 : M1 1 0 = nN M1 := h1.1.2.1.1
  have H := okT_bd h1.1 F1
  unfold wX4_clear
  intro M2 em2
  refine ⟨fun c u M' => 0 ≤ u ∧ u ≤ nN M1 ∧ WF M1 M' ∧ PkC (pkS (okT M1) (pA M1) (tB M1) (-1) (12 * u).toNat) M' ∧ c = cnt (unT M1) (12 * u).toNat, fun c u _ => nN M1 - u, ⟨by omega, by omega, fun c _ hc => by rw [em2, gup_c _ hc], ⟨by rw [em2, gup_s]; rfl, fun e => absurd rfl e⟩, rfl⟩, ?_⟩
  intro c u M3 ⟨u0, u1, O3, P3, hc⟩
  dsimp only
  have g0 : M3 1 0 = nN M1 := by rw [O3 1 (by decide) (by decide)]; exact e0
  rw [g0]
  refine ⟨by omega, fun q => ?_, fun q => ⟨⟨by omega, by omega⟩, fun v0 ev => ?_⟩⟩
  · rw [hc, ← cnt_more (p := unT M1) (12 * u).toNat 144 (by omega) (fun i a b => (okT_no (fun c => by omega)).2)]
    refine hK M3 h1 eN F1 O3 ?_
    rw [pk_more (12 * u).toNat 144 (by omega) (fun i a b => (okT_no (fun c => by omega)).1)]
    exact P3
  · refine ⟨fun c v M' => u < v ∧ v ≤ nN M1 ∧ WF M1 M' ∧ PkC (pkS (okT M1) (pA M1) (tB M1) (-1) (12 * u + v).toNat) M' ∧ c = cnt (unT M1) (12 * u + v).toNat, fun c v _ => nN M1 - v, ⟨by omega, by omega, O3, ?_, ?_⟩, ?_⟩
    · rw [pk_more (12 * u).toNat (12 * u + v0).toNat (by omega) (fun i a b => (okT_no (fun c => by omega)).1)]
      exact P3
    · rw [cnt_more (p := unT M1) (12 * u).toNat (12 * u + v0).toNat (by omega) (fun i a b => (okT_no (fun c => by omega)).2)]
      exact hc
    · intro c v M4 ⟨v0', v1, O4, P4', hc⟩
      dsimp only
      have g4 : M4 1 0 = nN M1 := by rw [O4 1 (by decide) (by decide)]; exact e0
      rw [g4]
      have h4 := h1.wf O4
      have eN4 : nN M4 = nN M1 := O4.aside.2.2.2.1
      have F4 : FarOK M4 := F1.cong hn.2 (by rw [O4 1 (by decide) (by decide)]) (fun c a b => O4 c (by omega) (by omega)) (by rw [O4 228 (by decide) (by decide)]) (O4 229 (by decide) (by decide))
      have hS := pk_sI (okT M1) (pA M1) (tB M1) (-1) (12 * u + v) (by omega)
      have hC := cnt_sI (unT M1) (12 * u + v) (by omega)
      have hCb := cnt_bI (unT M1) (12 * u + v) (by omega)
      rw [show 12 * u + v + 1 = 12 * u + (v + 1) by omega] at hS hC
      refine ⟨by omega, fun q2 => ⟨⟨by omega, by omega⟩, ⟨by omega, by omega, O4, ?_, ?_⟩, by omega⟩, fun q2 => ?_⟩
      · rw [pk_more (12 * u + v).toNat (12 * (u + 1)).toNat (by omega) (fun i a b => (okT_no (fun c => by omega)).1)]
        exact P4'
      · rw [cnt_more (p := unT M1) (12 * u + v).toNat (12 * (u + 1)).toNat (by omega) (fun i a b => (okT_no (fun c => by omega)).2)]
        exact hc
      · have k1 : (12 * u + v) / 12 = u := by omega
        have k2 : (12 * u + v) % 12 = v := by omega
        refine p_btw1 h4.1 F4 (fun q3 => ?_) (fun p => absurd (show _ by omega) p)
        rw [dd_cong O4.aside]
        refine gK1_r ⟨fun d => p_tell h4.1 (by omega) (by omega) (fun M5 O5 T5' => ?_), fun d => ⟨⟨by omega, by omega⟩, ⟨by omega, by omega, O4, ?_, ?_⟩, by omega⟩⟩
        · have e230 : M4 230 = M1 230 := O4 230 (by decide) (by decide)
          rw [e230] at T5'
          have W5 : WF M1 M5 := fun c a b => by rw [O5 c a, O4 c a b]
          have P5 : PkC (pkS (okT M1) (pA M1) (tB M1) (-1) (12 * u + v).toNat) M5 := by unfold PkC; rw [O5 227 (by decide)]; exact P4'
          have etl : tl M1 (12 * u + v) = tel (M1 230) 3 0 u v := by unfold tl; rw [k1, k2]
          rw [← etl] at T5'
          refine ⟨fun g => ⟨⟨by omega, by omega⟩, ⟨by omega, by omega⟩, ⟨by omega, by omega, W5, ?_, ?_⟩, by omega⟩, fun g => ?_⟩
          · have no : okT M1 (12 * u + v) = false := by unfold okT; exact decide_eq_false (fun q => g (by rw [T5'.1]; exact q.2))
            rw [hS, if_neg (by rw [no]; decide)]
            exact P5
          · have ye : unT M1 (12 * u + v) = true := by unfold unT; exact decide_eq_true ⟨⟨by omega, by omega, by rw [k1, k2]; exact d⟩, by rw [← T5'.1]; exact g⟩
            rw [hC, if_pos ye, hc]
          · have t0 : (tl M1 (12 * u + v)).1 = 0 := by rw [← T5'.1]; exact g
            have ye : okT M1 (12 * u + v) = true := by unfold okT; exact decide_eq_true ⟨⟨by omega, by omega, by rw [k1, k2]; exact d⟩, t0⟩
            have no : unT M1 (12 * u + v) = false := by unfold unT; exact decide_eq_false (fun q => q.2 t0)
            have Hk := H (12 * u + v) (by omega) (by omega) ye
            have e5 : M5 226 1 = pA M1 (12 * u + v) := (T5'.2.2.2 t0).2
            have e6 : dd M1 u v = tB M1 (12 * u + v) := by unfold tB; rw [k1, k2]
            rw [e5, e6]
            refine p_offer (a0 := -1) (k := 12 * u + v) P5 ((pk_b (Or.inr rfl) H (12 * u + v).toNat (by omega)).up (by omega)) (Or.inr rfl) Hk.1 Hk.2 rfl (by omega) (fun M6 O6 P6 => ⟨⟨by omega, by omega⟩, ⟨by omega, by omega, fun c a b => by rw [O6 c b, W5 c a b], ?_, ?_⟩, by omega⟩)
            · rw [hS, if_pos ye]
              exact P6
            · rw [hC, if_neg (by rw [no]; decide), hc]; omega
        · rw [hS, if_neg (by rw [(okT_no (fun g => g.2.2 (by rw [k1, k2]; exact d))).1]; decide)]
          exact P4'
        · rw [hC, if_neg (by rw [(okT_no (fun g => g.2.2 (by rw [k1, k2]; exact d))).2]; decide), hc]; omega
theorem c_pairs {t w : Int} {K1 : Int → gMem → Prop} {M : gMem} (h : Inv t M) (hK : ∀ r M1, Ag t (wX10_pairs 228 w) r M1 → K1 r M1) : wX9_pairs 0 w K1 M := by
  unfold wX9_pairs
  simp only [Int.reduceAdd]
  have bad : ¬ (0 ≤ w ∧ w ≤ 3) → K1 (-3) M := by
    intro b
    refine hK _ _ (fun K2 hk => ?_)
    unfold wX10_pairs
    exact p_inI (fun p => absurd p b) (fun _ => ⟨fun e => absurd rfl e, fun _ => hk M h.later⟩)
  refine gK0_r ⟨fun q => bad (by omega), fun q => ⟨fun q2 => ?_, fun q2 => bad (by omega)⟩⟩
  refine p_weighTold h (fun Mb M1 hb eNb Fb O1 P1 => ?_)
  have h1 := hb.wf O1
  have A1 := O1.aside
  have H := okT_bd hb.1 Fb
  have B := pk_b (Or.inr rfl) H 144 (by omega)
  have eN1 : nN M1 = nN Mb := A1.2.2.2.1
  generalize hS : pkS (okT Mb) (pA Mb) (tB Mb) (-1) 144 = S at P1 B
  have ref : ∀ r, r = (if w = 0 then S.2.2.2 / 12 else if w = 1 then (if S.1 = 0 then -1 else S.2.2.2 % 12) else if w = 2 then S.1 else cnt (unT Mb) 144) → K1 r M1 := by
    intro r er
    refine hK _ _ (fun K2 hk => ?_)
    unfold wX10_pairs
    simp only [Int.reduceAdd]
    refine p_inI (fun p => ⟨fun _ => ?_, fun e => absurd e (by decide)⟩) (fun p => absurd (show _ by omega) p)
    refine p_finds0 h1.1 (fun M2 o2 F2 => ?_)
    have m2 := o2.mfr (by omega)
    have hnb := hb.1.1
    refine ⟨fun on ot ab be ma la u M' => MFr M1 M' ∧ M' 236 = M2 236 ∧ 0 ≤ u ∧ u ≤ nN Mb ∧ on = (pkS (okT Mb) (pA Mb) (tB Mb) (-1) (12 * u).toNat).2.2.2 / 12 ∧ ot = (if (pkS (okT Mb) (pA Mb) (tB Mb) (-1) (12 * u).toNat).1 = 0 then -1 else (pkS (okT Mb) (pA Mb) (tB Mb) (-1) (12 * u).toNat).2.2.2 % 12) ∧ ab = (pkS (okT Mb) (pA Mb) (tB Mb) (-1) (12 * u).toNat).2.1 ∧ be = (pkS (okT Mb) (pA Mb) (tB Mb) (-1) (12 * u).toNat).2.2.1 ∧ ma = (pkS (okT Mb) (pA Mb) (tB Mb) (-1) (12 * u).toNat).1 ∧ la = cnt (unT Mb) (12 * u).toNat, fun _ _ _ _ _ _ u _ => nN Mb - u, ⟨m2, rfl, by omega, by omega, rfl, rfl, rfl, rfl, rfl, rfl⟩, ?_⟩
    intro on ot ab be ma la u M3 ⟨m3, g3, u0, u1, i1, i2, i3, i4, i5, i6⟩
    dsimp only
    have g0 : M3 228 2 = nN Mb := m3.2.2.1.trans eN1
    rw [g0]
    refine ⟨by omega, fun q => ?_, fun q => ⟨⟨by omega, by omega⟩, fun v0 ev => ?_⟩⟩
    · have eS : pkS (okT Mb) (pA Mb) (tB Mb) (-1) (12 * u).toNat = S := by
        rw [← hS, pk_more (12 * u).toNat 144 (by omega) (fun i a b => (okT_no (fun c => by omega)).1)]
      rw [eS] at i1 i2 i3 i4 i5
      rw [← cnt_more (p := unT Mb) (12 * u).toNat 144 (by omega) (fun i a b => (okT_no (fun c => by omega)).2)] at i6
      have fin := hk M3 (h1.mfr m3).later
      refine gK1_r ⟨fun c0 => ⟨fun c1 => ⟨fun c2 => ?_, fun c2 => ?_⟩, fun c1 => ?_⟩, fun c0 => ?_⟩
      · rw [if_neg c0, if_neg c1, if_neg c2, ← i6] at er; rw [← er]; exact fin
      · rw [if_neg c0, if_neg c1, if_pos c2, ← i5] at er; rw [← er]; exact fin
      · rw [if_neg c0, if_pos c1, ← i2] at er; rw [← er]; exact fin
      · rw [if_pos c0, ← i1] at er; rw [← er]; exact fin
    · refine ⟨fun on ot ab be ma la v M' => MFr M1 M' ∧ M' 236 = M2 236 ∧ u < v ∧ v ≤ nN Mb ∧ on = (pkS (okT Mb) (pA Mb) (tB Mb) (-1) (12 * u + v).toNat).2.2.2 / 12 ∧ ot = (if (pkS (okT Mb) (pA Mb) (tB Mb) (-1) (12 * u + v).toNat).1 = 0 then -1 else (pkS (okT Mb) (pA Mb) (tB Mb) (-1) (12 * u + v).toNat).2.2.2 % 12) ∧ ab = (pkS (okT Mb) (pA Mb) (tB Mb) (-1) (12 * u + v).toNat).2.1 ∧ be = (pkS (okT Mb) (pA Mb) (tB Mb) (-1) (12 * u + v).toNat).2.2.1 ∧ ma = (pkS (okT Mb) (pA Mb) (tB Mb) (-1) (12 * u + v).toNat).1 ∧ la = cnt (unT Mb) (12 * u + v).toNat, fun _ _ _ _ _ _ v _ => nN Mb - v, ⟨m3, g3, by omega, by omega, ?_⟩, ?_⟩
      · rw [pk_more (12 * u).toNat (12 * u + v0).toNat (by omega) (fun i a b => (okT_no (fun c => by omega)).1), cnt_more (p := unT Mb) (12 * u).toNat (12 * u + v0).toNat (by omega) (fun i a b => (okT_no (fun c => by omega)).2)]
        exact ⟨i1, i2, i3, i4, i5, i6⟩
      · intro on ot ab be ma la v M4 ⟨m4, g4, v0', v1, i1, i2, i3, i4, i5, i6⟩
        dsimp only
        have g0 : M4 228 2 = nN Mb := m4.2.2.1.trans eN1
        rw [g0]
        have h4 := h1.mfr m4
        have A4 := A1.tr m4.aside
        have eN4 : nN M4 = nN Mb := A4.2.2.2.1
        have F4 : mFar M4 := F2.cong g4 (m4.2.2.1.trans m2.2.2.1.symm) ((m4.1 229 (by omega)).trans (m2.1 229 (by omega)).symm)
        have hSt := pk_sI (okT Mb) (pA Mb) (tB Mb) (-1) (12 * u + v) (by omega)
        have hC := cnt_sI (unT Mb) (12 * u + v) (by omega)
        have hCb := cnt_bI (unT Mb) (12 * u + v) (by omega)
        rw [show 12 * u + v + 1 = 12 * u + (v + 1) by omega] at hSt hC
        have Bk := (pk_b (Or.inr rfl) H (12 * u + v).toNat (by omega)).up (k' := 144) (by omega)
        generalize hs : pkS (okT Mb) (pA Mb) (tB Mb) (-1) (12 * u + v).toNat = s at hSt Bk i1 i2 i3 i4 i5
        refine ⟨by omega, fun q2 => ⟨⟨by omega, by omega⟩, ⟨m4, g4, by omega, by omega, ?_⟩, by omega⟩, fun q2 => ⟨⟨by omega, by omega⟩, ⟨by omega, by omega⟩, ⟨by omega, by omega⟩, fun fa efa => ?_⟩⟩
        · rw [pk_more (12 * u + v).toNat (12 * (u + 1)).toNat (by omega) (fun i a b => (okT_no (fun c => by omega)).1), cnt_more (p := unT Mb) (12 * u + v).toNat (12 * (u + 1)).toNat (by omega) (fun i a b => (okT_no (fun c => by omega)).2), hs]
          exact ⟨i1, i2, i3, i4, i5, i6⟩
        · have k1 : (12 * u + v) / 12 = u := by omega
          have k2 : (12 * u + v) % 12 = v := by omega
          have hv := F4.val h4.1 (u := u) (v := v) (by omega) (by omega)
          rw [dd_cong A4] at hv
          have etl : tl Mb (12 * u + v) = tel (Mb 230) 3 0 u v := by unfold tl; rw [k1, k2]
          have e230 : M4 230 = Mb 230 := by rw [m4.1 230 (by omega), O1 230 (by decide) (by decide)]
          refine p_isWay (by omega) (by omega) (fun a => gK6_r (gK0_r ⟨fun e => absurd e (by decide), fun _ => p_tells h4.1 (by omega) (by omega) (fun M5 m5 g5 t5 => ?_)⟩)) (fun a => gK6_r (gK0_r ⟨fun _ => ?_, fun e => absurd rfl e⟩))
          · rw [e230, ← etl] at t5 ⊢
            have m5' := m4.tr m5
            have dn : dd Mb u v ≠ -1 := by omega
            by_cases c : (tl Mb (12 * u + v)).1 = 0
            · rw [if_pos c]
              refine ⟨fun e => absurd e (by decide), fun _ => ?_⟩
              have t5 := t5.2.2 c
              have ye : okT Mb (12 * u + v) = true := by unfold okT; exact decide_eq_true ⟨⟨by omega, by omega, by rw [k1, k2]; exact dn⟩, c⟩
              have no : unT Mb (12 * u + v) = false := by unfold unT; exact decide_eq_false (fun q => q.2 c)
              have Hk := H (12 * u + v) (by omega) (by omega) ye
              have e20 : M5 228 20 = pA Mb (12 * u + v) := t5.2
              have efa2 : fa = tB Mb (12 * u + v) := by unfold tB; rw [k1, k2]; omega
              rw [e20, efa2]
              rw [if_pos ye] at hSt
              rw [if_neg (by rw [no]; decide)] at hC
              obtain ⟨b1, b2, b3, b4⟩ := Bk
              have bb : (-1 ≤ s.2.1 ∧ s.2.1 ≤ 2400) ∧ 1 ≤ s.2.2.1 ∧ s.2.2.1 ≤ 1200 := by
                by_cases g : s.1 = 0
                · have := b3 g; omega
                · have := b4 g; omega
              have n1 := mul_b (a := pA Mb (12 * u + v)) (b := s.2.2.1) (by omega) (by omega)
              have n2 : -1200 ≤ s.2.1 * tB Mb (12 * u + v) ∧ s.2.1 * tB Mb (12 * u + v) ≤ 5760000 := by
                by_cases g : s.1 = 0
                · rw [(b3 g).1]; omega
                · have := b4 g
                  have := mul_b (a := s.2.1) (b := tB Mb (12 * u + v)) (by omega) (by omega)
                  omega
              subst i3
              subst i4
              refine ⟨⟨by omega, by omega⟩, ⟨by omega, by omega⟩, ⟨by omega, by omega⟩, fun d => ⟨⟨by omega, by omega⟩, ⟨m5', by rw [g5, g4], by omega, by omega, ?_⟩, by omega⟩, fun d x ex => ⟨⟨by omega, by omega⟩, ⟨m5', by rw [g5, g4], by omega, by omega, ?_⟩, by omega⟩⟩
              · rw [hSt]; unfold pk1; rw [if_neg (by omega)]
                have ne : s.1 ≠ 0 := fun e => by
                  have c := b3 e
                  rw [c.1, c.2.1] at d
                  have := pk_first (Or.inr rfl) Hk.1.1 Hk.2.1
                  omega
                refine ⟨i1, ?_, rfl, rfl, by rw [i5], by rw [hC, i6]; omega⟩
                rw [i2, if_neg ne]
                show _ = if s.1 + 1 = 0 then -1 else _
                rw [if_neg (by omega)]
              · rw [hSt]; unfold pk1; rw [if_pos (by omega)]
                refine ⟨k1.symm, ?_, ex, rfl, by rw [i5], by rw [hC, i6]; omega⟩
                show v = if s.1 + 1 = 0 then -1 else (12 * u + v) % 12
                rw [if_neg (by omega), k2]
            · rw [if_neg c]
              have no : okT Mb (12 * u + v) = false := by unfold okT; exact decide_eq_false (fun q => c q.2)
              have ye : unT Mb (12 * u + v) = true := by unfold unT; exact decide_eq_true ⟨⟨by omega, by omega, by rw [k1, k2]; exact dn⟩, c⟩
              rw [if_neg (by rw [no]; decide)] at hSt
              rw [if_pos ye] at hC
              refine ⟨fun _ => ?_, fun e => absurd rfl e⟩
              have e36 : M5 236 (12 * u + v) = M4 236 (12 * u + v) := by rw [g5]
              refine p_isWay (by omega) (by omega) (fun d => ⟨fun e => absurd e (by decide), fun _ => ⟨⟨by omega, by omega⟩, ⟨by omega, by omega⟩, ⟨m5', by rw [g5, g4], by omega, by omega, ?_⟩, by omega⟩⟩) (fun d => absurd a (by rw [← e36]; exact d))
              rw [hSt]
              exact ⟨i1, i2, i3, i4, i5, by rw [hC, i6]⟩
          · have on2 := okT_no (M := Mb) (k := 12 * u + v) (fun g => g.2.2 (by rw [k1, k2]; omega))
            rw [if_neg (by rw [on2.1]; decide)] at hSt
            rw [if_neg (by rw [on2.2]; decide)] at hC
            refine p_isWay (by omega) (by omega) (fun d => absurd d a) (fun d => ⟨fun _ => ⟨⟨by omega, by omega⟩, ⟨m4, g4, by omega, by omega, ?_⟩, by omega⟩, fun e => absurd rfl e⟩)
            rw [hSt]
            exact ⟨i1, i2, i3, i4, i5, by rw [hC, i6]; omega⟩
  have p4 := P1.1
  obtain ⟨b1, b2, b3, b4⟩ := B
  refine ⟨fun c3 => ⟨fun c2 => ⟨fun c => gK1_r ⟨fun c0 => ref _ ?_, fun c0 => ref _ ?_⟩, fun c => ref _ ?_⟩, fun c2 => ref _ ?_⟩, fun c3 => ref _ ?_⟩
  · have ne : S.1 ≠ 0 := by omega
    rw [if_neg c0, if_pos (by omega), if_neg ne, (P1.2 ne).2.2.2]
  · have ne : S.1 ≠ 0 := by omega
    rw [if_pos c0, (P1.2 ne).2.2.1]
  · have ez : S.1 = 0 := by omega
    have := b3 ez
    by_cases c0 : w = 0
    · rw [if_pos c0]; omega
    · rw [if_neg c0, if_pos (by omega), if_pos ez]
  · rw [if_neg (by omega), if_neg (by omega), if_pos c2, p4]
  · rw [if_neg (by omega), if_neg (by omega), if_neg (by omega)]
