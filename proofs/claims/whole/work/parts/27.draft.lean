/-! NOTES, 2: the draft of the class, the fresh note of the reference -/
def NoteIs (B : gMem) (v : Int) (M : gMem) (q : Int) : Prop := M q 0 = 1 ∧ (∀ i, 0 ≤ i → i < 3 → M (q + 1) i = nr B v i ∧ M (q + 2) i = nf B v i) ∧ (∀ w, 0 ≤ w → w < 12 → M (q + 3) w = fr B v w) ∧ M q 1 = bitsF (fr B v) 12
theorem nr_3 {t : Int} {M : gMem} (h : InvA t M) (v : Int) : nr M v 3 = -1 := nrs_hi _ _ _ _ (fun i hi => by
  have := h.lev (i : Int) (by omega) (by have := h.1; omega)
  unfold lev
  omega)
theorem p_isNear {t v w d : Int} {K : Int → gMem → Prop} {B M : gMem} (h : InvA t B) (hw : 0 ≤ w ∧ w < nN B) (hd : dd B v w = d) (hd2 : d ≠ -1) (h8 : ∀ i, 0 ≤ i → i < 3 → M 86 i = nf B v i) (h1 : inB B v w → K 1 M) (h2 : ¬ inB B v w → K 0 M) : wX2_isNear 84 d (lev B w) K M := by
  unfold wX2_isNear wX2_nearestFarAt
  simp only [Int.reduceAdd]
  have hl : 0 ≤ lev B w ∧ lev B w ≤ 2 := by have := h.lev w hw.1 (by have := h.1; omega); exact ⟨this.1, this.2.1⟩
  have hn := nf_no (M := B) (by have := h.1; omega) (v := v) (l := lev B w + 1)
  have hb := nr_bd B (by have := h.1; omega) v (lev B w + 1)
  unfold inB at h1 h2
  rw [hd] at h1 h2
  refine ⟨⟨by omega, by omega⟩, gK1_r (gK0_r ⟨fun a => absurd a (by omega), fun _ => ⟨fun a => ?_, fun a => ⟨⟨by omega, by omega⟩, ?_⟩⟩⟩)⟩
  · have e : lev B w = 2 := by omega
    have e3 : nr B v (lev B w + 1) = -1 := by rw [e]; exact nr_3 h v
    exact gK1_r (gK0_r ⟨fun _ => ⟨Or.inr rfl, h1 ⟨hd2, Or.inl e3⟩⟩, fun b => absurd rfl b⟩)
  · rw [h8 _ (by omega) (by omega)]
    refine gK1_r (gK0_r ⟨fun b => ⟨Or.inr rfl, h1 ⟨hd2, Or.inl (hn.1 b)⟩⟩, fun b => ?_⟩)
    have c : nr B v (lev B w + 1) ≠ -1 := fun q => b (hn.2 q)
    have e : nf B v (lev B w + 1) = dd B v (nr B v (lev B w + 1)) := by unfold nf; rw [if_neg c]
    rw [e]
    exact ⟨fun g => ⟨Or.inl rfl, h2 (fun k => by omega)⟩, fun g => ⟨Or.inr rfl, h1 ⟨hd2, Or.inr (by omega)⟩⟩⟩
theorem p_write {t v : Int} {K : gMem → Prop} {M : gMem} (h : InvA t M) (hF : FarOK M) (hv : 0 ≤ v ∧ v < nN M) (hK : ∀ M', DrFr M M' → NoteIs M v M' 84 → K M') : wX2_write 84 1 195 v K M := by
  unfold wX2_write
  simp only [Int.reduceAdd]
  have hn := h.1
  intro M1 e1
  refine ⟨fun i M' => 0 ≤ i ∧ i ≤ 3 ∧ DrFr M M' ∧ M' 84 0 = 1 ∧ ∀ k, 0 ≤ k → k < i → M' 85 k = nr M v k ∧ M' 86 k = nf M v k, fun i _ => 3 - i, ⟨by omega, by omega, fun c hc => by rw [e1, gup_c _ (by omega)], by rw [e1, gup_s], fun k a b => by omega⟩, ?_⟩
  intro i M2 ⟨i0, i1, dF, f0, f1⟩
  dsimp only
  refine ⟨by omega, fun q => ?_, fun q => ?_⟩
  · have ei : i = 3 := by omega
    subst ei
    intro M3 e3
    refine ⟨fun w M' => 0 ≤ w ∧ w ≤ 12 ∧ DrFr M M' ∧ M' 84 0 = 1 ∧ (∀ k, 0 ≤ k → k < 3 → M' 85 k = nr M v k ∧ M' 86 k = nf M v k) ∧ (∀ x, 0 ≤ x → x < w → M' 87 x = fr M v x) ∧ M' 84 1 = bitsF (fr M v) w.toNat, fun w _ => 12 - w, ⟨by omega, by omega, fun c hc => by rw [e3, gup_c _ (by omega), dF c hc], by rw [e3, gup_k _ (by decide), f0], fun k a b => by rw [e3, gup_c _ (by decide), gup_c _ (by decide)]; exact f1 k a b, fun x a b => by omega, by rw [e3, gup_s]; rfl⟩, ?_⟩
    intro w M4 ⟨w0, w1, dF, f0, f1, f2, f3⟩
    dsimp only
    refine ⟨by omega, fun q => ?_, fun q => ⟨⟨by omega, by omega⟩, fun M5 e5 => ?_⟩⟩
    · have ew : w = 12 := by omega
      subst ew
      exact hK M4 dF ⟨f0, f1, fun x a b => f2 x a b, f3⟩
    · have hs := bits_s (fr M v) w w0
      have hb := bits_0 (fr M v) w.toNat
      rw [← f3] at hs hb
      have dF5 : DrFr M M5 := fun c hc => by rw [e5, gup_c _ (by omega), dF c hc]
      have hI := h.cong dF5.aside
      have hF' := dF5.far hF hn.2
      have en : nN M5 = nN M := dF5.aside.2.2.2.1
      have ed := dd_cong dF5.aside
      have el := lev_cong dF5.aside
      have g0 : M5 84 = M4 84 := by rw [e5, gup_c _ (by decide)]
      have g1 : M5 85 = M4 85 := by rw [e5, gup_c _ (by decide)]
      have g2 : M5 86 = M4 86 := by rw [e5, gup_c _ (by decide)]
      have out : fr M v w = -1 → gR (w + 1) ∧ (0 ≤ w + 1 ∧ w + 1 ≤ 12 ∧ DrFr M M5 ∧ M5 84 0 = 1 ∧ (∀ k, 0 ≤ k → k < 3 → M5 85 k = nr M v k ∧ M5 86 k = nf M v k) ∧ (∀ x, 0 ≤ x → x < w + 1 → M5 87 x = fr M v x) ∧ M5 84 1 = bitsF (fr M v) (w + 1).toNat) ∧ 12 - (w + 1) < 12 - w := by
        intro e
        rw [if_pos e] at hs
        refine ⟨⟨by omega, by omega⟩, ⟨by omega, by omega, dF5, by rw [g0]; exact f0, by rw [g1, g2]; exact f1, fun x a b => ?_, by rw [g0, hs]⟩, by omega⟩
        by_cases hx : x = w
        · rw [hx, e5, gup_s, e]
        · rw [e5, gup_k _ hx]; exact f2 x a (by omega)
      refine p_btw1 hI hF' (fun q2 => ?_) (fun q2 => gK0_r ⟨fun _ => out (fr_hi (by omega)), fun a => absurd rfl a⟩)
      rw [en] at q2
      rw [ed]
      refine gK0_r ⟨fun a => out ((fr_no q2.2.2).2 (fun b => b.1 a)), fun a => p_lev1 hI (fun q3 => ?_) (fun q3 => absurd (show _ by omega) q3)⟩
      rw [el]
      refine p_isNear h q2.2 rfl a (fun k b c => by rw [g2]; exact (f1 k b c).2) (fun b => ⟨fun c => absurd c (by decide), fun _ => ⟨⟨by omega, by omega⟩, fun M6 e6 => ⟨⟨by omega, by omega⟩, ⟨?_, gpw_0 w⟩, fun M7 e7 => ?_⟩⟩⟩) (fun b => ⟨fun _ => out ((fr_no q2.2.2).2 b), fun c => absurd rfl c⟩)
      · rw [e6, gup_c _ (by decide), g0]; exact hb.1
      · have e := fr_in q2.2.2 b
        rw [if_neg (by omega)] at hs
        refine ⟨⟨by omega, by omega⟩, ⟨by omega, by omega, fun c hc => by rw [e7, gup_c _ (by omega), e6, gup_c _ (by omega), dF5 c hc], by rw [e7, gup_k _ (by decide), e6, gup_c _ (by decide), g0, f0], fun k c d => by rw [e7, gup_c _ (by decide), gup_c _ (by decide), e6, gup_c _ (by decide), gup_c _ (by decide), g1, g2]; exact f1 k c d, fun x c d => ?_, ?_⟩, by omega⟩
        · rw [e7, gup_c _ (by decide), e6]
          by_cases hx : x = w
          · rw [hx, gup_s, e]
          · rw [gup_k _ hx, e5, gup_k _ hx]; exact f2 x c (by omega)
        · rw [e7, gup_s, e6, gup_c _ (by decide), g0, hs]
  · have hI := h.cong dF.aside
    have hF' := dF.far hF hn.2
    have en : nN M2 = nN M := dF.aside.2.2.2.1
    refine p_findNearest hI hF' (by omega) (by omega) (fun M3 a b c d => ⟨⟨by omega, by omega⟩, ⟨by omega, by omega, fun x hx => by rw [a x (by omega) (by omega), dF x hx], by rw [a 84 (by decide) (by decide), f0], fun k k0 k1 => ?_⟩, by omega⟩)
    rw [nr_cong dF.aside] at c
    rw [nf_cong dF.aside] at d
    by_cases hk : k = i
    · rw [hk]; exact ⟨c, d⟩
    · rw [(b k hk).1, (b k hk).2]; exact f1 k k0 (by omega)
/-- frame of a question that writes the draft: tables and draft -/
def QFr (M M' : gMem) : Prop := ∀ c, c < 84 ∨ (88 ≤ c ∧ c < 195) ∨ 209 ≤ c → M' c = M c
theorem QFr.aside {M M' : gMem} (h : QFr M M') : Aside M M' := ⟨fun c h1 h2 => h c (by unfold scr at h1; omega), by rw [h 4 (by omega)], by rw [h 228 (by omega)], by rw [h 228 (by omega)], by rw [h 228 (by omega)]⟩
theorem NoteIs.cong {B B' : gMem} {v : Int} {M : gMem} {q : Int} (h : NoteIs B' v M q) (hA : Aside B B') : NoteIs B v M q := by
  unfold NoteIs at *
  rw [nr_cong hA, nf_cong hA, fr_cong hA] at h
  exact h
theorem p_writeDraft {t v : Int} {K : gMem → Prop} {M : gMem} (h : InvA t M) (hF : FarInv M) (hv : 0 ≤ v ∧ v < nN M) (hK : ∀ M', QFr M M' → FarOK M' → NoteIs M v M' 84 → K M') : wX9_writeDraft 0 v K M := by
  unfold wX9_writeDraft
  simp only [Int.reduceAdd]
  refine p_follow1 h hF (fun M1 a b => ?_)
  have hA := a.aside
  have en : nN M1 = nN M := hA.2.2.2.1
  refine p_write (h.cong hA) b (by omega) (fun M2 c d => hK M2 (fun x hx => by rw [c x (by omega), a x (by omega)]) (c.far b (by have := h.1; omega)) (d.cong hA))
/-- what a fresh note of the reference has at its places -/
noncomputable def frv (M : gMem) (v k : Int) : Int := if k = 0 then 1 else if k < 4 then nr M v (k - 1) else if k < 7 then nf M v (k - 4) else if k = 7 then bitsF (fr M v) 12 else fr M v (k - 8)
theorem frv_cong {M M' : gMem} (h : Aside M M') : frv M' = frv M := by
  funext v k
  unfold frv
  rw [nr_cong h, nf_cong h, fr_cong h]
theorem mFar.cong {M M' : gMem} (h : mFar M) (h1 : M' 236 = M 236) (h2 : M' 228 2 = M 228 2) (h3 : M' 229 = M 229) : mFar M' := by
  have e : mL M' = mL M := by funext u v; unfold mL; rw [h3]
  unfold mFar nN at *
  rw [h2, e, h1]
  exact h
theorem p_freshens {t v : Int} {K : gMem → Prop} {M : gMem} (h : InvA t M) (hF : mFar M) (hv : 0 ≤ v ∧ v < nN M) (hK : ∀ M', Only 239 M M' → (∀ k, 0 ≤ k → k < 20 → M' 239 k = frv M v k) → K M') : wX10_freshens 228 v K M := by
  unfold wX10_freshens
  simp only [Int.reduceAdd]
  have hn := h.1
  refine ⟨⟨by omega, by omega⟩, fun M1 e1 => ?_⟩
  refine ⟨fun i M' => 0 ≤ i ∧ i ≤ 3 ∧ Only 239 M M' ∧ M' 239 0 = 1 ∧ ∀ k, 0 ≤ k → k < i → M' 239 (1 + k) = nr M v k ∧ M' 239 (4 + k) = nf M v k, fun i _ => 3 - i, ⟨by omega, by omega, fun c hc => by rw [e1, gup_c _ hc], by rw [e1, gup_s], fun k a b => by omega⟩, ?_⟩
  intro i M2 ⟨i0, i1, dF, f0, f1⟩
  dsimp only
  have hA := dF.aside (by omega)
  have hI := h.cong hA
  have hF2 : mFar M2 := hF.cong (dF 236 (by decide)) (by rw [dF 228 (by decide)]) (dF 229 (by decide))
  have en : nN M2 = nN M := hA.2.2.2.1
  refine ⟨by omega, fun q => ?_, fun q => ?_⟩
  · have ei : i = 3 := by omega
    subst ei
    refine p_bunchOf hI hF2 (by omega) ⟨⟨by omega, by omega⟩, fun M3 e3 => ?_⟩
    rw [fr_cong hA] at e3
    refine ⟨fun w M' => 0 ≤ w ∧ w ≤ 12 ∧ Only 239 M M' ∧ M' 239 0 = 1 ∧ (∀ k, 0 ≤ k → k < 3 → M' 239 (1 + k) = nr M v k ∧ M' 239 (4 + k) = nf M v k) ∧ M' 239 7 = bitsF (fr M v) 12 ∧ ∀ x, 0 ≤ x → x < w → M' 239 (8 + x) = fr M v x, fun w _ => 12 - w, ⟨by omega, by omega, fun c hc => by rw [e3, gup_c _ hc, dF c hc], by rw [e3, gup_k _ (by decide), f0], fun k a b => by rw [e3, gup_k _ (by omega), gup_k _ (by omega)]; exact f1 k a b, by rw [e3, gup_s], fun x a b => by omega⟩, ?_⟩
    intro w M4 ⟨w0, w1, dF, f0, f1, f2, f3⟩
    dsimp only
    refine ⟨by omega, fun q => ?_, fun q => ⟨⟨by omega, by omega⟩, ⟨by omega, by omega⟩, ?_⟩⟩
    · have ew : w = 12 := by omega
      subst ew
      refine hK M4 dF (fun k a b => ?_)
      unfold frv
      by_cases c0 : k = 0
      · rw [if_pos c0, c0]; exact f0
      by_cases c1 : k < 4
      · rw [if_neg c0, if_pos c1]
        have := (f1 (k - 1) (by omega) (by omega)).1
        rw [show 1 + (k - 1) = k by omega] at this
        exact this
      by_cases c2 : k < 7
      · rw [if_neg c0, if_neg c1, if_pos c2]
        have := (f1 (k - 4) (by omega) (by omega)).2
        rw [show 4 + (k - 4) = k by omega] at this
        exact this
      by_cases c3 : k = 7
      · rw [if_neg c0, if_neg c1, if_neg c2, if_pos c3, c3]; exact f2
      · rw [if_neg c0, if_neg c1, if_neg c2, if_neg c3]
        have := f3 (k - 8) (by omega) (by omega)
        rw [show 8 + (k - 8) = k by omega] at this
        exact this
    · unfold wX10_has
      rw [f2]
      have hb := bits_0 (fr M v) 12
      have ht := bits_at (fr M v) 12 w.toNat (by omega)
      rw [show ((w.toNat : Nat) : Int) = w by omega] at ht
      rw [ht]
      have go : ∀ x, x = fr M v w → ((0 : Int) ≤ 8 + w ∧ 8 + w < 20) ∧ ∀ M5, M5 = gup M4 239 (8 + w) x → gR (w + 1) ∧ (0 ≤ w + 1 ∧ w + 1 ≤ 12 ∧ Only 239 M M5 ∧ M5 239 0 = 1 ∧ (∀ k, 0 ≤ k → k < 3 → M5 239 (1 + k) = nr M v k ∧ M5 239 (4 + k) = nf M v k) ∧ M5 239 7 = bitsF (fr M v) 12 ∧ ∀ x, 0 ≤ x → x < w + 1 → M5 239 (8 + x) = fr M v x) ∧ 12 - (w + 1) < 12 - w := by
        intro x ex
        refine ⟨⟨by omega, by omega⟩, fun M5 e5 => ⟨⟨by omega, by omega⟩, ⟨by omega, by omega, fun c hc => by rw [e5, gup_c _ hc, dF c hc], by rw [e5, gup_k _ (by omega), f0], fun k a b => by rw [e5, gup_k _ (by omega), gup_k _ (by omega)]; exact f1 k a b, by rw [e5, gup_k _ (by omega), f2], fun y a b => ?_⟩, by omega⟩⟩
        by_cases hy : y = w
        · rw [hy, e5, gup_s, ex]
        · rw [e5, gup_k _ (by omega)]; exact f3 y a (by omega)
      refine ⟨⟨hb.1, by omega, by omega⟩, gK1_r ⟨fun a => ⟨Or.inl rfl, gK1_r ⟨fun _ => go _ ?_, fun b => absurd rfl b⟩⟩, fun a => ⟨Or.inr rfl, gK1_r ⟨fun b => absurd b (by decide), fun _ => ?_⟩⟩⟩⟩
      · by_cases c : fr M v w = -1
        · exact c.symm
        · rw [if_neg c] at a; exact absurd rfl a
      · have c : fr M v w ≠ -1 := fun c => by rw [if_pos c] at a; exact absurd a (by decide)
        have hw : w < nN M := by
          by_cases d : w < nN M
          · exact d
          · exact absurd (fr_hi (by omega)) c
        have hi : inB M v w := by
          refine Classical.byContradiction (fun d => c ((fr_no hw).2 d))
        have hd : M4 236 (12 * v + w) = fr M v w := by
          rw [dF 236 (by decide), fr_in hw hi]
          have := hF.val h hv ⟨w0, hw⟩
          have := hi.1
          omega
        exact ⟨⟨by omega, by omega⟩, ⟨by omega, by omega⟩, ⟨by omega, by omega⟩, go _ hd⟩
  · refine p_nearestOf hI hF2 (by omega) ?_
    rw [nr_cong hA]
    have hb := nr_bd M (by omega) v i
    have go : ∀ M3 x, M3 = gup M2 239 (1 + i) (nr M v i) → x = nf M v i → ((0 : Int) ≤ 4 + i ∧ 4 + i < 20) ∧ ∀ M5, M5 = gup M3 239 (4 + i) x → gR (i + 1) ∧ (0 ≤ i + 1 ∧ i + 1 ≤ 3 ∧ Only 239 M M5 ∧ M5 239 0 = 1 ∧ ∀ k, 0 ≤ k → k < i + 1 → M5 239 (1 + k) = nr M v k ∧ M5 239 (4 + k) = nf M v k) ∧ 3 - (i + 1) < 3 - i := by
      intro M3 x e3 ex
      refine ⟨⟨by omega, by omega⟩, fun M5 e5 => ⟨⟨by omega, by omega⟩, ⟨by omega, by omega, fun c hc => by rw [e5, gup_c _ hc, e3, gup_c _ hc, dF c hc], by rw [e5, gup_k _ (by omega), e3, gup_k _ (by omega), f0], fun k a b => ?_⟩, by omega⟩⟩
      by_cases hk : k = i
      · rw [hk, e5, gup_s, gup_k _ (by omega), e3, gup_s, ex]; exact ⟨rfl, rfl⟩
      · rw [e5, gup_k _ (by omega), gup_k _ (by omega), e3, gup_k _ (by omega), gup_k _ (by omega)]; exact f1 k a (by omega)
    refine ⟨⟨by omega, by omega⟩, ⟨by omega, by omega⟩, fun M3 e3 => ⟨⟨by omega, by omega⟩, gK1_r ⟨fun a => ⟨⟨by omega, by omega⟩, ⟨by omega, by omega⟩, ⟨by omega, by omega⟩, go M3 _ e3 ?_⟩, fun a => go M3 _ e3 ?_⟩⟩⟩
    · rw [e3, gup_c _ (by decide), dF 236 (by decide)]
      have hd := hF.val h hv ⟨by omega, by omega⟩ (v := nr M v i)
      have := (hb.2.2 a).1
      unfold nf
      rw [if_neg a]
      omega
    · unfold nf
      rw [if_pos a]
