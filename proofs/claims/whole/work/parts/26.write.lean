/-! NOTES: what a note bears when it is written -/
theorem IsD.conf {n : Int} {L : Int → Int → Int} {B : Int} {f f' : Int → Int → Int} (h : IsD n L B f) (hf : ∀ a b, 0 ≤ a → a < n → 0 ≤ b → b < n → f' a b = f a b) : IsD n L B f' := by
  obtain ⟨c1, c2, c3, c4, c5⟩ := h
  exact ⟨fun u v p1 p2 p3 p4 => by rw [hf u v p1 p2 p3 p4]; exact c1 u v p1 p2 p3 p4, fun u p1 p2 => by rw [hf u u p1 p2 p1 p2]; exact c2 u p1 p2, fun u v w p1 p2 p3 p4 p5 p6 => by rw [hf u v p1 p2 p3 p4, hf u w p1 p2 p5 p6, hf v w p3 p4 p5 p6]; exact c3 u v w p1 p2 p3 p4 p5 p6, fun u v p1 p2 p3 p4 p5 => by rw [hf u v p1 p2 p3 p4]; exact c4 u v p1 p2 p3 p4 p5, fun u v p1 p2 p3 p4 p5 => by rw [hf u v p1 p2 p3 p4] at p5 ⊢; exact c5 u v p1 p2 p3 p4 p5⟩
theorem FarOK.cong {M M' : gMem} (h : FarOK M) (hn : nN M ≤ 12) (h1 : M' 1 3 = M 1 3) (h2 : ∀ c, 195 ≤ c → c < 209 → M' c = M c) (h3 : M' 228 2 = M 228 2) (h4 : M' 229 = M 229) : FarOK M' := by
  obtain ⟨a, b, c⟩ := h
  have e : mL M' = mL M := by funext u v; unfold mL; rw [h4]
  unfold FarOK nN at *
  rw [h1, h2 195 (by omega) (by omega), h3, e]
  exact ⟨a, b, c.conf (fun x y p q _ _ => by rw [h2 _ (by omega) (by omega)])⟩
theorem FarInv.cong {M M' : gMem} (h : FarInv M) (hn : nN M ≤ 12) (h1 : M' 1 3 = M 1 3) (h2 : ∀ c, 195 ≤ c → c < 209 → M' c = M c) (h3 : M' 228 2 = M 228 2) (h4 : M' 229 = M 229) : FarInv M' := by
  obtain ⟨a, b, c⟩ := h
  refine ⟨by rw [h2 195 (by omega) (by omega)]; exact a, by rw [h2 195 (by omega) (by omega), h1]; exact b, fun d => (c ?_).cong hn h1 h2 h3 h4⟩
  rw [h2 195 (by omega) (by omega), h1] at d
  exact d
theorem p_lev1 {t v : Int} {K : Int → gMem → Prop} {M : gMem} (h : InvA t M) (h1 : 0 ≤ v ∧ v < nN M → K (lev M v) M) (h2 : ¬ (0 ≤ v ∧ v < nN M) → K 0 M) : wX1_levelOf 1 v K M := by
  have hn := h.1
  have hN := h.2.1
  have e : M 1 0 = nN M := hN.1
  refine p_lev (by omega) (fun q => ?_) (fun q => h2 (by omega))
  have := hN.2.2.1 v q.1 (by omega)
  rw [show (0 : Int) + 144 + v = 144 + v by omega] at this
  rw [this]
  exact h1 (by omega)
/-- what changes while the draft is written -/
def DrFr (M M' : gMem) : Prop := ∀ c, c < 84 ∨ 88 ≤ c → M' c = M c
theorem DrFr.aside {M M' : gMem} (h : DrFr M M') : Aside M M' := ⟨fun c h1 h2 => h c (by unfold scr at h1; omega), by rw [h 4 (by omega)], by rw [h 228 (by omega)], by rw [h 228 (by omega)], by rw [h 228 (by omega)]⟩
theorem DrFr.far {M M' : gMem} (h : DrFr M M') (hF : FarOK M) (hn : nN M ≤ 12) : FarOK M' := hF.cong hn (by rw [h 1 (by omega)]) (fun c a b => h c (by omega)) (by rw [h 228 (by omega)]) (by rw [h 229 (by omega)])
theorem p_findNearest {t v i : Int} {K : gMem → Prop} {M : gMem} (h : InvA t M) (hF : FarOK M) (hv : 0 ≤ v ∧ v < nN M) (hi : 0 ≤ i ∧ i < 3) (hK : ∀ M', (∀ c, c ≠ 85 → c ≠ 86 → M' c = M c) → (∀ k, k ≠ i → M' 85 k = M 85 k ∧ M' 86 k = M 86 k) → M' 85 i = nr M v i → M' 86 i = nf M v i → K M') : wX2_findNearest 84 1 195 v i K M := by
  unfold wX2_findNearest
  simp only [Int.reduceAdd]
  have hn := h.1
  refine ⟨hi, fun M1 e1 => ⟨hi, fun M2 e2 => ?_⟩⟩
  refine ⟨fun w M' => 0 ≤ w ∧ w ≤ nN M ∧ (∀ c, c ≠ 85 → c ≠ 86 → M' c = M c) ∧ (∀ k, k ≠ i → M' 85 k = M 85 k ∧ M' 86 k = M 86 k) ∧ M' 85 i = nrs (dd M v) (lev M) i w.toNat ∧ M' 86 i = (if nrs (dd M v) (lev M) i w.toNat = -1 then -1 else dd M v (nrs (dd M v) (lev M) i w.toNat)), fun w _ => nN M - w, ⟨by omega, by omega, fun c a b => ?_, fun k a => ⟨?_, ?_⟩, ?_, ?_⟩, ?_⟩
  · rw [e2, gup_c _ b, e1, gup_c _ a]
  · rw [e2, gup_c _ (by decide), e1, gup_k _ a]
  · rw [e2, gup_k _ a, e1, gup_c _ (by decide)]
  · rw [e2, gup_c _ (by decide), e1, gup_s]; rfl
  · rw [e2, gup_s]; rfl
  intro w M' ⟨w0, w1, f1, f2, f3, f4⟩
  dsimp only
  have dF : DrFr M M' := fun c hc => f1 c (by omega) (by omega)
  have hI := h.cong dF.aside
  have hF' := dF.far hF hn.2
  have en : nN M' = nN M := dF.aside.2.2.2.1
  have e10 : M' 1 0 = nN M := by rw [f1 1 (by decide) (by decide)]; exact h.2.1.1
  have ed := dd_cong dF.aside
  have el := lev_cong dF.aside
  refine ⟨by omega, fun q => ?_, fun q => ?_⟩
  · have e : w = nN M := by omega
    rw [e] at f3 f4
    exact hK M' f1 f2 f3 f4
  · have hs := nrs_s (dd M v) (lev M) i w w0
    have hb := nrs_bd (dd M v) (lev M) i w.toNat
    generalize nrs (dd M v) (lev M) i w.toNat = g at hs hb f3 f4
    refine p_btw1 hI hF' (fun q2 => ?_) (fun q2 => absurd (show _ by omega) q2)
    rw [ed]
    have skip : ∀ M2, M2 = M' → g = nrs (dd M v) (lev M) i (w + 1).toNat → gR (w + 1) ∧ (0 ≤ w + 1 ∧ w + 1 ≤ nN M ∧ (∀ c, c ≠ 85 → c ≠ 86 → M2 c = M c) ∧ (∀ k, k ≠ i → M2 85 k = M 85 k ∧ M2 86 k = M 86 k) ∧ M2 85 i = nrs (dd M v) (lev M) i (w + 1).toNat ∧ M2 86 i = (if nrs (dd M v) (lev M) i (w + 1).toNat = -1 then -1 else dd M v (nrs (dd M v) (lev M) i (w + 1).toNat))) ∧ nN M - (w + 1) < nN M - w := by
      intro M2 e eg
      subst e
      rw [← eg]
      exact ⟨⟨by omega, by omega⟩, ⟨by omega, by omega, f1, f2, f3, f4⟩, by omega⟩
    have take : dd M v w ≠ -1 → w = nrs (dd M v) (lev M) i (w + 1).toNat → ((0 : Int) ≤ i ∧ i < 3) ∧ ∀ M3, M3 = gup M' 85 i w → ((0 : Int) ≤ i ∧ i < 3) ∧ ∀ M4, M4 = gup M3 86 i (dd M v w) → gR (w + 1) ∧ (0 ≤ w + 1 ∧ w + 1 ≤ nN M ∧ (∀ c, c ≠ 85 → c ≠ 86 → M4 c = M c) ∧ (∀ k, k ≠ i → M4 85 k = M 85 k ∧ M4 86 k = M 86 k) ∧ M4 85 i = nrs (dd M v) (lev M) i (w + 1).toNat ∧ M4 86 i = (if nrs (dd M v) (lev M) i (w + 1).toNat = -1 then -1 else dd M v (nrs (dd M v) (lev M) i (w + 1).toNat))) ∧ nN M - (w + 1) < nN M - w := by
      intro _ eg
      rw [← eg]
      refine ⟨hi, fun M3 e3 => ⟨hi, fun M4 e4 => ⟨⟨by omega, by omega⟩, ⟨by omega, by omega, fun c a b => ?_, fun k a => ⟨?_, ?_⟩, ?_, ?_⟩, by omega⟩⟩⟩
      · rw [e4, gup_c _ b, e3, gup_c _ a, f1 c a b]
      · rw [e4, gup_c _ (by decide), e3, gup_k _ a]; exact (f2 k a).1
      · rw [e4, gup_k _ a, e3, gup_c _ (by decide)]; exact (f2 k a).2
      · rw [e4, gup_c _ (by decide), e3, gup_s]
      · rw [e4, gup_s, if_neg (by omega)]
    refine gK0_r ⟨fun a => skip M' rfl ?_, fun a => p_lev1 hI (fun q3 => ?_) (fun q3 => absurd (show _ by omega) q3)⟩
    · rw [hs, if_neg (fun b => b.2.1 a)]
    · rw [el]
      refine ⟨fun b => ⟨hi, gK0_r ⟨fun c => take a ?_, fun c => ⟨hi, fun d => skip M' rfl ?_, fun d => take a ?_⟩⟩⟩, fun b => skip M' rfl ?_⟩
      · rw [hs, if_pos ⟨b, a, Or.inl (by omega)⟩]
      · rw [if_neg (by omega)] at f4
        rw [hs, if_neg (by omega)]
      · rw [if_neg (by omega)] at f4
        rw [hs, if_pos ⟨b, a, Or.inr (by omega)⟩]
      · rw [hs, if_neg (fun c => b c.1)]
