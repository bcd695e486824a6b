/-! THE SAME, of weaker ties (printed out of the earlier parts by mkbc.py) -/
theorem InvB.L99 {t : Int} {M : gMem} (h : InvB t M) : ∀ u v, 0 ≤ u → u < nN M → 0 ≤ v → v < nN M → mL M u v ≤ 99 := fun u v a b c d => (h.L u v a (by have := h.1; omega) c (by have := h.1; omega)).2.1
theorem p_finds0B {t : Int} {K : gMem → Prop} {M : gMem} (h : InvB t M) (hK : ∀ M', Only 236 M M' → mFar M' → K M') : wX10_finds 228 0 K M := by
  refine p_finds h.1 (fun k a b => ?_) (fun M' h1 h2 => hK M' h1 ?_)
  · have := h.L (k / 12) (k % 12) (by omega) (by omega) (by omega) (by omega)
    unfold mL at this
    rw [show 12 * (k / 12) + k % 12 = k by omega] at this
    omega
  · unfold mFar nN
    rw [h1 228 (by decide)]
    have e : mL M' = mL M := by funext u v; unfold mL; rw [h1 229 (by decide)]
    rw [e]
    refine h2.cong (fun u v a b c d => ?_)
    have hn : nN M ≤ 12 := h.1.2
    have := h.L u v a (by unfold nN at hn; omega) c (by unfold nN at hn; omega)
    unfold mLb
    unfold mL at this ⊢
    split
    · rfl
    · omega
theorem mFar.valB {t u v : Int} {M : gMem} (h : mFar M) (hI : InvB t M) (hu : 0 ≤ u ∧ u < nN M) (hv : 0 ≤ v ∧ v < nN M) : (M 236 (12 * u + v) < 100000 ∧ dd M u v = M 236 (12 * u + v) ∧ 0 ≤ dd M u v ∧ dd M u v ≤ 1188) ∨ (¬ M 236 (12 * u + v) < 100000 ∧ dd M u v = -1) := by
  rcases IsD.val (show IsD (nN M) (mL M) 100000 (fun u v => M 236 (12 * u + v)) from h) hI.1.2 hI.L99 (by decide) hu.1 hu.2 hv.1 hv.2 with ⟨a, b, c, d⟩ | ⟨a, b⟩
  · have b : dd M u v = M 236 (12 * u + v) := b
    exact Or.inl ⟨a, b, by rw [b]; exact c, by rw [b]; exact d⟩
  · exact Or.inr ⟨a, b⟩
theorem p_nearestOfB {t v l : Int} {K : Int → gMem → Prop} {M : gMem} (h : InvB t M) (hF : mFar M) (hv : 0 ≤ v ∧ v < nN M) (hK : K (nr M v l) M) : wX10_nearestOf 228 v l K M := by
  unfold wX10_nearestOf
  simp only [Int.reduceAdd]
  have hn := h.1
  refine ⟨fun f w M' => M' = M ∧ 0 ≤ w ∧ w ≤ nN M ∧ f = nrs (dd M v) (lev M) l w.toNat, fun f w _ => nN M - w, ⟨rfl, by omega, by omega, rfl⟩, ?_⟩
  intro f w M' ⟨e, w0, w1, hf⟩
  subst e
  dsimp only
  refine ⟨by omega, fun q => ?_, fun q => ?_⟩
  · have e : w = nN M' := by unfold nN at w1 ⊢; omega
    rw [hf, e]
    exact hK
  · have q : w < nN M' := by unfold nN; omega
    have hb := nrs_bd (dd M' v) (lev M') l w.toNat
    have hs := nrs_s (dd M' v) (lev M') l w w0
    rw [← hf] at hs hb
    have hw := hF.valB h hv ⟨w0, q⟩
    have el : lev M' w = M' 229 (144 + w) := rfl
    refine ⟨⟨by omega, by omega⟩, ⟨by omega, by omega⟩, gK1_r ⟨fun a => ?_, fun a => ?_⟩⟩
    · rw [if_neg (fun b => by have := b.1; unfold lev at this; omega)] at hs
      exact ⟨⟨by omega, by omega⟩, ⟨rfl, by omega, by omega, hs.symm⟩, by omega⟩
    · refine p_isWay ⟨by omega, by omega⟩ ⟨by omega, by omega⟩ (fun b => ⟨fun c => absurd c (by decide), fun _ => gK0_r ⟨fun c => ?_, fun c => ?_⟩⟩) (fun b => ⟨fun _ => ?_, fun c => absurd rfl c⟩)
      · rw [if_pos ⟨by omega, by omega, Or.inl c⟩] at hs
        exact ⟨⟨by omega, by omega⟩, ⟨rfl, by omega, by omega, hs.symm⟩, by omega⟩
      · have hf2 := hF.valB h hv ⟨by omega, by omega⟩ (v := f)
        have hd := (hb.2.2 c).1
        refine ⟨⟨by omega, by omega⟩, ⟨by omega, by omega⟩, ⟨by omega, by omega⟩, ⟨by omega, by omega⟩, ⟨by omega, by omega⟩, ⟨by omega, by omega⟩, fun g => ?_, fun g => ?_⟩
        · rw [if_neg (by omega)] at hs
          exact ⟨⟨by omega, by omega⟩, ⟨rfl, by omega, by omega, hs.symm⟩, by omega⟩
        · rw [if_pos ⟨by omega, by omega, Or.inr (by omega)⟩] at hs
          exact ⟨⟨by omega, by omega⟩, ⟨rfl, by omega, by omega, hs.symm⟩, by omega⟩
      · rw [if_neg (by omega)] at hs
        exact ⟨⟨by omega, by omega⟩, ⟨rfl, by omega, by omega, hs.symm⟩, by omega⟩
theorem p_isInBunchB {t v w : Int} {K : Int → gMem → Prop} {M : gMem} (h : InvB t M) (hF : mFar M) (hv : 0 ≤ v ∧ v < nN M) (hw : 0 ≤ w ∧ w < nN M) (h1 : inB M v w → K 1 M) (h2 : ¬ inB M v w → K 0 M) : wX10_isInBunch 228 v w K M := by
  unfold wX10_isInBunch
  simp only [Int.reduceAdd]
  have hn := h.1
  have hl := h.lev w hw.1 (by omega)
  refine ⟨⟨by omega, by omega⟩, ⟨by omega, by omega⟩, ⟨by omega, by omega⟩, p_nearestOfB h hF hv ?_⟩
  have hb := nr_bd M (by omega) v (lev M w + 1)
  have hd := hF.valB h hv hw
  generalize hr : nr M v (lev M w + 1) = r at hb
  unfold inB at h1 h2
  rw [hr] at h1 h2
  refine p_isWay ⟨by omega, by omega⟩ ⟨by omega, by omega⟩ (fun b => gK1_r (gK0_r ⟨fun c => absurd c (by decide), fun _ => gK0_r ⟨fun c => ⟨Or.inr rfl, h1 ⟨by omega, Or.inl c⟩⟩, fun c => ?_⟩⟩)) (fun b => gK1_r (gK0_r ⟨fun _ => ⟨Or.inl rfl, h2 (fun c => by omega)⟩, fun c => absurd rfl c⟩))
  have hf2 := hF.valB h hv ⟨by omega, by omega⟩ (v := r)
  refine ⟨⟨by omega, by omega⟩, ⟨by omega, by omega⟩, ⟨by omega, by omega⟩, ⟨by omega, by omega⟩, ⟨by omega, by omega⟩, ⟨by omega, by omega⟩, fun g => ⟨Or.inl rfl, h2 (fun k => by have := (hb.2.2 c).1; omega)⟩, fun g => ⟨Or.inr rfl, h1 ⟨by omega, Or.inr (by have := (hb.2.2 c).1; omega)⟩⟩⟩
theorem p_bunchOfB {t v : Int} {K : Int → gMem → Prop} {M : gMem} (h : InvB t M) (hF : mFar M) (hv : 0 ≤ v ∧ v < nN M) (hK : K (bitsF (fr M v) 12) M) : wX10_bunchOf 228 v K M := by
  unfold wX10_bunchOf
  have hn := h.1
  refine ⟨fun f w M' => M' = M ∧ 0 ≤ w ∧ w ≤ nN M ∧ f = bitsF (fr M v) w.toNat, fun f w _ => nN M - w, ⟨rfl, by omega, by omega, rfl⟩, ?_⟩
  intro f w M' ⟨e, w0, w1, hf⟩
  subst e
  dsimp only
  refine ⟨by omega, fun q => ?_, fun q => ?_⟩
  · have e : w = nN M' := by unfold nN at w1 ⊢; omega
    rw [bits_more w.toNat (fun k hk => fr_hi (by omega)) 12 (by omega), ← hf] at hK
    exact hK
  · have q : w < nN M' := by unfold nN; omega
    have hs := bits_s (fr M' v) w w0
    have hb := bits_0 (fr M' v) w.toNat
    rw [← hf] at hs hb
    refine p_isInBunchB h hF hv ⟨w0, q⟩ (fun c => gK1_r ⟨fun d => absurd d (by decide), fun _ => ⟨⟨by omega, by omega⟩, ?_⟩⟩) (fun c => gK1_r ⟨fun _ => ?_, fun d => absurd rfl d⟩)
    · rw [if_neg (fun g => (fr_no q).1 g c)] at hs
      exact ⟨⟨by omega, gpw_0 w⟩, fun x ex => ⟨⟨by omega, by omega⟩, ⟨rfl, by omega, by omega, by rw [ex]; exact hs.symm⟩, by omega⟩⟩
    · rw [if_pos ((fr_no q).2 c)] at hs
      exact ⟨⟨by omega, by omega⟩, fun x ex => ⟨⟨by omega, by omega⟩, ⟨rfl, by omega, by omega, by rw [ex, gor_0 _ hb.1]; exact hs.symm⟩, by omega⟩⟩
theorem p_freshensB {t v : Int} {K : gMem → Prop} {M : gMem} (h : InvB t M) (hF : mFar M) (hv : 0 ≤ v ∧ v < nN M) (hK : ∀ M', Only 239 M M' → (∀ k, 0 ≤ k → k < 20 → M' 239 k = frv M v k) → K M') : wX10_freshens 228 v K M := by
  unfold wX10_freshens
  simp only [Int.reduceAdd]
  have hn := h.1
  refine ⟨⟨by omega, by omega⟩, fun M1 e1 => ?_⟩
  refine ⟨fun i M' => 0 ≤ i ∧ i ≤ 3 ∧ Only 239 M M' ∧ M' 239 0 = 1 ∧ ∀ k, 0 ≤ k → k < i → M' 239 (1 + k) = nr M v k ∧ M' 239 (4 + k) = nf M v k, fun i _ => 3 - i, ⟨by omega, by omega, fun c hc => by rw [e1, gup_c _ hc], by rw [e1, gup_s], fun k a b => by omega⟩, ?_⟩
  intro i M2 ⟨i0, i1, dF, f0, f1⟩
  dsimp only
  have hA := dF.aside (by omega)
  have hI := h.cong hA
  have hF2 : mFar M2 := hF.cong (dF 236 (by decide)) (by rw [dF 228 (by decide)]) (dF 229 (by decide))
  have en : nN M2 = nN M := hA.2.2.2.1
  refine ⟨by omega, fun q => ?_, fun q => ?_⟩
  · have ei : i = 3 := by omega
    subst ei
    refine p_bunchOfB hI hF2 (by omega) ⟨⟨by omega, by omega⟩, fun M3 e3 => ?_⟩
    rw [fr_cong hA] at e3
    refine ⟨fun w M' => 0 ≤ w ∧ w ≤ 12 ∧ Only 239 M M' ∧ M' 239 0 = 1 ∧ (∀ k, 0 ≤ k → k < 3 → M' 239 (1 + k) = nr M v k ∧ M' 239 (4 + k) = nf M v k) ∧ M' 239 7 = bitsF (fr M v) 12 ∧ ∀ x, 0 ≤ x → x < w → M' 239 (8 + x) = fr M v x, fun w _ => 12 - w, ⟨by omega, by omega, fun c hc => by rw [e3, gup_c _ hc, dF c hc], by rw [e3, gup_k _ (by decide), f0], fun k a b => by rw [e3, gup_k _ (by omega), gup_k _ (by omega)]; exact f1 k a b, by rw [e3, gup_s], fun x a b => by omega⟩, ?_⟩
    intro w M4 ⟨w0, w1, dF, f0, f1, f2, f3⟩
    dsimp only
    refine ⟨by omega, fun q => ?_, fun q => ⟨⟨by omega, by omega⟩, ⟨by omega, by omega⟩, ?_⟩⟩
    · have ew : w = 12 := by omega
      subst ew
      refine hK M4 dF (fun k a b => ?_)
      unfold frv
      by_cases c0 : k = 0
      · rw [if_pos c0, c0]; exact f0
      by_cases c1 : k < 4
      · rw [if_neg c0, if_pos c1]
        have := (f1 (k - 1) (by omega) (by omega)).1
        rw [show 1 + (k - 1) = k by omega] at this
        exact this
      by_cases c2 : k < 7
      · rw [if_neg c0, if_neg c1, if_pos c2]
        have := (f1 (k - 4) (by omega) (by omega)).2
        rw [show 4 + (k - 4) = k by omega] at this
        exact this
      by_cases c3 : k = 7
      · rw [if_neg c0, if_neg c1, if_neg c2, if_pos c3, c3]; exact f2
      · rw [if_neg c0, if_neg c1, if_neg c2, if_neg c3]
        have := f3 (k - 8) (by omega) (by omega)
        rw [show 8 + (k - 8) = k by omega] at this
        exact this
    · unfold wX10_has
      rw [f2]
      have hb := bits_0 (fr M v) 12
      have ht := bits_at (fr M v) 12 w.toNat (by omega)
      rw [show ((w.toNat : Nat) : Int) = w by omega] at ht
      rw [ht]
      have go : ∀ x, x = fr M v w → ((0 : Int) ≤ 8 + w ∧ 8 + w < 20) ∧ ∀ M5, M5 = gup M4 239 (8 + w) x → gR (w + 1) ∧ (0 ≤ w + 1 ∧ w + 1 ≤ 12 ∧ Only 239 M M5 ∧ M5 239 0 = 1 ∧ (∀ k, 0 ≤ k → k < 3 → M5 239 (1 + k) = nr M v k ∧ M5 239 (4 + k) = nf M v k) ∧ M5 239 7 = bitsF (fr M v) 12 ∧ ∀ x, 0 ≤ x → x < w + 1 → M5 239 (8 + x) = fr M v x) ∧ 12 - (w + 1) < 12 - w := by
        intro x ex
        refine ⟨⟨by omega, by omega⟩, fun M5 e5 => ⟨⟨by omega, by omega⟩, ⟨by omega, by omega, fun c hc => by rw [e5, gup_c _ hc, dF c hc], by rw [e5, gup_k _ (by omega), f0], fun k a b => by rw [e5, gup_k _ (by omega), gup_k _ (by omega)]; exact f1 k a b, by rw [e5, gup_k _ (by omega), f2], fun y a b => ?_⟩, by omega⟩⟩
        by_cases hy : y = w
        · rw [hy, e5, gup_s, ex]
        · rw [e5, gup_k _ (by omega)]; exact f3 y a (by omega)
      refine ⟨⟨hb.1, by omega, by omega⟩, gK1_r ⟨fun a => ⟨Or.inl rfl, gK1_r ⟨fun _ => go _ ?_, fun b => absurd rfl b⟩⟩, fun a => ⟨Or.inr rfl, gK1_r ⟨fun b => absurd b (by decide), fun _ => ?_⟩⟩⟩⟩
      · by_cases c : fr M v w = -1
        · exact c.symm
        · rw [if_neg c] at a; exact absurd rfl a
      · have c : fr M v w ≠ -1 := fun c => by rw [if_pos c] at a; exact absurd a (by decide)
        have hw : w < nN M := by
          by_cases d : w < nN M
          · exact d
          · exact absurd (fr_hi (by omega)) c
        have hi : inB M v w := by
          refine Classical.byContradiction (fun d => c ((fr_no hw).2 d))
        have hd : M4 236 (12 * v + w) = fr M v w := by
          rw [dF 236 (by decide), fr_in hw hi]
          have := hF.valB h hv ⟨w0, hw⟩
          have := hi.1
          omega
        exact ⟨⟨by omega, by omega⟩, ⟨by omega, by omega⟩, ⟨by omega, by omega⟩, go _ hd⟩
  · refine p_nearestOfB hI hF2 (by omega) ?_
    rw [nr_cong hA]
    have hb := nr_bd M (by omega) v i
    have go : ∀ M3 x, M3 = gup M2 239 (1 + i) (nr M v i) → x = nf M v i → ((0 : Int) ≤ 4 + i ∧ 4 + i < 20) ∧ ∀ M5, M5 = gup M3 239 (4 + i) x → gR (i + 1) ∧ (0 ≤ i + 1 ∧ i + 1 ≤ 3 ∧ Only 239 M M5 ∧ M5 239 0 = 1 ∧ ∀ k, 0 ≤ k → k < i + 1 → M5 239 (1 + k) = nr M v k ∧ M5 239 (4 + k) = nf M v k) ∧ 3 - (i + 1) < 3 - i := by
      intro M3 x e3 ex
      refine ⟨⟨by omega, by omega⟩, fun M5 e5 => ⟨⟨by omega, by omega⟩, ⟨by omega, by omega, fun c hc => by rw [e5, gup_c _ hc, e3, gup_c _ hc, dF c hc], by rw [e5, gup_k _ (by omega), e3, gup_k _ (by omega), f0], fun k a b => ?_⟩, by omega⟩⟩
      by_cases hk : k = i
      · rw [hk, e5, gup_s, gup_k _ (by omega), e3, gup_s, ex]; exact ⟨rfl, rfl⟩
      · rw [e5, gup_k _ (by omega), gup_k _ (by omega), e3, gup_k _ (by omega), gup_k _ (by omega)]; exact f1 k a (by omega)
    refine ⟨⟨by omega, by omega⟩, ⟨by omega, by omega⟩, fun M3 e3 => ⟨⟨by omega, by omega⟩, gK1_r ⟨fun a => ⟨⟨by omega, by omega⟩, ⟨by omega, by omega⟩, ⟨by omega, by omega⟩, go M3 _ e3 ?_⟩, fun a => go M3 _ e3 ?_⟩⟩⟩
    · rw [e3, gup_c _ (by decide), dF 236 (by decide)]
      have hd := hF.valB h hv ⟨by omega, by omega⟩ (v := nr M v i)
      have := (hb.2.2 a).1
      unfold nf
      rw [if_neg a]
      omega
    · unfold nf
      rw [if_pos a]
theorem p_isFreshMB {t v : Int} {K : Int → gMem → Prop} {M : gMem} (h : InvB t M) (hF : mFar M) (hv : 0 ≤ v ∧ v < nN M) (hK : ∀ M' r, Only 239 M M' → (∀ k, 0 ≤ k → k < 20 → M' 239 k = frv M v k) → (r = 1 ∧ frs M v) ∨ (r = 0 ∧ ¬ frs M v) → K r M') : wX10_isFresh 228 v K M := by
  unfold wX10_isFresh
  simp only [Int.reduceAdd]
  have hn := h.1
  refine p_freshensB h hF hv (fun M1 o1 f1 => ?_)
  have e230 : M1 230 = M 230 := o1 230 (by decide)
  refine ⟨fun b k M' => M' = M1 ∧ 0 ≤ k ∧ k ≤ 20 ∧ ((b = 1 ∧ ∀ j, 0 ≤ j → j < k → M 230 (20 * v + j) = frv M v j) ∨ (b = 0 ∧ ¬ frs M v)), fun b k _ => 20 - k, ⟨rfl, by omega, by omega, Or.inl ⟨rfl, fun j x y => by omega⟩⟩, ?_⟩
  intro b k M2 ⟨e2, k0, k1, hb⟩
  subst e2
  dsimp only
  rw [e230]
  refine ⟨by omega, fun q => ⟨by omega, hK M2 b o1 f1 ?_⟩, fun q => gK1_r (gK0_r ⟨fun a => ⟨⟨by omega, by omega⟩, ⟨rfl, by omega, by omega, ?_⟩, by omega⟩, fun a => ⟨⟨by omega, by omega⟩, ⟨by omega, by omega⟩, ⟨by omega, by omega⟩, ⟨by omega, by omega⟩, fun d => ⟨⟨by omega, by omega⟩, ⟨rfl, by omega, by omega, Or.inr ⟨rfl, fun g => d ?_⟩⟩, by omega⟩, fun d => ⟨⟨by omega, by omega⟩, ⟨rfl, by omega, by omega, Or.inl ⟨rfl, fun j j0 j1 => ?_⟩⟩, by omega⟩⟩⟩)⟩
  · rcases hb with hb | hb
    · exact Or.inl ⟨hb.1, fun j j0 j1 => hb.2 j j0 (by omega)⟩
    · exact Or.inr hb
  · rcases hb with hb | hb
    · omega
    · exact Or.inr ⟨rfl, hb.2⟩
  · rw [f1 k k0 (by omega)]; exact g k k0 (by omega)
  · rcases hb with hb | hb
    · by_cases g : j = k
      · rw [g, d, f1 k k0 (by omega)]
      · exact hb.2 j j0 (by omega)
    · omega
theorem InvB.sym {t : Int} {M : gMem} (h : InvB t M) : Lsym (nN M) (mL M) := fun u v a b c d => (h.L u v a (by have := h.1; omega) c (by have := h.1; omega)).2.2.1
theorem InvB.keyL {t : Int} {M : gMem} (h : InvB t M) (u v : Int) (a : 0 ≤ u) (b : u < nN M) (c : 0 ≤ v) (d : v < nN M) : key (mL M) u v < 14400 := by
  have := (h.L u v a (by have := h.1; omega) c (by have := h.1; omega)).2.1
  have := h.1
  unfold key
  split <;> omega
theorem InvB.row {t : Int} {M : gMem} (h : InvB t M) (k : Int) (h0 : 0 ≤ k) (h1 : k < 144) : 0 ≤ M 229 k ∧ M 229 k ≤ 99 ∧ (0 < M 229 k → k / 12 < nN M ∧ k % 12 < nN M ∧ k / 12 ≠ k % 12) ∧ mL M (k / 12) (k % 12) = M 229 k := by
  have a := h.L (k / 12) (k % 12) (by omega) (by omega) (by omega) (by omega)
  have b := h.L (k % 12) (k / 12) (by omega) (by omega) (by omega) (by omega)
  have e : mL M (k / 12) (k % 12) = M 229 k := by unfold mL; rw [show 12 * (k / 12) + k % 12 = k by omega]
  rw [e] at a b
  exact ⟨a.1, a.2.1, fun q => ⟨by omega, by omega, by omega⟩, e⟩
theorem mLb_LRB {t : Int} {M M' : gMem} (h : InvB t M) (h1 : M' 229 = M 229) (u v : Int) (a : 0 ≤ u) (b : u < nN M) (c : 0 ≤ v) (d : v < nN M) : LR (mL M) (τm (nN M) M') u v = mLb M' 1 u v := by
  have := (h.L u v a (by have := h.1; omega) c (by have := h.1; omega)).1
  unfold LR mLb τm
  unfold mL at this ⊢
  rw [h1]
  by_cases q : M' 237 (12 * u + v) = 0
  · rw [if_neg (fun p => p.2.2 q), if_neg (fun p => by omega)]
  · rw [if_pos ⟨⟨a, b⟩, ⟨c, d⟩, q⟩]
    by_cases p : 0 < M 229 (12 * u + v)
    · rw [if_pos ⟨p, Or.inr q⟩]
    · rw [if_neg (fun p' => p p'.1)]; omega
theorem p_takesB {t s l : Int} {K : gMem → Prop} {M M0 : gMem} (h : InvB s M) (ht : 1 ≤ t ∧ t ≤ 9) (hl : 1 ≤ l ∧ l ≤ 99) (hT : TI M t (144 * l) M0) (hK : ∀ M', TI M t (144 * (l + 1)) M' → K M') : wX10_takes 228 t l K M0 := by
  unfold wX10_takes
  simp only [Int.reduceAdd]
  have hn := h.1
  refine ⟨fun k M' => 0 ≤ k ∧ k ≤ 144 ∧ TI M t (144 * l + k) M', fun k _ => 144 - k, ⟨by omega, by omega, by rw [Int.add_zero]; exact hT⟩, ?_⟩
  intro k M1 ⟨k0, k1, hF, hR, hB⟩
  dsimp only
  have f9 : M1 229 = M 229 := hF 229 (by decide) (by decide)
  have f8 : M1 228 = M 228 := hF 228 (by decide) (by decide)
  refine ⟨by omega, fun q => ?_, fun q => ⟨⟨by omega, by omega⟩, ⟨by omega, by omega⟩, ?_⟩⟩
  · have e : k = 144 := by omega
    subst e
    exact hK M1 ⟨hF, by rw [show 144 * (l + 1) = 144 * l + 144 by omega]; exact hR, hB⟩
  have hr := h.row k k0 (by omega)
  have skip : ¬ (k / 12 < k % 12 ∧ M 229 k = l) → gR (k + 1) ∧ (0 ≤ k + 1 ∧ k + 1 ≤ 144 ∧ TI M t (144 * l + (k + 1)) M1) ∧ 144 - (k + 1) < 144 - k := by
    intro no
    refine ⟨⟨by omega, by omega⟩, ⟨by omega, by omega, hF, hR.skip (by omega) (fun u v a b c d e => ?_), hB⟩, by omega⟩
    rw [key_up b] at e ⊢
    refine Classical.byContradiction (fun g => no ?_)
    have e1 : 144 * mL M u v + (12 * u + v) = 144 * l + k := by omega
    have e2 : mL M u v = l := by omega
    have e3 : 12 * u + v = k := by omega
    have e4 : k / 12 = u := by omega
    have e5 : k % 12 = v := by omega
    refine ⟨by omega, ?_⟩
    rw [← e3]
    exact e2
  rw [f9]
  refine gK0_r ⟨fun a => skip (by omega), fun a => ⟨⟨by omega, by omega⟩, fun b => skip (by omega), fun b => ?_⟩⟩
  refine p_finds (by rw [f8]; exact hn) (fun k' a b => by rw [f9]; have := h.row k' a b; omega) (fun M2 o2 hD => ?_)
  have bx := hr.2.2.1 (by omega)
  have hml := mul_bd ht (show 0 ≤ l ∧ l ≤ 99 by omega)
  rw [f8] at hD
  have hD2 : IsD (nN M) (LR (mL M) (τm (nN M) M1)) 100000 (fun u v => M2 236 (12 * u + v)) := hD.cong (fun u v a b c d => mLb_LRB h f9 u v a b c d)
  have hv := IsD.val hD2 hn.2 (LR_99 _ h.L99) (by decide) (u := k / 12) (v := k % 12) (by omega) bx.1 (by omega) bx.2.1
  rw [show 12 * (k / 12) + k % 12 = k by omega] at hv
  have hq : far1 (nN M) (mL M) t (τm (nN M) M1) (k / 12) (k % 12) ↔ t * l < M2 236 k := by
    unfold far1
    rw [hr.2.2.2, b]
    omega
  have fin : ∀ x, (x = 0 ∧ ¬ t * l < M2 236 k) ∨ (x = 1 ∧ t * l < M2 236 k) → ((0 : Int) ≤ k ∧ k < 144) ∧ ((x = 0 ∨ x = 1) ∧ (∀ M15 : gMem, M15 = gup M2 237 k x → (((0 : Int) ≤ k ∧ (0 : Int) < 12) ∧ (gR ((k % 12) * 12) ∧ (((0 : Int) ≤ k ∧ (0 : Int) < 12) ∧ (gR (((k % 12) * 12) + (k / 12)) ∧ (((0 : Int) ≤ (((k % 12) * 12) + (k / 12)) ∧ (((k % 12) * 12) + (k / 12)) < 144) ∧ ((x = 0 ∨ x = 1) ∧ (∀ M16 : gMem, M16 = gup M15 237 (((k % 12) * 12) + (k / 12)) x → (gR (k + 1) ∧ (0 ≤ k + 1 ∧ k + 1 ≤ 144 ∧ TI M t (144 * l + (k + 1)) M16) ∧ 144 - (k + 1) < 144 - k)))))))))) := by
    intro x hx
    refine ⟨⟨by omega, by omega⟩, by omega, fun M3 e3 => ⟨⟨by omega, by omega⟩, ⟨by omega, by omega⟩, ⟨by omega, by omega⟩, ⟨by omega, by omega⟩, ⟨by omega, by omega⟩, by omega, fun M4 e4 => ⟨⟨by omega, by omega⟩, ⟨by omega, by omega, fun c' a b => ?_, ?_, ?_⟩, by omega⟩⟩⟩
    · rw [e4, gup_c _ b, e3, gup_c _ b, o2 c' a, hF c' a b]
    · have g2 : M2 237 = M1 237 := o2 237 (by decide)
      have key1 : key (mL M) (k / 12) (k % 12) = 144 * l + k := by rw [key_up (by omega), hr.2.2.2, b]; omega
      have no1 : ¬ τm (nN M) M1 (k / 12) (k % 12) := fun p => by have := (hR.2.1 _ _ p).2.2.2.1; omega
      have no2 : ¬ τm (nN M) M1 (k % 12) (k / 12) := fun p => no1 (hR.1 _ _ p)
      rw [show 144 * l + (k + 1) = 144 * l + k + 1 by omega]
      refine hR.step hn.2 h.sym (u := k / 12) (v := k % 12) (by omega) (by omega) bx.2.1 (by rw [hr.2.2.2]; omega) key1 (fun u v => ?_)
      rw [hq]
      unfold τm at no1 no2 ⊢
      have z1 : M1 237 (12 * (k / 12) + k % 12) = 0 := Classical.byContradiction (fun p => no1 ⟨⟨by omega, by omega⟩, ⟨by omega, by omega⟩, p⟩)
      have z2 : M1 237 (12 * (k % 12) + k / 12) = 0 := Classical.byContradiction (fun p => no2 ⟨⟨by omega, by omega⟩, ⟨by omega, by omega⟩, p⟩)
      by_cases hbox : (0 ≤ u ∧ u < nN M) ∧ (0 ≤ v ∧ v < nN M)
      · have ek : 12 * u + v = k ↔ u = k / 12 ∧ v = k % 12 := by omega
        have ek2 : 12 * u + v = (k % 12) * 12 + k / 12 ↔ u = k % 12 ∧ v = k / 12 := by omega
        rw [e4, gup_2, e3, gup_2, g2]
        by_cases c1 : u = k % 12 ∧ v = k / 12
        · rw [if_pos ⟨rfl, ek2.2 c1⟩]
          rw [c1.1, c1.2, z2]
          omega
        · rw [if_neg (fun p => c1 (ek2.1 p.2))]
          by_cases c2 : u = k / 12 ∧ v = k % 12
          · rw [if_pos ⟨rfl, ek.2 c2⟩]
            rw [c2.1, c2.2, z1]
            omega
          · rw [if_neg (fun p => c2 (ek.1 p.2))]
            exact ⟨fun p => Or.inl p, fun p => p.elim id (fun p => absurd p.2 (fun p => p.elim c2 c1))⟩
      · refine ⟨fun p => absurd ⟨p.1, p.2.1⟩ hbox, fun p => p.elim (fun p => absurd ⟨p.1, p.2.1⟩ hbox) (fun p => absurd ?_ hbox)⟩
        omega
    · intro k' a' b'
      have g2 : M2 237 = M1 237 := o2 237 (by decide)
      have := hB k' a' b'
      rw [e4, gup_2, e3, gup_2, g2]
      by_cases c1 : k' = (k % 12) * 12 + k / 12
      · rw [if_pos ⟨rfl, c1⟩]; omega
      · rw [if_neg (fun p => c1 p.2)]
        by_cases c2 : k' = k
        · rw [if_pos ⟨rfl, c2⟩]; omega
        · rw [if_neg (fun p => c2 p.2)]; exact this
  exact ⟨⟨by omega, by omega⟩, ⟨by omega, by omega⟩, gK1_r ⟨fun c => fin 0 (by omega), fun c => fin 1 (by omega)⟩⟩
theorem p_thinsB {t s : Int} {K : gMem → Prop} {M : gMem} (h : InvB s M) (ht : 1 ≤ t ∧ t ≤ 9) (hK : ∀ M', TI M t 14400 M' → K M') : wX10_thins 228 t K M := by
  unfold wX10_thins
  simp only [Int.reduceAdd]
  refine ⟨fun k M' => 0 ≤ k ∧ k ≤ 144 ∧ (∀ c', c' ≠ 237 → M' c' = M c') ∧ ∀ i, 0 ≤ i → i < k → M' 237 i = 0, fun k _ => 144 - k, ⟨by omega, by omega, fun _ _ => rfl, fun i a b => by omega⟩, ?_⟩
  intro k M1 ⟨k0, k1, hF, h0⟩
  dsimp only
  refine ⟨by omega, fun q => ?_, fun q => ⟨⟨by omega, by omega⟩, fun M2 e2 => ⟨⟨by omega, by omega⟩, ⟨by omega, by omega, fun c' a => by rw [e2, gup_c _ a, hF c' a], fun i a b => ?_⟩, by omega⟩⟩⟩
  · have e : k = 144 := by omega
    subst e
    have hn := h.1
    refine ⟨fun l M' => 1 ≤ l ∧ l ≤ 100 ∧ TI M t (144 * l) M', fun l _ => 100 - l, ⟨by omega, by omega, fun c' _ a => hF c' a, ?_, fun k a b => ⟨Or.inl (h0 k a b), fun p => absurd (h0 k a b) p⟩⟩, ?_⟩
    · refine Rt.skip (Rt.init (fun u v p => ?_)) (by omega) (fun u v a b c d e => ?_)
      · unfold τm at p
        exact p.2.2 (h0 _ (by omega) (by omega))
      · rw [key_up b] at e ⊢; omega
    · intro l M2 ⟨l0, l1, hT⟩
      dsimp only
      refine ⟨by omega, fun q => ?_, fun q => p_takesB h ht (by omega) hT (fun M3 h3 => ⟨⟨by omega, by omega⟩, ⟨by omega, by omega, h3⟩, by omega⟩)⟩
      have e : l = 100 := by omega
      subst e
      exact hK M2 hT
  · rw [e2]
    by_cases hi : i = k
    · rw [hi, gup_s]
    · rw [gup_k _ hi]; exact h0 i a (by omega)
theorem InvC.L {t : Int} {M : gMem} (h : InvC t M) : LOK (nN M) (mL M) := by
  have := h.2.1.2.2.2.2.2.2.1
  intro u v a b c d
  have := this u v a b c d
  dsimp only at this
  rw [Int.zero_add, Int.zero_add] at this
  exact this
theorem InvC.lev {t : Int} {M : gMem} (h : InvC t M) (v : Int) (h0 : 0 ≤ v) (h1 : v < 12) : 0 ≤ M 229 (144 + v) ∧ M 229 (144 + v) ≤ 2 ∧ (nN M ≤ v → M 229 (144 + v) = 0) := by
  have := h.2.1.2.2.2.2.2.2.2 v h0 h1
  rw [show (0 : Int) + 144 + v = 144 + v by omega] at this
  exact this
theorem InvC.cLe {t : Int} {M : gMem} (h : InvC t M) (u v : Int) (a : 0 ≤ u) (b : u < 12) (c : 0 ≤ v) (d : v < 12) : cL M 1 u v = mL M u v := by
  show M (1 + 1) (12 * u + v) = M 229 (12 * u + v)
  have := h.2.1.2.1 (12 * u + v) (by omega) (by omega)
  rw [Int.zero_add] at this
  exact this
theorem InvC.L99 {t : Int} {M : gMem} (h : InvC t M) : ∀ u v, 0 ≤ u → u < nN M → 0 ≤ v → v < nN M → mL M u v ≤ 99 := fun u v a b c d => (h.L u v a (by have := h.1; omega) c (by have := h.1; omega)).2.1
theorem p_follow1C {t : Int} {K : gMem → Prop} {M : gMem} (h : InvC t M) (hF : FarInv M) (hK : ∀ M', FarFr 195 M M' → FarOK M' → K M') : wX0_follow 195 1 K M := by
  have hn := h.1
  have hnet := h.2.1
  have e0 : M 1 0 = nN M := hnet.1
  refine p_follow (by omega) (by rw [e0]; exact hn) ?_ (fun q => hK M (fun _ _ => rfl) (hF.2.2 q)) (fun M' h1 h2 h3 h4 => ?_)
  · rw [e0]
    intro u v a b c d
    rw [h.cLe u v a b c d, h.cLe v u c d a b]
    exact h.L u v a b c d
  · rw [e0] at h2 h4
    have f1 : M' 1 = M 1 := h1 1 (by omega)
    have f2 : M' 228 = M 228 := h1 228 (by omega)
    have f3 : M' 229 = M 229 := h1 229 (by omega)
    refine hK M' h1 ⟨by unfold nN; rw [f2]; exact h2, by rw [f1]; exact h3, ?_⟩
    have e : mL M' = mL M := by funext u v; unfold mL; rw [f3]
    unfold nN
    rw [f2, e]
    exact h4.cong (fun u v a b c d => (h.cLe u v a (by omega) c (by omega)).symm)
theorem p_btw1C {t u v : Int} {K : Int → gMem → Prop} {M : gMem} (h : InvC t M) (hF : FarOK M) (h1 : (0 ≤ u ∧ u < nN M) ∧ 0 ≤ v ∧ v < nN M → K (dd M u v) M) (h2 : ¬ ((0 ≤ u ∧ u < nN M) ∧ 0 ≤ v ∧ v < nN M) → K (-1) M) : wX0_between 195 u v K M := by
  refine p_btw (by rw [hF.1]; exact h.1.2) (fun q => ?_) (fun q => h2 (by rw [hF.1] at q; exact q))
  rw [hF.1] at q
  have := h1 q
  rcases hF.2.2.val h.1.2 h.L99 (by decide) q.1.1 q.1.2 q.2.1 q.2.2 with ⟨a, b, -, -⟩ | ⟨a, b⟩
  · have a : M (197 + u) v < 1000000 := a
    have b : dd M u v = M (197 + u) v := b
    rw [b] at this
    show K (if M (197 + u) v < 1000000 then M (197 + u) v else -1) M
    rw [if_pos a]
    exact this
  · have a : ¬ M (197 + u) v < 1000000 := a
    have b : dd M u v = -1 := b
    rw [b] at this
    show K (if M (197 + u) v < 1000000 then M (197 + u) v else -1) M
    rw [if_neg a]
    exact this
theorem p_lev1C {t v : Int} {K : Int → gMem → Prop} {M : gMem} (h : InvC t M) (h1 : 0 ≤ v ∧ v < nN M → K (lev M v) M) (h2 : ¬ (0 ≤ v ∧ v < nN M) → K 0 M) : wX1_levelOf 1 v K M := by
  have hn := h.1
  have hN := h.2.1
  have e : M 1 0 = nN M := hN.1
  refine p_lev (by omega) (fun q => ?_) (fun q => h2 (by omega))
  have := hN.2.2.1 v q.1 (by omega)
  rw [show (0 : Int) + 144 + v = 144 + v by omega] at this
  rw [this]
  exact h1 (by omega)
theorem p_findNearestC {t v i : Int} {K : gMem → Prop} {M : gMem} (h : InvC t M) (hF : FarOK M) (hv : 0 ≤ v ∧ v < nN M) (hi : 0 ≤ i ∧ i < 3) (hK : ∀ M', (∀ c, c ≠ 85 → c ≠ 86 → M' c = M c) → (∀ k, k ≠ i → M' 85 k = M 85 k ∧ M' 86 k = M 86 k) → M' 85 i = nr M v i → M' 86 i = nf M v i → K M') : wX2_findNearest 84 1 195 v i K M := by
  unfold wX2_findNearest
  simp only [Int.reduceAdd]
  have hn := h.1
  refine ⟨hi, fun M1 e1 => ⟨hi, fun M2 e2 => ?_⟩⟩
  refine ⟨fun w M' => 0 ≤ w ∧ w ≤ nN M ∧ (∀ c, c ≠ 85 → c ≠ 86 → M' c = M c) ∧ (∀ k, k ≠ i → M' 85 k = M 85 k ∧ M' 86 k = M 86 k) ∧ M' 85 i = nrs (dd M v) (lev M) i w.toNat ∧ M' 86 i = (if nrs (dd M v) (lev M) i w.toNat = -1 then -1 else dd M v (nrs (dd M v) (lev M) i w.toNat)), fun w _ => nN M - w, ⟨by omega, by omega, fun c a b => ?_, fun k a => ⟨?_, ?_⟩, ?_, ?_⟩, ?_⟩
  · rw [e2, gup_c _ b, e1, gup_c _ a]
  · rw [e2, gup_c _ (by decide), e1, gup_k _ a]
  · rw [e2, gup_k _ a, e1, gup_c _ (by decide)]
  · rw [e2, gup_c _ (by decide), e1, gup_s]; rfl
  · rw [e2, gup_s]; rfl
  intro w M' ⟨w0, w1, f1, f2, f3, f4⟩
  dsimp only
  have dF : DrFr M M' := fun c hc => f1 c (by omega) (by omega)
  have hI := h.cong dF.aside
  have hF' := dF.far hF hn.2
  have en : nN M' = nN M := dF.aside.2.2.2.1
  have e10 : M' 1 0 = nN M := by rw [f1 1 (by decide) (by decide)]; exact h.2.1.1
  have ed := dd_cong dF.aside
  have el := lev_cong dF.aside
  refine ⟨by omega, fun q => ?_, fun q => ?_⟩
  · have e : w = nN M := by omega
    rw [e] at f3 f4
    exact hK M' f1 f2 f3 f4
  · have hs := nrs_s (dd M v) (lev M) i w w0
    have hb := nrs_bd (dd M v) (lev M) i w.toNat
    generalize nrs (dd M v) (lev M) i w.toNat = g at hs hb f3 f4
    refine p_btw1C hI hF' (fun q2 => ?_) (fun q2 => absurd (show _ by omega) q2)
    rw [ed]
    have skip : ∀ M2, M2 = M' → g = nrs (dd M v) (lev M) i (w + 1).toNat → gR (w + 1) ∧ (0 ≤ w + 1 ∧ w + 1 ≤ nN M ∧ (∀ c, c ≠ 85 → c ≠ 86 → M2 c = M c) ∧ (∀ k, k ≠ i → M2 85 k = M 85 k ∧ M2 86 k = M 86 k) ∧ M2 85 i = nrs (dd M v) (lev M) i (w + 1).toNat ∧ M2 86 i = (if nrs (dd M v) (lev M) i (w + 1).toNat = -1 then -1 else dd M v (nrs (dd M v) (lev M) i (w + 1).toNat))) ∧ nN M - (w + 1) < nN M - w := by
      intro M2 e eg
      subst e
      rw [← eg]
      exact ⟨⟨by omega, by omega⟩, ⟨by omega, by omega, f1, f2, f3, f4⟩, by omega⟩
    have take : dd M v w ≠ -1 → w = nrs (dd M v) (lev M) i (w + 1).toNat → ((0 : Int) ≤ i ∧ i < 3) ∧ ∀ M3, M3 = gup M' 85 i w → ((0 : Int) ≤ i ∧ i < 3) ∧ ∀ M4, M4 = gup M3 86 i (dd M v w) → gR (w + 1) ∧ (0 ≤ w + 1 ∧ w + 1 ≤ nN M ∧ (∀ c, c ≠ 85 → c ≠ 86 → M4 c = M c) ∧ (∀ k, k ≠ i → M4 85 k = M 85 k ∧ M4 86 k = M 86 k) ∧ M4 85 i = nrs (dd M v) (lev M) i (w + 1).toNat ∧ M4 86 i = (if nrs (dd M v) (lev M) i (w + 1).toNat = -1 then -1 else dd M v (nrs (dd M v) (lev M) i (w + 1).toNat))) ∧ nN M - (w + 1) < nN M - w := by
      intro _ eg
      rw [← eg]
      refine ⟨hi, fun M3 e3 => ⟨hi, fun M4 e4 => ⟨⟨by omega, by omega⟩, ⟨by omega, by omega, fun c a b => ?_, fun k a => ⟨?_, ?_⟩, ?_, ?_⟩, by omega⟩⟩⟩
      · rw [e4, gup_c _ b, e3, gup_c _ a, f1 c a b]
      · rw [e4, gup_c _ (by decide), e3, gup_k _ a]; exact (f2 k a).1
      · rw [e4, gup_k _ a, e3, gup_c _ (by decide)]; exact (f2 k a).2
      · rw [e4, gup_c _ (by decide), e3, gup_s]
      · rw [e4, gup_s, if_neg (by omega)]
    refine gK0_r ⟨fun a => skip M' rfl ?_, fun a => p_lev1C hI (fun q3 => ?_) (fun q3 => absurd (show _ by omega) q3)⟩
    · rw [hs, if_neg (fun b => b.2.1 a)]
    · rw [el]
      refine ⟨fun b => ⟨hi, gK0_r ⟨fun c => take a ?_, fun c => ⟨hi, fun d => skip M' rfl ?_, fun d => take a ?_⟩⟩⟩, fun b => skip M' rfl ?_⟩
      · rw [hs, if_pos ⟨b, a, Or.inl (by omega)⟩]
      · rw [if_neg (by omega)] at f4
        rw [hs, if_neg (by omega)]
      · rw [if_neg (by omega)] at f4
        rw [hs, if_pos ⟨b, a, Or.inr (by omega)⟩]
      · rw [hs, if_neg (fun c => b c.1)]
theorem nr_3C {t : Int} {M : gMem} (h : InvC t M) (v : Int) : nr M v 3 = -1 := nrs_hi _ _ _ _ (fun i hi => by
  have := h.lev (i : Int) (by omega) (by have := h.1; omega)
  unfold lev
  omega)
theorem p_isNearC {t v w d : Int} {K : Int → gMem → Prop} {B M : gMem} (h : InvC t B) (hw : 0 ≤ w ∧ w < nN B) (hd : dd B v w = d) (hd2 : d ≠ -1) (h8 : ∀ i, 0 ≤ i → i < 3 → M 86 i = nf B v i) (h1 : inB B v w → K 1 M) (h2 : ¬ inB B v w → K 0 M) : wX2_isNear 84 d (lev B w) K M := by
  unfold wX2_isNear wX2_nearestFarAt
  simp only [Int.reduceAdd]
  have hl : 0 ≤ lev B w ∧ lev B w ≤ 2 := by have := h.lev w hw.1 (by have := h.1; omega); exact ⟨this.1, this.2.1⟩
  have hn := nf_no (M := B) (by have := h.1; omega) (v := v) (l := lev B w + 1)
  have hb := nr_bd B (by have := h.1; omega) v (lev B w + 1)
  unfold inB at h1 h2
  rw [hd] at h1 h2
  refine ⟨⟨by omega, by omega⟩, gK1_r (gK0_r ⟨fun a => absurd a (by omega), fun _ => ⟨fun a => ?_, fun a => ⟨⟨by omega, by omega⟩, ?_⟩⟩⟩)⟩
  · have e : lev B w = 2 := by omega
    have e3 : nr B v (lev B w + 1) = -1 := by rw [e]; exact nr_3C h v
    exact gK1_r (gK0_r ⟨fun _ => ⟨Or.inr rfl, h1 ⟨hd2, Or.inl e3⟩⟩, fun b => absurd rfl b⟩)
  · rw [h8 _ (by omega) (by omega)]
    refine gK1_r (gK0_r ⟨fun b => ⟨Or.inr rfl, h1 ⟨hd2, Or.inl (hn.1 b)⟩⟩, fun b => ?_⟩)
    have c : nr B v (lev B w + 1) ≠ -1 := fun q => b (hn.2 q)
    have e : nf B v (lev B w + 1) = dd B v (nr B v (lev B w + 1)) := by unfold nf; rw [if_neg c]
    rw [e]
    exact ⟨fun g => ⟨Or.inl rfl, h2 (fun k => by omega)⟩, fun g => ⟨Or.inr rfl, h1 ⟨hd2, Or.inr (by omega)⟩⟩⟩
theorem p_writeC {t v : Int} {K : gMem → Prop} {M : gMem} (h : InvC t M) (hF : FarOK M) (hv : 0 ≤ v ∧ v < nN M) (hK : ∀ M', DrFr M M' → NoteIs M v M' 84 → K M') : wX2_write 84 1 195 v K M := by
  unfold wX2_write
  simp only [Int.reduceAdd]
  have hn := h.1
  intro M1 e1
  refine ⟨fun i M' => 0 ≤ i ∧ i ≤ 3 ∧ DrFr M M' ∧ M' 84 0 = 1 ∧ ∀ k, 0 ≤ k → k < i → M' 85 k = nr M v k ∧ M' 86 k = nf M v k, fun i _ => 3 - i, ⟨by omega, by omega, fun c hc => by rw [e1, gup_c _ (by omega)], by rw [e1, gup_s], fun k a b => by omega⟩, ?_⟩
  intro i M2 ⟨i0, i1, dF, f0, f1⟩
  dsimp only
  refine ⟨by omega, fun q => ?_, fun q => ?_⟩
  · have ei : i = 3 := by omega
    subst ei
    intro M3 e3
    refine ⟨fun w M' => 0 ≤ w ∧ w ≤ 12 ∧ DrFr M M' ∧ M' 84 0 = 1 ∧ (∀ k, 0 ≤ k → k < 3 → M' 85 k = nr M v k ∧ M' 86 k = nf M v k) ∧ (∀ x, 0 ≤ x → x < w → M' 87 x = fr M v x) ∧ M' 84 1 = bitsF (fr M v) w.toNat, fun w _ => 12 - w, ⟨by omega, by omega, fun c hc => by rw [e3, gup_c _ (by omega), dF c hc], by rw [e3, gup_k _ (by decide), f0], fun k a b => by rw [e3, gup_c _ (by decide), gup_c _ (by decide)]; exact f1 k a b, fun x a b => by omega, by rw [e3, gup_s]; rfl⟩, ?_⟩
    intro w M4 ⟨w0, w1, dF, f0, f1, f2, f3⟩
    dsimp only
    refine ⟨by omega, fun q => ?_, fun q => ⟨⟨by omega, by omega⟩, fun M5 e5 => ?_⟩⟩
    · have ew : w = 12 := by omega
      subst ew
      exact hK M4 dF ⟨f0, f1, fun x a b => f2 x a b, f3⟩
    · have hs := bits_s (fr M v) w w0
      have hb := bits_0 (fr M v) w.toNat
      rw [← f3] at hs hb
      have dF5 : DrFr M M5 := fun c hc => by rw [e5, gup_c _ (by omega), dF c hc]
      have hI := h.cong dF5.aside
      have hF' := dF5.far hF hn.2
      have en : nN M5 = nN M := dF5.aside.2.2.2.1
      have ed := dd_cong dF5.aside
      have el := lev_cong dF5.aside
      have g0 : M5 84 = M4 84 := by rw [e5, gup_c _ (by decide)]
      have g1 : M5 85 = M4 85 := by rw [e5, gup_c _ (by decide)]
      have g2 : M5 86 = M4 86 := by rw [e5, gup_c _ (by decide)]
      have out : fr M v w = -1 → gR (w + 1) ∧ (0 ≤ w + 1 ∧ w + 1 ≤ 12 ∧ DrFr M M5 ∧ M5 84 0 = 1 ∧ (∀ k, 0 ≤ k → k < 3 → M5 85 k = nr M v k ∧ M5 86 k = nf M v k) ∧ (∀ x, 0 ≤ x → x < w + 1 → M5 87 x = fr M v x) ∧ M5 84 1 = bitsF (fr M v) (w + 1).toNat) ∧ 12 - (w + 1) < 12 - w := by
        intro e
        rw [if_pos e] at hs
        refine ⟨⟨by omega, by omega⟩, ⟨by omega, by omega, dF5, by rw [g0]; exact f0, by rw [g1, g2]; exact f1, fun x a b => ?_, by rw [g0, hs]⟩, by omega⟩
        by_cases hx : x = w
        · rw [hx, e5, gup_s, e]
        · rw [e5, gup_k _ hx]; exact f2 x a (by omega)
      refine p_btw1C hI hF' (fun q2 => ?_) (fun q2 => gK0_r ⟨fun _ => out (fr_hi (by omega)), fun a => absurd rfl a⟩)
      rw [en] at q2
      rw [ed]
      refine gK0_r ⟨fun a => out ((fr_no q2.2.2).2 (fun b => b.1 a)), fun a => p_lev1C hI (fun q3 => ?_) (fun q3 => absurd (show _ by omega) q3)⟩
      rw [el]
      refine p_isNearC h q2.2 rfl a (fun k b c => by rw [g2]; exact (f1 k b c).2) (fun b => ⟨fun c => absurd c (by decide), fun _ => ⟨⟨by omega, by omega⟩, fun M6 e6 => ⟨⟨by omega, by omega⟩, ⟨?_, gpw_0 w⟩, fun M7 e7 => ?_⟩⟩⟩) (fun b => ⟨fun _ => out ((fr_no q2.2.2).2 b), fun c => absurd rfl c⟩)
      · rw [e6, gup_c _ (by decide), g0]; exact hb.1
      · have e := fr_in q2.2.2 b
        rw [if_neg (by omega)] at hs
        refine ⟨⟨by omega, by omega⟩, ⟨by omega, by omega, fun c hc => by rw [e7, gup_c _ (by omega), e6, gup_c _ (by omega), dF5 c hc], by rw [e7, gup_k _ (by decide), e6, gup_c _ (by decide), g0, f0], fun k c d => by rw [e7, gup_c _ (by decide), gup_c _ (by decide), e6, gup_c _ (by decide), gup_c _ (by decide), g1, g2]; exact f1 k c d, fun x c d => ?_, ?_⟩, by omega⟩
        · rw [e7, gup_c _ (by decide), e6]
          by_cases hx : x = w
          · rw [hx, gup_s, e]
          · rw [gup_k _ hx, e5, gup_k _ hx]; exact f2 x c (by omega)
        · rw [e7, gup_s, e6, gup_c _ (by decide), g0, hs]
  · have hI := h.cong dF.aside
    have hF' := dF.far hF hn.2
    have en : nN M2 = nN M := dF.aside.2.2.2.1
    refine p_findNearestC hI hF' (by omega) (by omega) (fun M3 a b c d => ⟨⟨by omega, by omega⟩, ⟨by omega, by omega, fun x hx => by rw [a x (by omega) (by omega), dF x hx], by rw [a 84 (by decide) (by decide), f0], fun k k0 k1 => ?_⟩, by omega⟩)
    rw [nr_cong dF.aside] at c
    rw [nf_cong dF.aside] at d
    by_cases hk : k = i
    · rw [hk]; exact ⟨c, d⟩
    · rw [(b k hk).1, (b k hk).2]; exact f1 k k0 (by omega)
theorem p_writeDraftC {t v : Int} {K : gMem → Prop} {M : gMem} (h : InvC t M) (hF : FarInv M) (hv : 0 ≤ v ∧ v < nN M) (hK : ∀ M', QFr M M' → FarOK M' → NoteIs M v M' 84 → K M') : wX9_writeDraft 0 v K M := by
  unfold wX9_writeDraft
  simp only [Int.reduceAdd]
  refine p_follow1C h hF (fun M1 a b => ?_)
  have hA := a.aside
  have en : nN M1 = nN M := hA.2.2.2.1
  refine p_writeC (h.cong hA) b (by omega) (fun M2 c d => hK M2 (fun x hx => by rw [c x (by omega), a x (by omega)]) (c.far b (by have := h.1; omega)) (d.cong hA))
theorem p_isFreshCC {t v : Int} {K : Int → gMem → Prop} {M : gMem} (h : InvC t M) (hF : FarInv M) (hv : 0 ≤ v ∧ v < nN M) (nr1 : NoteRel M (36 + 4 * v) (20 * v)) (hK : ∀ M' r, QFr M M' → FarOK M' → NoteIs M v M' 84 → (r = 1 ∧ frs M v) ∨ (r = 0 ∧ ¬ frs M v) → K r M') : wX9_isFresh 0 v K M := by
  unfold wX9_isFresh
  simp only [Int.reduceAdd]
  have hn := h.1
  refine p_writeDraftC h hF hv (fun M1 q1 o1 n1 => ⟨⟨by omega, by omega⟩, ?_⟩)
  obtain ⟨p0, p1, p2, p3⟩ := frv_parts M v
  have hK := hK M1
  have yes : frs M v → ((1 : Int) = 0 ∨ True) ∧ K 1 M1 := fun q => ⟨Or.inr trivial, hK 1 q1 o1 n1 (Or.inl ⟨rfl, q⟩)⟩
  have no : ¬ frs M v → (True ∨ (0 : Int) = 1) ∧ K 0 M1 := fun q => ⟨Or.inl trivial, hK 0 q1 o1 n1 (Or.inr ⟨rfl, q⟩)⟩
  have c0 : M1 (36 + 4 * v) = M (36 + 4 * v) := q1 _ (by omega)
  have c1 : M1 (36 + 4 * v + 1) = M (36 + 4 * v + 1) := q1 _ (by omega)
  have c2 : M1 (36 + 4 * v + 2) = M (36 + 4 * v + 2) := q1 _ (by omega)
  have c3 : M1 (36 + 4 * v + 3) = M (36 + 4 * v + 3) := q1 _ (by omega)
  have w1 : M1 84 0 = 1 := n1.1
  unfold wX2_bearsSameAs
  simp only [Int.reduceAdd]
  rw [c0, w1]
  refine gK0_r ⟨fun a => no (fun q => ?_), fun a => ⟨fun _ => ?_, fun e => absurd e (by decide)⟩⟩
  · have := q 0 (by omega) (by omega)
    rw [p0, Int.add_zero] at this
    have := nr1.2.1
    omega
  · have wq : M (36 + 4 * v) 0 = 1 := by have := nr1.1; omega
    obtain ⟨a1, a2, a3, a4⟩ := nr1.2.2 wq
    refine ⟨fun i M' => M' = M1 ∧ 0 ≤ i ∧ i ≤ 3 ∧ ∀ k, 0 ≤ k → k < i → M 230 (20 * v + 1 + k) = nr M v k ∧ M 230 (20 * v + 4 + k) = nf M v k, fun i _ => 3 - i, ⟨rfl, by omega, by omega, fun k x y => by omega⟩, ?_⟩
    intro i M2 ⟨e2, i0, i1, hi⟩
    subst e2
    dsimp only
    refine ⟨by omega, fun q => ?_, fun q => ?_⟩
    · refine ⟨fun w M' => M' = M2 ∧ 0 ≤ w ∧ w ≤ 12 ∧ ∀ k, 0 ≤ k → k < w → M 230 (20 * v + 8 + k) = fr M v k, fun w _ => 12 - w, ⟨rfl, by omega, by omega, fun k x y => by omega⟩, ?_⟩
      intro w M3 ⟨e3, w0, w1, hw⟩
      subst e3
      dsimp only
      refine ⟨by omega, fun q2 => yes ?_, fun q2 => ⟨⟨by omega, by omega⟩, ⟨by omega, by omega⟩, ?_⟩⟩
      · intro k k0 k1
        by_cases d0 : k = 0
        · rw [d0, p0, Int.add_zero, nr1.2.1]; exact wq
        by_cases d1 : k < 4
        · have := (hi (k - 1) (by omega) (by omega)).1
          have e := (p1 (k - 1) (by omega) (by omega)).1
          rw [show 1 + (k - 1) = k by omega] at e
          rw [show 20 * v + 1 + (k - 1) = 20 * v + k by omega] at this
          rw [e]; exact this
        by_cases d2 : k < 7
        · have := (hi (k - 4) (by omega) (by omega)).2
          have e := (p1 (k - 4) (by omega) (by omega)).2
          rw [show 4 + (k - 4) = k by omega] at e
          rw [show 20 * v + 4 + (k - 4) = 20 * v + k by omega] at this
          rw [e]; exact this
        by_cases d3 : k = 7
        · rw [d3, p2, ← a2, a4.2.2]
          exact bits_cong 12 (fun k hk => by rw [a3 k (by omega) (by omega)]; exact hw k (by omega) (by omega))
        · have := hw (k - 8) (by omega) (by omega)
          have e := p3 (k - 8) (by omega) (by omega)
          rw [show 8 + (k - 8) = k by omega] at e
          rw [show 20 * v + 8 + (k - 8) = 20 * v + k by omega] at this
          rw [e]; exact this
      · have e1 : M3 87 w = fr M v w := n1.2.2.1 w w0 (by omega)
        rw [c3, a3 w w0 (by omega), e1]
        refine ⟨fun d => ⟨⟨by omega, by omega⟩, ⟨rfl, by omega, by omega, fun k k0 k1 => ?_⟩, by omega⟩, fun d => no (fun g => d ?_)⟩
        · by_cases g : k = w
          · rw [g]; exact d
          · exact hw k k0 (by omega)
        · have := g (8 + w) (by omega) (by omega)
          rw [p3 w w0 (by omega), show 20 * v + (8 + w) = 20 * v + 8 + w by omega] at this
          exact this
    · have e1 := n1.2.1 i i0 (by omega)
      have e85 : M2 85 i = nr M v i := e1.1
      have e86 : M2 86 i = nf M v i := e1.2
      have ai := a1 i i0 (by omega)
      rw [c1, c2, ai.1, ai.2, e85, e86]
      refine ⟨⟨by omega, by omega⟩, ⟨by omega, by omega⟩, gK0_r ⟨fun d => no (fun g => d ?_), fun d => ⟨⟨by omega, by omega⟩, ⟨by omega, by omega⟩, fun d2 => ⟨⟨by omega, by omega⟩, ⟨rfl, by omega, by omega, fun k k0 k1 => ?_⟩, by omega⟩, fun d2 => no (fun g => d2 ?_)⟩⟩⟩
      · have := g (1 + i) (by omega) (by omega)
        rw [(p1 i i0 (by omega)).1, show 20 * v + (1 + i) = 20 * v + 1 + i by omega] at this
        exact this
      · by_cases g : k = i
        · rw [g]; exact ⟨d, d2⟩
        · exact hi k k0 (by omega)
      · have := g (4 + i) (by omega) (by omega)
        rw [(p1 i i0 (by omega)).2, show 20 * v + (4 + i) = 20 * v + 4 + i by omega] at this
        exact this
