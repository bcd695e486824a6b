/-! CALLS, 2: nearest, bunch, next -/
theorem p_inI {a lo hi : Int} {K : Int → gMem → Prop} {M : gMem} (h1 : lo ≤ a ∧ a ≤ hi → K 1 M) (h2 : ¬ (lo ≤ a ∧ a ≤ hi) → K 0 M) : wX10_in a lo hi K M := p_in h1 h2
theorem p_nearAt {q i : Int} {K : Int → gMem → Prop} {M : gMem} (hi : 0 ≤ i ∧ i < 3) (hK : K (M (q + 1) i) M) : wX2_nearestAt q i K M := by
  unfold wX2_nearestAt
  exact gK1_r (gK0_r ⟨fun a => absurd a (by omega), fun _ => ⟨fun a => absurd a (by omega), fun _ => ⟨⟨by omega, by omega⟩, hK⟩⟩⟩)
theorem p_nearFarAt {q i : Int} {K : Int → gMem → Prop} {M : gMem} (hi : 0 ≤ i ∧ i < 3) (hK : K (M (q + 2) i) M) : wX2_nearestFarAt q i K M := by
  unfold wX2_nearestFarAt
  exact gK1_r (gK0_r ⟨fun a => absurd a (by omega), fun _ => ⟨fun a => absurd a (by omega), fun _ => ⟨⟨by omega, by omega⟩, hK⟩⟩⟩)
theorem c_nearest {t u l w : Int} {K1 : Int → gMem → Prop} {M : gMem} (h : Inv t M) (hK : ∀ r M1, Ag t (wX10_nearest 228 u l w) r M1 → K1 r M1) : wX9_nearest 0 u l w K1 M := by
  unfold wX9_nearest
  simp only [Int.reduceAdd]
  have hn := h.1.1
  refine p_has1 h.1 (fun q => ⟨fun _ => ?_, fun e => absurd e (by decide)⟩) (fun q => ⟨fun e => absurd rfl e, fun _ => hK _ _ (fun K2 hk => ?_)⟩)
  · have bad : ¬ ((0 ≤ l ∧ l ≤ 2) ∧ (0 ≤ w ∧ w ≤ 1)) → K1 (-3) M := by
      intro b
      refine hK _ _ (fun K2 hk => ?_)
      unfold wX10_nearest
      refine p_isNode hn (fun _ => ⟨fun _ => p_inI (fun b1 => gK0_r ⟨fun e => absurd e (by decide), fun _ => p_inI (fun b2 => absurd ⟨b1, b2⟩ b) (fun _ => ⟨fun e => absurd rfl e, fun _ => hk M h.later⟩)⟩) (fun _ => gK0_r ⟨fun _ => hk M h.later, fun e => absurd rfl e⟩), fun e => absurd e (by decide)⟩) (fun p => absurd q p)
    refine gK0_r ⟨fun a => bad (by omega), fun a => ⟨fun b => bad (by omega), fun b => ⟨fun c => bad (by omega), fun c => ⟨fun d => ?_, fun d => bad (by omega)⟩⟩⟩⟩
    refine p_writeDraft h.1 h.2.1 q (fun M1 f1 o1 n1 => ?_)
    have h1 := h.q f1 o1
    have eN : nN M1 = nN M := f1.aside.2.2.2.1
    have ref : ∀ r, r = (if w = 0 then nr M u l else nf M u l) → K1 r M1 := by
      intro r er
      refine hK _ _ (fun K2 hk => ?_)
      unfold wX10_nearest
      refine p_isNode h1.1.1 (fun _ => ⟨fun _ => p_inI (fun b1 => gK0_r ⟨fun e => absurd e (by decide), fun _ => p_inI (fun b2 => ⟨fun _ => ?_, fun e => absurd e (by decide)⟩) (fun p => absurd (show _ by omega) p)⟩) (fun p => absurd (show _ by omega) p), fun e => absurd e (by decide)⟩) (fun p => absurd (show _ by omega) p)
      refine p_finds0 h1.1 (fun M2 o2 F2 => ?_)
      have m2 := o2.mfr (by omega)
      have h2 := h1.mfr m2
      have eN2 : nN M2 = nN M1 := m2.2.2.1
      have A2 := f1.aside.tr m2.aside
      refine p_nearestOf h2.1 F2 (by omega) ?_
      rw [nr_cong A2]
      have hb := nr_bd M (by omega) u l
      simp only [Int.reduceAdd]
      unfold nf at er
      refine gK1_r (gK0_r ⟨fun a2 => ?_, fun a2 => ⟨fun b => ⟨⟨by omega, by omega⟩, ⟨by omega, by omega⟩, ⟨by omega, by omega⟩, ?_⟩, fun b => ?_⟩⟩)
      · have : r = nr M u l := by
          by_cases b : w = 0
          · rw [er, if_pos b]
          · rw [er, if_neg b, if_pos a2, a2]
        rw [← this]; exact hk M2 h2.later
      · have hv := F2.val h2.1 (u := u) (v := nr M u l) (by omega) (by omega)
        rw [dd_cong A2] at hv
        have := (hb.2.2 a2).1
        rw [if_neg b, if_neg a2] at er
        have e : M2 236 (12 * u + nr M u l) = r := by omega
        rw [e]; exact hk M2 h2.later
      · rw [if_pos b] at er
        rw [← er]; exact hk M2 h2.later
    refine gK1_r ⟨fun e => p_nearFarAt (by omega) (ref _ ?_), fun e => p_nearAt (by omega) (ref _ ?_)⟩
    · rw [if_neg e]; exact (n1.2.1 l (by omega) (by omega)).2
    · rw [if_pos e]; exact (n1.2.1 l (by omega) (by omega)).1
  · unfold wX10_nearest
    exact p_isNode hn (fun p => absurd p q) (fun _ => ⟨fun e => absurd rfl e, fun _ => hk M h.later⟩)
theorem p_farOf {q w : Int} {K : Int → gMem → Prop} {M : gMem} (hw : 0 ≤ w ∧ w < 12) (h1 : M q 0 ≠ 0 → K (M (q + 3) w) M) (h0 : M q 0 = 0 → K (-1) M) : wX2_farOf q w K M := by
  unfold wX2_farOf
  exact gK1_r (gK0_r ⟨fun a => h0 a, fun a => ⟨fun a => absurd a (by omega), fun _ => ⟨fun a => absurd a (by omega), fun _ => ⟨⟨by omega, by omega⟩, h1 a⟩⟩⟩⟩)
theorem p_holds {q w : Int} {K : Int → gMem → Prop} {M : gMem} (hw : 0 ≤ w ∧ w < 12) (h1 : M q 0 ≠ 0 → M (q + 3) w ≠ -1 → K 1 M) (h0 : M q 0 = 0 ∨ M (q + 3) w = -1 → K 0 M) : wX2_holds q w K M := by
  unfold wX2_holds
  exact p_farOf hw (fun a => gK1_r ⟨fun b => ⟨Or.inl rfl, h0 (Or.inr b)⟩, fun b => ⟨Or.inr rfl, h1 a b⟩⟩) (fun a => gK1_r ⟨fun b => ⟨Or.inl rfl, h0 (Or.inl a)⟩, fun b => absurd rfl b⟩)
theorem Inv.noteIs {t v : Int} {M M' : gMem} (n1 : NoteIs M v M' 84) (w : Int) (hw : 0 ≤ w ∧ w < nN M) (hn : nN M ≤ 12) : M' 87 w = fr M v w := n1.2.2.1 w hw.1 (by omega)
/-- those whose bunch has u, as bits -/
noncomputable def cl (M : gMem) (u v : Int) : Int := fr M v u
theorem p_clusterOf {t u : Int} {K : Int → gMem → Prop} {M : gMem} (h : Inv t M) (hu : 0 ≤ u ∧ u < nN M) (hK : ∀ M', QFr M M' → FarInv M' → K (bitsF (cl M u) (nN M).toNat) M') : wX9_clusterOf 0 u K M := by
  unfold wX9_clusterOf
  simp only [Int.reduceAdd]
  have hn := h.1.1
  have e0 : M 1 0 = nN M := h.1.2.1.1
  refine ⟨fun f v M' => QFr M M' ∧ FarInv M' ∧ 0 ≤ v ∧ v ≤ nN M ∧ f = bitsF (cl M u) v.toNat, fun f v _ => nN M - v, ⟨fun _ _ => rfl, h.2.1, by omega, by omega, rfl⟩, ?_⟩
  intro f v M1 ⟨q1, f1, v0, v1, hf⟩
  dsimp only
  rw [q1 1 (by omega), e0]
  have hs := bits_s (cl M u) v v0
  have hb := bits_0 (cl M u) v.toNat
  rw [← hf] at hs hb
  have A1 := q1.aside
  have eN : nN M1 = nN M := A1.2.2.2.1
  refine ⟨by omega, fun q => ?_, fun q => ?_⟩
  · have e : v = nN M := by omega
    rw [hf, e]
    exact hK M1 q1 f1
  · refine p_writeDraft (h.1.cong A1) f1 (by omega) (fun M2 q2 o2 n2 => ?_)
    have n2 := n2.cong A1
    have e7 : M2 (84 + 3) u = cl M u v := n2.2.2.1 u hu.1 (by omega)
    have w1 : M2 84 0 = 1 := n2.1
    have f2 : FarInv M2 := o2.inv (by rw [q2 1 (by omega), q1 1 (by omega)]; exact h.1.2.2.2.2.2.2.1.1.1)
    refine p_holds (by omega) (fun a b => gK1_r ⟨fun e => absurd e (by decide), fun _ => ⟨⟨by omega, by omega⟩, ⟨by omega, gpw_0 v⟩, fun x ex => ⟨⟨by omega, by omega⟩, ⟨q1.tr q2, f2, by omega, by omega, ?_⟩, by omega⟩⟩⟩) (fun a => gK1_r ⟨fun _ => ⟨⟨by omega, by omega⟩, ⟨q1.tr q2, f2, by omega, by omega, ?_⟩, by omega⟩, fun e => absurd rfl e⟩)
    · rw [hs, if_neg (by omega), ex]
    · rw [hs, if_pos (by omega)]
theorem c_bunch {t u w : Int} {K1 : Int → gMem → Prop} {M : gMem} (h : Inv t M) (hK : ∀ r M1, Ag t (wX10_bunch 228 u w) r M1 → K1 r M1) : wX9_bunch 0 u w K1 M := by
  unfold wX9_bunch
  simp only [Int.reduceAdd]
  have hn := h.1.1
  have ref : ∀ r M1, QFr M M1 → FarInv M1 → 0 ≤ u ∧ u < nN M → 0 ≤ w ∧ w ≤ 1 → r = (if w = 0 then bitsF (fr M u) 12 else bitsF (cl M u) (nN M).toNat) → K1 r M1 := by
    intro r M1 q1 f1 hu hw er
    refine hK _ _ (fun K2 hk => ?_)
    have h1 : Inv t M1 := ⟨h.1.cong q1.aside, f1, h.2.2.cong hn.2 (by rw [q1 1 (by omega)]) (fun c a b => q1 c (by omega)) (by rw [q1 228 (by omega)]) (q1 229 (by omega))⟩
    have eN : nN M1 = nN M := q1.aside.2.2.2.1
    unfold wX10_bunch
    refine p_isNode h1.1.1 (fun _ => ⟨fun _ => p_inI (fun b1 => ⟨fun _ => ?_, fun e => absurd e (by decide)⟩) (fun p => absurd hw p), fun e => absurd e (by decide)⟩) (fun p => absurd (show _ by omega) p)
    refine p_finds0 h1.1 (fun M2 o2 F2 => ?_)
    have m2 := o2.mfr (by omega)
    have h2 := h1.mfr m2
    have eN2 : nN M2 = nN M1 := m2.2.2.1
    have A2 := q1.aside.tr m2.aside
    refine ⟨fun a => ?_, fun a => p_bunchOf h2.1 F2 (by omega) ?_⟩
    · rw [if_neg a] at er
      refine ⟨fun f v M' => M' = M2 ∧ 0 ≤ v ∧ v ≤ nN M ∧ f = bitsF (cl M u) v.toNat, fun f v _ => nN M - v, ⟨rfl, by omega, by omega, rfl⟩, ?_⟩
      intro f v M3 ⟨e3, v0, v1, hf⟩
      subst e3
      dsimp only
      have hs := bits_s (cl M u) v v0
      have hb := bits_0 (cl M u) v.toNat
      rw [← hf] at hs hb
      have en : M3 228 2 = nN M := by rw [← eN, ← eN2]
      rw [en]
      refine ⟨by omega, fun q => ?_, fun q => ?_⟩
      · have e : v = nN M := by omega
        rw [hf, e, ← er]
        exact hk M3 h2.later
      · have ei := inB_cong A2
        refine p_isInBunch h2.1 F2 (by omega) (by omega) (fun c => gK1_r ⟨fun d => absurd d (by decide), fun _ => ⟨⟨by omega, by omega⟩, ?_⟩⟩) (fun c => gK1_r ⟨fun _ => ?_, fun d => absurd rfl d⟩)
        · rw [ei] at c
          unfold cl at hs
          rw [if_neg (fun g => (fr_no hu.2).1 g c)] at hs
          exact ⟨⟨by omega, gpw_0 v⟩, fun x ex => ⟨⟨by omega, by omega⟩, ⟨rfl, by omega, by omega, by rw [ex]; exact hs.symm⟩, by omega⟩⟩
        · rw [ei] at c
          unfold cl at hs
          rw [if_pos ((fr_no hu.2).2 c)] at hs
          exact ⟨⟨by omega, by omega⟩, fun x ex => ⟨⟨by omega, by omega⟩, ⟨rfl, by omega, by omega, by rw [ex, gor_0 _ hb.1]; exact hs.symm⟩, by omega⟩⟩
    · rw [if_pos a] at er
      rw [fr_cong A2, ← er]
      exact hk M2 h2.later
  refine p_has1 h.1 (fun q => ⟨fun _ => ?_, fun e => absurd e (by decide)⟩) (fun q => ⟨fun e => absurd rfl e, fun _ => hK _ _ (fun K2 hk => ?_)⟩)
  · have bad : ¬ (0 ≤ w ∧ w ≤ 1) → K1 (-3) M := by
      intro b
      refine hK _ _ (fun K2 hk => ?_)
      unfold wX10_bunch
      exact p_isNode hn (fun _ => ⟨fun _ => p_inI (fun b1 => absurd b1 b) (fun _ => ⟨fun e => absurd rfl e, fun _ => hk M h.later⟩), fun e => absurd e (by decide)⟩) (fun p => absurd q p)
    refine gK0_r ⟨fun a => bad (by omega), fun a => ⟨fun b => ⟨fun c => ?_, fun c => ?_⟩, fun b => bad (by omega)⟩⟩
    · refine p_writeDraft h.1 h.2.1 q (fun M1 f1 o1 n1 => ref _ M1 f1 ?_ q ⟨by omega, by omega⟩ ?_)
      · exact o1.inv (by rw [f1 1 (by omega)]; exact h.1.2.2.2.2.2.2.1.1.1)
      · rw [if_pos (by omega)]; exact n1.2.2.2
    · refine p_clusterOf h q (fun M1 f1 o1 => ref _ M1 f1 o1 q ⟨by omega, by omega⟩ ?_)
      rw [if_neg (by omega)]
  · unfold wX10_bunch
    exact p_isNode hn (fun p => absurd p q) (fun _ => ⟨fun e => absurd rfl e, fun _ => hk M h.later⟩)
