/-! CALLS, 5: told, why -/
theorem gup_m (M : gMem) (k v : Int) (hk : k ≠ 1 ∧ k ≠ 2 ∧ k ≠ 6) : MFr M (gup M 228 k v) := ⟨fun c hc => by rw [gup_c _ (by omega)], by rw [gup_k _ (by omega)], by rw [gup_k _ (by omega)], by rw [gup_k _ (by omega)]⟩
theorem p_isWritten {t v : Int} {K : Int → gMem → Prop} {M : gMem} (h : InvA t M) (hv : 0 ≤ v ∧ v < 12) (h1 : M 230 (20 * v) = 1 → K 1 M) (h0 : M 230 (20 * v) ≠ 1 → K 0 M) : wX10_isWritten 228 v K M := by
  unfold wX10_isWritten
  simp only [Int.reduceAdd]
  exact ⟨⟨by omega, by omega⟩, ⟨by omega, by omega⟩, gK1_r ⟨fun a => ⟨Or.inl rfl, h0 a⟩, fun a => ⟨Or.inr rfl, h1 a⟩⟩⟩
/-- notes of the reference, in bounds -/
theorem InvA.noteM {t v : Int} {M : gMem} (h : InvA t M) (hv : 0 ≤ v ∧ v < 12) (hw : M 230 (20 * v) = 1) : (∀ i, 0 ≤ i → i < 3 → -1 ≤ M 230 (20 * v + 1 + i) ∧ M 230 (20 * v + 1 + i) < nN M ∧ -1 ≤ M 230 (20 * v + 4 + i) ∧ M 230 (20 * v + 4 + i) ≤ 1188 ∧ (M 230 (20 * v + 1 + i) = -1 ↔ M 230 (20 * v + 4 + i) = -1)) ∧ ∀ w, 0 ≤ w → w < 12 → -1 ≤ M 230 (20 * v + 8 + w) ∧ M 230 (20 * v + 8 + w) ≤ 1188 := by
  have n := h.2.2.1 v hv.1 hv.2
  have q : M (36 + 4 * v) 0 = 1 := by have := n.2.1; omega
  obtain ⟨a, b, c, d, e, f⟩ := n.2.2 q
  refine ⟨fun i i0 i1 => ?_, fun w w0 w1 => ?_⟩
  · have := d i i0 i1
    rw [(a i i0 i1).1, (a i i0 i1).2] at this
    exact this
  · have := e w w0 w1
    rw [c w w0 w1] at this
    exact this
theorem p_untold {why u : Int} {K : Int → gMem → Prop} {M : gMem} (hK : ∀ M', MFr M M' → M' 236 = M 236 → M' 228 23 = why → M' 228 24 = u → (∀ k, k < 20 ∨ k = 22 → M' 228 k = M 228 k) → K 0 M') : wX10_untold 228 why u K M := by
  unfold wX10_untold
  intro M1 e1 M2 e2 M3 e3 M4 e4
  subst e1; subst e2; subst e3; subst e4
  refine hK _ ((((gup_m _ 23 _ (by omega)).tr (gup_m _ 24 _ (by omega))).tr (gup_m _ 20 _ (by omega))).tr (gup_m _ 21 _ (by omega))) ?_ ?_ ?_ (fun k hk => ?_)
  · rw [gup_c _ (by decide), gup_c _ (by decide), gup_c _ (by decide), gup_c _ (by decide)]
  · rw [gup_k _ (by decide), gup_k _ (by decide), gup_k _ (by decide), gup_s]
  · rw [gup_k _ (by decide), gup_k _ (by decide), gup_s]
  · rw [gup_k _ (by omega), gup_k _ (by omega), gup_k _ (by omega), gup_k _ (by omega)]
theorem p_tells {t u v : Int} {K : Int → gMem → Prop} {M : gMem} (h : InvA t M) (hu : 0 ≤ u ∧ u < nN M) (hv : 0 ≤ v ∧ v < nN M) (hK : ∀ M', MFr M M' → M' 236 = M 236 → TellM (tel (M 230) 3 0 u v) M' → K (if (tel (M 230) 3 0 u v).1 = 0 then 1 else 0) M') : wX10_tells 228 u v K M := by
  unfold wX10_tells
  have hn := h.1
  generalize hG : tel (M 230) 3 0 u v = T at hK
  refine ⟨fun a b i M' => MFr M M' ∧ M' 236 = M 236 ∧ 0 ≤ i ∧ i ≤ 3 ∧ (0 ≤ a ∧ a < nN M) ∧ (0 ≤ b ∧ b < nN M) ∧ T = tel (M 230) (3 - i).toNat i a b ∧ (0 < i → M' 228 22 = i - 1 ∧ M' 228 24 = a), fun a b i _ => 3 - i, ⟨MFr.rf, rfl, by omega, by omega, hu, hv, hG.symm, fun q => by omega⟩, ?_⟩
  intro a b i M1 ⟨m1, f1, i0, i1, ha, hb, hT, hl⟩
  dsimp only
  refine ⟨by omega, fun q => ?_, fun q => ?_⟩
  · have e : i = 3 := by omega
    subst e
    have hl := hl (by omega)
    refine p_untold (fun M2 m2 f2 a2 b2 c2 => ⟨Or.inl rfl, ?_⟩)
    have := hK M2 (m1.tr m2) (f2.trans f1)
    rw [hT] at this
    exact this ⟨by rw [c2 22 (by omega)]; exact hl.1, fun _ => ⟨a2, by rw [b2]; exact hl.2⟩, fun p => absurd p (by show (3 : Int) ≠ 0; decide)⟩
  · rw [show (3 - i).toNat = (3 - (i + 1)).toNat + 1 by omega] at hT
    unfold tel at hT
    intro M2 e2
    have m2 : MFr M M2 := by rw [e2]; exact m1.tr (gup_m _ 22 _ (by omega))
    have f2 : M2 236 = M 236 := by rw [e2, gup_c _ (by decide)]; exact f1
    have l2 : M2 228 22 = i := by rw [e2, gup_s]
    have n2 : M2 230 = M 230 := m2.1 230 (by omega)
    have h2 := h.cong m2.aside
    simp only [Int.reduceAdd]
    refine p_isWritten h2 (by omega) (fun wa => ⟨fun _ => ?_, fun e => absurd e (by decide)⟩) (fun wa => ⟨fun e => absurd rfl e, fun _ => ?_⟩)
    · rw [n2] at wa
      have na := (h.noteM (v := a) (by omega) wa).1 i i0 (by omega)
      rw [if_neg (fun p => p wa)] at hT
      rw [n2]
      refine ⟨⟨by omega, by omega⟩, ⟨by omega, by omega⟩, ⟨by omega, by omega⟩, ⟨by omega, by omega⟩, fun w ew => ⟨fun c => ?_, fun c => ?_⟩⟩
      · rw [if_neg (by rw [← ew]; exact c)] at hT
        refine p_isWritten h2 (by omega) (fun wb => ⟨fun _ => ?_, fun e => absurd e (by decide)⟩) (fun wb => ⟨fun e => absurd rfl e, fun _ => ?_⟩)
        · rw [n2] at wb
          have nb := (h.noteM (v := b) (by omega) wb).2 w (by omega) (by omega)
          rw [if_neg (fun p => p wb), ← ew] at hT
          rw [n2]
          refine ⟨⟨by omega, by omega⟩, ⟨by omega, by omega⟩, ⟨by omega, by omega⟩, ⟨by omega, by omega⟩, fun d M3 e3 => ⟨⟨by omega, by omega⟩, ⟨?_, ?_, by omega, by omega, hb, ha, ?_, fun _ => ⟨?_, ?_⟩⟩, by omega⟩, fun d M3 e3 => ?_⟩
          · rw [e3]; exact m2.tr (gup_m _ 24 _ (by omega))
          · rw [e3, gup_c _ (by decide)]; exact f2
          · rw [if_pos d] at hT; exact hT
          · rw [e3, gup_k _ (by decide), l2]; omega
          · rw [e3, gup_s]
          · rw [if_neg d] at hT
            have n3 : M3 230 = M 230 := by rw [e3, gup_c _ (by decide)]; exact n2
            rw [n3]
            refine ⟨⟨by omega, by omega⟩, ⟨by omega, by omega⟩, ⟨by omega, by omega⟩, ⟨by omega, by omega⟩, ⟨by omega, by omega⟩, ⟨by omega, by omega⟩, ⟨by omega, by omega⟩, ⟨by omega, by omega⟩, ⟨by omega, by omega⟩, fun M4 e4 => ?_⟩
            have := hK M4 (by rw [e4, e3]; exact (m2.tr (gup_m _ 21 _ (by omega))).tr (gup_m _ 20 _ (by omega))) (by rw [e4, gup_c _ (by decide), e3, gup_c _ (by decide)]; exact f2)
            rw [hT] at this
            refine this ⟨by rw [e4, gup_k _ (by decide), e3, gup_k _ (by decide)]; exact l2, fun p => absurd rfl p, fun _ => ⟨?_, ?_⟩⟩
            · rw [e4, gup_k _ (by decide), e3, gup_s]
            · rw [e4, gup_s]
        · rw [n2] at wb
          rw [if_pos wb] at hT
          refine p_untold (fun M3 m3 f3 a3 b3 c3 => ⟨Or.inl rfl, ?_⟩)
          have := hK M3 (m2.tr m3) (f3.trans f2)
          rw [hT] at this
          exact this ⟨by rw [c3 22 (by omega)]; exact l2, fun _ => ⟨a3, b3⟩, fun p => absurd p (by show (1 : Int) ≠ 0; decide)⟩
      · rw [if_pos (by rw [← ew]; exact c)] at hT
        refine p_untold (fun M3 m3 f3 a3 b3 c3 => ⟨Or.inl rfl, ?_⟩)
        have := hK M3 (m2.tr m3) (f3.trans f2)
        rw [hT] at this
        exact this ⟨by rw [c3 22 (by omega)]; exact l2, fun _ => ⟨a3, b3⟩, fun p => absurd p (by show (2 : Int) ≠ 0; decide)⟩
    · rw [n2] at wa
      rw [if_pos wa] at hT
      refine p_untold (fun M3 m3 f3 a3 b3 c3 => ⟨Or.inl rfl, ?_⟩)
      have := hK M3 (m2.tr m3) (f3.trans f2)
      rw [hT] at this
      exact this ⟨by rw [c3 22 (by omega)]; exact l2, fun _ => ⟨a3, b3⟩, fun p => absurd p (by show (1 : Int) ≠ 0; decide)⟩
theorem Only.aside226 {M M' : gMem} (h : Only 226 M M') : Aside M M' := ⟨fun c' h1 h2 => h c' (fun e => h1 (by subst e; unfold scr; omega)), by rw [h 4 (by omega)], by rw [h 228 (by omega)], by rw [h 228 (by omega)], by rw [h 228 (by omega)]⟩
theorem Inv.t226 {t : Int} {M M' : gMem} (h : Inv t M) (o : Only 226 M M') : Inv t M' :=
  ⟨h.1.cong o.aside226, h.2.1.cong h.1.1.2 (by rw [o 1 (by omega)]) (fun c a b => o c (by omega)) (by rw [o 228 (by omega)]) (o 229 (by omega)), h.2.2.cong h.1.1.2 (by rw [o 1 (by omega)]) (fun c a b => o c (by omega)) (by rw [o 228 (by omega)]) (o 229 (by omega))⟩
theorem c_told {t u v w : Int} {K1 : Int → gMem → Prop} {M : gMem} (h : Inv t M) (hK : ∀ r M1, Ag t (wX10_told 228 u v w) r M1 → K1 r M1) : wX9_told 0 u v w K1 M := by
  unfold wX9_told
  simp only [Int.reduceAdd]
  have hn := h.1.1
  refine p_both h.1 (fun q => ⟨fun _ => ?_, fun e => absurd e (by decide)⟩) (fun q => ⟨fun e => absurd rfl e, fun _ => hK _ _ (fun K2 hk => ?_)⟩)
  · have bad : ¬ (0 ≤ w ∧ w ≤ 2) → K1 (-3) M := by
      intro b
      refine hK _ _ (fun K2 hk => ?_)
      unfold wX10_told
      exact p_isNode hn (fun _ => gK0_r ⟨fun e => absurd e (by decide), fun _ => p_isNode hn (fun _ => ⟨fun _ => p_inI (fun p => absurd p b) (fun _ => ⟨fun e => absurd rfl e, fun _ => hk M h.later⟩), fun e => absurd e (by decide)⟩) (fun p => absurd q.2 p)⟩) (fun p => absurd q.1 p)
    refine gK0_r ⟨fun a => bad (by omega), fun a => ⟨fun b => p_tell h.1 q.1 q.2 (fun M1 o1 t1 => ?_), fun b => bad (by omega)⟩⟩
    have h1 := h.t226 o1
    have eN : nN M1 = nN M := o1.aside226.2.2.2.1
    have e230 : M1 230 = M 230 := o1 230 (by decide)
    generalize hG : tel (M 230) 3 0 u v = T at t1
    have ref : ∀ r, r = (if T.1 = 0 then (if w = 0 then T.2.2.2.2 else if w = 1 then T.2.2.2.1 else T.2.1) else -1) → K1 r M1 := by
      intro r er
      refine hK _ _ (fun K2 hk => ?_)
      unfold wX10_told
      refine p_isNode h1.1.1 (fun _ => gK0_r ⟨fun e => absurd e (by decide), fun _ => p_isNode h1.1.1 (fun _ => ⟨fun _ => p_inI (fun _ => ⟨fun _ => p_tells h1.1 (by omega) (by omega) (fun M2 m2 _ t2 => ?_), fun e => absurd e (by decide)⟩) (fun p => absurd (show _ by omega) p), fun e => absurd e (by decide)⟩) (fun p => absurd (show _ by omega) p)⟩) (fun p => absurd (show _ by omega) p)
      rw [e230, hG] at t2 ⊢
      have h2 := (h1.mfr m2).later
      by_cases c : T.1 = 0
      · rw [if_pos c]
        rw [if_pos c] at er
        have t3 := t2.2.2 c
        refine gK1_r ⟨fun _ => ⟨fun d => ⟨fun g => ?_, fun g => ?_⟩, fun d => ?_⟩, fun e => absurd e (by decide)⟩
        · rw [if_neg d, if_neg g] at er; rw [t2.1, ← er]; exact hk M2 h2
        · rw [if_neg d, if_pos g] at er; rw [t3.1, ← er]; exact hk M2 h2
        · rw [if_pos d] at er; rw [t3.2, ← er]; exact hk M2 h2
      · rw [if_neg c]
        rw [if_neg c] at er
        exact gK1_r ⟨fun e => absurd rfl e, fun _ => by rw [← er]; exact hk M2 h2⟩
    refine ⟨fun c => ⟨fun d => gK1_r ⟨fun g => ref _ ?_, fun g => ref _ ?_⟩, fun d => ref _ ?_⟩, fun c => ref _ ?_⟩
    · rw [t1.1] at c; rw [if_pos c, if_neg d, if_neg g, t1.2.1]
    · rw [t1.1] at c; rw [if_pos c, if_neg d, if_pos g, (t1.2.2.2 c).1]
    · rw [t1.1] at c; rw [if_pos c, if_pos d, (t1.2.2.2 c).2]
    · rw [t1.1] at c; rw [if_neg c]
  · unfold wX10_told
    refine p_isNode hn (fun a => gK0_r ⟨fun e => absurd e (by decide), fun _ => p_isNode hn (fun b => absurd ⟨a, b⟩ q) (fun _ => ⟨fun e => absurd rfl e, fun _ => hk M h.later⟩)⟩) (fun a => gK0_r ⟨fun _ => hk M h.later, fun e => absurd rfl e⟩)
theorem c_why {t u v w : Int} {K1 : Int → gMem → Prop} {M : gMem} (h : Inv t M) (hK : ∀ r M1, Ag t (wX10_why 228 u v w) r M1 → K1 r M1) : wX9_why 0 u v w K1 M := by
  unfold wX9_why
  simp only [Int.reduceAdd]
  have hn := h.1.1
  refine p_both h.1 (fun q => ⟨fun _ => ?_, fun e => absurd e (by decide)⟩) (fun q => ⟨fun e => absurd rfl e, fun _ => hK _ _ (fun K2 hk => ?_)⟩)
  · have bad : ¬ (0 ≤ w ∧ w ≤ 2) → K1 (-3) M := by
      intro b
      refine hK _ _ (fun K2 hk => ?_)
      unfold wX10_why
      exact p_isNode hn (fun _ => gK0_r ⟨fun e => absurd e (by decide), fun _ => p_isNode hn (fun _ => ⟨fun _ => p_inI (fun p => absurd p b) (fun _ => ⟨fun e => absurd rfl e, fun _ => hk M h.later⟩), fun e => absurd e (by decide)⟩) (fun p => absurd q.2 p)⟩) (fun p => absurd q.1 p)
    refine gK0_r ⟨fun a => bad (by omega), fun a => ⟨fun b => p_tell h.1 q.1 q.2 (fun M1 o1 t1 => ?_), fun b => bad (by omega)⟩⟩
    have h1 := h.t226 o1
    have eN : nN M1 = nN M := o1.aside226.2.2.2.1
    have e230 : M1 230 = M 230 := o1 230 (by decide)
    generalize hG : tel (M 230) 3 0 u v = T at t1
    have ref : ∀ r, r = (if T.1 = 0 then -1 else (if w = 0 then T.1 else if w = 1 then T.2.1 else T.2.2.1)) → K1 r M1 := by
      intro r er
      refine hK _ _ (fun K2 hk => ?_)
      unfold wX10_why
      refine p_isNode h1.1.1 (fun _ => gK0_r ⟨fun e => absurd e (by decide), fun _ => p_isNode h1.1.1 (fun _ => ⟨fun _ => p_inI (fun _ => ⟨fun _ => p_tells h1.1 (by omega) (by omega) (fun M2 m2 _ t2 => ?_), fun e => absurd e (by decide)⟩) (fun p => absurd (show _ by omega) p), fun e => absurd e (by decide)⟩) (fun p => absurd (show _ by omega) p)⟩) (fun p => absurd (show _ by omega) p)
      rw [e230, hG] at t2 ⊢
      have h2 := (h1.mfr m2).later
      by_cases c : T.1 = 0
      · rw [if_pos c]
        rw [if_pos c] at er
        exact gK1_r ⟨fun e => absurd e (by decide), fun _ => by rw [← er]; exact hk M2 h2⟩
      · rw [if_neg c]
        rw [if_neg c] at er
        have t3 := t2.2.1 c
        refine gK1_r ⟨fun _ => ⟨fun d => ⟨fun g => ?_, fun g => ?_⟩, fun d => ?_⟩, fun e => absurd rfl e⟩
        · rw [if_neg d, if_neg g] at er; rw [t3.2, ← er]; exact hk M2 h2
        · rw [if_neg d, if_pos g] at er; rw [t2.1, ← er]; exact hk M2 h2
        · rw [if_pos d] at er; rw [t3.1, ← er]; exact hk M2 h2
    refine ⟨fun c => ⟨fun d => gK1_r ⟨fun g => ref _ ?_, fun g => ref _ ?_⟩, fun d => ref _ ?_⟩, fun c => ref _ ?_⟩
    · rw [t1.1] at c; rw [if_neg c, if_neg d, if_neg g, t1.2.2.1 c]
    · rw [t1.1] at c; rw [if_neg c, if_neg d, if_pos g, t1.2.1]
    · rw [t1.1] at c; rw [if_neg c, if_pos d, t1.1]
    · rw [t1.1] at c; rw [if_pos c]
  · unfold wX10_why
    refine p_isNode hn (fun a => gK0_r ⟨fun e => absurd e (by decide), fun _ => p_isNode hn (fun b => absurd ⟨a, b⟩ q) (fun _ => ⟨fun e => absurd rfl e, fun _ => hk M h.later⟩)⟩) (fun a => gK0_r ⟨fun _ => hk M h.later, fun e => absurd rfl e⟩)
