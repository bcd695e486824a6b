/-! CALLS, 14: notes written, mended, torn; letters -/
theorem p_copyNote {c a : Int} {K : gMem → Prop} {M : gMem} (hca : c + 4 ≤ a ∨ a + 4 ≤ c) (h0 : M a 0 = 0 ∨ M a 0 = 1) (hK : ∀ M', (∀ x, x < c ∨ c + 4 ≤ x → M' x = M x) → M' c 0 = M a 0 → M' c 1 = M a 1 → (∀ i, 0 ≤ i → i < 3 → M' (c + 1) i = M (a + 1) i ∧ M' (c + 2) i = M (a + 2) i) → (∀ w, 0 ≤ w → w < 12 → M' (c + 3) w = M (a + 3) w) → K M') : wX2_copyFrom c a K M := by
  unfold wX2_copyFrom
  refine ⟨h0, fun M1 e1 M2 e2 => ⟨⟨by decide, by decide, by decide⟩, fun M3 e3 => ⟨⟨by decide, by decide, by decide⟩, fun M4 e4 => ⟨⟨by decide, by decide, by decide⟩, fun M5 e5 => ?_⟩⟩⟩⟩
  refine hK M5 (fun x hx => ?_) ?_ ?_ (fun i i0 i1 => ⟨?_, ?_⟩) (fun w w0 w1 => ?_)
  · rw [e5, gcp_c _ (by omega), e4, gcp_c _ (by omega), e3, gcp_c _ (by omega), e2, gup_c _ (by omega), e1, gup_c _ (by omega)]
  · rw [e5, gcp_c _ (by omega), e4, gcp_c _ (by omega), e3, gcp_c _ (by omega), e2, gup_k _ (by decide), e1, gup_s]
  · rw [e5, gcp_c _ (by omega), e4, gcp_c _ (by omega), e3, gcp_c _ (by omega), e2, gup_s, e1, gup_c _ (by omega)]
  · rw [e5, gcp_c _ (by omega), e4, gcp_c _ (by omega), e3, gcp_2, if_pos ⟨rfl, i0, i1⟩, e2, gup_c _ (by omega), e1, gup_c _ (by omega)]
  · rw [e5, gcp_c _ (by omega), e4, gcp_2, if_pos ⟨rfl, i0, i1⟩, e3, gcp_c _ (by omega), e2, gup_c _ (by omega), e1, gup_c _ (by omega)]
  · rw [e5, gcp_2, if_pos ⟨rfl, w0, w1⟩, e4, gcp_c _ (by omega), e3, gcp_c _ (by omega), e2, gup_c _ (by omega), e1, gup_c _ (by omega)]
theorem note_new {u : Int} {M M' : gMem} {q o : Int} (hn : 2 ≤ nN M ∧ nN M ≤ 12) (db : ∀ x, 0 ≤ x → x < nN M → -1 ≤ dd M u x ∧ dd M u x ≤ 1188) (h0 : M' 228 2 = M 228 2) (n0 : M' q 0 = 1) (n1 : M' q 1 = bitsF (fr M u) 12) (n2 : ∀ i, 0 ≤ i → i < 3 → M' (q + 1) i = nr M u i ∧ M' (q + 2) i = nf M u i) (n3 : ∀ w, 0 ≤ w → w < 12 → M' (q + 3) w = fr M u w) (n4 : ∀ k, 0 ≤ k → k < 20 → M' 230 (o + k) = frv M u k) : NoteRel M' q o := by
  obtain ⟨p0, p1, p2, p3⟩ := frv_parts M u
  have e0 := n4 0 (by omega) (by omega)
  rw [Int.add_zero, p0] at e0
  refine ⟨Or.inr n0, by rw [e0, n0], fun _ => ⟨fun i a b => ?_, ?_, fun w a b => ?_, fun i a b => ?_, fun w a b => ?_, ?_⟩⟩
  · have e1 := n4 (1 + i) (by omega) (by omega)
    have e2 := n4 (4 + i) (by omega) (by omega)
    rw [(n2 i a b).1, (n2 i a b).2, show o + 1 + i = o + (1 + i) by omega, show o + 4 + i = o + (4 + i) by omega, e1, e2, (p1 i a b).1, (p1 i a b).2]
    exact ⟨rfl, rfl⟩
  · rw [n1, n4 7 (by omega) (by omega), p2]
  · have e1 := n4 (8 + w) (by omega) (by omega)
    rw [n3 w a b, show o + 8 + w = o + (8 + w) by omega, e1, p3 w a b]
  · rw [(n2 i a b).1, (n2 i a b).2]
    have r := nr_bd M (by omega) u i
    have f := nf_no (M := M) (by omega) (v := u) (l := i)
    have en : nN M' = nN M := h0
    have g : -1 ≤ nf M u i ∧ nf M u i ≤ 1188 := by
      unfold nf
      split
      · omega
      · exact db _ (by omega) (by omega)
    exact ⟨r.1, by omega, g.1, g.2, f.symm⟩
  · rw [n3 w a b]
    unfold fr
    split
    · next c => exact db w a c.1
    · omega
  · rw [n1]
    exact bits_cong 12 (fun k hk => (n3 (k : Int) (by omega) (by omega)).symm)
theorem Inv.noted {t : Int} {M M' : gMem} (h : Inv t M) (hn2 : M' 228 2 = M 228 2) (h1 : M' 228 1 = M 228 1) (h6 : M' 228 6 = M 228 6) (hc : ∀ c, c < 36 ∨ (88 ≤ c ∧ c < 195) ∨ (209 ≤ c ∧ c < 226) ∨ c = 229 ∨ c = 231 ∨ c = 232 ∨ c = 235 → M' c = M c) (hFar : FarInv M') (hk : ∀ k, 240 ≤ k → k < 720 → M' 230 k = M 230 k) (hN : ∀ v, 0 ≤ v → v < 12 → NoteRel M' (36 + 4 * v) (20 * v)) : Inv t M' := by
  obtain ⟨⟨i1, i2, i3, i4, i5, i6, i7, i8⟩, f, th⟩ := h
  have e9 : M' 229 = M 229 := hc 229 (by omega)
  refine ⟨⟨?_, i2.stay hn2 (fun x a b => hc x (by omega)) (fun k a b => by rw [e9]), hN, i4.stay (by rw [hc 7 (by omega)]) h6 (hc 8 (by omega)) (hc 232 (by omega)), i5.stay hn2 (fun c a b => hc c (by omega)) h1 (fun k a b => by rw [e9]), fun k a b => (i6 k a b).stay ⟨a, b⟩ hn2 (fun c a b => hc c (by omega)) (by rw [hc 231 (by omega)]) (fun k a b => by rw [e9]) hk, i7.stay (by rw [hc 1 (by omega)]) (by rw [hc 4 (by omega)]) (fun c a b => hc c (by omega)) (fun c a b => hc c (by omega)), fun k a => by rw [hc 235 (by omega)]; exact i8 k a⟩, hFar, th.cong i1.2 (by rw [hc 1 (by omega)]) (fun c a b => hc c (by omega)) hn2 e9⟩
  unfold nN at i1 ⊢
  rw [hn2]
  exact i1
theorem p_writesB {t v : Int} {K : gMem → Prop} {M : gMem} (h : InvB t M) (hF : mFar M) (hv : 0 ≤ v ∧ v < nN M) (hK : ∀ M', (∀ c, c ≠ 230 → c ≠ 239 → M' c = M c) → (∀ k, ¬ (20 * v ≤ k ∧ k < 20 * v + 20) → M' 230 k = M 230 k) → (∀ k, 0 ≤ k → k < 20 → M' 230 (20 * v + k) = frv M v k) → K M') : wX10_writes 228 v K M := by
  unfold wX10_writes
  simp only [Int.reduceAdd]
  have hn := h.1
  refine p_freshensB h hF hv (fun M1 o1 f1 => ?_)
  refine ⟨fun k M' => 0 ≤ k ∧ k ≤ 20 ∧ (∀ c, c ≠ 230 → M' c = M1 c) ∧ (∀ j, ¬ (20 * v ≤ j ∧ j < 20 * v + 20) → M' 230 j = M 230 j) ∧ ∀ j, 0 ≤ j → j < k → M' 230 (20 * v + j) = frv M v j, fun k _ => 20 - k, ⟨by omega, by omega, fun _ _ => rfl, fun j _ => by rw [o1 230 (by decide)], fun j a b => by omega⟩, ?_⟩
  intro k M2 ⟨k0, k1, g1, g2, g3⟩
  dsimp only
  refine ⟨by omega, fun q => hK M2 (fun c a b => by rw [g1 c a, o1 c b]) g2 (fun j a b => g3 j a (by omega)), fun q => ⟨⟨by omega, by omega⟩, ⟨by omega, by omega⟩, ⟨by omega, by omega⟩, ⟨by omega, by omega⟩, fun M3 e3 => ⟨⟨by omega, by omega⟩, ⟨by omega, by omega, fun c a => by rw [e3, gup_c _ a, g1 c a], fun j a => by rw [e3, gup_k _ (by omega)]; exact g2 j a, fun j a b => ?_⟩, by omega⟩⟩⟩
  by_cases e : j = k
  · rw [e, e3, gup_s, g1 239 (by decide)]; exact f1 k k0 (by omega)
  · rw [e3, gup_k _ (by omega)]; exact g3 j a (by omega)
theorem c_note {t u : Int} {K1 : Int → gMem → Prop} {M : gMem} (h : Inv t M) (hK : ∀ r M1, Ag t (wX10_note 228 u) r M1 → K1 r M1) : wX9_note 0 u K1 M := by
  unfold wX9_note
  simp only [Int.reduceAdd]
  have hn := h.1.1
  refine p_has1 h.1 (fun q => ⟨fun _ => p_writeDraft h.1 h.2.1 q (fun M1 q1 o1 n1 => ⟨⟨by omega, by omega⟩, ?_⟩), fun e => absurd e (by decide)⟩) (fun q => ⟨fun e => absurd rfl e, fun _ => hK _ _ (fun K2 hk => ?_)⟩)
  · have h1 := h.q q1 o1
    refine p_copyNote (by omega) (Or.inr n1.1) (fun M2 g1 g2 g3 g4 g5 => ?_)
    have e84 : M2 84 = M1 84 := g1 84 (by omega)
    have bb := bits_0 (fr M u) 12
    have e841 : M2 84 1 = bitsF (fr M u) 12 := by rw [e84]; exact n1.2.2.2
    rw [e841]
    refine ⟨⟨bb.1, bb.2⟩, hK _ _ (fun K2 hk => ?_)⟩
    have rs2 : RS M M2 := ⟨by rw [g1 228 (by omega), q1 228 (by omega)], by rw [g1 229 (by omega), q1 229 (by omega)]⟩
    have eN2 : nN M2 = nN M := rs2.1
    have b2 : InvB t M2 := h.1.b.rs rs2
    unfold wX10_note
    simp only [Int.reduceAdd]
    refine p_isNode b2.1 (fun _ => ⟨fun _ => p_finds0B b2 (fun M3 o3 F3 => ?_), fun e => absurd e (by decide)⟩) (fun p => absurd (show _ by omega) p)
    have rs3 : RS M M3 := rs2.tr ⟨by rw [o3 228 (by decide)], o3 229 (by decide)⟩
    have eN3 : nN M3 = nN M := rs3.1
    refine p_writesB (h.1.b.rs rs3) F3 (by omega) (fun M4 k1 k2 k3 => ⟨⟨by omega, by omega⟩, ⟨by omega, by omega⟩, ⟨by omega, by omega⟩, ?_⟩)
    rw [frv_rs rs3] at k3
    have e7 : M4 230 (20 * u + 7) = bitsF (fr M u) 12 := by rw [k3 7 (by omega) (by omega)]; exact (frv_parts M u).2.2.1
    rw [e7]
    refine p_ones bb.1 (hk M4 (Inv.later ?_))
    have all : ∀ c, c ≠ 230 → c ≠ 239 → c ≠ 236 → M4 c = M2 c := fun c a b d => by rw [k1 c a b, o3 c d]
    have m22 : M4 228 2 = M 228 2 := by rw [all 228 (by decide) (by decide) (by decide)]; exact rs2.1
    have e230 : M3 230 = M 230 := by rw [o3 230 (by decide), g1 230 (by omega), q1 230 (by omega)]
    have F1 : FarInv M4 := by
      have o4 : FarOK M4 := o1.cong h1.1.1.2 (by rw [all 1 (by decide) (by decide) (by decide), g1 1 (by omega)]) (fun c a b => by rw [all c (by omega) (by omega) (by omega), g1 c (by omega)]) (by rw [all 228 (by decide) (by decide) (by decide), g1 228 (by omega)]) (by rw [all 229 (by decide) (by decide) (by decide), g1 229 (by omega)])
      refine o4.inv ?_
      rw [all 1 (by decide) (by decide) (by decide), g1 1 (by omega), q1 1 (by omega)]
      exact h.1.2.2.2.2.2.2.1.1.1
    refine h.noted m22 (by rw [all 228 (by decide) (by decide) (by decide), g1 228 (by omega), q1 228 (by omega)]) (by rw [all 228 (by decide) (by decide) (by decide), g1 228 (by omega), q1 228 (by omega)]) (fun c hc => by rw [all c (by omega) (by omega) (by omega), g1 c (by omega), q1 c (by omega)]) F1 (fun k a b => by rw [k2 k (by omega), e230]) (fun v v0 v1 => ?_)
    by_cases e : v = u
    · subst e
      refine note_new hn (fun x a b => by
        have eN1 : nN M1 = nN M := q1.aside.2.2.2.1
        have := (dd_all h1.1 o1 (u := v) (v := x) (by omega) (by omega)).1
        rw [dd_rs q1.aside.rs] at this
        exact this) m22 ?_ ?_ (fun i a b => ?_) (fun w a b => ?_) k3
      · rw [all _ (by omega) (by omega) (by omega), g2]; exact n1.1
      · rw [all _ (by omega) (by omega) (by omega), g3]; exact n1.2.2.2
      · rw [all _ (by omega) (by omega) (by omega), all _ (by omega) (by omega) (by omega), (g4 i a b).1, (g4 i a b).2]; exact n1.2.1 i a b
      · rw [all _ (by omega) (by omega) (by omega), g5 w a b]; exact n1.2.2.1 w a b
    · exact (h.1.2.2.1 v v0 v1).stay m22 (fun c a b => by rw [all c (by omega) (by omega) (by omega), g1 c (by omega), q1 c (by omega)]) (fun k a b => by rw [k2 _ (by omega), e230])
  · unfold wX10_note
    exact p_isNode hn (fun p => absurd p q) (fun _ => ⟨fun e => absurd rfl e, fun _ => hk M h.later⟩)
theorem c_tear {t u : Int} {K1 : Int → gMem → Prop} {M : gMem} (h : Inv t M) (hK : ∀ r M1, Ag t (wX10_tear 228 u) r M1 → K1 r M1) : wX9_tear 0 u K1 M := by
  unfold wX9_tear
  simp only [Int.reduceAdd]
  have hn := h.1.1
  refine p_has1 h.1 (fun q => ⟨fun _ => ⟨⟨by omega, by omega⟩, ?_⟩, fun e => absurd e (by decide)⟩) (fun q => ⟨fun e => absurd rfl e, fun _ => hK _ _ (fun K2 hk => ?_)⟩)
  · have n1 := h.1.2.2.1 u q.1 (by omega)
    have ref : ∀ r, r = M (36 + 4 * u) 0 → ((0 : Int) ≤ u ∧ u < 12) ∧ (∀ M10 : gMem, M10 = gup M (36 + 4 * u) 0 0 → K1 r M10) := by
      intro r er
      refine ⟨⟨by omega, by omega⟩, fun M1 e1 => hK _ _ (fun K2 hk => ?_)⟩
      have g1 : ∀ c, c ≠ 36 + 4 * u → M1 c = M c := fun c hc => by rw [e1, gup_c _ hc]
      have eN1 : nN M1 = nN M := by unfold nN; rw [g1 228 (by omega)]
      unfold wX10_tear
      simp only [Int.reduceAdd]
      refine p_isNode (by omega) (fun _ => ⟨fun _ => ⟨⟨by omega, by omega⟩, ⟨by omega, by omega⟩, fun x ex => ?_⟩, fun e => absurd e (by decide)⟩) (fun p => absurd (show _ by omega) p)
      rw [g1 230 (by omega), n1.2.1] at ex
      refine ⟨fun k M' => 0 ≤ k ∧ k ≤ 20 ∧ (∀ c, c ≠ 230 → M' c = M1 c) ∧ (∀ j, ¬ (20 * u ≤ j ∧ j < 20 * u + 20) → M' 230 j = M 230 j) ∧ ∀ j, 0 ≤ j → j < k → M' 230 (20 * u + j) = 0, fun k _ => 20 - k, ⟨by omega, by omega, fun _ _ => rfl, fun j _ => by rw [g1 230 (by omega)], fun j a b => by omega⟩, ?_⟩
      intro k M2 ⟨k0, k1, g2, g3, g4⟩
      dsimp only
      refine ⟨by omega, fun q2 => ?_, fun q2 => ⟨⟨by omega, by omega⟩, ⟨by omega, by omega⟩, ⟨by omega, by omega⟩, fun M3 e3 => ⟨⟨by omega, by omega⟩, ⟨by omega, by omega, fun c a => by rw [e3, gup_c _ a, g2 c a], fun j a => by rw [e3, gup_k _ (by omega)]; exact g3 j a, fun j a b => ?_⟩, by omega⟩⟩⟩
      · rw [ex, ← er]
        refine hk M2 (Inv.later ?_)
        have m22 : M2 228 2 = M 228 2 := by rw [g2 228 (by decide), g1 228 (by omega)]
        refine h.noted m22 (by rw [g2 228 (by decide), g1 228 (by omega)]) (by rw [g2 228 (by decide), g1 228 (by omega)]) (fun c hc => by rw [g2 c (by omega), g1 c (by omega)]) (h.2.1.cong hn.2 (by rw [g2 1 (by decide), g1 1 (by omega)]) (fun c a b => by rw [g2 c (by omega), g1 c (by omega)]) m22 (by rw [g2 229 (by decide), g1 229 (by omega)])) (fun k a b => g3 k (by omega)) (fun v v0 v1 => ?_)
        by_cases e : v = u
        · subst e
          have z : M2 (36 + 4 * v) 0 = 0 := by rw [g2 _ (by omega), e1, gup_s]
          refine ⟨Or.inl z, ?_, fun e => absurd e (by rw [z]; decide)⟩
          have := g4 0 (by omega) (by omega)
          rw [Int.add_zero] at this
          rw [this, z]
        · exact (h.1.2.2.1 v v0 v1).stay m22 (fun c a b => by rw [g2 c (by omega), g1 c (by omega)]) (fun k a b => g3 _ (by omega))
      · rw [e3]
        by_cases e : j = k
        · rw [e, gup_s]
        · rw [gup_k _ (by omega)]; exact g4 j a (by omega)
    refine gK1_r ⟨fun a => ref 0 a.symm, fun a => ref 1 ?_⟩
    have := n1.1
    omega
  · unfold wX10_tear
    exact p_isNode hn (fun p => absurd p q) (fun _ => ⟨fun e => absurd rfl e, fun _ => hk M h.later⟩)
theorem Inv.text {t : Int} {M M' : gMem} (h : Inv t M) (hc : ∀ c, c < 4 ∨ (9 ≤ c ∧ c < 226) ∨ (229 ≤ c ∧ c < 232) ∨ c = 235 → M' c = M c) (h1 : M' 228 1 = M 228 1) (h2 : M' 228 2 = M 228 2) (hT : TextRel M') (hv : 0 ≤ M' 4 3 ∧ M' 4 3 ≤ 1 + 200 * (t + 1)) : Inv (t + 1) M' := by
  obtain ⟨⟨i1, i2, i3, i4, i5, i6, i7, i8⟩, f, th⟩ := h
  have e9 : M' 229 = M 229 := hc 229 (by omega)
  have e30 : M' 230 = M 230 := hc 230 (by omega)
  obtain ⟨v1, v2, v3, v4⟩ := i7
  refine ⟨⟨?_, i2.stay h2 (fun x a b => hc x (by omega)) (fun k a b => by rw [e9]), fun v a b => (i3 v a b).stay h2 (fun c a b => hc c (by omega)) (fun k a b => by rw [e30]), hT, i5.stay h2 (fun c a b => hc c (by omega)) h1 (fun k a b => by rw [e9]), fun k a b => (i6 k a b).stay ⟨a, b⟩ h2 (fun c a b => hc c (by omega)) (by rw [hc 231 (by omega)]) (fun k a b => by rw [e9]) (fun k a b => by rw [e30]), ⟨?_, hv, fun i a b => ?_, fun k a b => ?_⟩, fun k a => by rw [hc 235 (by omega)]; exact i8 k a⟩, f.cong i1.2 (by rw [hc 1 (by omega)]) (fun c a b => hc c (by omega)) h2 e9, th.cong i1.2 (by rw [hc 1 (by omega)]) (fun c a b => hc c (by omega)) h2 e9⟩
  · unfold nN at i1 ⊢
    rw [h2]
    exact i1
  · rw [hc 1 (by omega)]; omega
  · rw [hc _ (by omega)]; have := v3 i a b; omega
  · rw [hc _ (by omega)]; have := v4 k a b; omega
theorem c_type {t a : Int} {K1 : Int → gMem → Prop} {M : gMem} (h : Inv t M) (hK : ∀ r M1, Ag t (wX10_type 228 a) r M1 → K1 r M1) : wX9_type 0 a K1 M := by
  unfold wX9_type
  simp only [Int.reduceAdd]
  obtain ⟨x1, x2, x3, x4⟩ := h.1.2.2.2.1
  have v4 := h.1.2.2.2.2.2.2.1.2.1
  have bad : ¬ (0 ≤ a ∧ a ≤ 255) → K1 (-3) M := by
    intro b
    refine hK _ _ (fun K2 hk => ?_)
    unfold wX10_type
    exact p_inI (fun p => absurd p b) (fun _ => ⟨fun e => absurd rfl e, fun _ => hk M h.later⟩)
  refine gK0_r ⟨fun q => bad (by omega), fun q => ⟨fun q2 => ⟨fun q3 => ?_, fun q3 => hK _ _ (fun K2 hk => ?_)⟩, fun q2 => bad (by omega)⟩⟩
  · unfold wX7_append
    simp only [Int.reduceAdd]
    refine gK0_r ⟨fun e => absurd e (by omega), fun _ => ⟨⟨by omega, by omega⟩, fun M1 e1 => ?_⟩⟩
    have s1 : M1 7 0 = M 7 0 := by rw [e1, gup_c _ (by decide)]
    rw [s1]
    refine ⟨⟨by omega, by omega⟩, fun M2 e2 => ?_⟩
    have s2 : M2 7 0 = M 7 0 + 1 := by rw [e2, gup_s]
    show K1 (M2 7 0) M2
    rw [s2]
    have g2 : ∀ c, c ≠ 7 → c ≠ 8 → M2 c = M c := fun c p r => by rw [e2, gup_c _ p, e1, gup_c _ r]
    have t2 : M2 8 = gup M 8 (M 7 0) a 8 := by rw [e2, gup_c _ (by decide), e1]
    refine hK _ _ (fun K2 hk => ?_)
    unfold wX10_type
    simp only [Int.reduceAdd]
    have l2 : M2 228 6 = M 7 0 := by rw [g2 228 (by decide) (by decide)]; exact x1.symm
    refine p_inI (fun _ => ⟨fun _ => ⟨fun _ => ⟨?_, fun M3 e3 => ?_⟩, fun e => absurd e (by omega)⟩, fun e => absurd e (by decide)⟩) (fun p => absurd (show _ by omega) p)
    · rw [l2]; exact ⟨by omega, by omega⟩
    · have l3 : M3 228 6 = M 7 0 := by rw [e3, gup_c _ (by decide)]; exact l2
      rw [l3]
      refine ⟨⟨by omega, by omega⟩, fun M4 e4 => ?_⟩
      have l4 : M4 228 6 = M 7 0 + 1 := by rw [e4, gup_s]
      rw [l4]
      refine hk M4 ?_
      have all : ∀ c, c ≠ 228 → c ≠ 232 → M4 c = M2 c := fun c p r => by rw [e4, gup_c _ p, e3, gup_c _ r]
      have k28 : ∀ k, k ≠ 6 → M4 228 k = M 228 k := fun k hk => by rw [e4, gup_k _ hk, e3, gup_c _ (by decide), g2 228 (by decide) (by decide)]
      refine h.text (fun c hc => by rw [all c (by omega) (by omega), g2 c (by omega) (by omega)]) (k28 1 (by decide)) (k28 2 (by decide)) ⟨?_, ?_, ?_, fun i i0 i1 => ?_⟩ ?_
      · rw [l4, all 7 (by decide) (by decide), s2]
      · rw [all 7 (by decide) (by decide), s2]; omega
      · rw [all 7 (by decide) (by decide), s2]; omega
      · rw [all 7 (by decide) (by decide), s2] at i1
        have ta : M4 8 i = if i = M 7 0 then a else M 8 i := by rw [all 8 (by decide) (by decide), t2, gup_e]
        have tb : M4 232 i = if i = M 7 0 then a else M 232 i := by
          have z : M4 232 i = M3 232 i := by rw [e4, gup_c _ (by decide)]
          rw [z, e3, gup_e, l2, g2 232 (by decide) (by decide)]
        rw [ta, tb]
        by_cases e : i = M 7 0
        · rw [if_pos e, if_pos e]
        · rw [if_neg e, if_neg e]; exact x4 i i0 (by omega)
      · rw [all 4 (by decide) (by decide), g2 4 (by decide) (by decide)]; omega
  · unfold wX10_type
    simp only [Int.reduceAdd]
    exact p_inI (fun _ => ⟨fun _ => ⟨fun e => absurd (show M 228 6 = 200 by omega) e, fun _ => hk M h.later⟩, fun e => absurd e (by decide)⟩) (fun p => absurd (show _ by omega) p)
theorem c_erase {t : Int} {K1 : Int → gMem → Prop} {M : gMem} (h : Inv t M) (hK : ∀ r M1, Ag t (wX10_erase 228) r M1 → K1 r M1) : wX9_erase 0 K1 M := by
  unfold wX9_erase
  simp only [Int.reduceAdd]
  obtain ⟨x1, x2, x3, x4⟩ := h.1.2.2.2.1
  have v4 := h.1.2.2.2.2.2.2.1.2.1
  intro x ex M1 e1
  refine hK _ _ (fun K2 hk => ?_)
  unfold wX10_erase
  intro y ey M2 e2
  have : y = x := by rw [ey, ex, e1, gup_c _ (by decide)]; exact x1.symm
  rw [this]
  have z1 : M2 7 0 = 0 := by rw [e2, gup_c _ (by decide), e1, gup_s]
  have k28 : ∀ k, k ≠ 6 → M2 228 k = M 228 k := fun k hk => by rw [e2, gup_k _ hk, e1, gup_c _ (by decide)]
  refine hk M2 (h.text (fun c hc => by rw [e2, gup_c _ (by omega), e1, gup_c _ (by omega)]) (k28 1 (by decide)) (k28 2 (by decide)) ⟨by rw [z1, e2, gup_s], by omega, by omega, fun i a b => by omega⟩ ?_)
  rw [e2, gup_c _ (by decide), e1, gup_c _ (by decide)]; omega
