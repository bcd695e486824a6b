/-! CALLS, 6: fresh notes, noted -/
def frs (M : gMem) (v : Int) : Prop := ∀ k, 0 ≤ k → k < 20 → M 230 (20 * v + k) = frv M v k
theorem frs_cong {M M' : gMem} (h : Aside M M') : frs M' = frs M := by
  funext v
  unfold frs
  rw [frv_cong h, h.at 230 (by omega)]
theorem frv_parts (M : gMem) (v : Int) : frv M v 0 = 1 ∧ (∀ i, 0 ≤ i → i < 3 → frv M v (1 + i) = nr M v i ∧ frv M v (4 + i) = nf M v i) ∧ frv M v 7 = bitsF (fr M v) 12 ∧ ∀ w, 0 ≤ w → w < 12 → frv M v (8 + w) = fr M v w := by
  refine ⟨by unfold frv; rw [if_pos rfl], fun i a b => ⟨?_, ?_⟩, ?_, fun w a b => ?_⟩
  · unfold frv; rw [if_neg (by omega), if_pos (by omega), show 1 + i - 1 = i by omega]
  · unfold frv; rw [if_neg (by omega), if_neg (by omega), if_pos (by omega), show 4 + i - 4 = i by omega]
  · unfold frv; rw [if_neg (by omega), if_neg (by omega), if_neg (by omega), if_pos rfl]
  · unfold frv; rw [if_neg (by omega), if_neg (by omega), if_neg (by omega), if_neg (by omega), show 8 + w - 8 = w by omega]
theorem p_isFreshC {t v : Int} {K : Int → gMem → Prop} {M : gMem} (h : InvA t M) (hF : FarInv M) (hv : 0 ≤ v ∧ v < nN M) (hK : ∀ M' r, QFr M M' → FarOK M' → NoteIs M v M' 84 → (r = 1 ∧ frs M v) ∨ (r = 0 ∧ ¬ frs M v) → K r M') : wX9_isFresh 0 v K M := by
  unfold wX9_isFresh
  simp only [Int.reduceAdd]
  have hn := h.1
  refine p_writeDraft h hF hv (fun M1 q1 o1 n1 => ⟨⟨by omega, by omega⟩, ?_⟩)
  have nr1 := h.2.2.1 v hv.1 (by omega)
  obtain ⟨p0, p1, p2, p3⟩ := frv_parts M v
  have hK := hK M1
  have yes : frs M v → ((1 : Int) = 0 ∨ True) ∧ K 1 M1 := fun q => ⟨Or.inr trivial, hK 1 q1 o1 n1 (Or.inl ⟨rfl, q⟩)⟩
  have no : ¬ frs M v → (True ∨ (0 : Int) = 1) ∧ K 0 M1 := fun q => ⟨Or.inl trivial, hK 0 q1 o1 n1 (Or.inr ⟨rfl, q⟩)⟩
  have c0 : M1 (36 + 4 * v) = M (36 + 4 * v) := q1 _ (by omega)
  have c1 : M1 (36 + 4 * v + 1) = M (36 + 4 * v + 1) := q1 _ (by omega)
  have c2 : M1 (36 + 4 * v + 2) = M (36 + 4 * v + 2) := q1 _ (by omega)
  have c3 : M1 (36 + 4 * v + 3) = M (36 + 4 * v + 3) := q1 _ (by omega)
  have w1 : M1 84 0 = 1 := n1.1
  unfold wX2_bearsSameAs
  simp only [Int.reduceAdd]
  rw [c0, w1]
  refine gK0_r ⟨fun a => no (fun q => ?_), fun a => ⟨fun _ => ?_, fun e => absurd e (by decide)⟩⟩
  · have := q 0 (by omega) (by omega)
    rw [p0, Int.add_zero] at this
    have := nr1.2.1
    omega
  · have wq : M (36 + 4 * v) 0 = 1 := by have := nr1.1; omega
    obtain ⟨a1, a2, a3, a4⟩ := nr1.2.2 wq
    refine ⟨fun i M' => M' = M1 ∧ 0 ≤ i ∧ i ≤ 3 ∧ ∀ k, 0 ≤ k → k < i → M 230 (20 * v + 1 + k) = nr M v k ∧ M 230 (20 * v + 4 + k) = nf M v k, fun i _ => 3 - i, ⟨rfl, by omega, by omega, fun k x y => by omega⟩, ?_⟩
    intro i M2 ⟨e2, i0, i1, hi⟩
    subst e2
    dsimp only
    refine ⟨by omega, fun q => ?_, fun q => ?_⟩
    · refine ⟨fun w M' => M' = M2 ∧ 0 ≤ w ∧ w ≤ 12 ∧ ∀ k, 0 ≤ k → k < w → M 230 (20 * v + 8 + k) = fr M v k, fun w _ => 12 - w, ⟨rfl, by omega, by omega, fun k x y => by omega⟩, ?_⟩
      intro w M3 ⟨e3, w0, w1, hw⟩
      subst e3
      dsimp only
      refine ⟨by omega, fun q2 => yes ?_, fun q2 => ⟨⟨by omega, by omega⟩, ⟨by omega, by omega⟩, ?_⟩⟩
      · intro k k0 k1
        by_cases d0 : k = 0
        · rw [d0, p0, Int.add_zero, nr1.2.1]; exact wq
        by_cases d1 : k < 4
        · have := (hi (k - 1) (by omega) (by omega)).1
          have e := (p1 (k - 1) (by omega) (by omega)).1
          rw [show 1 + (k - 1) = k by omega] at e
          rw [show 20 * v + 1 + (k - 1) = 20 * v + k by omega] at this
          rw [e]; exact this
        by_cases d2 : k < 7
        · have := (hi (k - 4) (by omega) (by omega)).2
          have e := (p1 (k - 4) (by omega) (by omega)).2
          rw [show 4 + (k - 4) = k by omega] at e
          rw [show 20 * v + 4 + (k - 4) = 20 * v + k by omega] at this
          rw [e]; exact this
        by_cases d3 : k = 7
        · rw [d3, p2, ← a2, a4.2.2]
          exact bits_cong 12 (fun k hk => by rw [a3 k (by omega) (by omega)]; exact hw k (by omega) (by omega))
        · have := hw (k - 8) (by omega) (by omega)
          have e := p3 (k - 8) (by omega) (by omega)
          rw [show 8 + (k - 8) = k by omega] at e
          rw [show 20 * v + 8 + (k - 8) = 20 * v + k by omega] at this
          rw [e]; exact this
      · have e1 : M3 87 w = fr M v w := n1.2.2.1 w w0 (by omega)
        rw [c3, a3 w w0 (by omega), e1]
        refine ⟨fun d => ⟨⟨by omega, by omega⟩, ⟨rfl, by omega, by omega, fun k k0 k1 => ?_⟩, by omega⟩, fun d => no (fun g => d ?_)⟩
        · by_cases g : k = w
          · rw [g]; exact d
          · exact hw k k0 (by omega)
        · have := g (8 + w) (by omega) (by omega)
          rw [p3 w w0 (by omega), show 20 * v + (8 + w) = 20 * v + 8 + w by omega] at this
          exact this
    · have e1 := n1.2.1 i i0 (by omega)
      have e85 : M2 85 i = nr M v i := e1.1
      have e86 : M2 86 i = nf M v i := e1.2
      have ai := a1 i i0 (by omega)
      rw [c1, c2, ai.1, ai.2, e85, e86]
      refine ⟨⟨by omega, by omega⟩, ⟨by omega, by omega⟩, gK0_r ⟨fun d => no (fun g => d ?_), fun d => ⟨⟨by omega, by omega⟩, ⟨by omega, by omega⟩, fun d2 => ⟨⟨by omega, by omega⟩, ⟨rfl, by omega, by omega, fun k k0 k1 => ?_⟩, by omega⟩, fun d2 => no (fun g => d2 ?_)⟩⟩⟩
      · have := g (1 + i) (by omega) (by omega)
        rw [(p1 i i0 (by omega)).1, show 20 * v + (1 + i) = 20 * v + 1 + i by omega] at this
        exact this
      · by_cases g : k = i
        · rw [g]; exact ⟨d, d2⟩
        · exact hi k k0 (by omega)
      · have := g (4 + i) (by omega) (by omega)
        rw [(p1 i i0 (by omega)).2, show 20 * v + (4 + i) = 20 * v + 4 + i by omega] at this
        exact this
theorem p_isFreshM {t v : Int} {K : Int → gMem → Prop} {M : gMem} (h : InvA t M) (hF : mFar M) (hv : 0 ≤ v ∧ v < nN M) (hK : ∀ M' r, Only 239 M M' → (∀ k, 0 ≤ k → k < 20 → M' 239 k = frv M v k) → (r = 1 ∧ frs M v) ∨ (r = 0 ∧ ¬ frs M v) → K r M') : wX10_isFresh 228 v K M := by
  unfold wX10_isFresh
  simp only [Int.reduceAdd]
  have hn := h.1
  refine p_freshens h hF hv (fun M1 o1 f1 => ?_)
  have e230 : M1 230 = M 230 := o1 230 (by decide)
  refine ⟨fun b k M' => M' = M1 ∧ 0 ≤ k ∧ k ≤ 20 ∧ ((b = 1 ∧ ∀ j, 0 ≤ j → j < k → M 230 (20 * v + j) = frv M v j) ∨ (b = 0 ∧ ¬ frs M v)), fun b k _ => 20 - k, ⟨rfl, by omega, by omega, Or.inl ⟨rfl, fun j x y => by omega⟩⟩, ?_⟩
  intro b k M2 ⟨e2, k0, k1, hb⟩
  subst e2
  dsimp only
  rw [e230]
  refine ⟨by omega, fun q => ⟨by omega, hK M2 b o1 f1 ?_⟩, fun q => gK1_r (gK0_r ⟨fun a => ⟨⟨by omega, by omega⟩, ⟨rfl, by omega, by omega, ?_⟩, by omega⟩, fun a => ⟨⟨by omega, by omega⟩, ⟨by omega, by omega⟩, ⟨by omega, by omega⟩, ⟨by omega, by omega⟩, fun d => ⟨⟨by omega, by omega⟩, ⟨rfl, by omega, by omega, Or.inr ⟨rfl, fun g => d ?_⟩⟩, by omega⟩, fun d => ⟨⟨by omega, by omega⟩, ⟨rfl, by omega, by omega, Or.inl ⟨rfl, fun j j0 j1 => ?_⟩⟩, by omega⟩⟩⟩)⟩
  · rcases hb with hb | hb
    · exact Or.inl ⟨hb.1, fun j j0 j1 => hb.2 j j0 (by omega)⟩
    · exact Or.inr hb
  · rcases hb with hb | hb
    · omega
    · exact Or.inr ⟨rfl, hb.2⟩
  · rw [f1 k k0 (by omega)]; exact g k k0 (by omega)
  · rcases hb with hb | hb
    · by_cases g : j = k
      · rw [g, d, f1 k k0 (by omega)]
      · exact hb.2 j j0 (by omega)
    · omega
theorem c_noted {t u w : Int} {K1 : Int → gMem → Prop} {M : gMem} (h : Inv t M) (hK : ∀ r M1, Ag t (wX10_noted 228 u w) r M1 → K1 r M1) : wX9_noted 0 u w K1 M := by
  unfold wX9_noted
  simp only [Int.reduceAdd]
  have hn := h.1.1
  refine p_has1 h.1 (fun q => ⟨fun _ => ?_, fun e => absurd e (by decide)⟩) (fun q => ⟨fun e => absurd rfl e, fun _ => hK _ _ (fun K2 hk => ?_)⟩)
  · have bad : ¬ (0 ≤ w ∧ w ≤ 7) → K1 (-3) M := by
      intro b
      refine hK _ _ (fun K2 hk => ?_)
      unfold wX10_noted
      exact p_isNode hn (fun _ => ⟨fun _ => p_inI (fun b1 => absurd b1 b) (fun _ => ⟨fun e => absurd rfl e, fun _ => hk M h.later⟩), fun e => absurd e (by decide)⟩) (fun p => absurd q p)
    have n1 := h.1.2.2.1 u q.1 (by omega)
    have ref : ∀ r, 1 ≤ w ∧ w ≤ 7 → r = (if M 230 (20 * u) = 1 then M 230 (20 * u + w) else -4) → K1 r M := by
      intro r hw er
      refine hK _ _ (fun K2 hk => ?_)
      unfold wX10_noted
      refine p_isNode hn (fun _ => ⟨fun _ => p_inI (fun b1 => ⟨fun _ => ⟨fun _ => p_isWritten h.1 (by omega) (fun c => gK1_r ⟨fun e => absurd e (by decide), fun _ => ⟨⟨by omega, by omega⟩, ⟨by omega, by omega⟩, ⟨by omega, by omega⟩, ?_⟩⟩) (fun c => gK1_r ⟨fun _ => ?_, fun e => absurd rfl e⟩), fun e => absurd e (by omega)⟩, fun e => absurd e (by decide)⟩) (fun b1 => absurd (show _ by omega) b1), fun e => absurd e (by decide)⟩) (fun p => absurd q p)
      · rw [if_pos c] at er
        simp only [Int.reduceAdd]
        rw [← er]; exact hk M h.later
      · rw [if_neg c] at er
        rw [← er]; exact hk M h.later
    refine gK0_r ⟨fun a => bad (by omega), fun a => ⟨fun b => ⟨fun c => ⟨⟨by omega, by omega⟩, fun d => ?_, fun d => ref _ (by omega) ?_⟩, fun c => ?_⟩, fun b => bad (by omega)⟩⟩
    · have wq : M (36 + 4 * u) 0 = 1 := by have := n1.1; omega
      have wm : M 230 (20 * u) = 1 := by rw [n1.2.1]; exact wq
      obtain ⟨a1, a2, a3, a4⟩ := n1.2.2 wq
      refine ⟨fun e => gK1_r ⟨fun g => ⟨⟨by omega, by omega⟩, ⟨by omega, by omega⟩, p_nearFarAt (by omega) (ref _ (by omega) ?_)⟩, fun g => ref _ (by omega) ?_⟩, fun e => ⟨⟨by omega, by omega⟩, p_nearAt (by omega) (ref _ (by omega) ?_)⟩⟩
      · rw [if_pos wm, (a1 (w - 1 - 3) (by omega) (by omega)).2, show 20 * u + 4 + (w - 1 - 3) = 20 * u + w by omega]
      · rw [if_pos wm, a2, g]
      · rw [if_pos wm, (a1 (w - 1) (by omega) (by omega)).1, show 20 * u + 1 + (w - 1) = 20 * u + w by omega]
    · rw [if_neg (by have := n1.2.1; omega)]
    · refine p_isFreshC h.1 h.2.1 q (fun M1 r q1 o1 n1 hr => ?_)
      have h1 := h.q q1 o1
      have eN : nN M1 = nN M := q1.aside.2.2.2.1
      have ref : ∀ x, x = r → K1 x M1 := by
        intro x ex
        refine hK _ _ (fun K2 hk => ?_)
        unfold wX10_noted
        refine p_isNode h1.1.1 (fun _ => ⟨fun _ => p_inI (fun b1 => ⟨fun _ => ⟨fun e => absurd c e, fun _ => p_finds0 h1.1 (fun M2 o2 F2 => ?_)⟩, fun e => absurd e (by decide)⟩) (fun b1 => absurd (show _ by omega) b1), fun e => absurd e (by decide)⟩) (fun p => absurd (show _ by omega) p)
        have m2 := o2.mfr (by omega)
        have h2 := h1.mfr m2
        have eN2 : nN M2 = nN M1 := m2.2.2.1
        refine p_isFreshM h2.1 F2 (by omega) (fun M3 r3 o3 f3 hr3 => ?_)
        rw [frs_cong (q1.aside.tr m2.aside)] at hr3
        have er : r3 = r := by
          rcases hr with hr | hr <;> rcases hr3 with hr3 | hr3
          · omega
          · exact absurd hr.2 hr3.2
          · exact absurd hr3.2 hr.2
          · omega
        have h3 := h2.mfr (o3.mfr (by omega))
        refine gK1_r ⟨fun d => ?_, fun d => ?_⟩
        · have : (0 : Int) = x := by omega
          rw [this]; exact hk M3 h3.later
        · have : (1 : Int) = x := by omega
          rw [this]; exact hk M3 h3.later
      exact gK1_r ⟨fun d => ref _ (by omega), fun d => ref _ (by omega)⟩
  · unfold wX10_noted
    exact p_isNode hn (fun p => absurd p q) (fun _ => ⟨fun e => absurd rfl e, fun _ => hk M h.later⟩)
theorem c_notedFar {t u w : Int} {K1 : Int → gMem → Prop} {M : gMem} (h : Inv t M) (hK : ∀ r M1, Ag t (wX10_notedFar 228 u w) r M1 → K1 r M1) : wX9_notedFar 0 u w K1 M := by
  unfold wX9_notedFar
  simp only [Int.reduceAdd]
  have hn := h.1.1
  refine p_both h.1 (fun q => ⟨fun _ => ⟨⟨by omega, by omega⟩, ?_⟩, fun e => absurd e (by decide)⟩) (fun q => ⟨fun e => absurd rfl e, fun _ => hK _ _ (fun K2 hk => ?_)⟩)
  · have n1 := h.1.2.2.1 u q.1.1 (by omega)
    have ref : ∀ r, r = (if M 230 (20 * u) = 1 then M 230 (20 * u + 8 + w) else -1) → K1 r M := by
      intro r er
      refine hK _ _ (fun K2 hk => ?_)
      unfold wX10_notedFar
      refine p_isNode hn (fun _ => gK0_r ⟨fun e => absurd e (by decide), fun _ => p_isNode hn (fun _ => ⟨fun _ => p_isWritten h.1 (by omega) (fun c => gK1_r ⟨fun e => absurd e (by decide), fun _ => ⟨⟨by omega, by omega⟩, ⟨by omega, by omega⟩, ⟨by omega, by omega⟩, ⟨by omega, by omega⟩, ?_⟩⟩) (fun c => gK1_r ⟨fun _ => ?_, fun e => absurd rfl e⟩), fun e => absurd e (by decide)⟩) (fun p => absurd q.2 p)⟩) (fun p => absurd q.1 p)
      · rw [if_pos c] at er
        simp only [Int.reduceAdd]
        rw [← er]; exact hk M h.later
      · rw [if_neg c] at er
        rw [← er]; exact hk M h.later
    refine p_farOf (by omega) (fun a => ref _ ?_) (fun a => ref _ ?_)
    · have wq : M (36 + 4 * u) 0 = 1 := by have := n1.1; omega
      obtain ⟨a1, a2, a3, a4⟩ := n1.2.2 wq
      rw [if_pos (by rw [n1.2.1]; exact wq), a3 w q.2.1 (by omega)]
    · rw [if_neg (by have := n1.2.1; omega)]
  · unfold wX10_notedFar
    refine p_isNode hn (fun a => gK0_r ⟨fun e => absurd e (by decide), fun _ => p_isNode hn (fun b => absurd ⟨a, b⟩ q) (fun _ => ⟨fun e => absurd rfl e, fun _ => hk M h.later⟩)⟩) (fun a => gK0_r ⟨fun _ => hk M h.later, fun e => absurd rfl e⟩)
