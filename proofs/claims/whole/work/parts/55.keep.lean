/-! ACTS, 4: undo, keep, back -/
theorem c_undo {t : Int} {K1 : Int → gMem → Prop} {M : gMem} (h : Inv t M) (ht : 0 ≤ t ∧ t ≤ 512) (hK : ∀ r M1, Ag t (wX10_undo 228) r M1 → K1 r M1) : wX9_undo 0 K1 M := by
  unfold wX9_undo
  simp only [Int.reduceAdd]
  have hn := h.1.1
  obtain ⟨p1, p2, p3, p4, p5, p6⟩ := id h.1.2.2.2.2.1
  have ver := h.1.2.2.2.2.2.2.1.1
  refine ⟨fun c => ?_, fun c => hK _ _ (fun K2 hk => ?_)⟩
  · unfold wX3_pop
    simp only [Int.reduceAdd]
    refine ⟨fun _ => ⟨⟨by omega, by omega⟩, ⟨by omega, by omega⟩, ⟨by omega, by omega⟩, fun M1 e1 => ?_⟩, fun e => absurd e c⟩
    have s1 : M1 9 0 = M 9 0 := by rw [e1, gup_k _ (by decide)]
    rw [s1]
    refine ⟨⟨by omega, by omega⟩, fun M2 e2 => ?_⟩
    have t2 : M2 9 1 = (M 9 1 + 8 - 1) % 8 := by rw [e2, gup_k _ (by decide), e1, gup_s]
    have s2 : M2 9 0 = M 9 0 - 1 := by rw [e2, gup_s]
    have f2 : ∀ x, x ≠ 9 → M2 x = M x := fun x hx => by rw [e2, gup_c _ hx, e1, gup_c _ hx]
    rw [t2]
    have old := p6 (M 9 0 - 1) (by omega) (by omega)
    have eg : (M 9 1 + 8 - M 9 0 + (M 9 0 - 1)) % 8 = (M 9 1 + 8 - 1) % 8 := by omega
    rw [eg] at old
    generalize hg : (M 9 1 + 8 - 1) % 8 = g at old t2
    have gb : 0 ≤ g ∧ g < 8 := by omega
    refine ⟨⟨by omega, by omega⟩, p_copyNet (by omega) (by rw [f2 1 (by decide)]; omega) (fun M3 g1 g2 g3 g4 g5 g6 g7 => ?_)⟩
    have s3 : M3 9 0 = M 9 0 - 1 := by rw [g1 9 (by omega), s2]
    rw [s3]
    refine hK _ _ (fun K2 hk => ?_)
    have e28 : M3 228 = M 228 := by rw [g1 228 (by omega), f2 228 (by decide)]
    have e29 : M3 229 = M 229 := by rw [g1 229 (by omega), f2 229 (by decide)]
    unfold wX10_undo
    refine ⟨fun _ => ?_, fun e => absurd e (by rw [e28]; omega)⟩
    rw [e28]
    refine ⟨⟨by omega, by omega⟩, fun M4 e4 => ?_⟩
    have u4 : M4 228 1 = M 228 1 - 1 := by rw [e4, gup_s]
    rw [u4]
    refine ⟨⟨by omega, by omega⟩, ⟨by omega, by omega⟩, p_copyRow (by omega) (by omega) (by omega) (fun M5 o5 r1 r2 => ?_)⟩
    have u5 : M5 228 1 = M 228 1 - 1 := by rw [o5 228 (by decide), u4]
    rw [u5, ← p1]
    have n4 : M4 229 = M 229 := by rw [e4, gup_c _ (by decide), e29]
    rw [n4] at r1 r2
    have all : ∀ x, x ≠ 228 → x ≠ 229 → M5 x = M3 x := fun x a b => by rw [o5 x b, e4, gup_c _ a]
    have k28 : ∀ k, k ≠ 1 → M5 228 k = M 228 k := fun k hk => by rw [o5 228 (by decide), e4, gup_k _ hk, e28]
    have rest : ∀ x, 4 ≤ x → x ≠ 9 → x ≠ 228 → x ≠ 229 → M5 x = M x := fun x a b d e => by rw [all x d e, g1 x (by omega), f2 x b]
    have c13 : M5 1 3 = M 1 3 + 1 := by rw [all 1 (by decide) (by decide), g5, f2 1 (by decide)]
    have net : NetRel M5 1 0 := by
      refine old.move (k28 2 (by decide)) ?_ ?_ ?_ (fun k a b => ?_) (fun k a b => ?_) (fun k a b => ?_)
      · rw [all 1 (by decide) (by decide), g2, f2 _ (by omega)]
      · rw [all 1 (by decide) (by decide), g3, f2 _ (by omega)]
      · rw [all 1 (by decide) (by decide), g4, f2 _ (by omega)]
      · rw [all (1 + 1) (by decide) (by decide), g6 k a b, f2 _ (by omega)]
      · rw [all (1 + 2) (by decide) (by decide), g7 k a b, f2 _ (by omega)]
      · rw [r1 k a b, ← p1]
    have past : PastRel M5 := by
      have q0 : M5 9 0 = M 9 0 - 1 := by rw [all 9 (by decide) (by decide), s3]
      have q1 : M5 9 1 = g := by rw [all 9 (by decide) (by decide), g1 9 (by omega), t2]
      refine ⟨by rw [q0, u5, p1], by omega, by omega, by omega, by omega, fun i i0 i1 => ?_⟩
      rw [q0, q1]
      have ei : (g + 8 - (M 9 0 - 1) + i) % 8 = (M 9 1 + 8 - M 9 0 + i) % 8 := by omega
      rw [ei]
      exact (p6 i i0 (by omega)).stay (k28 2 (by decide)) (fun x a b => rest x (by omega) (by omega) (by omega) (by omega)) (fun k a b => r2 _ (by omega))
    exact hk M5 ⟨h.1.act (k28 2 (by decide)) net past (fun c hc => rest c (by omega) (by omega) (by omega) (by omega)) (k28 6 (by decide)) (fun k a b => r2 k (by omega)) (ver_act h.1.2.2.2.2.2.2.1 (by omega) (by rw [rest 4 (by omega) (by omega) (by omega) (by omega)]) (fun i a b => by rw [rest _ (by omega) (by omega) (by omega) (by omega)]; omega) (fun c a b => rest c (by omega) (by omega) (by omega) (by omega))), h.2.1.stale (by rw [rest 195 (by omega) (by omega) (by omega) (by omega)]) (by omega), h.2.2.stale (by rw [rest 209 (by omega) (by omega) (by omega) (by omega)]) (by omega)⟩
  · unfold wX10_undo
    exact ⟨fun e => absurd (by rw [← p1]; exact c) e, fun _ => hk M h.later⟩
/-- a note is copied -/
def NC (M : gMem) (q : Int) (M' : gMem) (q' : Int) : Prop := M' q' 0 = M q 0 ∧ M' q' 1 = M q 1 ∧ (∀ i, 0 ≤ i → i < 3 → M' (q' + 1) i = M (q + 1) i ∧ M' (q' + 2) i = M (q + 2) i) ∧ ∀ w, 0 ≤ w → w < 12 → M' (q' + 3) w = M (q + 3) w
theorem p_copyNotes {a b : Int} {K : gMem → Prop} {M : gMem} (hab : a + 49 ≤ b ∨ b + 49 ≤ a) (hw : ∀ v, 0 ≤ v → v < 12 → M (a + 1 + 4 * v) 0 = 0 ∨ M (a + 1 + 4 * v) 0 = 1) (hK : ∀ M', (∀ x, x ≤ b ∨ b + 49 ≤ x → M' x = M x) → (∀ v, 0 ≤ v → v < 12 → NC M (a + 1 + 4 * v) M' (b + 1 + 4 * v)) → K M') : wX9_copyNotes a b K M := by
  unfold wX9_copyNotes
  refine ⟨fun v M' => 0 ≤ v ∧ v ≤ 12 ∧ (∀ x, x ≤ b ∨ b + 49 ≤ x → M' x = M x) ∧ (∀ y, 0 ≤ y → y < v → NC M (a + 1 + 4 * y) M' (b + 1 + 4 * y)), fun v _ => 12 - v, ⟨by omega, by omega, fun _ _ => rfl, fun y p q => by omega⟩, ?_⟩
  intro v M1 ⟨v0, v1, g1, g2⟩
  dsimp only
  refine ⟨by omega, fun q => hK M1 g1 (fun y p r => g2 y p (by omega)), fun q => ⟨⟨by omega, by omega⟩, ⟨by omega, by omega⟩, ?_⟩⟩
  refine p_copyNote (by omega) (by rw [g1 _ (by omega)]; exact hw v v0 (by omega)) (fun M2 k1 k2 k3 k4 k5 => ⟨⟨by omega, by omega⟩, ⟨by omega, by omega, fun x hx => by rw [k1 x (by omega), g1 x hx], fun y p r => ?_⟩, by omega⟩)
  by_cases e : y = v
  · subst e
    refine ⟨by rw [k2, g1 _ (by omega)], by rw [k3, g1 _ (by omega)], fun i i0 i1 => ?_, fun w w0 w1 => ?_⟩
    · rw [(k4 i i0 i1).1, (k4 i i0 i1).2, g1 _ (by omega), g1 _ (by omega)]; exact ⟨rfl, rfl⟩
    · rw [k5 w w0 w1, g1 _ (by omega)]
  · have o := g2 y p (by omega)
    refine ⟨by rw [k1 _ (by omega)]; exact o.1, by rw [k1 _ (by omega)]; exact o.2.1, fun i i0 i1 => ?_, fun w w0 w1 => ?_⟩
    · rw [k1 _ (by omega), k1 _ (by omega)]; exact o.2.2.1 i i0 i1
    · rw [k1 _ (by omega)]; exact o.2.2.2 w w0 w1
theorem p_writtenNotes0 {n : Int} {K : Int → gMem → Prop} {M : gMem} (e0 : M 1 0 = n) (hn : 0 ≤ n ∧ n ≤ 12) (hK : K (cnt (fun v => decide (M (36 + 4 * v) 0 ≠ 0)) n.toNat) M) : wX9_writtenNotes 0 K M := by
  unfold wX9_writtenNotes
  simp only [Int.reduceAdd]
  refine ⟨fun f v M' => M' = M ∧ 0 ≤ v ∧ v ≤ n ∧ f = cnt (fun v => decide (M (36 + 4 * v) 0 ≠ 0)) v.toNat, fun f v _ => n - v, ⟨rfl, by omega, by omega, rfl⟩, ?_⟩
  intro f v M1 ⟨e1, v0, v1, hf⟩
  subst e1
  dsimp only
  rw [e0]
  have hs := cnt_sI (fun v => decide (M1 (36 + 4 * v) 0 ≠ 0)) v v0
  have hb := cnt_bI (fun v => decide (M1 (36 + 4 * v) 0 ≠ 0)) v v0
  rw [← hf] at hs hb
  refine ⟨by omega, fun q => ?_, fun q => ⟨⟨by omega, by omega⟩, ?_⟩⟩
  · have : v = n := by omega
    rw [hf, this]; exact hK
  · refine gK1_r ⟨fun a => ⟨⟨by omega, by omega⟩, ⟨rfl, by omega, by omega, ?_⟩, by omega⟩, fun a => ⟨⟨by omega, by omega⟩, ⟨by omega, by omega⟩, ⟨rfl, by omega, by omega, ?_⟩, by omega⟩⟩
    · rw [hs, if_neg (by simp only [decide_eq_true_eq]; omega)]; omega
    · rw [hs, if_pos (by simp only [decide_eq_true_eq]; exact a)]
theorem p_written0 {n : Int} {K : Int → gMem → Prop} {M : gMem} (e0 : M 228 2 = n) (hn : 0 ≤ n ∧ n ≤ 12) (hK : K (cnt (fun v => decide (M 230 (20 * v) = 1)) n.toNat) M) : wX10_written 228 K M := by
  unfold wX10_written
  refine ⟨fun f v M' => M' = M ∧ 0 ≤ v ∧ v ≤ n ∧ f = cnt (fun v => decide (M 230 (20 * v) = 1)) v.toNat, fun f v _ => n - v, ⟨rfl, by omega, by omega, rfl⟩, ?_⟩
  intro f v M1 ⟨e1, v0, v1, hf⟩
  subst e1
  dsimp only
  rw [e0]
  have hs := cnt_sI (fun v => decide (M1 230 (20 * v) = 1)) v v0
  have hb := cnt_bI (fun v => decide (M1 230 (20 * v) = 1)) v v0
  rw [← hf] at hs hb
  refine ⟨by omega, fun q => ?_, fun q => ?_⟩
  · have : v = n := by omega
    rw [hf, this]; exact hK
  · unfold wX10_isWritten
    simp only [Int.reduceAdd]
    refine ⟨⟨by omega, by omega⟩, ⟨by omega, by omega⟩, gK1_r ⟨fun a => ⟨Or.inl rfl, gK1_r ⟨fun _ => ⟨⟨by omega, by omega⟩, fun x ex => ⟨⟨by omega, by omega⟩, ⟨rfl, by omega, by omega, ?_⟩, by omega⟩⟩, fun e => absurd rfl e⟩⟩, fun a => ⟨Or.inr rfl, gK1_r ⟨fun e => absurd e (by decide), fun _ => ⟨⟨by omega, by omega⟩, fun x ex => ⟨⟨by omega, by omega⟩, ⟨rfl, by omega, by omega, ?_⟩, by omega⟩⟩⟩⟩⟩⟩
    · rw [hs, if_neg (by simp only [decide_eq_true_eq]; exact a)]; omega
    · rw [hs, if_pos (by simp only [decide_eq_true_eq]; exact a)]; omega
theorem SlotRel.stay2 {M M' : gMem} {k : Int} (h : SlotRel M k) (h0 : M' 228 2 = M 228 2) (h1 : ∀ c, 89 + 53 * k ≤ c → c < 142 + 53 * k → M' c = M c) (h2 : M' 231 k = M 231 k) (h3 : ∀ j, 0 ≤ j → j < 157 → M' 229 (1413 + 157 * k + j) = M 229 (1413 + 157 * k + j)) (h4 : ∀ j, 0 ≤ j → j < 240 → M' 230 (240 + 240 * k + j) = M 230 (240 + 240 * k + j)) : SlotRel M' k := by
  obtain ⟨a, b, c⟩ := h
  unfold SlotRel
  rw [h1 (89 + 53 * k) (by omega) (by omega), h2]
  refine ⟨a, b, fun e => ⟨(c e).1.stay h0 (fun x p q => h1 x (by omega) (by omega)) h3, fun v p q => ((c e).2 v p q).stay h0 (fun x r s => h1 x (by omega) (by omega)) (fun j r s => ?_)⟩⟩
  have := h4 (20 * v + j) (by omega) (by omega)
  rw [show 240 + 240 * k + (20 * v + j) = 240 + 240 * k + 20 * v + j by omega] at this
  exact this
theorem NoteRel.nc {M Mx M' : gMem} {q o q' o' : Int} (h : NoteRel M q o) (h0 : M' 228 2 = M 228 2) (hc : NC M q Mx q') (hx : ∀ c, q' ≤ c → c < q' + 4 → M' c = Mx c) (h5 : ∀ k, 0 ≤ k → k < 20 → M' 230 (o' + k) = M 230 (o + k)) : NoteRel M' q' o' := by
  refine h.move h0 ?_ ?_ (fun i a b => ?_) (fun w a b => ?_) h5
  · rw [hx _ (by omega) (by omega)]; exact hc.1
  · rw [hx _ (by omega) (by omega)]; exact hc.2.1
  · rw [hx _ (by omega) (by omega), hx _ (by omega) (by omega)]; exact hc.2.2.1 i a b
  · rw [hx _ (by omega) (by omega)]; exact hc.2.2.2 w a b
theorem cnt_wr {M' : gMem} (h : ∀ v, 0 ≤ v → v < 12 → NoteRel M' (36 + 4 * v) (20 * v)) (n : Int) (hn : n ≤ 12) : cnt (fun v => decide (M' (36 + 4 * v) 0 ≠ 0)) n.toNat = cnt (fun v => decide (M' 230 (20 * v) = 1)) n.toNat :=
  cnt_cong n.toNat (fun i hi => by
    have := h (i : Int) (by omega) (by omega)
    have a := this.1
    have b := this.2.1
    by_cases g : M' (36 + 4 * (i : Int)) 0 = 0
    · rw [decide_eq_false (by omega), decide_eq_false (by omega)]
    · rw [decide_eq_true (by omega), decide_eq_true (by omega)])
theorem c_keep {t k : Int} {K1 : Int → gMem → Prop} {M : gMem} (h : Inv t M) (ht : 0 ≤ t ∧ t ≤ 512) (hK : ∀ r M1, Ag t (wX10_keep 228 k) r M1 → K1 r M1) : wX9_keep 0 k K1 M := by
  unfold wX9_keep
  simp only [Int.reduceAdd]
  have hn := h.1.1
  have e0 : M 1 0 = nN M := h.1.2.1.1
  have bad : ¬ (0 ≤ k ∧ k ≤ 1) → K1 (-3) M := by
    intro b
    refine hK _ _ (fun K2 hk => ?_)
    unfold wX10_keep
    exact p_inI (fun p => absurd p b) (fun _ => ⟨fun e => absurd rfl e, fun _ => hk M h.later⟩)
  refine gK0_r ⟨fun a => bad (by omega), fun a => ⟨fun b => ⟨⟨by omega, by omega⟩, fun M1 e1 => ⟨⟨by omega, by omega⟩, ?_⟩⟩, fun b => bad (by omega)⟩⟩
  have f1 : ∀ x, x ≠ 89 + 53 * k → M1 x = M x := fun x hx => by rw [e1, gup_c _ hx]
  have ver := h.1.2.2.2.2.2.2.1.2.2.2 k (by omega) (by omega)
  have e90 : M1 (89 + 53 * k + 1) = M (90 + 53 * k) := by rw [show 89 + 53 * k + 1 = 90 + 53 * k by omega]; exact f1 _ (by omega)
  refine p_copyNet (by omega) (by rw [e90]; omega) (fun M2 g1 g2 g3 g4 g5 g6 g7 => ⟨⟨by omega, by omega⟩, ?_⟩)
  have f2 : ∀ x, x ≠ 89 + 53 * k → x < 90 + 53 * k ∨ 93 + 53 * k ≤ x → M2 x = M x := fun x a b => by rw [g1 x (by omega), f1 x a]
  refine p_copyNotes (by omega) (fun v v0 v1 => by rw [f2 _ (by omega) (by omega)]; exact (h.1.2.2.1 v v0 v1).1) (fun M3 k1 k2 => ?_)
  have f3 : ∀ x, x < 89 + 53 * k ∨ 142 + 53 * k ≤ x → M3 x = M x := fun x hx => by rw [k1 x (by omega), f2 x (by omega) (by omega)]
  have ev : ∀ v, 0 ≤ v → v < 12 → M3 (36 + 4 * v) = M (36 + 4 * v) := fun v a b => f3 _ (by omega)
  refine p_writtenNotes0 (n := nN M) (by rw [f3 1 (by omega)]; exact e0) (by omega) (hK _ _ (fun K2 hk => ?_))
  have cn : cnt (fun v => decide (M3 (36 + 4 * v) 0 ≠ 0)) (nN M).toNat = cnt (fun v => decide (M 230 (20 * v) = 1)) (nN M).toNat := by
    rw [← cnt_wr h.1.2.2.1 (nN M) hn.2]
    exact cnt_cong _ (fun i hi => by rw [ev (i : Int) (by omega) (by omega)])
  rw [cn] at hk
  have e29 : M3 229 = M 229 := f3 229 (by omega)
  have e30 : M3 230 = M 230 := f3 230 (by omega)
  unfold wX10_keep
  simp only [Int.reduceAdd]
  refine p_inI (fun _ => ⟨fun _ => ⟨⟨by omega, by omega⟩, ⟨by omega, by omega⟩, p_copyRow (by omega) (by omega) (by omega) (fun M4 o4 r1 r2 => ?_)⟩, fun e => absurd e (by decide)⟩) (fun p => absurd (show _ by omega) p)
  rw [e29] at r1 r2
  refine ⟨fun i M' => 0 ≤ i ∧ i ≤ 240 ∧ Only 230 M4 M' ∧ (∀ j, 0 ≤ j → j < i → M' 230 (240 + 240 * k + j) = M 230 j) ∧ (∀ j, j < 240 + 240 * k ∨ 480 + 240 * k ≤ j → M' 230 j = M 230 j), fun i _ => 240 - i, ⟨by omega, by omega, Only.rf, fun j a b => by omega, fun j _ => by rw [o4 230 (by decide), e30]⟩, ?_⟩
  intro i M5 ⟨i0, i1, o5, n1, n2⟩
  dsimp only
  refine ⟨by omega, fun q => ⟨⟨by omega, by omega⟩, fun M6 e6 => ?_⟩, fun q => ⟨⟨by omega, by omega⟩, ⟨by omega, by omega⟩, ⟨by omega, by omega⟩, ⟨by omega, by omega⟩, ⟨by omega, by omega⟩, fun M6 e6 => ⟨⟨by omega, by omega⟩, ⟨by omega, by omega, by rw [e6]; exact o5.up, fun j a b => ?_, fun j a => ?_⟩, by omega⟩⟩⟩
  · have ei : i = 240 := by omega
    subst ei
    have all : ∀ x, x ≠ 229 → x ≠ 230 → x ≠ 231 → M6 x = M3 x := fun x a b c => by rw [e6, gup_c _ c, o5 x b, o4 x a]
    have e28 : M6 228 = M 228 := by rw [all 228 (by decide) (by decide) (by decide), f3 228 (by omega)]
    have e629 : M6 229 = M4 229 := by rw [e6, gup_c _ (by decide), o5 229 (by decide)]
    have e630 : M6 230 = M5 230 := by rw [e6, gup_c _ (by decide)]
    have rest : ∀ x, x < 89 + 53 * k ∨ (142 + 53 * k ≤ x ∧ x < 229) ∨ 232 ≤ x → M6 x = M x := fun x hx => by rw [all x (by omega) (by omega) (by omega), f3 x (by omega)]
    refine p_written0 (n := nN M) (by rw [e28]) (by omega) ?_
    have cn2 : cnt (fun v => decide (M6 230 (20 * v) = 1)) (nN M).toNat = cnt (fun v => decide (M 230 (20 * v) = 1)) (nN M).toNat := cnt_cong _ (fun i hi => by rw [e630, n2 (20 * (i : Int)) (by omega)])
    rw [cn2]
    refine hk M6 ?_
    obtain ⟨⟨j1, j2, j3, j4, j5, j6, j7, j8⟩, f, th⟩ := h
    have hn2 : M6 228 2 = M 228 2 := by rw [e28]
    have row : ∀ j, j < 1413 → M6 229 j = M 229 j := fun j hj => by rw [e629, r2 j (by omega)]
    have slot : SlotRel M6 k := by
      have fl : M6 (89 + 53 * k) 0 = 1 := by rw [all _ (by omega) (by omega) (by omega), k1 _ (by omega), g1 _ (by omega), e1, gup_s]
      refine ⟨Or.inr fl, by rw [fl, e6, gup_s], fun _ => ⟨?_, fun v v0 v1 => ?_⟩⟩
      · refine j2.move hn2 ?_ ?_ ?_ (fun x a b => ?_) (fun x a b => ?_) (fun x a b => ?_)
        · rw [all _ (by omega) (by omega) (by omega), k1 _ (by omega), show 90 + 53 * k = 89 + 53 * k + 1 by omega, g2, f1 1 (by omega)]
        · rw [all _ (by omega) (by omega) (by omega), k1 _ (by omega), show 90 + 53 * k = 89 + 53 * k + 1 by omega, g3, f1 1 (by omega)]
        · rw [all _ (by omega) (by omega) (by omega), k1 _ (by omega), show 90 + 53 * k = 89 + 53 * k + 1 by omega, g4, f1 1 (by omega)]
        · rw [all _ (by omega) (by omega) (by omega), k1 _ (by omega), show 90 + 53 * k + 1 = 89 + 53 * k + 1 + 1 by omega, g6 x a b, f1 _ (by omega)]
        · rw [all _ (by omega) (by omega) (by omega), k1 _ (by omega), show 90 + 53 * k + 2 = 89 + 53 * k + 1 + 2 by omega, g7 x a b, f1 _ (by omega)]
        · rw [e629, r1 x a b]
      · have nc := k2 v v0 v1
        rw [show 35 + 1 + 4 * v = 36 + 4 * v by omega, show 89 + 53 * k + 4 + 1 + 4 * v = 94 + 53 * k + 4 * v by omega] at nc
        have nc2 : NC M (36 + 4 * v) M3 (94 + 53 * k + 4 * v) := by
          unfold NC at nc ⊢
          rw [f2 (36 + 4 * v) (by omega) (by omega), f2 (36 + 4 * v + 1) (by omega) (by omega), f2 (36 + 4 * v + 2) (by omega) (by omega), f2 (36 + 4 * v + 3) (by omega) (by omega)] at nc
          exact nc
        refine (j3 v v0 v1).nc hn2 nc2 (fun c a b => all c (by omega) (by omega) (by omega)) (fun x a b => ?_)
        have := n1 (20 * v + x) (by omega) (by omega)
        rw [show 240 + 240 * k + (20 * v + x) = 240 + 240 * k + 20 * v + x by omega] at this
        rw [e630]; exact this
    refine ⟨⟨?_, j2.stay hn2 (fun x a b => rest x (by omega)) (fun j a b => row _ (by omega)), fun v a b => (j3 v a b).stay hn2 (fun c a b => rest c (by omega)) (fun j a b => by rw [e630, n2 _ (by omega)]), j4.stay (by rw [rest 7 (by omega)]) (by rw [e28]) (rest 8 (by omega)) (rest 232 (by omega)), j5.stay hn2 (fun c a b => rest c (by omega)) (by rw [e28]) (fun j a b => row j (by omega)), fun x a b => ?_, ?_, fun j a => by rw [rest 235 (by omega)]; exact j8 j a⟩, f.row j1.2 (by rw [rest 1 (by omega)]) (fun c a b => rest c (by omega)) hn2 (fun j a b => row j (by omega)), th.row j1.2 (by rw [rest 1 (by omega)]) (fun c a b => rest c (by omega)) hn2 (fun j a b => row j (by omega))⟩
    · unfold nN at j1 ⊢
      rw [hn2]; exact j1
    · by_cases e : x = k
      · subst e; exact slot
      · refine (j6 x a b).stay2 hn2 (fun c p q => rest c (by omega)) ?_ (fun j p q => ?_) (fun j p q => ?_)
        · rw [e6, gup_k _ e, o5 231 (by decide), o4 231 (by decide), f3 231 (by omega)]
        · rw [e629, r2 _ (by omega)]
        · rw [e630, n2 _ (by omega)]
    · obtain ⟨v1, v2, v3, v4⟩ := j7
      refine ⟨by rw [rest 1 (by omega)]; omega, by rw [rest 4 (by omega)]; omega, fun i a b => ?_, fun x a b => ?_⟩
      · rw [rest _ (by omega)]; have := v3 i a b; omega
      · by_cases e : x = k
        · subst e
          have z : M6 (90 + 53 * x) 3 = M (90 + 53 * x) 3 + 1 := by rw [all _ (by omega) (by omega) (by omega), k1 _ (by omega), show 90 + 53 * x = 89 + 53 * x + 1 by omega, g5, e90, show 90 + 53 * x = 89 + 53 * x + 1 by omega]
          omega
        · rw [rest _ (by omega)]; have := v4 x a b; omega
  · by_cases e : j = i
    · rw [e, e6, gup_s]; exact n2 _ (by omega)
    · rw [e6, gup_k _ (by omega)]; exact n1 j a (by omega)
  · rw [e6, gup_k _ (by omega)]; exact n2 j a
theorem c_back {t k : Int} {K1 : Int → gMem → Prop} {M : gMem} (h : Inv t M) (ht : 0 ≤ t ∧ t ≤ 512) (hK : ∀ r M1, Ag t (wX10_back 228 k) r M1 → K1 r M1) : wX9_back 0 k K1 M := by
  unfold wX9_back
  simp only [Int.reduceAdd]
  have hn := h.1.1
  have e0 : M 1 0 = nN M := h.1.2.1.1
  have bad : ¬ (0 ≤ k ∧ k ≤ 1) → K1 (-3) M := by
    intro b
    refine hK _ _ (fun K2 hk => ?_)
    unfold wX10_back
    exact p_inI (fun p => absurd p b) (fun _ => ⟨fun e => absurd rfl e, fun _ => hk M h.later⟩)
  refine gK0_r ⟨fun a => bad (by omega), fun a => ⟨fun b => ⟨⟨by omega, by omega⟩, fun c => ⟨⟨by omega, by omega⟩, ?_⟩, fun c => hK _ _ (fun K2 hk => ?_)⟩, fun b => bad (by omega)⟩⟩
  · have sl := h.1.2.2.2.2.2.1 k (by omega) (by omega)
    have fl : M (89 + 53 * k) 0 = 1 := by have := sl.1; omega
    obtain ⟨snet, snotes⟩ := sl.2.2 fl
    have ver := h.1.2.2.2.2.2.2.1.1
    refine p_copyNet (by omega) (by omega) (fun M2 g1 g2 g3 g4 g5 g6 g7 => ⟨⟨by omega, by omega⟩, ?_⟩)
    refine p_copyNotes (by omega) (fun v v0 v1 => by rw [g1 _ (by omega), show 89 + 53 * k + 4 + 1 + 4 * v = 94 + 53 * k + 4 * v by omega]; exact (snotes v v0 v1).1) (fun M3 k1 k2 => ?_)
    intro M4 e4
    have f4 : ∀ x, x ≠ 9 → M4 x = M3 x := fun x hx => by rw [e4, gup_c _ hx]
    have f3 : ∀ x, (4 ≤ x ∧ x ≤ 35) ∨ 84 ≤ x → M3 x = M x := fun x hx => by rw [k1 x (by omega), g1 x (by omega)]
    have m10 : M4 1 0 = nN M := by rw [f4 1 (by decide), k1 1 (by omega), g2, show 89 + 53 * k + 1 = 90 + 53 * k by omega]; exact snet.1
    have nc : ∀ v, 0 ≤ v → v < 12 → NC M (94 + 53 * k + 4 * v) M3 (36 + 4 * v) := fun v v0 v1 => by
      have nc := k2 v v0 v1
      rw [show 35 + 1 + 4 * v = 36 + 4 * v by omega, show 89 + 53 * k + 4 + 1 + 4 * v = 94 + 53 * k + 4 * v by omega] at nc
      unfold NC at nc ⊢
      rw [g1 (94 + 53 * k + 4 * v) (by omega), g1 (94 + 53 * k + 4 * v + 1) (by omega), g1 (94 + 53 * k + 4 * v + 2) (by omega), g1 (94 + 53 * k + 4 * v + 3) (by omega)] at nc
      exact nc
    refine p_writtenNotes0 (n := nN M) m10 (by omega) (hK _ _ (fun K2 hk => ?_))
    have e29 : M4 229 = M 229 := by rw [f4 229 (by decide), f3 229 (by omega)]
    have e30 : M4 230 = M 230 := by rw [f4 230 (by decide), f3 230 (by omega)]
    have e31 : M4 231 = M 231 := by rw [f4 231 (by decide), f3 231 (by omega)]
    unfold wX10_back
    simp only [Int.reduceAdd]
    refine p_inI (fun _ => ⟨fun _ => ⟨⟨by omega, by omega⟩, fun _ => ⟨⟨by omega, by omega⟩, ⟨by omega, by omega⟩, p_copyRow (by omega) (by omega) (by omega) (fun M5 o5 r1 r2 => ?_)⟩, fun e => absurd e (by rw [e31, sl.2.1]; omega)⟩, fun e => absurd e (by decide)⟩) (fun p => absurd (show _ by omega) p)
    rw [e29] at r1 r2
    refine ⟨fun i M' => 0 ≤ i ∧ i ≤ 240 ∧ Only 230 M5 M' ∧ (∀ j, 0 ≤ j → j < i → M' 230 j = M 230 (240 + 240 * k + j)) ∧ (∀ j, i ≤ j → M' 230 j = M 230 j), fun i _ => 240 - i, ⟨by omega, by omega, Only.rf, fun j a b => by omega, fun j _ => by rw [o5 230 (by decide), e30]⟩, ?_⟩
    intro i M6 ⟨i0, i1, o6, n1, n2⟩
    dsimp only
    refine ⟨by omega, fun q M7 e7 => ?_, fun q => ⟨⟨by omega, by omega⟩, ⟨by omega, by omega⟩, ⟨by omega, by omega⟩, ⟨by omega, by omega⟩, ⟨by omega, by omega⟩, fun M7 e7 => ⟨⟨by omega, by omega⟩, ⟨by omega, by omega, by rw [e7]; exact o6.up, fun j a b => ?_, fun j a => ?_⟩, by omega⟩⟩⟩
    · have ei : i = 240 := by omega
      subst ei
      have all : ∀ x, x ≠ 228 → x ≠ 229 → x ≠ 230 → M7 x = M4 x := fun x a b c => by rw [e7, gup_c _ a, o6 x c, o5 x b]
      have k28 : ∀ j, j ≠ 1 → M7 228 j = M 228 j := fun j hj => by rw [e7, gup_k _ hj, o6 228 (by decide), o5 228 (by decide), f4 228 (by decide), f3 228 (by omega)]
      have e729 : M7 229 = M5 229 := by rw [e7, gup_c _ (by decide), o6 229 (by decide)]
      have e730 : M7 230 = M6 230 := by rw [e7, gup_c _ (by decide)]
      have rest : ∀ x, (4 ≤ x ∧ x < 9) ∨ (10 ≤ x ∧ x ≤ 35) ∨ (84 ≤ x ∧ x < 228) ∨ 231 ≤ x → M7 x = M x := fun x hx => by rw [all x (by omega) (by omega) (by omega), f4 x (by omega), f3 x (by omega)]
      have hn2 := k28 2 (by decide)
      have notes : ∀ v, 0 ≤ v → v < 12 → NoteRel M7 (36 + 4 * v) (20 * v) := fun v v0 v1 => by
        refine (snotes v v0 v1).nc hn2 (nc v v0 v1) (fun c a b => by rw [all c (by omega) (by omega) (by omega), f4 c (by omega)]) (fun x a b => ?_)
        rw [e730, n1 _ (by omega) (by omega), show 240 + 240 * k + (20 * v + x) = 240 + 240 * k + 20 * v + x by omega]
      have net : NetRel M7 1 0 := by
        refine snet.move hn2 ?_ ?_ ?_ (fun x a b => ?_) (fun x a b => ?_) (fun x a b => ?_)
        · rw [all 1 (by decide) (by decide) (by decide), f4 1 (by decide), k1 1 (by omega), g2, show 89 + 53 * k + 1 = 90 + 53 * k by omega]
        · rw [all 1 (by decide) (by decide) (by decide), f4 1 (by decide), k1 1 (by omega), g3, show 89 + 53 * k + 1 = 90 + 53 * k by omega]
        · rw [all 1 (by decide) (by decide) (by decide), f4 1 (by decide), k1 1 (by omega), g4, show 89 + 53 * k + 1 = 90 + 53 * k by omega]
        · rw [all (1 + 1) (by decide) (by decide) (by decide), f4 (1 + 1) (by decide), k1 (1 + 1) (by omega), g6 x a b, show 89 + 53 * k + 1 + 1 = 90 + 53 * k + 1 by omega]
        · rw [all (1 + 2) (by decide) (by decide) (by decide), f4 (1 + 2) (by decide), k1 (1 + 2) (by omega), g7 x a b, show 89 + 53 * k + 1 + 2 = 90 + 53 * k + 2 by omega]
        · rw [e729, r1 x a b]
      have c13 : M7 1 3 = M 1 3 + 1 := by rw [all 1 (by decide) (by decide) (by decide), f4 1 (by decide), k1 1 (by omega), g5]
      have cn : cnt (fun v => decide (M4 (36 + 4 * v) 0 ≠ 0)) (nN M).toNat = cnt (fun v => decide (M7 230 (20 * v) = 1)) (nN M).toNat := by
        rw [← cnt_wr notes (nN M) hn.2]
        exact cnt_cong _ (fun i hi => by rw [all (36 + 4 * (i : Int)) (by omega) (by omega) (by omega)])
      refine p_written0 (n := nN M) hn2 (by omega) ?_
      rw [← cn]
      refine hk M7 ?_
      obtain ⟨⟨j1, j2, j3, j4, j5, j6, j7, j8⟩, f, th⟩ := h
      have s0 : M7 9 0 = 0 := by rw [all 9 (by decide) (by decide) (by decide), e4, gup_s]
      have s1 : M7 9 1 = M 9 1 := by rw [all 9 (by decide) (by decide) (by decide), e4, gup_k _ (by decide), f3 9 (by omega)]
      have u0 : M7 228 1 = 0 := by rw [e7, gup_s]
      refine ⟨⟨?_, net, notes, j4.stay (by rw [rest 7 (by omega)]) (k28 6 (by decide)) (rest 8 (by omega)) (rest 232 (by omega)), ⟨by rw [s0, u0], by omega, by omega, by rw [s1]; exact j5.2.2.2.1, by rw [s1]; exact j5.2.2.2.2.1, fun i a b => by omega⟩, fun x a b => (j6 x a b).stay ⟨a, b⟩ hn2 (fun c p q => rest c (by omega)) (by rw [rest 231 (by omega)]) (fun j p q => by rw [e729, r2 j (by omega)]) (fun j p q => by rw [e730, n2 j p]), ver_act j7 (by omega) (by rw [rest 4 (by omega)]) (fun i a b => by rw [rest _ (by omega)]; omega) (fun c a b => rest c (by omega)), fun j a => by rw [rest 235 (by omega)]; exact j8 j a⟩, f.stale (by rw [rest 195 (by omega)]) (by omega), th.stale (by rw [rest 209 (by omega)]) (by omega)⟩
      unfold nN at j1 ⊢
      rw [hn2]; exact j1
    · by_cases e : j = i
      · rw [e, e7, gup_s]; exact n2 _ (by omega)
      · rw [e7, gup_k _ (by omega)]; exact n1 j a (by omega)
    · rw [e7, gup_k _ (by omega)]; exact n2 j (by omega)
  · have sl := h.1.2.2.2.2.2.1 k (by omega) (by omega)
    unfold wX10_back
    simp only [Int.reduceAdd]
    exact p_inI (fun _ => ⟨fun _ => ⟨⟨by omega, by omega⟩, fun e => absurd (by rw [sl.2.1]; exact c) e, fun _ => hk M h.later⟩, fun e => absurd e (by decide)⟩) (fun p => absurd (show _ by omega) p)
