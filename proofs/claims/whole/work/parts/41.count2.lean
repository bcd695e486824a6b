/-! CALLS, 8: count -/
def osm (x : Int) : Nat → Int
  | 0 => 0
  | k + 1 => osm x k + (x / gpw (k : Int)) % 2
theorem osm_sI (x w : Int) (hw : 0 ≤ w) : osm x (w + 1).toNat = osm x w.toNat + (x / gpw w) % 2 := by
  rw [show (w + 1).toNat = w.toNat + 1 by omega]
  show osm x w.toNat + (x / gpw ((w.toNat : Nat) : Int)) % 2 = _
  rw [show ((w.toNat : Nat) : Int) = w by omega]
theorem osm_b (x : Int) : ∀ k : Nat, 0 ≤ osm x k ∧ osm x k ≤ k
  | 0 => ⟨Int.le_refl 0, Int.le_refl 0⟩
  | k + 1 => by
    have := osm_b x k
    show 0 ≤ osm x k + (x / gpw (k : Int)) % 2 ∧ osm x k + (x / gpw (k : Int)) % 2 ≤ ((k + 1 : Nat) : Int)
    omega
theorem osm_12 (x : Int) : osm x 12 = gones x := by
  have e : osm x 12 = 0 + (x / 1) % 2 + (x / 2) % 2 + (x / 4) % 2 + (x / 8) % 2 + (x / 16) % 2 + (x / 32) % 2 + (x / 64) % 2 + (x / 128) % 2 + (x / 256) % 2 + (x / 512) % 2 + (x / 1024) % 2 + (x / 2048) % 2 := rfl
  rw [e]
  unfold gones
  omega
theorem gones_b (x : Int) : 0 ≤ gones x ∧ gones x ≤ 12 := by
  have := osm_b x 12
  rw [osm_12] at this
  exact this
theorem p_ones {x : Int} {K : Int → gMem → Prop} {M : gMem} (hx : 0 ≤ x) (hK : K (gones x) M) : wX10_ones x K M := by
  unfold wX10_ones
  refine ⟨fun f k M' => M' = M ∧ 0 ≤ k ∧ k ≤ 12 ∧ f = osm x k.toNat, fun f k _ => 12 - k, ⟨rfl, by omega, by omega, rfl⟩, ?_⟩
  intro f k M1 ⟨e1, k0, k1, hf⟩
  subst e1
  dsimp only
  have hs := osm_sI x k k0
  have hb := osm_b x k.toNat
  rw [← hf] at hs hb
  refine ⟨by omega, fun q => ?_, fun q => ⟨⟨hx, by omega, by omega⟩, ⟨by omega, by omega⟩, fun y ey => ⟨⟨by omega, by omega⟩, ⟨rfl, by omega, by omega, by rw [ey]; exact hs.symm⟩, by omega⟩⟩⟩
  have : k = 12 := by omega
  subst this
  rw [hf, show (12 : Int).toNat = 12 from rfl, osm_12]
  exact hK
/-- nodes in all notes -/
def nin (M : gMem) : Nat → Int
  | 0 => 0
  | k + 1 => nin M k + (if M 230 (20 * (k : Int)) = 1 then gones (M 230 (20 * (k : Int) + 7)) else 0)
theorem nin_sI (M : gMem) (w : Int) (hw : 0 ≤ w) : nin M (w + 1).toNat = nin M w.toNat + (if M 230 (20 * w) = 1 then gones (M 230 (20 * w + 7)) else 0) := by
  rw [show (w + 1).toNat = w.toNat + 1 by omega]
  conv => lhs; unfold nin
  rw [show ((w.toNat : Nat) : Int) = w by omega]
theorem nin_b (M : gMem) : ∀ k : Nat, 0 ≤ nin M k ∧ nin M k ≤ 12 * k
  | 0 => ⟨Int.le_refl 0, Int.le_refl 0⟩
  | k + 1 => by
    have := nin_b M k
    have := gones_b (M 230 (20 * (k : Int) + 7))
    unfold nin
    split <;> omega
theorem note_bunch {t v : Int} {M : gMem} (h : InvA t M) (hv : 0 ≤ v ∧ v < 12) (hw : M (36 + 4 * v) 0 = 1) : 0 ≤ M (36 + 4 * v) 1 ∧ M (36 + 4 * v) 1 < 4096 ∧ M (36 + 4 * v) 1 = M 230 (20 * v + 7) := by
  obtain ⟨a1, a2, a3, a4⟩ := (h.2.2.1 v hv.1 hv.2).2.2 hw
  have := bits_0 (M (36 + 4 * v + 3)) 12
  rw [← a4.2.2] at this
  exact ⟨this.1, this.2, a2⟩
theorem p_nodesInNotes {t : Int} {K : Int → gMem → Prop} {M : gMem} (h : InvA t M) (hK : K (nin M (nN M).toNat) M) : wX9_nodesInNotes 0 K M := by
  unfold wX9_nodesInNotes
  simp only [Int.reduceAdd]
  have hn := h.1
  have e0 : M 1 0 = nN M := h.2.1.1
  refine ⟨fun f v M' => M' = M ∧ 0 ≤ v ∧ v ≤ nN M ∧ f = nin M v.toNat, fun f v _ => nN M - v, ⟨rfl, by omega, by omega, rfl⟩, ?_⟩
  intro f v M1 ⟨e1, v0, v1, hf⟩
  subst e1
  dsimp only
  rw [e0]
  have hs := nin_sI M1 v v0
  have hb := nin_b M1 v.toNat
  rw [← hf] at hs hb
  refine ⟨by omega, fun q => ?_, fun q => ⟨⟨by omega, by omega⟩, ?_⟩⟩
  · have : v = nN M1 := by omega
    rw [hf, this]; exact hK
  · have n1 := h.2.2.1 v v0 (by omega)
    refine gK1_r ⟨fun a => ⟨⟨by omega, by omega⟩, ⟨rfl, by omega, by omega, ?_⟩, by omega⟩, fun a => ?_⟩
    · rw [hs, if_neg (by have := n1.2.1; omega)]; omega
    · have wq : M1 (36 + 4 * v) 0 = 1 := by have := n1.1; omega
      have hb2 := note_bunch h ⟨v0, by omega⟩ wq
      have hg := gones_b (M1 (36 + 4 * v) 1)
      refine ⟨⟨by omega, by omega⟩, ⟨hb2.1, hb2.2.1⟩, ⟨by omega, by omega⟩, fun y ey => ⟨⟨by omega, by omega⟩, ⟨rfl, by omega, by omega, ?_⟩, by omega⟩⟩
      rw [hs, if_pos (by rw [n1.2.1]; exact wq), ey, hb2.2.2]
theorem p_inBunches {t : Int} {K : Int → gMem → Prop} {M : gMem} (h : InvA t M) (hK : K (nin M (nN M).toNat) M) : wX10_inBunches 228 K M := by
  unfold wX10_inBunches
  simp only [Int.reduceAdd]
  have hn := h.1
  refine ⟨fun f v M' => M' = M ∧ 0 ≤ v ∧ v ≤ nN M ∧ f = nin M v.toNat, fun f v _ => nN M - v, ⟨rfl, by omega, by omega, rfl⟩, ?_⟩
  intro f v M1 ⟨e1, v0, v1, hf⟩
  subst e1
  dsimp only
  have e0 : M1 228 2 = nN M1 := rfl
  rw [e0]
  have hs := nin_sI M1 v v0
  have hb := nin_b M1 v.toNat
  rw [← hf] at hs hb
  refine ⟨by omega, fun q => ?_, fun q => ?_⟩
  · have : v = nN M1 := by omega
    rw [hf, this]; exact hK
  · have n1 := h.2.2.1 v v0 (by omega)
    refine p_isWritten h (by omega) (fun a => gK1_r ⟨fun e => absurd e (by decide), fun _ => ?_⟩) (fun a => gK1_r ⟨fun _ => ⟨⟨by omega, by omega⟩, fun y ey => ⟨⟨by omega, by omega⟩, ⟨rfl, by omega, by omega, ?_⟩, by omega⟩⟩, fun e => absurd rfl e⟩)
    · have wq : M1 (36 + 4 * v) 0 = 1 := by rw [← n1.2.1]; exact a
      have hb2 := note_bunch h ⟨v0, by omega⟩ wq
      have hg := gones_b (M1 230 (20 * v + 7))
      refine ⟨⟨by omega, by omega⟩, ⟨by omega, by omega⟩, ⟨by omega, by omega⟩, p_ones (by omega) ⟨⟨by omega, by omega⟩, fun y ey => ⟨⟨by omega, by omega⟩, ⟨rfl, by omega, by omega, ?_⟩, by omega⟩⟩⟩
      rw [hs, if_pos a, ey]
    · rw [hs, if_neg a]; omega
/-- nodes that are the lowest of those they hang together with -/
def isF (M : gMem) (v : Int) : Prop := ∀ y, 0 ≤ y → y < v → dd M y v = -1
noncomputable def isFb (M : gMem) (v : Int) : Bool := @decide (isF M v) (Classical.propDecidable _)
theorem isFb_t {M : gMem} {v : Int} (h : isF M v) : isFb M v = true := @decide_eq_true _ (Classical.propDecidable _) h
theorem isFb_f {M : gMem} {v : Int} (h : ¬ isF M v) : isFb M v = false := @decide_eq_false _ (Classical.propDecidable _) h
theorem isFb_cong {M M' : gMem} (h : Aside M M') : isFb M' = isFb M := by
  funext v
  unfold isFb isF
  rw [dd_cong h]
theorem p_partsC {t : Int} {K : Int → gMem → Prop} {M : gMem} (h : Inv t M) (hK : ∀ M', FarFr 195 M M' → FarOK M' → K (cnt (isFb M) (nN M).toNat) M') : wX9_parts 0 K M := by
  unfold wX9_parts
  simp only [Int.reduceAdd]
  refine p_follow1 h.1 h.2.1 (fun M1 f1 o1 => ?_)
  have A1 := f1.aside
  have h1 := h.q f1.q o1
  have hn := h1.1.1
  have e0 : M1 1 0 = nN M1 := h1.1.2.1.1
  have eN : nN M1 = nN M := A1.2.2.2.1
  have hK := hK M1 f1 o1
  rw [← isFb_cong A1, ← eN] at hK
  refine ⟨fun f v M' => M' = M1 ∧ 0 ≤ v ∧ v ≤ nN M1 ∧ f = cnt (isFb M1) v.toNat, fun f v _ => nN M1 - v, ⟨rfl, by omega, by omega, rfl⟩, ?_⟩
  intro f v M2 ⟨e2, v0, v1, hf⟩
  subst e2
  dsimp only
  rw [e0]
  have hs := cnt_sI (isFb M2) v v0
  have hb := cnt_bI (isFb M2) v v0
  rw [← hf] at hs hb
  refine ⟨by omega, fun q => ?_, fun q => ?_⟩
  · have : v = nN M2 := by omega
    rw [hf, this]; exact hK
  · refine ⟨fun y M' => M' = M2 ∧ 0 ≤ y ∧ y ≤ v ∧ ∀ z, 0 ≤ z → z < y → dd M2 z v = -1, fun y _ => v - y, ⟨rfl, by omega, by omega, fun z a b => by omega⟩, ?_⟩
    intro y M3 ⟨e3, y0, y1, hy⟩
    subst e3
    dsimp only
    refine ⟨by omega, gK0_r ⟨fun a => ?_, fun a => p_btw1 h1.1 o1 (fun q2 => ⟨fun b => ?_, fun b => ⟨⟨by omega, by omega⟩, ⟨rfl, by omega, by omega, fun z c d => ?_⟩, by omega⟩⟩) (fun p => absurd (show _ by omega) p)⟩⟩
    · have ey : y = v := by omega
      refine gK1_r ⟨fun b => absurd ey b, fun _ => ⟨⟨by omega, by omega⟩, ⟨by omega, by omega⟩, ⟨rfl, by omega, by omega, ?_⟩, by omega⟩⟩
      rw [hs, isFb_t (fun z c d => hy z c (by omega))]; simp
    · refine gK1_r ⟨fun c => ⟨⟨by omega, by omega⟩, ⟨rfl, by omega, by omega, ?_⟩, by omega⟩, fun c => absurd c (by omega)⟩
      rw [hs, isFb_f (fun g => b (g y y0 (by omega)))]; simp
    · by_cases g : z = y
      · rw [g]; exact b
      · exact hy z c (by omega)
theorem p_partsM {t : Int} {K : Int → gMem → Prop} {M : gMem} (h : Inv t M) (hO : FarOK M) (hK : ∀ M', MFr M M' → K (cnt (isFb M) (nN M).toNat) M') : wX10_parts 228 K M := by
  unfold wX10_parts
  refine p_finds0 h.1 (fun M1 o1 F1 => ?_)
  have m1 := o1.mfr (by omega)
  have h1 := h.mfr m1
  have A1 := m1.aside
  have hn := h1.1.1
  have eN : nN M1 = nN M := A1.2.2.2.1
  have hO1 : FarOK M1 := hO.cong h.1.1.2 (by rw [m1.1 1 (by omega)]) (fun c a b => m1.1 c (by omega)) m1.2.2.1 (m1.1 229 (by omega))
  have hK := hK M1 m1
  rw [← isFb_cong A1, ← eN] at hK
  refine ⟨fun f v M' => M' = M1 ∧ 0 ≤ v ∧ v ≤ nN M1 ∧ f = cnt (isFb M1) v.toNat, fun f v _ => nN M1 - v, ⟨rfl, by omega, by omega, rfl⟩, ?_⟩
  intro f v M2 ⟨e2, v0, v1, hf⟩
  subst e2
  dsimp only
  have e0 : M2 228 2 = nN M2 := rfl
  rw [e0]
  have hs := cnt_sI (isFb M2) v v0
  have hb := cnt_bI (isFb M2) v v0
  rw [← hf] at hs hb
  refine ⟨by omega, fun q => ?_, fun q => ?_⟩
  · have : v = nN M2 := by omega
    rw [hf, this]; exact hK
  · refine ⟨fun b y M' => M' = M2 ∧ 0 ≤ y ∧ y ≤ v ∧ ((b = 1 ∧ ∀ z, 0 ≤ z → z < y → dd M2 z v = -1) ∨ (b = 0 ∧ ¬ isF M2 v)), fun b y _ => v - y, ⟨rfl, by omega, by omega, Or.inl ⟨rfl, fun z a b => by omega⟩⟩, ?_⟩
    intro b y M3 ⟨e3, y0, y1, hy⟩
    subst e3
    dsimp only
    refine ⟨by omega, fun a => ?_, fun a => ?_⟩
    · refine gK1_r ⟨fun c => ⟨⟨by omega, by omega⟩, fun x ex => ⟨⟨by omega, by omega⟩, ⟨rfl, by omega, by omega, ?_⟩, by omega⟩⟩, fun c => ⟨⟨by omega, by omega⟩, fun x ex => ⟨⟨by omega, by omega⟩, ⟨rfl, by omega, by omega, ?_⟩, by omega⟩⟩⟩
      · rcases hy with hy | hy
        · omega
        · rw [hs, isFb_f hy.2]; simp; omega
      · rcases hy with hy | hy
        · rw [hs, isFb_t (fun z c d => hy.2 z c (by omega))]; simp; omega
        · omega
    · refine gK1_r (gK0_r ⟨fun c => ⟨⟨by omega, by omega⟩, ⟨rfl, by omega, by omega, ?_⟩, by omega⟩, fun c => ?_⟩)
      · rcases hy with hy | hy
        · omega
        · exact Or.inr ⟨rfl, hy.2⟩
      · have hv := F1.val h1.1 (u := v) (v := y) (by omega) (by omega)
        have sy := (dd_all h1.1 hO1 (u := v) (v := y) (by omega) (by omega)).2.1
        refine p_isWay (by omega) (by omega) (fun d => ⟨fun _ => ⟨⟨by omega, by omega⟩, ⟨rfl, by omega, by omega, ?_⟩, by omega⟩, fun e => absurd e (by decide)⟩) (fun d => ⟨fun e => absurd rfl e, fun _ => ⟨⟨by omega, by omega⟩, ⟨rfl, by omega, by omega, ?_⟩, by omega⟩⟩)
        · refine Or.inr ⟨rfl, fun g => ?_⟩
          have := g y y0 (by omega)
          omega
        · rcases hy with hy | hy
          · refine Or.inl ⟨rfl, fun z e1 e2 => ?_⟩
            by_cases g : z = y
            · rw [g]; omega
            · exact hy.2 z e1 (by omega)
          · omega
noncomputable def frb (M : gMem) (v : Int) : Bool := @decide (frs M v) (Classical.propDecidable _)
theorem frb_t {M : gMem} {v : Int} (h : frs M v) : frb M v = true := @decide_eq_true _ (Classical.propDecidable _) h
theorem frb_f {M : gMem} {v : Int} (h : ¬ frs M v) : frb M v = false := @decide_eq_false _ (Classical.propDecidable _) h
theorem frb_cong {M M' : gMem} (h : Aside M M') : frb M' = frb M := by
  funext v
  unfold frb
  rw [frs_cong h]
theorem p_freshNotesC {t : Int} {K : Int → gMem → Prop} {M : gMem} (h : Inv t M) (hK : ∀ M', QFr M M' → FarInv M' → K (cnt (frb M) (nN M).toNat) M') : wX9_freshNotes 0 K M := by
  unfold wX9_freshNotes
  simp only [Int.reduceAdd]
  have hn := h.1.1
  have e0 : M 1 0 = nN M := h.1.2.1.1
  refine ⟨fun f v M' => QFr M M' ∧ FarInv M' ∧ 0 ≤ v ∧ v ≤ nN M ∧ f = cnt (frb M) v.toNat, fun f v _ => nN M - v, ⟨fun _ _ => rfl, h.2.1, by omega, by omega, rfl⟩, ?_⟩
  intro f v M1 ⟨q1, f1, v0, v1, hf⟩
  dsimp only
  rw [q1 1 (by omega), e0]
  have hs := cnt_sI (frb M) v v0
  have hb := cnt_bI (frb M) v v0
  rw [← hf] at hs hb
  have A1 := q1.aside
  have eN : nN M1 = nN M := A1.2.2.2.1
  refine ⟨by omega, fun q => ?_, fun q => ?_⟩
  · have e : v = nN M := by omega
    rw [hf, e]
    exact hK M1 q1 f1
  · refine p_isFreshC (h.1.cong A1) f1 (by omega) (fun M2 r q2 o2 n2 hr => ?_)
    rw [frs_cong A1] at hr
    have f2 : FarInv M2 := o2.inv (by rw [q2 1 (by omega), q1 1 (by omega)]; exact h.1.2.2.2.2.2.2.1.1.1)
    refine gK1_r ⟨fun a => ⟨⟨by omega, by omega⟩, ⟨q1.tr q2, f2, by omega, by omega, ?_⟩, by omega⟩, fun a => ⟨⟨by omega, by omega⟩, ⟨by omega, by omega⟩, ⟨q1.tr q2, f2, by omega, by omega, ?_⟩, by omega⟩⟩
    · rcases hr with hr | hr
      · omega
      · rw [hs, frb_f hr.2]; simp
    · rcases hr with hr | hr
      · rw [hs, frb_t hr.2]; simp
      · omega
theorem p_freshNotesM {t : Int} {K : Int → gMem → Prop} {M : gMem} (h : Inv t M) (hK : ∀ M', MFr M M' → K (cnt (frb M) (nN M).toNat) M') : wX10_freshNotes 228 K M := by
  unfold wX10_freshNotes
  refine p_finds0 h.1 (fun M0 o0 F0 => ?_)
  have m0 := o0.mfr (by omega)
  have hn := h.1.1
  refine ⟨fun f v M' => MFr M M' ∧ mFar M' ∧ 0 ≤ v ∧ v ≤ nN M ∧ f = cnt (frb M) v.toNat, fun f v _ => nN M - v, ⟨m0, F0, by omega, by omega, rfl⟩, ?_⟩
  intro f v M1 ⟨m1, F1, v0, v1, hf⟩
  dsimp only
  have e0 : M1 228 2 = nN M := m1.2.2.1
  rw [e0]
  have hs := cnt_sI (frb M) v v0
  have hb := cnt_bI (frb M) v v0
  rw [← hf] at hs hb
  have A1 := m1.aside
  have eN : nN M1 = nN M := A1.2.2.2.1
  refine ⟨by omega, fun q => ?_, fun q => ?_⟩
  · have e : v = nN M := by omega
    rw [hf, e]
    exact hK M1 m1
  · refine p_isFreshM (h.mfr m1).1 F1 (by omega) (fun M2 r o2 g2 hr => ?_)
    rw [frs_cong A1] at hr
    have m2 := o2.mfr (by omega)
    have F2 : mFar M2 := F1.cong (o2 236 (by decide)) m2.2.2.1 (m2.1 229 (by omega))
    refine gK1_r ⟨fun a => ⟨⟨by omega, by omega⟩, fun x ex => ⟨⟨by omega, by omega⟩, ⟨m1.tr m2, F2, by omega, by omega, ?_⟩, by omega⟩⟩, fun a => ⟨⟨by omega, by omega⟩, fun x ex => ⟨⟨by omega, by omega⟩, ⟨m1.tr m2, F2, by omega, by omega, ?_⟩, by omega⟩⟩⟩
    · rcases hr with hr | hr
      · omega
      · rw [hs, frb_f hr.2]; simp; omega
    · rcases hr with hr | hr
      · rw [hs, frb_t hr.2]; simp; omega
      · omega
theorem Inv.qi {t : Int} {M M' : gMem} (h : Inv t M) (q : QFr M M') (f : FarInv M') : Inv t M' :=
  ⟨h.1.cong q.aside, f, h.2.2.cong h.1.1.2 (by rw [q 1 (by omega)]) (fun c a b => q c (by omega)) (by rw [q 228 (by omega)]) (q 229 (by omega))⟩
theorem c_count {t a : Int} {K1 : Int → gMem → Prop} {M : gMem} (h : Inv t M) (hK : ∀ r M1, Ag t (wX10_count 228 a) r M1 → K1 r M1) : wX9_count 0 a K1 M := by
  unfold wX9_count
  simp only [Int.reduceAdd]
  have hn := h.1.1
  have lvl : 9 ≤ a ∧ a ≤ 11 → gR (a - 9) ∧ wX1_nodesOfLevel 1 (a - 9) (fun (r5 : Int) (M4 : gMem) => K1 r5 M4) M := by
    intro ha
    refine ⟨⟨by omega, by omega⟩, p_nodesOfLevel h.1 (hK _ _ (fun K2 hk => ?_))⟩
    unfold wX10_count
    refine gK0_r ⟨?_, ?_, ?_, ?_, ?_, ?_, ?_, ?_, ?_, ?_, ?_, ?_, ?_⟩ <;> intro e <;> first | (exfalso; omega) | exact ⟨⟨by omega, by omega⟩, p_ofLevel h.1 (hk M h.later)⟩
  refine gK0_r ⟨fun ea => ?_, fun ea => ?_, fun ea => ?_, fun ea => ?_, fun ea => ?_, fun ea => ?_, fun ea => ?_, fun ea => ?_, fun ea => ?_, fun ea => lvl (by omega), fun ea => lvl (by omega), fun ea => lvl (by omega), fun ea => ?_⟩
  · have e0 : M 1 0 = nN M := h.1.2.1.1
    rw [e0]
    refine hK _ _ (fun K2 hk => ?_)
    unfold wX10_count
    refine gK0_r ⟨?_, ?_, ?_, ?_, ?_, ?_, ?_, ?_, ?_, ?_, ?_, ?_, ?_⟩ <;> intro e <;> first | (exfalso; omega) | exact hk M h.later
  · refine hK _ _ (fun K2 hk => ?_)
    unfold wX10_count
    refine gK0_r ⟨?_, ?_, ?_, ?_, ?_, ?_, ?_, ?_, ?_, ?_, ?_, ?_, ?_⟩ <;> intro e <;> first | (exfalso; omega) | exact p_links h.1 (hk M h.later)
  · refine p_partsC h (fun M1 f1 o1 => hK _ _ (fun K2 hk => ?_))
    have h1 := h.q f1.q o1
    have eN : nN M1 = nN M := f1.aside.2.2.2.1
    unfold wX10_count
    refine gK0_r ⟨?_, ?_, ?_, ?_, ?_, ?_, ?_, ?_, ?_, ?_, ?_, ?_, ?_⟩ <;> intro e <;> first | (exfalso; omega) | skip
    refine p_partsM h1 o1 (fun M2 m2 => ?_)
    rw [isFb_cong f1.aside, eN]
    exact hk M2 (h1.mfr m2).later
  · refine p_writtenNotes h.1 (hK _ _ (fun K2 hk => ?_))
    unfold wX10_count
    refine gK0_r ⟨?_, ?_, ?_, ?_, ?_, ?_, ?_, ?_, ?_, ?_, ?_, ?_, ?_⟩ <;> intro e <;> first | (exfalso; omega) | exact p_written h.1 (hk M h.later)
  · refine p_freshNotesC h (fun M1 q1 f1 => hK _ _ (fun K2 hk => ?_))
    have h1 := h.qi q1 f1
    have eN : nN M1 = nN M := q1.aside.2.2.2.1
    unfold wX10_count
    refine gK0_r ⟨?_, ?_, ?_, ?_, ?_, ?_, ?_, ?_, ?_, ?_, ?_, ?_, ?_⟩ <;> intro e <;> first | (exfalso; omega) | skip
    refine p_freshNotesM h1 (fun M2 m2 => ?_)
    rw [frb_cong q1.aside, eN]
    exact hk M2 (h1.mfr m2).later
  · refine p_nodesInNotes h.1 (hK _ _ (fun K2 hk => ?_))
    unfold wX10_count
    refine gK0_r ⟨?_, ?_, ?_, ?_, ?_, ?_, ?_, ?_, ?_, ?_, ?_, ?_, ?_⟩ <;> intro e <;> first | (exfalso; omega) | exact p_inBunches h.1 (hk M h.later)
  · rw [h.1.2.2.2.2.1.1]
    refine hK _ _ (fun K2 hk => ?_)
    unfold wX10_count
    refine gK0_r ⟨?_, ?_, ?_, ?_, ?_, ?_, ?_, ?_, ?_, ?_, ?_, ?_, ?_⟩ <;> intro e <;> first | (exfalso; omega) | exact hk M h.later
  · rw [h.1.2.2.2.1.1]
    refine hK _ _ (fun K2 hk => ?_)
    unfold wX10_count
    refine gK0_r ⟨?_, ?_, ?_, ?_, ?_, ?_, ?_, ?_, ?_, ?_, ?_, ?_, ?_⟩ <;> intro e <;> first | (exfalso; omega) | exact hk M h.later
  · rw [h.1.2.1.2.2.2.1]
    refine hK _ _ (fun K2 hk => ?_)
    unfold wX10_count
    refine gK0_r ⟨?_, ?_, ?_, ?_, ?_, ?_, ?_, ?_, ?_, ?_, ?_, ?_, ?_⟩ <;> intro e <;> first | (exfalso; omega) | exact ⟨⟨by omega, by omega⟩, hk M h.later⟩
  · refine hK _ _ (fun K2 hk => ?_)
    unfold wX10_count
    refine gK0_r ⟨?_, ?_, ?_, ?_, ?_, ?_, ?_, ?_, ?_, ?_, ?_, ?_, ?_⟩ <;> intro e <;> first | (exfalso; omega) | exact hk M h.later
