/-! THE TEXT, 2: words, numbers -/
def mt (T : Int → Int) (b e w : Int) : Prop := e - b = gsn w ∧ ∀ j, 0 ≤ j → j < gsn w → T (b + j) = gsc w j
theorem p_isWord {T : Int → Int} {n w : Int} {K : Int → gMem → Prop} {M : gMem} (h : TxC T n M) (hb : 0 ≤ M 7 4 ∧ M 7 4 ≤ M 7 5 ∧ M 7 5 ≤ n) (h1 : M 7 3 = 1 → mt T (M 7 4) (M 7 5) w → K 1 M) (h0 : ¬ (M 7 3 = 1 ∧ mt T (M 7 4) (M 7 5) w) → K 0 M) : wX7_isWord 7 w K M := by
  unfold wX7_isWord
  simp only [Int.reduceAdd]
  obtain ⟨x1, x2, x3, x4⟩ := h
  refine gK0_r ⟨fun q => h0 (fun z => q z.1), fun q => ⟨⟨by omega, by omega⟩, fun q2 => ?_, fun q2 => h0 (fun z => q2 z.2.1)⟩⟩
  refine ⟨fun j M' => M' = M ∧ 0 ≤ j ∧ j ≤ gsn w ∧ ∀ i, 0 ≤ i → i < j → T (M 7 4 + i) = gsc w i, fun j _ => gsn w - j, ⟨rfl, by omega, by omega, fun i a b => by omega⟩, ?_⟩
  intro j M1 ⟨e1, j0, j1, hj⟩
  subst e1
  dsimp only
  refine ⟨by omega, fun z => h1 q ⟨q2, fun i p r => hj i p (by omega)⟩, fun z => ⟨⟨by omega, by omega⟩, ⟨by omega, by omega⟩, ⟨by omega, by omega⟩, ?_⟩⟩
  rw [x4 _ (by omega) (by omega)]
  refine ⟨fun y => ⟨⟨by omega, by omega⟩, ⟨rfl, by omega, by omega, fun i p r => ?_⟩, by omega⟩, fun y => h0 (fun g => y (g.2.2 j j0 (by omega)))⟩
  by_cases g : i = j
  · rw [g]; exact y
  · exact hj i p (by omega)
/-- a word as the reference's table has it -/
def wm (T : Int → Int) (b e w : Int) : Prop := (b < e ∧ e - b < 6) ∧ ∀ k, 0 ≤ k → k < 5 → gwl.getD (5 * w + k).toNat 0 = (if b + k < e then T (b + k) else 0)
theorem gsn_v : gsn 0 = 3 ∧ gsn 1 = 4 ∧ gsn 2 = 5 := ⟨rfl, rfl, rfl⟩
theorem gsc_v : (gsc 0 0 = 110 ∧ gsc 0 1 = 101 ∧ gsc 0 2 = 116) ∧ (gsc 1 0 = 108 ∧ gsc 1 1 = 105 ∧ gsc 1 2 = 110 ∧ gsc 1 3 = 107) ∧ (gsc 2 0 = 108 ∧ gsc 2 1 = 101 ∧ gsc 2 2 = 118 ∧ gsc 2 3 = 101 ∧ gsc 2 4 = 108) := by decide
theorem wm_nz {T : Int → Int} {b e k c : Int} (h : c = (if b + k < e then T (b + k) else 0)) (hc : c ≠ 0) : b + k < e ∧ T (b + k) = c := by
  by_cases g : b + k < e
  · rw [if_pos g] at h; exact ⟨g, h.symm⟩
  · rw [if_neg g] at h; exact absurd h hc
theorem wm_iff {T : Int → Int} {n b e w : Int} (h : TW T n b e) (hw : 0 ≤ w ∧ w ≤ 2) : wm T b e w ↔ (kd T n b = 1 ∧ mt T b e w) := by
  obtain ⟨t0, t1, t2, t3⟩ := h
  have fw : ∀ c, wm T b e w → gwl.getD (5 * w + 0).toNat 0 = c → (97 ≤ c ∧ c ≤ 122) → kd T n b = 1 ∧ ∀ i, b ≤ i → i < e → 97 ≤ T i := by
    intro c hm e0 hc
    have z := hm.2 0 (by decide) (by decide)
    rw [e0] at z
    have y := wm_nz z (by omega)
    rw [Int.add_zero] at y
    have kc := kd_cases T n b
    have lt : b < n := by
      by_cases g : b = n
      · have := t2 g; omega
      · omega
    have kk : kd T n b = 1 := by omega
    refine ⟨kk, fun i p q => ?_⟩
    have := ((t3 lt).2.2.2 (by omega)).1 i p q
    have kci := kd_cases T n i
    omega
  have gs := gsc_v
  have gn := gsn_v
  have hw3 : w = 0 ∨ w = 1 ∨ w = 2 := by omega
  rcases hw3 with e0 | e0 | e0
  · subst e0
    refine ⟨fun hm => ?_, fun hm => ?_⟩
    · have f := fw 110 hm rfl (by decide)
      have y0 := wm_nz (c := 110) (hm.2 0 (by decide) (by decide)) (by decide)
      have y1 := wm_nz (c := 101) (hm.2 1 (by decide) (by decide)) (by decide)
      have y2 := wm_nz (c := 116) (hm.2 2 (by decide) (by decide)) (by decide)
      have y3 : (0 : Int) = (if b + 3 < e then T (b + 3) else 0) := hm.2 3 (by decide) (by decide)
      have y4 : ¬ b + 3 < e := fun g => by rw [if_pos g] at y3; have := f.2 (b + 3) (by omega) g; omega
      refine ⟨f.1, by rw [gn.1]; omega, fun j p q => ?_⟩
      rw [gn.1] at q
      have hj : j = 0 ∨ j = 1 ∨ j = 2 := by omega
      rcases hj with rfl | rfl | rfl
      · rw [gs.1.1]; exact y0.2
      · rw [gs.1.2.1]; exact y1.2
      · rw [gs.1.2.2]; exact y2.2
    · obtain ⟨k1, m1, m2⟩ := hm
      rw [gn.1] at m1 m2
      have z0 := m2 0 (by decide) (by decide)
      have z1 := m2 1 (by decide) (by decide)
      have z2 := m2 2 (by decide) (by decide)
      rw [gs.1.1] at z0
      rw [gs.1.2.1] at z1
      rw [gs.1.2.2] at z2
      refine ⟨by omega, fun k p q => ?_⟩
      have hj : k = 0 ∨ k = 1 ∨ k = 2 ∨ k = 3 ∨ k = 4 := by omega
      rcases hj with rfl | rfl | rfl | rfl | rfl
      · rw [if_pos (by omega), z0]; rfl
      · rw [if_pos (by omega), z1]; rfl
      · rw [if_pos (by omega), z2]; rfl
      · rw [if_neg (by omega)]; rfl
      · rw [if_neg (by omega)]; rfl
  · subst e0
    refine ⟨fun hm => ?_, fun hm => ?_⟩
    · have f := fw 108 hm rfl (by decide)
      have y0 := wm_nz (c := 108) (hm.2 0 (by decide) (by decide)) (by decide)
      have y1 := wm_nz (c := 105) (hm.2 1 (by decide) (by decide)) (by decide)
      have y2 := wm_nz (c := 110) (hm.2 2 (by decide) (by decide)) (by decide)
      have y3 := wm_nz (c := 107) (hm.2 3 (by decide) (by decide)) (by decide)
      have y4 : (0 : Int) = (if b + 4 < e then T (b + 4) else 0) := hm.2 4 (by decide) (by decide)
      have y5 : ¬ b + 4 < e := fun g => by rw [if_pos g] at y4; have := f.2 (b + 4) (by omega) g; omega
      refine ⟨f.1, by rw [gn.2.1]; omega, fun j p q => ?_⟩
      rw [gn.2.1] at q
      have hj : j = 0 ∨ j = 1 ∨ j = 2 ∨ j = 3 := by omega
      rcases hj with rfl | rfl | rfl | rfl
      · rw [gs.2.1.1]; exact y0.2
      · rw [gs.2.1.2.1]; exact y1.2
      · rw [gs.2.1.2.2.1]; exact y2.2
      · rw [gs.2.1.2.2.2]; exact y3.2
    · obtain ⟨k1, m1, m2⟩ := hm
      rw [gn.2.1] at m1 m2
      have z0 := m2 0 (by decide) (by decide)
      have z1 := m2 1 (by decide) (by decide)
      have z2 := m2 2 (by decide) (by decide)
      have z3 := m2 3 (by decide) (by decide)
      rw [gs.2.1.1] at z0
      rw [gs.2.1.2.1] at z1
      rw [gs.2.1.2.2.1] at z2
      rw [gs.2.1.2.2.2] at z3
      refine ⟨by omega, fun k p q => ?_⟩
      have hj : k = 0 ∨ k = 1 ∨ k = 2 ∨ k = 3 ∨ k = 4 := by omega
      rcases hj with rfl | rfl | rfl | rfl | rfl
      · rw [if_pos (by omega), z0]; rfl
      · rw [if_pos (by omega), z1]; rfl
      · rw [if_pos (by omega), z2]; rfl
      · rw [if_pos (by omega), z3]; rfl
      · rw [if_neg (by omega)]; rfl
  · subst e0
    refine ⟨fun hm => ?_, fun hm => ?_⟩
    · have f := fw 108 hm rfl (by decide)
      have y0 := wm_nz (c := 108) (hm.2 0 (by decide) (by decide)) (by decide)
      have y1 := wm_nz (c := 101) (hm.2 1 (by decide) (by decide)) (by decide)
      have y2 := wm_nz (c := 118) (hm.2 2 (by decide) (by decide)) (by decide)
      have y3 := wm_nz (c := 101) (hm.2 3 (by decide) (by decide)) (by decide)
      have y4 := wm_nz (c := 108) (hm.2 4 (by decide) (by decide)) (by decide)
      have l6 := hm.1.2
      refine ⟨f.1, by rw [gn.2.2]; omega, fun j p q => ?_⟩
      rw [gn.2.2] at q
      have hj : j = 0 ∨ j = 1 ∨ j = 2 ∨ j = 3 ∨ j = 4 := by omega
      rcases hj with rfl | rfl | rfl | rfl | rfl
      · rw [gs.2.2.1]; exact y0.2
      · rw [gs.2.2.2.1]; exact y1.2
      · rw [gs.2.2.2.2.1]; exact y2.2
      · rw [gs.2.2.2.2.2.1]; exact y3.2
      · rw [gs.2.2.2.2.2.2]; exact y4.2
    · obtain ⟨k1, m1, m2⟩ := hm
      rw [gn.2.2] at m1 m2
      have z0 := m2 0 (by decide) (by decide)
      have z1 := m2 1 (by decide) (by decide)
      have z2 := m2 2 (by decide) (by decide)
      have z3 := m2 3 (by decide) (by decide)
      have z4 := m2 4 (by decide) (by decide)
      rw [gs.2.2.1] at z0
      rw [gs.2.2.2.1] at z1
      rw [gs.2.2.2.2.1] at z2
      rw [gs.2.2.2.2.2.1] at z3
      rw [gs.2.2.2.2.2.2] at z4
      refine ⟨by omega, fun k p q => ?_⟩
      have hj : k = 0 ∨ k = 1 ∨ k = 2 ∨ k = 3 ∨ k = 4 := by omega
      rcases hj with rfl | rfl | rfl | rfl | rfl
      · rw [if_pos (by omega), z0]; rfl
      · rw [if_pos (by omega), z1]; rfl
      · rw [if_pos (by omega), z2]; rfl
      · rw [if_pos (by omega), z3]; rfl
      · rw [if_pos (by omega), z4]; rfl
/-- which word it is; -1: none -/
noncomputable def wv (T : Int → Int) (n b e : Int) : Int := @ite Int (kd T n b = 1 ∧ mt T b e 0) (Classical.propDecidable _) 0 (@ite Int (kd T n b = 1 ∧ mt T b e 1) (Classical.propDecidable _) 1 (@ite Int (kd T n b = 1 ∧ mt T b e 2) (Classical.propDecidable _) 2 (-1)))
theorem p_wordHere {T : Int → Int} {n : Int} {K : Int → gMem → Prop} {M : gMem} (h : TxM T n M) (hw : ∀ k : Nat, k < 15 → M 235 (k : Int) = gwl.getD k 0) (ht : TW T n (M 228 7) (M 228 8)) (hK : K (wv T n (M 228 7) (M 228 8)) M) : wX10_wordHere 228 K M := by
  obtain ⟨x1, x2, x3, x4⟩ := h
  have tw := ht
  obtain ⟨t0, t1, t2, t3⟩ := ht
  have be : M 228 7 ≤ M 228 8 ∧ M 228 8 ≤ n := by
    by_cases g : M 228 7 = n
    · have := t2 g; omega
    · have := t3 (by omega); omega
  have kw : ∀ w, 0 ≤ w → w ≤ 2 → wm T (M 228 7) (M 228 8) w → (∀ x, 0 ≤ x → x < w → ¬ wm T (M 228 7) (M 228 8) x) → K w M := by
    intro w w0 w2 hm hn
    have hw3 : w = 0 ∨ w = 1 ∨ w = 2 := by omega
    have hm := (wm_iff tw ⟨w0, w2⟩).1 hm
    unfold wv at hK
    rcases hw3 with e | e | e
    · subst e
      rw [if_pos hm] at hK; exact hK
    · subst e
      rw [if_neg (fun z => hn 0 (by decide) (by decide) ((wm_iff tw (by decide)).2 z)), if_pos hm] at hK; exact hK
    · subst e
      rw [if_neg (fun z => hn 0 (by decide) (by decide) ((wm_iff tw (by decide)).2 z)), if_neg (fun z => hn 1 (by decide) (by decide) ((wm_iff tw (by decide)).2 z)), if_pos hm] at hK; exact hK
  have kn : (∀ x, 0 ≤ x → x ≤ 2 → ¬ wm T (M 228 7) (M 228 8) x) → K (-1) M := by
    intro hn
    unfold wv at hK
    rw [if_neg (fun z => hn 0 (by decide) (by decide) ((wm_iff tw (by decide)).2 z)), if_neg (fun z => hn 1 (by decide) (by decide) ((wm_iff tw (by decide)).2 z)), if_neg (fun z => hn 2 (by decide) (by decide) ((wm_iff tw (by decide)).2 z))] at hK
    exact hK
  unfold wX10_wordHere
  simp only [Int.reduceAdd]
  refine ⟨fun w M' => M' = M ∧ 0 ≤ w ∧ w ≤ 3 ∧ ∀ x, 0 ≤ x → x < w → ¬ wm T (M 228 7) (M 228 8) x, fun w _ => 3 - w, ⟨rfl, by omega, by omega, fun x a b => by omega⟩, ?_⟩
  intro w M1 ⟨e1, w0, w1, hno⟩
  subst e1
  dsimp only
  refine ⟨by omega, fun q => kn (fun x p r => hno x p (by omega)), fun q => ?_⟩
  have inner : ∀ x5, (x5 = 1 ∧ M1 228 7 < M1 228 8 ∧ M1 228 8 - M1 228 7 < 6) ∨ (x5 = 0 ∧ ¬ wm T (M1 228 7) (M1 228 8) w) → gL2 (fun rec12 (v9 : Int) (v10 : Int) (M11 : gMem) => gK0 (fun P14 => (5 ≤ v10 → P14 M11) ∧ (¬ (5 : Int) ≤ v10 → (v9 = 0 → P14 M11) ∧ (¬ v9 = 0 → gR (5 * w) ∧ (gR ((5 * w) + v10) ∧ (((0 : Int) ≤ ((5 * w) + v10) ∧ ((5 * w) + v10) < 15) ∧ (gR ((M11 228 7) + v10) ∧ (gK1 (fun P21 => ((M11 228 8) ≤ ((M11 228 7) + v10) → P21 0 M11) ∧ (¬ (M11 228 8) ≤ ((M11 228 7) + v10) → gR ((M11 228 7) + v10) ∧ (((0 : Int) ≤ ((M11 228 7) + v10) ∧ ((M11 228 7) + v10) < 200) ∧ (P21 (M11 232 ((M11 228 7) + v10)) M11)))) (fun (x19 : Int) (M20 : gMem) => gK1 (fun P25 => (¬ (M11 235 ((5 * w) + v10)) = x19 → P25 0 M20) ∧ ((M11 235 ((5 * w) + v10)) = x19 → P25 1 M20)) (fun (x23 : Int) (M24 : gMem) => gR (v10 + 1) ∧ (rec12 x23 (v10 + 1) M24)))))))))) (fun (M13 : gMem) => (v9 = 0 → gR (w + 1) ∧ (M13 = M1 ∧ 0 ≤ w + 1 ∧ w + 1 ≤ 3 ∧ ∀ x, 0 ≤ x → x < w + 1 → ¬ wm T (M1 228 7) (M1 228 8) x) ∧ 3 - (w + 1) < 3 - w) ∧ (¬ v9 = 0 → K w M13))) x5 0 M1 := by
    intro x5 hx
    refine ⟨fun is k M' => M' = M1 ∧ 0 ≤ k ∧ k ≤ 5 ∧ ((is = 1 ∧ (M1 228 7 < M1 228 8 ∧ M1 228 8 - M1 228 7 < 6) ∧ ∀ j, 0 ≤ j → j < k → gwl.getD (5 * w + j).toNat 0 = (if M1 228 7 + j < M1 228 8 then T (M1 228 7 + j) else 0)) ∨ (is = 0 ∧ ¬ wm T (M1 228 7) (M1 228 8) w)), fun _ k _ => 5 - k, ⟨rfl, by omega, by omega, ?_⟩, ?_⟩
    · rcases hx with hx | hx
      · exact Or.inl ⟨hx.1, hx.2, fun j a b => by omega⟩
      · exact Or.inr hx
    · intro is k M2 ⟨e2, k0, k1, hi⟩
      subst e2
      dsimp only
      have no : is = 0 → gR (w + 1) ∧ (M2 = M2 ∧ 0 ≤ w + 1 ∧ w + 1 ≤ 3 ∧ ∀ x, 0 ≤ x → x < w + 1 → ¬ wm T (M2 228 7) (M2 228 8) x) ∧ 3 - (w + 1) < 3 - w := by
        intro z
        refine ⟨⟨by omega, by omega⟩, ⟨rfl, by omega, by omega, fun x p r => ?_⟩, by omega⟩
        by_cases g : x = w
        · rw [g]
          rcases hi with hi | hi
          · omega
          · exact hi.2
        · exact hno x p (by omega)
      refine ⟨by omega, gK0_r ⟨fun z => ⟨no, fun y => kw w w0 (by omega) ?_ hno⟩, fun z => ⟨fun y => ⟨no, fun g => absurd y g⟩, fun y => ⟨⟨by omega, by omega⟩, ⟨by omega, by omega⟩, ⟨by omega, by omega⟩, ⟨by omega, by omega⟩, ?_⟩⟩⟩⟩
      · rcases hi with hi | hi
        · exact ⟨hi.2.1, fun j p r => hi.2.2 j p (by omega)⟩
        · omega
      · have wq : M2 235 (5 * w + k) = gwl.getD (5 * w + k).toNat 0 := by
          have := hw (5 * w + k).toNat (by omega)
          rw [show (((5 * w + k).toNat : Nat) : Int) = 5 * w + k by omega] at this
          exact this
        rw [wq]
        have step : ∀ x19, x19 = (if M2 228 7 + k < M2 228 8 then T (M2 228 7 + k) else 0) → gK1 (fun P25 => (¬ gwl.getD (5 * w + k).toNat 0 = x19 → P25 0 M2) ∧ (gwl.getD (5 * w + k).toNat 0 = x19 → P25 1 M2)) (fun (x23 : Int) (M24 : gMem) => gR (k + 1) ∧ (M24 = M2 ∧ 0 ≤ k + 1 ∧ k + 1 ≤ 5 ∧ ((x23 = 1 ∧ (M2 228 7 < M2 228 8 ∧ M2 228 8 - M2 228 7 < 6) ∧ ∀ j, 0 ≤ j → j < k + 1 → gwl.getD (5 * w + j).toNat 0 = (if M2 228 7 + j < M2 228 8 then T (M2 228 7 + j) else 0)) ∨ (x23 = 0 ∧ ¬ wm T (M2 228 7) (M2 228 8) w))) ∧ 5 - (k + 1) < 5 - k) := by
          intro x19 ex
          refine gK1_r ⟨fun g => ⟨⟨by omega, by omega⟩, ⟨rfl, by omega, by omega, Or.inr ⟨rfl, fun hm => g ?_⟩⟩, by omega⟩, fun g => ⟨⟨by omega, by omega⟩, ⟨rfl, by omega, by omega, Or.inl ⟨rfl, ?_, fun j p r => ?_⟩⟩, by omega⟩⟩
          · rw [ex]; exact hm.2 k k0 (by omega)
          · rcases hi with hi | hi
            · exact hi.2.1
            · omega
          · by_cases gj : j = k
            · rw [gj, g, ex]
            · rcases hi with hi | hi
              · exact hi.2.2 j p (by omega)
              · omega
        refine gK1_r ⟨fun g => step 0 (by rw [if_neg (by omega)]), fun g => ⟨⟨by omega, by omega⟩, ⟨by omega, by omega⟩, step _ ?_⟩⟩
        rw [if_pos (by omega), x4 _ (by omega) (by omega)]
  refine gK1_r (gK0_r ⟨fun a => inner 0 (Or.inr ⟨rfl, fun hm => by have := hm.1; omega⟩), fun a => ⟨⟨by omega, by omega⟩, fun b => inner 0 (Or.inr ⟨rfl, fun hm => by have := hm.1; omega⟩), fun b => inner 1 (Or.inl ⟨rfl, by omega, by omega⟩)⟩⟩)
/-- the number of the digits from b on -/
def vl (T : Int → Int) (b : Int) : Nat → Int
  | 0 => 0
  | k + 1 => 10 * vl T b k + T (b + (k : Int)) - 48
theorem vl_sI (T : Int → Int) (b i : Int) (hi : b ≤ i) : vl T b (i + 1 - b).toNat = 10 * vl T b (i - b).toNat + T i - 48 := by
  rw [show (i + 1 - b).toNat = (i - b).toNat + 1 by omega]
  show 10 * vl T b (i - b).toNat + T (b + (((i - b).toNat : Nat) : Int)) - 48 = _
  rw [show b + (((i - b).toNat : Nat) : Int) = i by omega]
/-- the number that is here; -1: none -/
def nm (T : Int → Int) (n b e : Int) : Int := if kd T n b = 2 ∧ e - b ≤ 2 then vl T b (e - b).toNat else -1
theorem tw_dig {T : Int → Int} {n b e : Int} (h : TW T n b e) (hk : kd T n b = 2) : b < n ∧ b < e ∧ e ≤ n ∧ ∀ i, b ≤ i → i < e → 48 ≤ T i ∧ T i ≤ 57 := by
  obtain ⟨t0, t1, t2, t3⟩ := h
  have kc := kd_cases T n b
  have lt : b < n := by omega
  have t3 := t3 lt
  refine ⟨lt, t3.1, t3.2.1, fun i p q => ?_⟩
  have := (t3.2.2.2 (by omega)).1 i p q
  have kci := kd_cases T n i
  omega
theorem vl_b {T : Int → Int} {b e : Int} (hd : ∀ i, b ≤ i → i < e → 48 ≤ T i ∧ T i ≤ 57) (i : Int) (h0 : b ≤ i) (h1 : i ≤ e) (h2 : i - b ≤ 2) : (0 ≤ vl T b (i - b).toNat ∧ vl T b (i - b).toNat ≤ 99) ∧ (i - b ≤ 1 → vl T b (i - b).toNat ≤ 9) := by
  have z0 : vl T b (b - b).toNat = 0 := by rw [show (b - b).toNat = 0 by omega]; rfl
  have hi : i = b ∨ i = b + 1 ∨ i = b + 2 := by omega
  rcases hi with e0 | e0 | e0
  · rw [e0, z0]; omega
  · have d := hd b (by omega) (by omega)
    have s := vl_sI T b b (by omega)
    rw [e0, s, z0]; omega
  · have d := hd b (by omega) (by omega)
    have d2 := hd (b + 1) (by omega) (by omega)
    have s := vl_sI T b b (by omega)
    have s2 := vl_sI T b (b + 1) (by omega)
    rw [show b + 1 + 1 - b = b + 2 - b by omega] at s2
    rw [e0, s2, s, z0]; omega
theorem nm_b {T : Int → Int} {n b e : Int} (h : TW T n b e) : nm T n b e = -1 ∨ (0 ≤ nm T n b e ∧ nm T n b e ≤ 99) := by
  unfold nm
  by_cases g : kd T n b = 2 ∧ e - b ≤ 2
  · rw [if_pos g]
    have d := tw_dig h g.1
    have := (vl_b d.2.2.2 e (by omega) (by omega) g.2).1
    exact Or.inr this
  · rw [if_neg g]; exact Or.inl rfl
theorem p_number {T : Int → Int} {n lo hi : Int} {K : Int → gMem → Prop} {M : gMem} (h : TxC T n M) (hk : M 7 3 = kd T n (M 7 4)) (ht : TW T n (M 7 4) (M 7 5)) (hlo : 0 ≤ lo) (hK : K (if lo ≤ nm T n (M 7 4) (M 7 5) ∧ nm T n (M 7 4) (M 7 5) ≤ hi then nm T n (M 7 4) (M 7 5) else -1) M) : wX7_number 7 lo hi K M := by
  unfold wX7_number
  simp only [Int.reduceAdd]
  obtain ⟨x1, x2, x3, x4⟩ := h
  have bnd : 0 ≤ M 7 4 ∧ M 7 4 ≤ n ∧ M 7 4 ≤ M 7 5 ∧ M 7 5 ≤ n := by
    obtain ⟨t0, t1, t2, t3⟩ := ht
    by_cases g : M 7 4 = n
    · have := t2 g; omega
    · have := t3 (by omega); omega
  have no : ¬ (kd T n (M 7 4) = 2 ∧ M 7 5 - M 7 4 ≤ 2) → K (-1) M := by
    intro g
    have e : nm T n (M 7 4) (M 7 5) = -1 := by unfold nm; rw [if_neg g]
    rw [e, if_neg (by omega)] at hK
    exact hK
  rw [hk]
  refine gK0_r ⟨fun q => no (fun z => q z.1), fun q => ⟨⟨by omega, by omega⟩, fun q2 => ?_, fun q2 => no (fun z => q2 z.2)⟩⟩
  intro i0 ei0
  have d := tw_dig ht q
  have e : nm T n (M 7 4) (M 7 5) = vl T (M 7 4) (M 7 5 - M 7 4).toNat := by unfold nm; rw [if_pos ⟨q, q2⟩]
  rw [e] at hK
  refine ⟨fun v i M' => M' = M ∧ M 7 4 ≤ i ∧ i ≤ M 7 5 ∧ v = vl T (M 7 4) (i - M 7 4).toNat, fun v i _ => M 7 5 - i, ⟨rfl, by omega, by omega, by rw [ei0, show (M 7 4 - M 7 4).toNat = 0 by omega]; rfl⟩, ?_⟩
  intro v i M1 ⟨e1, a, b, hv⟩
  subst e1
  dsimp only
  have vb := vl_b d.2.2.2 i a b (by omega)
  have vs := vl_sI T (M1 7 4) i a
  rw [← hv] at vb vs
  refine ⟨by omega, fun z => ?_, fun z => ?_⟩
  · have ei : i = M1 7 5 := by omega
    rw [← ei, ← hv] at hK
    refine gK1_r (gK0_r ⟨fun y => ?_, fun y => ⟨fun w => ?_, fun w => ?_⟩⟩)
    · rw [if_neg (by omega)] at hK; exact hK
    · rw [if_neg (by omega)] at hK; exact hK
    · rw [if_pos (by omega)] at hK; exact hK
  · have di := d.2.2.2 i a (by omega)
    rw [x4 i (by omega) (by omega)]
    refine ⟨⟨by omega, by omega⟩, ⟨by omega, by omega⟩, ⟨by omega, by omega⟩, ⟨by omega, by omega⟩, fun y ey => ⟨⟨by omega, by omega⟩, ⟨rfl, by omega, by omega, ?_⟩, by omega⟩⟩
    rw [vs, ey]; omega
theorem p_numberHere {T : Int → Int} {n : Int} {K : Int → gMem → Prop} {M : gMem} (h : TxM T n M) (ht : TW T n (M 228 7) (M 228 8)) (hK : K (nm T n (M 228 7) (M 228 8)) M) : wX10_numberHere 228 K M := by
  unfold wX10_numberHere
  simp only [Int.reduceAdd]
  obtain ⟨x1, x2, x3, x4⟩ := h
  have kc := kd_cases T n (M 228 7)
  have bnd : 0 ≤ M 228 7 ∧ M 228 7 ≤ n ∧ M 228 7 ≤ M 228 8 ∧ M 228 8 ≤ n := by
    obtain ⟨t0, t1, t2, t3⟩ := ht
    by_cases g : M 228 7 = n
    · have := t2 g; omega
    · have := t3 (by omega); omega
  have no : ¬ (kd T n (M 228 7) = 2 ∧ M 228 8 - M 228 7 ≤ 2) → K (-1) M := by
    intro g
    have e : nm T n (M 228 7) (M 228 8) = -1 := by unfold nm; rw [if_neg g]
    rw [e] at hK
    exact hK
  rw [x1]
  refine gK0_r ⟨fun q => no (fun z => by omega), fun q => ⟨⟨by omega, by omega⟩, ?_⟩⟩
  rw [x4 _ (by omega) (by omega)]
  refine p_isDigit (fun dg => ⟨fun e => absurd e (by decide), fun _ => ⟨⟨by omega, by omega⟩, fun q2 => ?_, fun q2 => no (fun z => q2 z.2)⟩⟩) (fun nd => ⟨fun _ => no (fun z => by omega), fun e => absurd rfl e⟩)
  have kk : kd T n (M 228 7) = 2 := by omega
  intro i0 ei0
  have d := tw_dig ht kk
  have e : nm T n (M 228 7) (M 228 8) = vl T (M 228 7) (M 228 8 - M 228 7).toNat := by unfold nm; rw [if_pos ⟨kk, q2⟩]
  rw [e] at hK
  refine ⟨fun v i M' => M' = M ∧ M 228 7 ≤ i ∧ i ≤ M 228 8 ∧ v = vl T (M 228 7) (i - M 228 7).toNat, fun v i _ => M 228 8 - i, ⟨rfl, by omega, by omega, by rw [ei0, show (M 228 7 - M 228 7).toNat = 0 by omega]; rfl⟩, ?_⟩
  intro v i M1 ⟨e1, a, b, hv⟩
  subst e1
  dsimp only
  have vb := vl_b d.2.2.2 i a b (by omega)
  have vs := vl_sI T (M1 228 7) i a
  rw [← hv] at vb vs
  refine ⟨by omega, fun z => ?_, fun z => ?_⟩
  · have ei : i = M1 228 8 := by omega
    rw [← ei, ← hv] at hK
    exact hK
  · have di := d.2.2.2 i a (by omega)
    rw [x4 i (by omega) (by omega)]
    refine ⟨⟨by omega, by omega⟩, ⟨by omega, by omega⟩, ⟨by omega, by omega⟩, ⟨by omega, by omega⟩, fun y ey => ⟨⟨by omega, by omega⟩, ⟨rfl, by omega, by omega, ?_⟩, by omega⟩⟩
    rw [vs, ey]
theorem p_numberM {T : Int → Int} {n k lo hi : Int} {K : Int → gMem → Prop} {M : gMem} (h : TxM T n M) (ht : TW T n (M 228 7) (M 228 8)) (hk : 0 ≤ k ∧ k < 3) (hlo : 0 ≤ lo) (h0 : ¬ (lo ≤ nm T n (M 228 7) (M 228 8) ∧ nm T n (M 228 7) (M 228 8) ≤ hi) → K 0 M)
    (h1 : lo ≤ nm T n (M 228 7) (M 228 8) ∧ nm T n (M 228 7) (M 228 8) ≤ hi → ∀ M', (∀ x, x ≠ 228 → x ≠ 234 → M' x = M x) → (∀ j, j ≠ 7 → j ≠ 8 → M' 228 j = M 228 j) → (∀ j, j ≠ k → M' 234 j = M 234 j) → M' 234 k = nm T n (M 228 7) (M 228 8) → M' 228 7 = (tkn T n (M 228 8)).1 → M' 228 8 = (tkn T n (M 228 8)).2 → TW T n (M' 228 7) (M' 228 8) → K 1 M') : wX10_number 228 k lo hi K M := by
  unfold wX10_number
  simp only [Int.reduceAdd]
  have bnd : 0 ≤ M 228 8 ∧ M 228 8 ≤ n := by
    obtain ⟨t0, t1, t2, t3⟩ := ht
    by_cases g : M 228 7 = n
    · have := t2 g; omega
    · have := t3 (by omega); omega
  refine p_numberHere h ht (gK0_r ⟨fun q => h0 (fun z => by omega), fun q => p_inI (fun p => ⟨fun _ => ⟨⟨by omega, by omega⟩, fun M1 e1 => ?_⟩, fun e => absurd e (by decide)⟩) (fun p => ⟨fun e => absurd rfl e, fun _ => h0 p⟩)⟩)
  have g1 : ∀ x, x ≠ 234 → M1 x = M x := fun x hx => by rw [e1, gup_c _ hx]
  have T1 : TxM T n M1 := ⟨by rw [g1 228 (by decide)]; exact h.1, h.2.1, h.2.2.1, fun i a b => by rw [g1 232 (by decide)]; exact h.2.2.2 i a b⟩
  have e8 : M1 228 = M 228 := g1 228 (by decide)
  refine p_nextToken T1 (by rw [e8]; exact bnd) (fun M2 k1 k2 k3 k4 k5 => h1 p M2 (fun x a b => by rw [k1 x a, g1 x b]) (fun j a b => by rw [k2 j a b, e8]) (fun j a => by rw [k1 234 (by decide), e1, gup_k _ a]) (by rw [k1 234 (by decide), e1, gup_s]) (by rw [k3, e8]) (by rw [k4, e8]) k5)
