/-! THINNING, the class, 1: the links in their order -/
def lk (r : Int → Int) (k : Int) : Bool := upr (fun k => decide (0 < r k)) k
theorem lk_iff {r : Int → Int} {k : Int} : lk r k = true ↔ k / 12 < k % 12 ∧ 0 < r k := by
  unfold lk upr
  simp [and_comm]
theorem lk_no {r : Int → Int} {k : Int} : lk r k = false ↔ ¬ (k / 12 < k % 12 ∧ 0 < r k) := by
  rw [← lk_iff]
  simp
def Ord (r o : Int → Int) (j x : Int) : Prop :=
  (∀ i, 0 ≤ i → i < j → 0 ≤ o i ∧ o i < x ∧ o i / 12 < o i % 12 ∧ 0 < r (o i)) ∧
  (∀ i i', 0 ≤ i → i < i' → i' < j → 144 * r (o i) + o i < 144 * r (o i') + o i') ∧
  (∀ k, 0 ≤ k → k < x → k / 12 < k % 12 → 0 < r k → ∃ i, 0 ≤ i ∧ i < j ∧ o i = k) ∧ j = cnt (lk r) x.toNat
theorem Ord.skip {r o : Int → Int} {j x x' : Int} (h : Ord r o j x) (h0 : 0 ≤ x) (hx : x ≤ x') (hno : ∀ k, x ≤ k → k < x' → ¬ (k / 12 < k % 12 ∧ 0 < r k)) : Ord r o j x' := by
  obtain ⟨a, b, c, d⟩ := h
  refine ⟨fun i p q => ?_, b, fun k p q u v => ?_, ?_⟩
  · have := a i p q; omega
  · by_cases e : k < x
    · exact c k p e u v
    · exact absurd ⟨u, v⟩ (hno k (by omega) q)
  · rw [d, cnt_more x.toNat x'.toNat (by omega) (fun i p q => lk_no.2 (hno i (by omega) (by omega)))]
theorem Ord.ins {r o o' : Int → Int} {j x p : Int} (h : Ord r o j x) (h0 : 0 ≤ x) (h1 : x < 144) (hl : x / 12 < x % 12 ∧ 0 < r x) (hp : 0 ≤ p ∧ p ≤ j) (hlo : p = 0 ∨ r (o (p - 1)) ≤ r x) (hhi : ∀ i, p ≤ i → i < j → r x < r (o i))
    (e1 : ∀ i, 0 ≤ i → i < p → o' i = o i) (e2 : o' p = x) (e3 : ∀ i, p ≤ i → i < j → o' (i + 1) = o i) : Ord r o' (j + 1) (x + 1) := by
  obtain ⟨a, b, c, d⟩ := h
  have e3' : ∀ i, p < i → i ≤ j → o' i = o (i - 1) := fun i u v => by
    have := e3 (i - 1) (by omega) (by omega)
    rw [show i - 1 + 1 = i by omega] at this
    exact this
  have lo : ∀ i, 0 ≤ i → i < p → r (o i) ≤ r x := fun i u v => by
    rcases hlo with q | q
    · omega
    · by_cases e : i = p - 1
      · rw [e]; exact q
      · have b1 := b i (p - 1) u (by omega) (by omega)
        have a1 := a i u (by omega)
        have a2 := a (p - 1) (by omega) (by omega)
        omega
  refine ⟨fun i u v => ?_, fun i i' u v w => ?_, fun k u v w z => ?_, ?_⟩
  · by_cases c1 : i < p
    · rw [e1 i u c1]; have := a i u (by omega); omega
    · by_cases c2 : i = p
      · rw [c2, e2]; omega
      · rw [e3' i (by omega) (by omega)]; have := a (i - 1) (by omega) (by omega); omega
  · by_cases c1 : i' < p
    · rw [e1 i' (by omega) c1, e1 i u (by omega)]; exact b i i' u v (by omega)
    · by_cases c2 : i' = p
      · rw [c2, e2, e1 i u (by omega)]
        have := lo i u (by omega)
        have := a i u (by omega)
        omega
      · rw [e3' i' (by omega) (by omega)]
        by_cases c3 : i < p
        · rw [e1 i u c3]; exact b i (i' - 1) u (by omega) (by omega)
        · by_cases c4 : i = p
          · rw [c4, e2]
            have := hhi (i' - 1) (by omega) (by omega)
            have := a (i' - 1) (by omega) (by omega)
            omega
          · rw [e3' i (by omega) (by omega)]; exact b (i - 1) (i' - 1) (by omega) (by omega) (by omega)
  · by_cases e : k < x
    · obtain ⟨i, i0, i1, i2⟩ := c k u e w z
      by_cases c1 : i < p
      · exact ⟨i, i0, by omega, by rw [e1 i i0 c1]; exact i2⟩
      · exact ⟨i + 1, by omega, by omega, by rw [e3 i (by omega) i1]; exact i2⟩
    · have : k = x := by omega
      exact ⟨p, by omega, by omega, by rw [e2]; omega⟩
  · rw [show (x + 1).toNat = x.toNat + 1 by omega, cnt_s, ← d, show ((x.toNat : Nat) : Int) = x by omega, if_pos (lk_iff.2 hl)]
/-- the class's own count of links is that of the pairs -/
theorem row_sym {t : Int} {M : gMem} (h : InvA t M) (k : Int) (h0 : 0 ≤ k) (h1 : k < 144) : M 229 (sw k) = M 229 k := by
  have a := (h.L (k % 12) (k / 12) (by omega) (by omega) (by omega) (by omega)).2.2.1
  unfold mL at a
  rw [show 12 * (k / 12) + k % 12 = k by omega] at a
  exact a
theorem cnt_lk {t : Int} {M : gMem} (h : InvA t M) : cnt (lk (M 229)) 144 = M 1 1 := by
  have a := h.2.1.2.2.2.2.1
  have b := cnt_0 (lk (M 229)) 144
  obtain ⟨N, hN⟩ := Int.eq_ofNat_of_zero_le b
  have c := cnt_half 144 rfl N (fun k => decide (0 < M 229 k)) (fun k x y => by rw [row_sym h k x y]) (fun k x y z => by
    have := (h.row k x y).2.2.1
    simp only [decide_eq_false_iff_not]
    intro q
    exact (this q).2.2 z) hN
  have e : (fun k => decide (0 < M 229 (0 + k))) = (fun k => decide (0 < M 229 k)) := by funext k; rw [Int.zero_add]
  rw [e, c] at a
  rw [hN]
  omega
theorem p_len1 {t u v : Int} {K : Int → gMem → Prop} {M : gMem} (h : InvA t M) (h1 : (0 ≤ u ∧ u < nN M) ∧ 0 ≤ v ∧ v < nN M → K (mL M u v) M) (h2 : ¬ ((0 ≤ u ∧ u < nN M) ∧ 0 ≤ v ∧ v < nN M) → K 0 M) : wX1_lengthOf 1 u v K M := by
  have hn := h.1
  have e : M 1 0 = nN M := h.2.1.1
  refine p_len (by omega) (fun q => ?_) (fun q => h2 (by rw [e] at q; exact q))
  rw [e] at q
  have := h.cLe u v q.1.1 (by omega) q.2.1 (by omega)
  unfold cL at this
  rw [this]
  exact h1 q
def SF (M M' : gMem) : Prop := (∀ c, c ≠ 209 → c ≠ 224 → M' c = M c) ∧ ∀ k, k ≠ 4 → M' 209 k = M 209 k
theorem SF.aside {M M' : gMem} (h : SF M M') : Aside M M' := ⟨fun c h1 h2 => h.1 c (fun e => h1 (by subst e; unfold scr; omega)) (fun e => h1 (by subst e; unfold scr; omega)), by rw [h.1 4 (by omega) (by omega)], by rw [h.1 228 (by omega) (by omega)], by rw [h.1 228 (by omega) (by omega)], by rw [h.1 228 (by omega) (by omega)]⟩
theorem p_insert {s u v : Int} {K : gMem → Prop} {M M0 : gMem} (h : InvA s M) (hS : SF M M0) (hu : 0 ≤ u) (huv : u < v) (hv : v < nN M) (hl : 0 < M 229 (12 * u + v)) (hO : Ord (M 229) (M0 224) (M0 209 4) (12 * u + v)) (hj : M0 209 4 < 30)
    (hK : ∀ M', SF M M' → M' 209 4 = M0 209 4 + 1 → Ord (M 229) (M' 224) (M' 209 4) (12 * u + v + 1) → K M') : wX8_insert 209 1 u v K M0 := by
  unfold wX8_insert
  simp only [Int.reduceAdd]
  have hn := h.1
  have hI0 := h.cong hS.aside
  have en0 : nN M0 = nN M := hS.aside.2.2.2.1
  have j0 : 0 ≤ M0 209 4 := by rw [hO.2.2.2]; exact cnt_0 _ _
  refine p_len1 hI0 (fun q => ?_) (fun q => absurd (show _ by omega) q)
  intro j ej
  have eL : mL M0 u v = M 229 (12 * u + v) := by unfold mL; rw [hS.1 229 (by decide) (by decide)]
  rw [eL]
  refine ⟨fun p M' => 0 ≤ p ∧ p ≤ j ∧ SF M M' ∧ M' 209 = M0 209 ∧ (∀ i, 0 ≤ i → i < p → M' 224 i = M0 224 i) ∧ (∀ i, p ≤ i → i < j → M' 224 (i + 1) = M0 224 i ∧ M 229 (12 * u + v) < M 229 (M0 224 i)), fun p _ => p, ⟨by omega, by omega, hS, rfl, fun _ _ _ => rfl, fun i a b => by omega⟩, ?_⟩
  intro p M1 ⟨p0, p1, hS1, f9, f1, f2⟩
  dsimp only
  have hI1 := h.cong hS1.aside
  have en1 : nN M1 = nN M := hS1.aside.2.2.2.1
  have done : (p = 0 ∨ M 229 (M0 224 (p - 1)) ≤ M 229 (12 * u + v)) → wX9_cell u v (fun (r11 : Int) (M10 : gMem) => ((0 : Int) ≤ p ∧ p < 30) ∧ (∀ M12 : gMem, M12 = gup M10 224 p r11 → (gR ((M12 209 4) + 1) ∧ (∀ M13 : gMem, M13 = gup M12 209 4 ((M12 209 4) + 1) → (K M13))))) M1 := by
    intro hlo
    refine p_cell (by omega) ⟨⟨by omega, by omega⟩, fun M2 e2 => ?_⟩
    have g : M2 209 = M0 209 := by rw [e2, gup_c _ (by decide), f9]
    rw [g]
    refine ⟨⟨by omega, by omega⟩, fun M3 e3 => ?_⟩
    have k4 : M3 209 4 = M0 209 4 + 1 := by rw [e3, gup_s]
    have k5 : M3 224 = M2 224 := by rw [e3, gup_c _ (by decide)]
    refine hK M3 ⟨fun c a b => by rw [e3, gup_c _ a, e2, gup_c _ b, hS1.1 c a b], fun k a => by rw [e3, gup_k _ a, g, hS.2 k a]⟩ k4 ?_
    rw [k4, k5]
    refine hO.ins (p := p) (by omega) (by omega) ⟨by omega, hl⟩ (by omega) hlo (fun i a b => (f2 i a (by omega)).2) (fun i a b => ?_) ?_ (fun i a b => ?_)
    · rw [e2, gup_k _ (by omega)]; exact f1 i a b
    · rw [e2, gup_s]
    · rw [e2, gup_k _ (by omega)]; exact (f2 i a (by omega)).1
  refine ⟨p0, gK0_r ⟨fun q => done (by omega), fun q => ⟨⟨by omega, by omega⟩, ?_⟩⟩⟩
  unfold wX8_lengthAt
  simp only [Int.reduceAdd]
  have g1 : M1 224 (p - 1) = M0 224 (p - 1) := f1 (p - 1) (by omega) (by omega)
  have ho := hO.1 (p - 1) (by omega) (by omega)
  have hr := h.row (M0 224 (p - 1)) ho.1 (by omega)
  have hb := hr.2.2.1 ho.2.2.2
  rw [g1]
  refine ⟨⟨by omega, by omega⟩, ⟨by omega, by omega⟩, ⟨by omega, by omega⟩, ⟨by omega, by omega⟩, p_len1 hI1 (fun q => ?_) (fun q => absurd (show _ by omega) q)⟩
  have eL1 : mL M1 (M0 224 (p - 1) / 12) (M0 224 (p - 1) % 12) = M 229 (M0 224 (p - 1)) := by rw [← hr.2.2.2]; unfold mL; rw [hS1.1 229 (by decide) (by decide)]
  rw [eL1]
  refine ⟨fun a => done (Or.inr a), fun a => ⟨⟨by omega, by omega⟩, ⟨by omega, by omega⟩, ⟨by omega, by omega⟩, fun M2 e2 => ⟨⟨by omega, by omega⟩, ⟨by omega, by omega, ⟨fun c b d => by rw [e2, gup_c _ d, hS1.1 c b d], fun k b => by rw [e2, gup_c _ (by decide), hS1.2 k b]⟩, by rw [e2, gup_c _ (by decide), f9], fun i b c => by rw [e2, gup_k _ (by omega)]; exact f1 i b (by omega), fun i b c => ?_⟩, by omega⟩⟩⟩
  by_cases e : i = p - 1
  · rw [e, show p - 1 + 1 = p by omega, e2, gup_s]; exact ⟨g1, by omega⟩
  · rw [e2, gup_k _ (by omega)]; exact f2 i (by omega) c
theorem p_sortLinks {s : Int} {K : gMem → Prop} {M : gMem} (h : InvA s M) (hK : ∀ M', SF M M' → M' 209 4 ≤ 30 → Ord (M 229) (M' 224) (M' 209 4) 144 → K M') : wX8_sortLinks 209 1 K M := by
  unfold wX8_sortLinks
  have hn := h.1
  have e0 : M 1 0 = nN M := h.2.1.1
  have hc := cnt_lk h
  have h30 : M 1 1 ≤ 30 := h.2.1.2.2.2.2.2.1
  intro M1 e1
  refine ⟨fun u M' => 0 ≤ u ∧ u ≤ nN M ∧ SF M M' ∧ Ord (M 229) (M' 224) (M' 209 4) (12 * u), fun u _ => nN M - u, ⟨by omega, by omega, ⟨fun c a b => by rw [e1, gup_c _ a], fun k a => by rw [e1, gup_k _ a]⟩, ?_⟩, ?_⟩
  · rw [e1, gup_s]
    exact ⟨fun i a b => by omega, fun i i' a b c => by omega, fun k a b => by omega, rfl⟩
  intro u M2 ⟨u0, u1, hS, hO⟩
  dsimp only
  have g0 : M2 1 0 = nN M := by rw [hS.1 1 (by decide) (by decide)]; exact e0
  rw [g0]
  refine ⟨by omega, fun q => ?_, fun q => ⟨⟨by omega, by omega⟩, fun v0 ev => ?_⟩⟩
  · have hO2 := hO.skip (x' := 144) (by omega) (by omega) (fun k a b c => by
      have := (h.row k (by omega) b).2.2.1 c.2
      omega)
    have := hO2.2.2.2
    have e : cnt (lk (M 229)) (144 : Int).toNat = M 1 1 := hc
    exact hK M2 hS (by omega) hO2
  · refine ⟨fun v M' => u < v ∧ v ≤ nN M ∧ SF M M' ∧ Ord (M 229) (M' 224) (M' 209 4) (12 * u + v), fun v _ => nN M - v, ⟨by omega, by omega, hS, hO.skip (by omega) (by omega) (fun k a b c => by omega)⟩, ?_⟩
    intro v M3 ⟨v0', v1, hS3, hO3⟩
    dsimp only
    have g3 : M3 1 0 = nN M := by rw [hS3.1 1 (by decide) (by decide)]; exact e0
    rw [g3]
    have hI3 := h.cong hS3.aside
    have en3 : nN M3 = nN M := hS3.aside.2.2.2.1
    have eL3 : mL M3 u v = M 229 (12 * u + v) := by unfold mL; rw [hS3.1 229 (by decide) (by decide)]
    refine ⟨by omega, fun q2 => ⟨⟨by omega, by omega⟩, ⟨by omega, by omega, hS3, hO3.skip (by omega) (by omega) (fun k a b c => ?_)⟩, by omega⟩, fun q2 => ?_⟩
    · have := (h.row k (by omega) (by omega)).2.2.1 c.2
      omega
    · refine p_len1 hI3 (fun q3 => ?_) (fun q3 => absurd (show _ by omega) q3)
      rw [eL3]
      refine gK0_r ⟨fun a => ⟨⟨by omega, by omega⟩, ⟨by omega, by omega, hS3, ?_⟩, by omega⟩, fun a => ⟨fun b => ?_, fun b => ?_⟩⟩
      · rw [show 12 * u + (v + 1) = 12 * u + v + 1 by omega]
        refine hO3.skip (by omega) (by omega) (fun k b c d => ?_)
        have : k = 12 * u + v := by omega
        rw [this] at d
        omega
      · have j := hO3.2.2.2
        have l1 : lk (M 229) (12 * u + v) = true := lk_iff.2 ⟨by omega, by omega⟩
        have c1 := cnt_s (lk (M 229)) (12 * u + v).toNat
        rw [show (((12 * u + v).toNat : Nat) : Int) = 12 * u + v by omega, if_pos l1] at c1
        have c2 := cnt_up (p := lk (M 229)) ((12 * u + v).toNat + 1) 144 (by omega)
        omega
      · refine p_insert h hS3 u0 (by omega) (by omega) (by omega) hO3 (by omega) (fun M4 a4 b4 c4 => ⟨⟨by omega, by omega⟩, ⟨by omega, by omega, a4, ?_⟩, by omega⟩)
        rw [show 12 * u + (v + 1) = 12 * u + v + 1 by omega]
        exact c4
