/-! THE TEXT, 1: tokens -/
def kd (T : Int → Int) (n p : Int) : Int := if 0 ≤ p ∧ p < n then (if 97 ≤ T p ∧ T p ≤ 122 then 1 else if 48 ≤ T p ∧ T p ≤ 57 then 2 else 3) else 4
theorem kd_cases (T : Int → Int) (n p : Int) : (kd T n p = 1 ∧ (0 ≤ p ∧ p < n) ∧ 97 ≤ T p ∧ T p ≤ 122) ∨ (kd T n p = 2 ∧ (0 ≤ p ∧ p < n) ∧ 48 ≤ T p ∧ T p ≤ 57) ∨ (kd T n p = 3 ∧ (0 ≤ p ∧ p < n) ∧ ¬ (97 ≤ T p ∧ T p ≤ 122) ∧ ¬ (48 ≤ T p ∧ T p ≤ 57)) ∨ (kd T n p = 4 ∧ ¬ (0 ≤ p ∧ p < n)) := by
  unfold kd
  by_cases a : 0 ≤ p ∧ p < n
  · rw [if_pos a]
    by_cases b : 97 ≤ T p ∧ T p ≤ 122
    · rw [if_pos b]; exact Or.inl ⟨rfl, a, b⟩
    · rw [if_neg b]
      by_cases c : 48 ≤ T p ∧ T p ≤ 57
      · rw [if_pos c]; exact Or.inr (Or.inl ⟨rfl, a, c⟩)
      · rw [if_neg c]; exact Or.inr (Or.inr (Or.inl ⟨rfl, a, b, c⟩))
  · rw [if_neg a]; exact Or.inr (Or.inr (Or.inr ⟨rfl, a⟩))
/-- a token from b to e -/
def TW (T : Int → Int) (n b e : Int) : Prop := 0 ≤ b ∧ b ≤ n ∧ (b = n → e = b) ∧ (b < n → b < e ∧ e ≤ n ∧ (kd T n b = 3 → e = b + 1) ∧ (kd T n b ≠ 3 → (∀ i, b ≤ i → i < e → kd T n i = kd T n b) ∧ (e < n → kd T n e ≠ kd T n b)))
/-- the next one from p on -/
def Tok (T : Int → Int) (n p b e : Int) : Prop := p ≤ b ∧ (∀ i, p ≤ i → i < b → T i = 32) ∧ (b < n → T b ≠ 32) ∧ TW T n b e
theorem Tok.uniq {T : Int → Int} {n p b e b' e' : Int} (h : Tok T n p b e) (h' : Tok T n p b' e') : b = b' ∧ e = e' := by
  obtain ⟨a1, a2, a3, a4, a5, a6, a7⟩ := h
  obtain ⟨b1, b2, b3, b4, b5, b6, b7⟩ := h'
  have e1 : b = b' := by
    rcases Int.lt_trichotomy b b' with z | z | z
    · exact absurd (b2 b a1 z) (a3 (by omega))
    · exact z
    · exact absurd (a2 b' b1 z) (b3 (by omega))
  subst e1
  refine ⟨rfl, ?_⟩
  by_cases c : b = n
  · rw [a6 c, b6 c]
  · have x := a7 (by omega)
    have y := b7 (by omega)
    by_cases k : kd T n b = 3
    · rw [x.2.2.1 k, y.2.2.1 k]
    · have x4 := x.2.2.2 k
      have y4 := y.2.2.2 k
      rcases Int.lt_trichotomy e e' with z | z | z
      · exact absurd (y4.1 e (by omega) z) (x4.2 (by omega))
      · exact z
      · exact absurd (x4.1 e' (by omega) z) (y4.2 (by omega))
noncomputable def tkn (T : Int → Int) (n p : Int) : Int × Int := @dite (Int × Int) (∃ x : Int × Int, Tok T n p x.1 x.2) (Classical.propDecidable _) (fun h => Classical.choose h) (fun _ => (0, 0))
theorem tkn_of {T : Int → Int} {n p b e : Int} (h : Tok T n p b e) : tkn T n p = (b, e) := by
  unfold tkn
  have ex : ∃ x : Int × Int, Tok T n p x.1 x.2 := ⟨(b, e), h⟩
  rw [dif_pos ex]
  have := (Classical.choose_spec ex).uniq h
  exact Prod.ext this.1 this.2
/-- the letters of the class, of the reference -/
def TxC (T : Int → Int) (n : Int) (M : gMem) : Prop := M 7 0 = n ∧ 0 ≤ n ∧ n ≤ 200 ∧ ∀ i, 0 ≤ i → i < n → M 8 i = T i
def TxM (T : Int → Int) (n : Int) (M : gMem) : Prop := M 228 6 = n ∧ 0 ≤ n ∧ n ≤ 200 ∧ ∀ i, 0 ≤ i → i < n → M 232 i = T i
theorem p_kindAt {T : Int → Int} {n p : Int} {K : Int → gMem → Prop} {M : gMem} (h : TxC T n M) (hK : K (kd T n p) M) : wX7_kindAt 7 p K M := by
  unfold wX7_kindAt
  simp only [Int.reduceAdd]
  obtain ⟨a, b, c, d⟩ := h
  have kc := kd_cases T n p
  have f : ∀ r, r = kd T n p → K r M := fun r er => by rw [er]; exact hK
  rw [a]
  refine gK0_r ⟨fun q => f 4 (by omega), fun q => ⟨fun q2 => ⟨⟨by omega, by omega⟩, fun x ex => ?_⟩, fun q2 => f 4 (by omega)⟩⟩
  rw [d p (by omega) (by omega)] at ex
  have z : kd T n p = 1 ∨ kd T n p = 2 ∨ kd T n p = 3 := by omega
  refine gK0_r ⟨fun u => ?_, fun u => ⟨fun w => ?_, fun w => f 1 (by omega)⟩⟩
  · exact gK1_r (gK0_r ⟨fun y => f 3 (by omega), fun y => ⟨fun g => f 3 (by omega), fun g => f 2 (by omega)⟩⟩)
  · exact gK1_r (gK0_r ⟨fun y => f 3 (by omega), fun y => ⟨fun g => f 3 (by omega), fun g => f 2 (by omega)⟩⟩)
theorem p_pass {T : Int → Int} {n : Int} {K : gMem → Prop} {M : gMem} (h : TxC T n M) (h5 : 0 ≤ M 7 5 ∧ M 7 5 ≤ n) (hK : ∀ M', (∀ x, x ≠ 7 → M' x = M x) → (∀ k, k < 3 → M' 7 k = M 7 k) → M' 7 4 = (tkn T n (M 7 5)).1 → M' 7 5 = (tkn T n (M 7 5)).2 → M' 7 3 = kd T n (M' 7 4) → TW T n (M' 7 4) (M' 7 5) → K M') : wX7_pass 7 K M := by
  unfold wX7_pass
  simp only [Int.reduceAdd]
  have hK : ∀ M', (∀ x, x ≠ 7 → M' x = M x) → (∀ k, k < 3 → M' 7 k = M 7 k) → M' 7 3 = kd T n (M' 7 4) → Tok T n (M 7 5) (M' 7 4) (M' 7 5) → K M' := fun M' a b c d => hK M' a b (by rw [tkn_of d]) (by rw [tkn_of d]) c d.2.2.2
  obtain ⟨x1, x2, x3, x4⟩ := id h
  intro M1 e1
  refine ⟨fun M' => (∀ x, x ≠ 7 → M' x = M x) ∧ (∀ k, k ≠ 4 → M' 7 k = M 7 k) ∧ M 7 5 ≤ M' 7 4 ∧ M' 7 4 ≤ n ∧ ∀ i, M 7 5 ≤ i → i < M' 7 4 → T i = 32, fun M' => n - M' 7 4, ⟨fun x a => by rw [e1, gup_c _ a], fun k a => by rw [e1, gup_k _ a], by rw [e1, gup_s]; omega, by rw [e1, gup_s]; omega, fun i a b => by rw [e1, gup_s] at b; omega⟩, ?_⟩
  intro M2 ⟨a1, a2, a3, a4, a5⟩
  dsimp only
  have s2 : M2 7 0 = n := by rw [a2 0 (by decide)]; exact x1
  have l2 : ∀ i, 0 ≤ i → i < n → M2 8 i = T i := fun i p q => by rw [a1 8 (by decide)]; exact x4 i p q
  have rest : (M2 7 4 < n → T (M2 7 4) ≠ 32) → wX7_kindAt 7 (M2 7 4) (fun (r8 : Int) (M7 : gMem) => ∀ M9 : gMem, M9 = gup M7 7 3 r8 → (∀ M10 : gMem, M10 = gup M9 7 5 (M9 7 4) → ((¬ (M10 7 3) = 4 → gR ((M10 7 5) + 1) ∧ (∀ M12 : gMem, M12 = gup M10 7 5 ((M10 7 5) + 1) → (gL0 (fun rec14 (M13 : gMem) => gK0 (fun P16 => ((M13 7 3) = 3 → P16 M13) ∧ (¬ (M13 7 3) = 3 → ((M13 7 0) ≤ (M13 7 5) → P16 M13) ∧ (¬ (M13 7 0) ≤ (M13 7 5) → wX7_kindAt 7 (M13 7 5) (fun (r21 : Int) (M20 : gMem) => (¬ r21 = (M20 7 3) → P16 M20) ∧ (r21 = (M20 7 3) → gR ((M20 7 5) + 1) ∧ (∀ M23 : gMem, M23 = gup M20 7 5 ((M20 7 5) + 1) → (rec14 M23)))) M13))) (fun (M15 : gMem) => K M15)) M12))) ∧ ((M10 7 3) = 4 → K M10)))) M2 := by
    intro hb
    refine p_kindAt ⟨s2, x2, x3, l2⟩ ?_
    intro M3 e3 M4 e4
    have b4 : M4 7 4 = M2 7 4 := by rw [e4, gup_k _ (by decide), e3, gup_k _ (by decide)]
    have k4 : M4 7 3 = kd T n (M2 7 4) := by rw [e4, gup_k _ (by decide), e3, gup_s]
    have f4 : M4 7 5 = M2 7 4 := by rw [e4, gup_s, e3, gup_k _ (by decide)]
    have o4 : ∀ x, x ≠ 7 → M4 x = M x := fun x p => by rw [e4, gup_c _ p, e3, gup_c _ p, a1 x p]
    have q4 : ∀ k, k < 3 → M4 7 k = M 7 k := fun k p => by rw [e4, gup_k _ (by omega), e3, gup_k _ (by omega), a2 k (by omega)]
    have kc := kd_cases T n (M2 7 4)
    rw [k4, f4]
    refine ⟨fun g => ⟨⟨by omega, by omega⟩, fun M5 e5 => ?_⟩, fun g => hK M4 o4 q4 (by rw [k4, b4]) ?_⟩
    · have b5 : M5 7 4 = M2 7 4 := by rw [e5, gup_k _ (by decide), b4]
      have k5 : M5 7 3 = kd T n (M2 7 4) := by rw [e5, gup_k _ (by decide), k4]
      refine ⟨fun M' => (∀ x, x ≠ 7 → M' x = M x) ∧ (∀ k, k < 3 → M' 7 k = M 7 k) ∧ M' 7 4 = M2 7 4 ∧ M' 7 3 = kd T n (M2 7 4) ∧ M2 7 4 < M' 7 5 ∧ M' 7 5 ≤ n ∧ (kd T n (M2 7 4) = 3 → M' 7 5 = M2 7 4 + 1) ∧ ∀ i, M2 7 4 ≤ i → i < M' 7 5 → kd T n i = kd T n (M2 7 4), fun M' => n - M' 7 5, ⟨fun x p => by rw [e5, gup_c _ p, o4 x p], fun k p => by rw [e5, gup_k _ (by omega), q4 k p], b5, k5, by rw [e5, gup_s]; omega, by rw [e5, gup_s]; omega, fun _ => by rw [e5, gup_s], fun i p q => ?_⟩, ?_⟩
      · rw [e5, gup_s] at q
        rw [show i = M2 7 4 by omega]
      · intro M6 ⟨c1, c2, c3, c4, c5, c6, c7, c8⟩
        dsimp only
        have s6 : M6 7 0 = n := by rw [c2 0 (by decide)]; exact x1
        have T6 : TxC T n M6 := ⟨s6, x2, x3, fun i p q => by rw [c1 8 (by decide)]; exact x4 i p q⟩
        rw [c4, s6]
        have done : (kd T n (M2 7 4) ≠ 3 → M6 7 5 < n → kd T n (M6 7 5) ≠ kd T n (M2 7 4)) → K M6 := by
          intro hd
          refine hK M6 c1 c2 (by rw [c4, c3]) ?_
          rw [c3]
          exact ⟨a3, a5, hb, by omega, a4, fun z => by omega, fun _ => ⟨c5, c6, c7, fun z => ⟨c8, hd z⟩⟩⟩
        refine ⟨by omega, gK0_r ⟨fun y => done (fun z => absurd y z), fun y => ⟨fun w => done (fun _ z => by omega), fun w => p_kindAt T6 ⟨fun z => done (fun _ _ => by rw [c4] at z; exact z), fun z => ?_⟩⟩⟩⟩
        rw [c4] at z
        refine ⟨⟨by omega, by omega⟩, fun M7 e7 => ⟨⟨fun x p => by rw [e7, gup_c _ p, c1 x p], fun k p => by rw [e7, gup_k _ (by omega), c2 k p], by rw [e7, gup_k _ (by decide), c3], by rw [e7, gup_k _ (by decide), c4], by rw [e7, gup_s]; omega, by rw [e7, gup_s]; omega, fun u => absurd u y, fun i p q => ?_⟩, by rw [e7, gup_s]; omega⟩⟩
        rw [e7, gup_s] at q
        by_cases g2 : i = M6 7 5
        · rw [g2]; exact z
        · exact c8 i p (by omega)
    · rw [b4, f4]
      exact ⟨a3, a5, hb, by omega, a4, fun _ => rfl, fun z => by omega⟩
  rw [s2]
  refine ⟨by omega, gK0_r ⟨fun q => rest (fun z => by omega), fun q => ⟨⟨by omega, by omega⟩, fun z => rest (fun _ => by rw [← l2 _ (by omega) (by omega)]; exact z), fun z => ⟨⟨by omega, by omega⟩, fun M3 e3 => ⟨⟨fun x p => by rw [e3, gup_c _ p, a1 x p], fun k p => by rw [e3, gup_k _ p, a2 k p], by rw [e3, gup_s]; omega, by rw [e3, gup_s]; omega, fun i p r => ?_⟩, by rw [e3, gup_s]; omega⟩⟩⟩⟩⟩
  rw [e3, gup_s] at r
  by_cases g : i = M2 7 4
  · rw [g, ← l2 _ (by omega) (by omega)]; exact z
  · exact a5 i p (by omega)
theorem p_isSmall {a : Int} {K : Int → gMem → Prop} {M : gMem} (h1 : 97 ≤ a ∧ a ≤ 122 → K 1 M) (h0 : ¬ (97 ≤ a ∧ a ≤ 122) → K 0 M) : wX10_isSmall a K M := by
  unfold wX10_isSmall
  exact p_in (fun q => ⟨Or.inr rfl, h1 q⟩) (fun q => ⟨Or.inl rfl, h0 q⟩)
theorem p_isDigit {a : Int} {K : Int → gMem → Prop} {M : gMem} (h1 : 48 ≤ a ∧ a ≤ 57 → K 1 M) (h0 : ¬ (48 ≤ a ∧ a ≤ 57) → K 0 M) : wX10_isDigit a K M := by
  unfold wX10_isDigit
  exact p_in (fun q => ⟨Or.inr rfl, h1 q⟩) (fun q => ⟨Or.inl rfl, h0 q⟩)
theorem p_nextToken {T : Int → Int} {n : Int} {K : gMem → Prop} {M : gMem} (h : TxM T n M) (h5 : 0 ≤ M 228 8 ∧ M 228 8 ≤ n) (hK : ∀ M', (∀ x, x ≠ 228 → M' x = M x) → (∀ k, k ≠ 7 → k ≠ 8 → M' 228 k = M 228 k) → M' 228 7 = (tkn T n (M 228 8)).1 → M' 228 8 = (tkn T n (M 228 8)).2 → TW T n (M' 228 7) (M' 228 8) → K M') : wX10_nextToken 228 K M := by
  unfold wX10_nextToken
  simp only [Int.reduceAdd]
  have hK : ∀ M', (∀ x, x ≠ 228 → M' x = M x) → (∀ k, k ≠ 7 → k ≠ 8 → M' 228 k = M 228 k) → Tok T n (M 228 8) (M' 228 7) (M' 228 8) → K M' := fun M' a b d => hK M' a b (by rw [tkn_of d]) (by rw [tkn_of d]) d.2.2.2
  obtain ⟨x1, x2, x3, x4⟩ := id h
  intro M1 e1
  refine ⟨fun M' => (∀ x, x ≠ 228 → M' x = M x) ∧ (∀ k, k ≠ 7 → M' 228 k = M 228 k) ∧ M 228 8 ≤ M' 228 7 ∧ M' 228 7 ≤ n ∧ ∀ i, M 228 8 ≤ i → i < M' 228 7 → T i = 32, fun M' => n - M' 228 7, ⟨fun x a => by rw [e1, gup_c _ a], fun k a => by rw [e1, gup_k _ a], by rw [e1, gup_s]; omega, by rw [e1, gup_s]; omega, fun i a b => by rw [e1, gup_s] at b; omega⟩, ?_⟩
  intro M2 ⟨a1, a2, a3, a4, a5⟩
  dsimp only
  have s2 : M2 228 6 = n := by rw [a2 6 (by decide)]; exact x1
  have l2 : ∀ i, 0 ≤ i → i < n → M2 232 i = T i := fun i p q => by rw [a1 232 (by decide)]; exact x4 i p q
  have kc := kd_cases T n (M2 228 7)
  -- behind the blanks
  have fin : (M2 228 7 < n → T (M2 228 7) ≠ 32) → ∀ M' : gMem, (∀ x, x ≠ 228 → M' x = M x) → (∀ k, k ≠ 7 → k ≠ 8 → M' 228 k = M 228 k) → M' 228 7 = M2 228 7 → TW T n (M2 228 7) (M' 228 8) → K M' := by
    intro hb M' p q r s
    refine hK M' p q ?_
    rw [r]
    exact ⟨a3, a5, hb, s⟩
  have rest : (M2 228 7 < n → T (M2 228 7) ≠ 32) → ∀ x7, x7 = (if n ≤ M2 228 7 then M2 228 7 else M2 228 7 + 1) → ∀ M11 : gMem, M11 = gup M2 228 8 x7 → (gK0 (fun P13 => gK0 (fun P16 => ((M11 228 6) ≤ (M11 228 7) → P16 M11) ∧ (¬ (M11 228 6) ≤ (M11 228 7) → ((0 : Int) ≤ (M11 228 7) ∧ (M11 228 7) < 200) ∧ (wX10_isSmall (M11 232 (M11 228 7)) (fun (r31 : Int) (M30 : gMem) => (r31 = 0 → P16 M30) ∧ (¬ r31 = 0 → gL0 (fun rec34 (M33 : gMem) => ((M33 228 6) ≤ (M33 228 8) → P13 M33) ∧ (¬ (M33 228 6) ≤ (M33 228 8) → ((0 : Int) ≤ (M33 228 8) ∧ (M33 228 8) < 200) ∧ (wX10_isSmall (M33 232 (M33 228 8)) (fun (r37 : Int) (M36 : gMem) => (r37 = 0 → P13 M36) ∧ (¬ r37 = 0 → gR ((M36 228 8) + 1) ∧ (∀ M39 : gMem, M39 = gup M36 228 8 ((M36 228 8) + 1) → (rec34 M39)))) M33))) M30)) M11))) (fun (M15 : gMem) => ((M15 228 6) ≤ (M15 228 7) → P13 M15) ∧ (¬ (M15 228 6) ≤ (M15 228 7) → ((0 : Int) ≤ (M15 228 7) ∧ (M15 228 7) < 200) ∧ (wX10_isDigit (M15 232 (M15 228 7)) (fun (r20 : Int) (M19 : gMem) => (r20 = 0 → P13 M19) ∧ (¬ r20 = 0 → gL0 (fun rec23 (M22 : gMem) => ((M22 228 6) ≤ (M22 228 8) → P13 M22) ∧ (¬ (M22 228 6) ≤ (M22 228 8) → ((0 : Int) ≤ (M22 228 8) ∧ (M22 228 8) < 200) ∧ (wX10_isDigit (M22 232 (M22 228 8)) (fun (r26 : Int) (M25 : gMem) => (r26 = 0 → P13 M25) ∧ (¬ r26 = 0 → gR ((M25 228 8) + 1) ∧ (∀ M28 : gMem, M28 = gup M25 228 8 ((M25 228 8) + 1) → (rec23 M28)))) M22))) M19)) M15)))) (fun (M12 : gMem) => K M12)) := by
    intro hb x7 ex M3 e3
    have fin := fin hb
    have s3 : M3 228 6 = n := by rw [e3, gup_k _ (by decide), s2]
    have b3 : M3 228 7 = M2 228 7 := by rw [e3, gup_k _ (by decide)]
    have f3 : M3 228 8 = x7 := by rw [e3, gup_s]
    have o3 : ∀ x, x ≠ 228 → M3 x = M x := fun x p => by rw [e3, gup_c _ p, a1 x p]
    have q3 : ∀ k, k ≠ 7 → k ≠ 8 → M3 228 k = M 228 k := fun k p q => by rw [e3, gup_k _ q, a2 k p]
    have l3 : ∀ i, 0 ≤ i → i < n → M3 232 i = T i := fun i p q => by rw [o3 232 (by decide)]; exact x4 i p q
    rw [s3, b3]
    by_cases c : n ≤ M2 228 7
    · rw [if_pos c] at ex
      have ee : M2 228 7 = n := by omega
      have go : K M3 := fin M3 o3 q3 b3 (by rw [f3, ex]; exact ⟨by omega, by omega, fun _ => rfl, fun z => by omega⟩)
      refine gK0_r (gK0_r ⟨fun _ => ?_, fun z => absurd c z⟩)
      dsimp only
      rw [s3, b3]
      exact ⟨fun _ => go, fun z => absurd c z⟩
    · rw [if_neg c] at ex
      have lb := l3 (M2 228 7) (by omega) (by omega)
      -- a run of letters of one kind
      have run : ∀ (kk : Int) (M4 : gMem), kd T n (M2 228 7) = kk → kk ≠ 3 → (∀ x, x ≠ 228 → M4 x = M x) → (∀ k, k ≠ 7 → k ≠ 8 → M4 228 k = M 228 k) → M4 228 7 = M2 228 7 → M2 228 7 < M4 228 8 → M4 228 8 ≤ n → (∀ i, M2 228 7 ≤ i → i < M4 228 8 → kd T n i = kk) → (M4 228 8 < n → kd T n (M4 228 8) ≠ kk) → K M4 := by
        intro kk M4 k1 k2 p q r s t u w
        refine fin M4 p q r ⟨by omega, by omega, fun z => by omega, fun _ => ⟨s, t, fun z => by omega, fun _ => ⟨by rw [k1]; exact u, by rw [k1]; exact w⟩⟩⟩
      have low : ∀ M4 : gMem, M4 = M3 → ¬ (97 ≤ T (M2 228 7) ∧ T (M2 228 7) ≤ 122) → ((M4 228 6) ≤ (M4 228 7) → K M4) ∧ (¬ (M4 228 6) ≤ (M4 228 7) → ((0 : Int) ≤ (M4 228 7) ∧ (M4 228 7) < 200) ∧ (wX10_isDigit (M4 232 (M4 228 7)) (fun (r20 : Int) (M19 : gMem) => (r20 = 0 → K M19) ∧ (¬ r20 = 0 → gL0 (fun rec23 (M22 : gMem) => ((M22 228 6) ≤ (M22 228 8) → K M22) ∧ (¬ (M22 228 6) ≤ (M22 228 8) → ((0 : Int) ≤ (M22 228 8) ∧ (M22 228 8) < 200) ∧ (wX10_isDigit (M22 232 (M22 228 8)) (fun (r26 : Int) (M25 : gMem) => (r26 = 0 → K M25) ∧ (¬ r26 = 0 → gR ((M25 228 8) + 1) ∧ (∀ M28 : gMem, M28 = gup M25 228 8 ((M25 228 8) + 1) → (rec23 M28)))) M22))) M19)) M4)) := by
        intro M4 e4 ns
        subst e4
        rw [s3, b3, lb]
        refine ⟨fun z => absurd z c, fun _ => ⟨⟨by omega, by omega⟩, p_isDigit (fun dg => ⟨fun e => absurd e (by decide), fun _ => ?_⟩) (fun nd => ⟨fun _ => ?_, fun e => absurd rfl e⟩)⟩⟩
        · have kk : kd T n (M2 228 7) = 2 := by omega
          refine ⟨fun M' => (∀ x, x ≠ 228 → M' x = M x) ∧ (∀ k, k ≠ 7 → k ≠ 8 → M' 228 k = M 228 k) ∧ M' 228 7 = M2 228 7 ∧ M2 228 7 < M' 228 8 ∧ M' 228 8 ≤ n ∧ ∀ i, M2 228 7 ≤ i → i < M' 228 8 → kd T n i = 2, fun M' => n - M' 228 8, ⟨o3, q3, b3, by omega, by omega, fun i p q => by rw [show i = M2 228 7 by omega]; exact kk⟩, ?_⟩
          intro M5 ⟨c1, c2, c3, c4, c5, c6⟩
          dsimp only
          have s5 : M5 228 6 = n := by rw [c2 6 (by decide) (by decide)]; exact x1
          rw [s5]
          refine ⟨by omega, fun z => run 2 M5 kk (by decide) c1 c2 c3 c4 c5 c6 (fun z => by omega), fun z => ⟨⟨by omega, by omega⟩, ?_⟩⟩
          have kn := kd_cases T n (M5 228 8)
          have l5 : M5 232 (M5 228 8) = T (M5 228 8) := by rw [c1 232 (by decide)]; exact x4 _ (by omega) (by omega)
          rw [l5]
          refine p_isDigit (fun y => ⟨fun e => absurd e (by decide), fun _ => ⟨⟨by omega, by omega⟩, fun M6 e6 => ⟨⟨fun x p => by rw [e6, gup_c _ p, c1 x p], fun k p q => by rw [e6, gup_k _ q, c2 k p q], by rw [e6, gup_k _ (by decide), c3], by rw [e6, gup_s]; omega, by rw [e6, gup_s]; omega, fun i p q => ?_⟩, by rw [e6, gup_s]; omega⟩⟩⟩) (fun y => ⟨fun _ => run 2 M5 kk (by decide) c1 c2 c3 c4 c5 c6 (fun _ w => by omega), fun e => absurd rfl e⟩)
          rw [e6, gup_s] at q
          by_cases g : i = M5 228 8
          · rw [g]; omega
          · exact c6 i p (by omega)
        · refine fin M4 o3 q3 b3 (by rw [f3, ex]; exact ⟨by omega, by omega, fun z => by omega, fun _ => ⟨by omega, by omega, fun _ => rfl, fun z => by omega⟩⟩)
      refine gK0_r (gK0_r ⟨fun z => absurd z c, fun _ => ⟨⟨by omega, by omega⟩, ?_⟩⟩)
      rw [lb]
      refine p_isSmall (fun sm => ⟨fun e => absurd e (by decide), fun _ => ?_⟩) (fun ns => ⟨fun _ => low M3 rfl ns, fun e => absurd rfl e⟩)
      have kk : kd T n (M2 228 7) = 1 := by omega
      refine ⟨fun M' => (∀ x, x ≠ 228 → M' x = M x) ∧ (∀ k, k ≠ 7 → k ≠ 8 → M' 228 k = M 228 k) ∧ M' 228 7 = M2 228 7 ∧ M2 228 7 < M' 228 8 ∧ M' 228 8 ≤ n ∧ ∀ i, M2 228 7 ≤ i → i < M' 228 8 → kd T n i = 1, fun M' => n - M' 228 8, ⟨o3, q3, b3, by omega, by omega, fun i p q => by rw [show i = M2 228 7 by omega]; exact kk⟩, ?_⟩
      intro M5 ⟨c1, c2, c3, c4, c5, c6⟩
      dsimp only
      have s5 : M5 228 6 = n := by rw [c2 6 (by decide) (by decide)]; exact x1
      rw [s5]
      refine ⟨by omega, fun z => run 1 M5 kk (by decide) c1 c2 c3 c4 c5 c6 (fun z => by omega), fun z => ⟨⟨by omega, by omega⟩, ?_⟩⟩
      have kn := kd_cases T n (M5 228 8)
      have l5 : M5 232 (M5 228 8) = T (M5 228 8) := by rw [c1 232 (by decide)]; exact x4 _ (by omega) (by omega)
      rw [l5]
      refine p_isSmall (fun y => ⟨fun e => absurd e (by decide), fun _ => ⟨⟨by omega, by omega⟩, fun M6 e6 => ⟨⟨fun x p => by rw [e6, gup_c _ p, c1 x p], fun k p q => by rw [e6, gup_k _ q, c2 k p q], by rw [e6, gup_k _ (by decide), c3], by rw [e6, gup_s]; omega, by rw [e6, gup_s]; omega, fun i p q => ?_⟩, by rw [e6, gup_s]; omega⟩⟩⟩) (fun y => ⟨fun _ => run 1 M5 kk (by decide) c1 c2 c3 c4 c5 c6 (fun _ w => by omega), fun e => absurd rfl e⟩)
      rw [e6, gup_s] at q
      by_cases g : i = M5 228 8
      · rw [g]; omega
      · exact c6 i p (by omega)
  rw [s2]
  refine ⟨by omega, gK0_r ⟨fun q => ?_, fun q => ⟨⟨by omega, by omega⟩, fun z => ?_, fun z => ⟨⟨by omega, by omega⟩, fun M3 e3 => ⟨⟨fun x p => by rw [e3, gup_c _ p, a1 x p], fun k p => by rw [e3, gup_k _ p, a2 k p], by rw [e3, gup_s]; omega, by rw [e3, gup_s]; omega, fun i p r => ?_⟩, by rw [e3, gup_s]; omega⟩⟩⟩⟩⟩
  · have hb : M2 228 7 < n → T (M2 228 7) ≠ 32 := fun z => by omega
    dsimp only
    rw [s2]
    exact gK1_r ⟨fun y => rest hb _ (by rw [if_pos y]), fun y => ⟨⟨by omega, by omega⟩, rest hb _ (by rw [if_neg y])⟩⟩
  · have hb : M2 228 7 < n → T (M2 228 7) ≠ 32 := fun _ => by rw [← l2 _ (by omega) (by omega)]; exact z
    dsimp only
    rw [s2]
    exact gK1_r ⟨fun y => rest hb _ (by rw [if_pos y]), fun y => ⟨⟨by omega, by omega⟩, rest hb _ (by rw [if_neg y])⟩⟩
  · rw [e3, gup_s] at r
    by_cases g : i = M2 228 7
    · rw [g, ← l2 _ (by omega) (by omega)]; exact z
    · exact a5 i p (by omega)
