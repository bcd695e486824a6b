/-! THE TEXT, 3: clauses, purely; the class -/
/-- token (begin, end), nodes, lengths, levels, begun anew -/
abbrev RSt := Int × Int × Int × (Int → Int) × (Int → Int) × Int
abbrev sN (σ : RSt) : Int := σ.2.2.1
abbrev sL (σ : RSt) : Int → Int := σ.2.2.2.1
abbrev sV (σ : RSt) : Int → Int := σ.2.2.2.2.1
abbrev sS (σ : RSt) : Int := σ.2.2.2.2.2
def setT (σ : RSt) (x : Int × Int) : RSt := (x.1, x.2, σ.2.2)
def nmT (T : Int → Int) (n : Int) (x : Int × Int) : Int := nm T n x.1 x.2
def up2 (L : Int → Int) (u v l : Int) : Int → Int := fun k => if k = 12 * u + v ∨ k = 12 * v + u then l else L k
def up1 (V : Int → Int) (u i : Int) : Int → Int := fun k => if k = u then i else V k
abbrev lkc (L : Int → Int) : Int := cnt (fun k => decide (0 < L k)) 144
noncomputable def y1 (T : Int → Int) (n : Int) (σ : RSt) : Int × Int := tkn T n σ.2.1
noncomputable def y2 (T : Int → Int) (n : Int) (σ : RSt) : Int × Int := tkn T n (y1 T n σ).2
noncomputable def y3 (T : Int → Int) (n : Int) (σ : RSt) : Int × Int := tkn T n (y2 T n σ).2
noncomputable def y4 (T : Int → Int) (n : Int) (σ : RSt) : Int × Int := tkn T n (y3 T n σ).2
noncomputable def clNet (T : Int → Int) (n : Int) (σ : RSt) : Int × RSt := if 2 ≤ nmT T n (y1 T n σ) ∧ nmT T n (y1 T n σ) ≤ 12 then (1, ((y2 T n σ).1, (y2 T n σ).2, nmT T n (y1 T n σ), (fun _ => 0), (fun _ => 0), 1)) else (0, setT σ (y1 T n σ))
noncomputable def clLink (T : Int → Int) (n : Int) (σ : RSt) : Int × RSt := if ¬ (0 ≤ nmT T n (y1 T n σ) ∧ nmT T n (y1 T n σ) ≤ sN σ - 1) then (0, setT σ (y1 T n σ)) else if ¬ ((0 ≤ nmT T n (y2 T n σ) ∧ nmT T n (y2 T n σ) ≤ sN σ - 1) ∧ nmT T n (y2 T n σ) ≠ nmT T n (y1 T n σ) ∧ (lkc (sL σ) < 60 ∨ 0 < sL σ (12 * nmT T n (y1 T n σ) + nmT T n (y2 T n σ)))) then (0, setT σ (y2 T n σ)) else if ¬ (1 ≤ nmT T n (y3 T n σ) ∧ nmT T n (y3 T n σ) ≤ 99) then (0, setT σ (y3 T n σ)) else (1, ((y4 T n σ).1, (y4 T n σ).2, sN σ, up2 (sL σ) (nmT T n (y1 T n σ)) (nmT T n (y2 T n σ)) (nmT T n (y3 T n σ)), sV σ, sS σ))
noncomputable def clLev (T : Int → Int) (n : Int) (σ : RSt) : Int × RSt := if ¬ (0 ≤ nmT T n (y1 T n σ) ∧ nmT T n (y1 T n σ) ≤ sN σ - 1) then (0, setT σ (y1 T n σ)) else if ¬ (0 ≤ nmT T n (y2 T n σ) ∧ nmT T n (y2 T n σ) ≤ 2) then (0, setT σ (y2 T n σ)) else (1, ((y3 T n σ).1, (y3 T n σ).2, sN σ, sL σ, up1 (sV σ) (nmT T n (y1 T n σ)) (nmT T n (y2 T n σ)), sS σ))
noncomputable def clf (T : Int → Int) (n : Int) (σ : RSt) : Int × RSt := if wv T n σ.1 σ.2.1 = 0 then clNet T n σ else if wv T n σ.1 σ.2.1 = 1 then clLink T n σ else if wv T n σ.1 σ.2.1 = 2 then clLev T n σ else (0, σ)
/-- a state that is well -/
def SW (T : Int → Int) (n : Int) (σ : RSt) : Prop := TW T n σ.1 σ.2.1 ∧ (2 ≤ sN σ ∧ sN σ ≤ 12) ∧ LOK (sN σ) (fun u v => sL σ (12 * u + v)) ∧ (∀ v, 0 ≤ v → v < 12 → 0 ≤ sV σ v ∧ sV σ v ≤ 2 ∧ (sN σ ≤ v → sV σ v = 0)) ∧ (lkc (sL σ) ≤ 60 ∧ lkc (sL σ) % 2 = 0) ∧ (sS σ = 0 ∨ sS σ = 1)
theorem SW.set {T : Int → Int} {n : Int} {σ : RSt} (h : SW T n σ) {x : Int × Int} (hx : TW T n x.1 x.2) : SW T n (setT σ x) := ⟨hx, h.2⟩
theorem TW.bd {T : Int → Int} {n b e : Int} (h : TW T n b e) : 0 ≤ b ∧ b ≤ n ∧ b ≤ e ∧ e ≤ n := by
  obtain ⟨t0, t1, t2, t3⟩ := h
  by_cases g : b = n
  · have := t2 g; omega
  · have := t3 (by omega); omega
theorem up2_ok {N u v l : Int} {L : Int → Int} (h : LOK N (fun u v => L (12 * u + v))) (hN : N ≤ 12) (hu : 0 ≤ u ∧ u < N) (hv : 0 ≤ v ∧ v < N) (ne : u ≠ v) (hl : 0 ≤ l ∧ l ≤ 99) : LOK N (fun x y => up2 L u v l (12 * x + y)) := by
  intro x y p q r s
  have := h x y p q r s
  dsimp only at this ⊢
  unfold up2
  by_cases z : 12 * x + y = 12 * u + v ∨ 12 * x + y = 12 * v + u
  · rw [if_pos z, if_pos (by omega)]
    exact ⟨hl.1, hl.2, rfl, fun _ => by omega, fun _ => by omega⟩
  · rw [if_neg z, if_neg (by omega)]
    exact this
theorem up2_cnt {N u v l : Int} {L : Int → Int} (h : LOK N (fun u v => L (12 * u + v))) (hN : N ≤ 12) (hu : 0 ≤ u ∧ u < N) (hv : 0 ≤ v ∧ v < N) (ne : u ≠ v) : lkc (up2 L u v l) = lkc L + 2 * (if 0 < l then 1 else 0) - 2 * (if 0 < L (12 * u + v) then 1 else 0) :=
  cnt_set (r := L) (r' := up2 L u v l) (a := 12 * u + v) (b := 12 * v + u) (by omega) (by omega) (by omega) (h u v hu.1 (by omega) hv.1 (by omega)).2.2.1 (fun k _ _ => rfl)
/-- how the class bears it -/
def RC (T : Int → Int) (n : Int) (σ : RSt) (M : gMem) : Prop := (M 7 4 = σ.1 ∧ M 7 5 = σ.2.1 ∧ M 7 3 = kd T n σ.1) ∧ M 4 0 = sN σ ∧ (∀ k, 0 ≤ k → k < 144 → M 5 k = sL σ k) ∧ (∀ k, 0 ≤ k → k < 12 → M 6 k = sV σ k) ∧ 2 * M 4 1 = lkc (sL σ) ∧ M 7 2 = sS σ
def FrP (M M' : gMem) : Prop := (∀ x, x ≠ 7 → M' x = M x) ∧ ∀ k, k < 3 → M' 7 k = M 7 k
def FrC (d : Int) (M M' : gMem) : Prop := (∀ x, x < 4 ∨ 8 ≤ x → M' x = M x) ∧ M' 7 0 = M 7 0 ∧ M' 7 1 = M 7 1 ∧ M' 4 2 = M 4 2 ∧ M 4 3 ≤ M' 4 3 ∧ M' 4 3 ≤ M 4 3 + d
theorem FrP.c {M M' : gMem} (h : FrP M M') : FrC 0 M M' := ⟨fun x a => h.1 x (by omega), h.2 0 (by decide), h.2 1 (by decide), by rw [h.1 4 (by decide)], by rw [h.1 4 (by decide)]; omega, by rw [h.1 4 (by decide)]; omega⟩
theorem FrC.tr {a b c : Int} {M M' M'' : gMem} (h : FrC a M M') (h2 : FrC b M' M'') (hc : a + b ≤ c) : FrC c M M'' := by
  obtain ⟨p1, p2, p3, p4, p5, p6⟩ := h
  obtain ⟨q1, q2, q3, q4, q5, q6⟩ := h2
  exact ⟨fun x z => (q1 x z).trans (p1 x z), q2.trans p2, q3.trans p3, q4.trans p4, by omega, by omega⟩
theorem FrC.tx {a n : Int} {T : Int → Int} {M M' : gMem} (h : FrC a M M') (ht : TxC T n M) : TxC T n M' := ⟨by rw [h.2.1]; exact ht.1, ht.2.1, ht.2.2.1, fun i x y => by rw [h.1 8 (by omega)]; exact ht.2.2.2 i x y⟩
theorem p_passS {T : Int → Int} {n : Int} {σ : RSt} {K : gMem → Prop} {M : gMem} (h : TxC T n M) (hs : SW T n σ) (hr : RC T n σ M) (hK : ∀ M', FrP M M' → SW T n (setT σ (tkn T n σ.2.1)) → RC T n (setT σ (tkn T n σ.2.1)) M' → K M') : wX7_pass 7 K M := by
  obtain ⟨⟨r1, r2, r3⟩, r4, r5, r6, r7, r8⟩ := hr
  have bd := hs.1.bd
  refine p_pass h (by rw [r2]; omega) (fun M' a b c d e f => ?_)
  rw [r2] at c d
  refine hK M' ⟨a, b⟩ (hs.set (by rw [c, d] at f; exact f)) ⟨⟨c, d, by rw [e, c]; rfl⟩, by rw [a 4 (by decide)]; exact r4, fun k x y => by rw [a 5 (by decide)]; exact r5 k x y, fun k x y => by rw [a 6 (by decide)]; exact r6 k x y, by rw [a 4 (by decide)]; exact r7, by rw [b 2 (by decide)]; exact r8⟩
theorem p_numS {T : Int → Int} {n lo hi : Int} {σ : RSt} {K : Int → gMem → Prop} {M : gMem} (h : TxC T n M) (hs : SW T n σ) (hr : RC T n σ M) (hlo : 0 ≤ lo) (h1 : lo ≤ nm T n σ.1 σ.2.1 ∧ nm T n σ.1 σ.2.1 ≤ hi → nm T n σ.1 σ.2.1 ≠ -1 → K (nm T n σ.1 σ.2.1) M) (h0 : ¬ (lo ≤ nm T n σ.1 σ.2.1 ∧ nm T n σ.1 σ.2.1 ≤ hi) → K (-1) M) : wX7_number 7 lo hi K M := by
  obtain ⟨⟨r1, r2, r3⟩, r4, r5, r6, r7, r8⟩ := hr
  refine p_number h (by rw [r3, r1]) (by rw [r1, r2]; exact hs.1) hlo ?_
  rw [r1, r2]
  by_cases g : lo ≤ nm T n σ.1 σ.2.1 ∧ nm T n σ.1 σ.2.1 ≤ hi
  · rw [if_pos g]; exact h1 g (by omega)
  · rw [if_neg g]; exact h0 g
theorem p_startWith {a : Int} {K : gMem → Prop} {M : gMem} (ha : 2 ≤ a ∧ a ≤ 12) (hv : 0 ≤ M 4 3 ∧ M 4 3 ≤ 200000) (hK : ∀ M', (∀ x, x < 4 ∨ 7 ≤ x → M' x = M x) → M' 4 0 = a → M' 4 1 = 0 → M' 4 2 = M 4 2 → M' 4 3 = M 4 3 + 1 → (∀ k, 0 ≤ k → k < 144 → M' 5 k = 0) → (∀ k, 0 ≤ k → k < 12 → M' 6 k = 0) → K M') : wX1_startWith 4 a K M := by
  unfold wX1_startWith
  simp only [Int.reduceAdd]
  refine gK0_r ⟨fun q => absurd q (by omega), fun _ => ⟨fun _ M1 e1 M2 e2 M3 e3 M4 e4 => ?_, fun q => absurd q (by omega)⟩⟩
  have f4 : M4 4 3 = M 4 3 := by rw [e4, gfl_c _ (by decide), e3, gfl_c _ (by decide), e2, gup_k _ (by decide), e1, gup_k _ (by decide)]
  rw [f4]
  refine ⟨⟨by omega, by omega⟩, fun M5 e5 => hK M5 (fun x hx => ?_) ?_ ?_ ?_ ?_ (fun k p q => ?_) (fun k p q => ?_)⟩
  · rw [e5, gup_c _ (by omega), e4, gfl_c _ (by omega), e3, gfl_c _ (by omega), e2, gup_c _ (by omega), e1, gup_c _ (by omega)]
  · rw [e5, gup_k _ (by decide), e4, gfl_c _ (by decide), e3, gfl_c _ (by decide), e2, gup_k _ (by decide), e1, gup_s]
  · rw [e5, gup_k _ (by decide), e4, gfl_c _ (by decide), e3, gfl_c _ (by decide), e2, gup_s]
  · rw [e5, gup_k _ (by decide), e4, gfl_c _ (by decide), e3, gfl_c _ (by decide), e2, gup_k _ (by decide), e1, gup_k _ (by decide)]
  · rw [e5, gup_s]
  · rw [e5, gup_c _ (by decide), e4, gfl_c _ (by decide), e3, gfl_2, if_pos ⟨rfl, p, q⟩]
  · rw [e5, gup_c _ (by decide), e4, gfl_2, if_pos ⟨rfl, p, q⟩]
theorem lkc_0 : lkc (fun _ => 0) = 0 := cnt_f 144 (fun i _ => decide_eq_false (by show ¬ ((0 : Int) < 0); omega))
theorem p_readNetC {T : Int → Int} {n : Int} {σ : RSt} {K : Int → gMem → Prop} {M : gMem} (h : TxC T n M) (hs : SW T n σ) (hr : RC T n σ M) (hv : 0 ≤ M 4 3 ∧ M 4 3 ≤ 150000) (hK : ∀ M', FrC 1 M M' → SW T n (clNet T n σ).2 → RC T n (clNet T n σ).2 M' → K (clNet T n σ).1 M') : wX7_readNet 7 4 K M := by
  unfold wX7_readNet
  refine p_passS h hs hr (fun M1 f1 s1 c1 => ?_)
  have t1 := f1.c.tx h
  refine p_numS t1 s1 c1 (by decide) (fun q q2 => ⟨fun _ => ?_, fun e => absurd e q2⟩) (fun q => ⟨fun e => absurd rfl e, fun _ => ?_⟩)
  · have q : 2 ≤ nmT T n (y1 T n σ) ∧ nmT T n (y1 T n σ) ≤ 12 := q
    show wX1_startWith 4 (nmT T n (y1 T n σ)) _ M1
    have e43 : M1 4 = M 4 := f1.1 4 (by decide)
    refine p_startWith q (by rw [e43]; omega) (fun M2 g1 g2 g3 g4 g5 g6 g7 => ?_)
    intro M3 e3
    have f3 : FrC 1 M M3 := by
      refine ⟨fun x a => by rw [e3, gup_c _ (by omega), g1 x (by omega), f1.1 x (by omega)], by rw [e3, gup_k _ (by decide), g1 7 (by omega), f1.2 0 (by decide)], by rw [e3, gup_k _ (by decide), g1 7 (by omega), f1.2 1 (by decide)], by rw [e3, gup_c _ (by decide), g4, e43], by rw [e3, gup_c _ (by decide), g5, e43]; omega, by rw [e3, gup_c _ (by decide), g5, e43]; omega⟩
    have ec : clNet T n σ = (1, ((y2 T n σ).1, (y2 T n σ).2, nmT T n (y1 T n σ), (fun _ => 0), (fun _ => 0), 1)) := by unfold clNet; rw [if_pos q]
    have s3 : SW T n ((y1 T n σ).1, (y1 T n σ).2, nmT T n (y1 T n σ), (fun _ => 0), (fun _ => 0), 1) := by
      refine ⟨s1.1, q, fun u v a b c d => ⟨Int.le_refl 0, (show (0 : Int) ≤ 99 by decide), rfl, fun _ => rfl, fun _ => rfl⟩, fun v a b => ⟨Int.le_refl 0, (show (0 : Int) ≤ 2 by decide), fun _ => rfl⟩, ⟨by show lkc (fun _ => 0) ≤ 60; rw [lkc_0]; decide, by show lkc (fun _ => 0) % 2 = 0; rw [lkc_0]; decide⟩, Or.inr rfl⟩
    have c3 : RC T n ((y1 T n σ).1, (y1 T n σ).2, nmT T n (y1 T n σ), (fun _ => 0), (fun _ => 0), 1) M3 := by
      have e7 : M2 7 = M1 7 := g1 7 (by omega)
      refine ⟨⟨by rw [e3, gup_k _ (by decide), e7]; exact c1.1.1, by rw [e3, gup_k _ (by decide), e7]; exact c1.1.2.1, by rw [e3, gup_k _ (by decide), e7]; exact c1.1.2.2⟩, by rw [e3, gup_c _ (by decide)]; exact g2, fun k a b => by rw [e3, gup_c _ (by decide)]; exact g6 k a b, fun k a b => by rw [e3, gup_c _ (by decide)]; exact g7 k a b, by rw [e3, gup_c _ (by decide), g3, lkc_0]; decide, by rw [e3, gup_s]⟩
    refine p_passS (f3.tx h) s3 c3 (fun M4 f4 s4 c4 => ?_)
    have := hK M4 (f3.tr f4.c (by decide))
    rw [ec] at this
    exact this s4 c4
  · have q : ¬ (2 ≤ nmT T n (y1 T n σ) ∧ nmT T n (y1 T n σ) ≤ 12) := q
    have ec : clNet T n σ = (0, setT σ (y1 T n σ)) := by unfold clNet; rw [if_neg q]
    have := hK M1 (FrC.tr f1.c ⟨fun _ _ => rfl, rfl, rfl, rfl, by omega, by omega⟩ (by decide : (0 : Int) + 0 ≤ 1))
    rw [ec] at this
    exact this s1 c1
theorem p_readLinkC {T : Int → Int} {n : Int} {σ : RSt} {K : Int → gMem → Prop} {M : gMem} (h : TxC T n M) (hs : SW T n σ) (hr : RC T n σ M) (hv : 0 ≤ M 4 3 ∧ M 4 3 ≤ 150000) (hK : ∀ M', FrC 1 M M' → SW T n (clLink T n σ).2 → RC T n (clLink T n σ).2 M' → K (clLink T n σ).1 M') : wX7_readLink 7 4 K M := by
  unfold wX7_readLink
  have hN := hs.2.1
  have up : ∀ M', FrC 0 M M' → FrC 1 M M' := fun M' f => FrC.tr f ⟨fun _ _ => rfl, rfl, rfl, rfl, by omega, by omega⟩ (by decide : (0 : Int) + 0 ≤ 1)
  refine p_passS h hs hr (fun M1 f1 s1 c1 => ?_)
  have t1 := f1.c.tx h
  have n1 : M1 4 0 = sN σ := c1.2.1
  rw [n1]
  refine ⟨⟨by omega, by omega⟩, p_numS t1 s1 c1 (by decide) (fun q q2 => ⟨fun _ => ?_, fun e => absurd e q2⟩) (fun q => ⟨fun e => absurd rfl e, fun _ => ?_⟩)⟩
  · have q : 0 ≤ nmT T n (y1 T n σ) ∧ nmT T n (y1 T n σ) ≤ sN σ - 1 := q
    refine p_passS t1 s1 c1 (fun M2 f2 s2 c2 => ?_)
    have f2' : FrC 0 M M2 := f1.c.tr f2.c (by decide)
    have t2 := f2'.tx h
    have n2 : M2 4 0 = sN σ := c2.2.1
    rw [n2]
    have bad : ¬ ((0 ≤ nmT T n (y2 T n σ) ∧ nmT T n (y2 T n σ) ≤ sN σ - 1) ∧ nmT T n (y2 T n σ) ≠ nmT T n (y1 T n σ) ∧ (lkc (sL σ) < 60 ∨ 0 < sL σ (12 * nmT T n (y1 T n σ) + nmT T n (y2 T n σ)))) → K 0 M2 := by
      intro b
      have ec : clLink T n σ = (0, setT σ (y2 T n σ)) := by unfold clLink; rw [if_neg (fun z => z q), if_pos b]
      have := hK M2 (up M2 f2')
      rw [ec] at this
      exact this s2 c2
    refine ⟨⟨by omega, by omega⟩, p_numS t2 s2 c2 (by decide) (fun r r2 => ?_) (fun r => gK0_r ⟨fun _ => bad (fun z => r z.1), fun e => absurd rfl e⟩)⟩
    have r : 0 ≤ nmT T n (y2 T n σ) ∧ nmT T n (y2 T n σ) ≤ sN σ - 1 := r
    refine gK0_r ⟨fun e => absurd e r2, fun _ => ⟨fun z => bad (fun w => w.2.1 z), fun ne => ?_⟩⟩
    have ne : nmT T n (y2 T n σ) ≠ nmT T n (y1 T n σ) := ne
    show wX1_hasRoomFor 4 (nmT T n (y1 T n σ)) (nmT T n (y2 T n σ)) _ M2
    have l2 : M2 5 (12 * nmT T n (y1 T n σ) + nmT T n (y2 T n σ)) = sL σ (12 * nmT T n (y1 T n σ) + nmT T n (y2 T n σ)) := c2.2.2.1 _ (by omega) (by omega)
    have k2 : 2 * M2 4 1 = lkc (sL σ) := c2.2.2.2.2.1
    refine p_hasRoom (by omega) (by omega) (by omega) (fun rm => ⟨fun _ => ?_, fun e => absurd e (by decide)⟩) (fun rm => ⟨fun e => absurd rfl e, fun _ => bad (fun w => rm ?_)⟩)
    · have rm : M2 4 1 < 30 ∨ 0 < M2 5 (12 * nmT T n (y1 T n σ) + nmT T n (y2 T n σ)) := rm
      rw [l2] at rm
      have rm2 : lkc (sL σ) < 60 ∨ 0 < sL σ (12 * nmT T n (y1 T n σ) + nmT T n (y2 T n σ)) := by omega
      refine p_passS t2 s2 c2 (fun M3 f3 s3 c3 => ?_)
      have f3' : FrC 0 M M3 := f2'.tr f3.c (by decide)
      have t3 := f3'.tx h
      refine p_numS t3 s3 c3 (by decide) (fun w w2 => ⟨fun _ => ?_, fun e => absurd e w2⟩) (fun w => ⟨fun e => absurd rfl e, fun _ => ?_⟩)
      · have w : 1 ≤ nmT T n (y3 T n σ) ∧ nmT T n (y3 T n σ) ≤ 99 := w
        show wX1_setLength 4 (nmT T n (y1 T n σ)) (nmT T n (y2 T n σ)) (nmT T n (y3 T n σ)) _ M3
        have n3 : M3 4 0 = sN σ := c3.2.1
        have k3 : 2 * M3 4 1 = lkc (sL σ) := c3.2.2.2.2.1
        have v3 := f3'.2.2.2.2
        have cb : 0 ≤ lkc (sL σ) := cnt_0 _ _
        have lb := hs.2.2.2.2.1
        have ec : clLink T n σ = (1, ((y4 T n σ).1, (y4 T n σ).2, sN σ, up2 (sL σ) (nmT T n (y1 T n σ)) (nmT T n (y2 T n σ)) (nmT T n (y3 T n σ)), sV σ, sS σ)) := by unfold clLink; rw [if_neg (fun z => z q), if_neg (fun z => z ⟨r, ne, rm2⟩), if_neg (fun z => z w)]
        refine p_setLength (by omega) (by omega) (by omega) (fun z => ne z.symm) (by omega) (by omega) (fun M4 g1 g2 g3 g4 g5 => ?_)
        have g3 : M4 4 1 = M3 4 1 - (if 0 < M3 5 (12 * nmT T n (y1 T n σ) + nmT T n (y2 T n σ)) then 1 else 0) + (if 0 < nmT T n (y3 T n σ) then 1 else 0) := g3
        have l3 : M3 5 (12 * nmT T n (y1 T n σ) + nmT T n (y2 T n σ)) = sL σ (12 * nmT T n (y1 T n σ) + nmT T n (y2 T n σ)) := c3.2.2.1 _ (by omega) (by omega)
        have uc := up2_cnt (l := nmT T n (y3 T n σ)) hs.2.2.1 hN.2 (u := nmT T n (y1 T n σ)) (v := nmT T n (y2 T n σ)) (by omega) (by omega) (fun z => ne z.symm)
        have f4' : FrC 1 M M4 := by
          refine f3'.tr (b := 1) ⟨fun x a => g1 x (by omega) (by omega), by rw [g1 7 (by decide) (by decide)], by rw [g1 7 (by decide) (by decide)], g2 2 (by decide) (by decide), by omega, by omega⟩ (by decide)
        have e47 : M4 7 = M3 7 := g1 7 (by decide) (by decide)
        have s4 : SW T n ((y3 T n σ).1, (y3 T n σ).2, sN σ, up2 (sL σ) (nmT T n (y1 T n σ)) (nmT T n (y2 T n σ)) (nmT T n (y3 T n σ)), sV σ, sS σ) := by
          have ok := up2_ok (N := sN σ) (l := nmT T n (y3 T n σ)) hs.2.2.1 hN.2 (u := nmT T n (y1 T n σ)) (v := nmT T n (y2 T n σ)) (by omega) (by omega) (fun z => ne z.symm) (by omega)
          refine ⟨s3.1, hN, ok, hs.2.2.2.1, ?_, hs.2.2.2.2.2⟩
          show lkc (up2 (sL σ) (nmT T n (y1 T n σ)) (nmT T n (y2 T n σ)) (nmT T n (y3 T n σ))) ≤ 60 ∧ lkc (up2 (sL σ) (nmT T n (y1 T n σ)) (nmT T n (y2 T n σ)) (nmT T n (y3 T n σ))) % 2 = 0
          rw [uc, if_pos (show 0 < nmT T n (y3 T n σ) by omega)]
          by_cases z : 0 < sL σ (12 * nmT T n (y1 T n σ) + nmT T n (y2 T n σ))
          · rw [if_pos z]; omega
          · rw [if_neg z]; omega
        have c4 : RC T n ((y3 T n σ).1, (y3 T n σ).2, sN σ, up2 (sL σ) (nmT T n (y1 T n σ)) (nmT T n (y2 T n σ)) (nmT T n (y3 T n σ)), sV σ, sS σ) M4 := by
          refine ⟨by rw [e47]; exact c3.1, by rw [g2 0 (by decide) (by decide)]; exact n3, fun k a b => ?_, fun k a b => by rw [g1 6 (by decide) (by decide)]; exact c3.2.2.2.1 k a b, ?_, by rw [e47]; exact c3.2.2.2.2.2⟩
          · have g5 : M4 5 k = if k = 12 * nmT T n (y1 T n σ) + nmT T n (y2 T n σ) ∨ k = 12 * nmT T n (y2 T n σ) + nmT T n (y1 T n σ) then nmT T n (y3 T n σ) else M3 5 k := g5 k
            rw [g5]
            show _ = up2 (sL σ) (nmT T n (y1 T n σ)) (nmT T n (y2 T n σ)) (nmT T n (y3 T n σ)) k
            unfold up2
            have := c3.2.2.1 k a b
            rw [this]
            rfl
          · show 2 * M4 4 1 = lkc (up2 (sL σ) (nmT T n (y1 T n σ)) (nmT T n (y2 T n σ)) (nmT T n (y3 T n σ)))
            rw [uc, g3, l3, ← k3]
            omega
        refine p_passS (f4'.tx h) s4 c4 (fun M5 f5 s5 c5 => ?_)
        have := hK M5 (f4'.tr f5.c (by decide))
        rw [ec] at this
        exact this s5 c5
      · have w : ¬ (1 ≤ nmT T n (y3 T n σ) ∧ nmT T n (y3 T n σ) ≤ 99) := w
        have ec : clLink T n σ = (0, setT σ (y3 T n σ)) := by unfold clLink; rw [if_neg (fun z => z q), if_neg (fun z => z ⟨r, ne, rm2⟩), if_pos w]
        have := hK M3 (up M3 f3')
        rw [ec] at this
        exact this s3 c3
    · have w2 := w.2.2
      show M2 4 1 < 30 ∨ 0 < M2 5 (12 * nmT T n (y1 T n σ) + nmT T n (y2 T n σ))
      rw [l2]
      omega
  · have q : ¬ (0 ≤ nmT T n (y1 T n σ) ∧ nmT T n (y1 T n σ) ≤ sN σ - 1) := q
    have ec : clLink T n σ = (0, setT σ (y1 T n σ)) := by unfold clLink; rw [if_pos q]
    have := hK M1 (up M1 f1.c)
    rw [ec] at this
    exact this s1 c1
theorem p_readLevelC {T : Int → Int} {n : Int} {σ : RSt} {K : Int → gMem → Prop} {M : gMem} (h : TxC T n M) (hs : SW T n σ) (hr : RC T n σ M) (hK : ∀ M', FrC 1 M M' → SW T n (clLev T n σ).2 → RC T n (clLev T n σ).2 M' → K (clLev T n σ).1 M') : wX7_readLevel 7 4 K M := by
  unfold wX7_readLevel
  have hN := hs.2.1
  have up : ∀ M', FrC 0 M M' → FrC 1 M M' := fun M' f => FrC.tr f ⟨fun _ _ => rfl, rfl, rfl, rfl, by omega, by omega⟩ (by decide : (0 : Int) + 0 ≤ 1)
  refine p_passS h hs hr (fun M1 f1 s1 c1 => ?_)
  have t1 := f1.c.tx h
  have n1 : M1 4 0 = sN σ := c1.2.1
  rw [n1]
  refine ⟨⟨by omega, by omega⟩, p_numS t1 s1 c1 (by decide) (fun q q2 => ⟨fun _ => ?_, fun e => absurd e q2⟩) (fun q => ⟨fun e => absurd rfl e, fun _ => ?_⟩)⟩
  · have q : 0 ≤ nmT T n (y1 T n σ) ∧ nmT T n (y1 T n σ) ≤ sN σ - 1 := q
    refine p_passS t1 s1 c1 (fun M2 f2 s2 c2 => ?_)
    have f2' : FrC 0 M M2 := f1.c.tr f2.c (by decide)
    have t2 := f2'.tx h
    have n2 : M2 4 0 = sN σ := c2.2.1
    refine p_numS t2 s2 c2 (by decide) (fun r r2 => ⟨fun _ => ?_, fun e => absurd e r2⟩) (fun r => ⟨fun e => absurd rfl e, fun _ => ?_⟩)
    · have r : 0 ≤ nmT T n (y2 T n σ) ∧ nmT T n (y2 T n σ) ≤ 2 := r
      show wX1_setLevel 4 (nmT T n (y1 T n σ)) (nmT T n (y2 T n σ)) _ M2
      unfold wX1_setLevel
      simp only [Int.reduceAdd]
      have ec : clLev T n σ = (1, ((y3 T n σ).1, (y3 T n σ).2, sN σ, sL σ, up1 (sV σ) (nmT T n (y1 T n σ)) (nmT T n (y2 T n σ)), sS σ)) := by unfold clLev; rw [if_neg (fun z => z q), if_neg (fun z => z r)]
      refine p_has_t (by omega) (gK0_r ⟨fun e => absurd e (by decide), fun _ => ⟨⟨by omega, by omega⟩, fun M3 e3 => ?_⟩⟩)
      have g1 : ∀ x, x ≠ 6 → M3 x = M2 x := fun x hx => by rw [e3, gup_c _ hx]
      have f3' : FrC 0 M M3 := f2'.tr (b := 0) ⟨fun x a => g1 x (by omega), by rw [g1 7 (by decide)], by rw [g1 7 (by decide)], by rw [g1 4 (by decide)], by rw [g1 4 (by decide)]; omega, by rw [g1 4 (by decide)]; omega⟩ (by decide)
      have s3 : SW T n ((y2 T n σ).1, (y2 T n σ).2, sN σ, sL σ, up1 (sV σ) (nmT T n (y1 T n σ)) (nmT T n (y2 T n σ)), sS σ) := by
        refine ⟨s2.1, hN, hs.2.2.1, fun v a b => ?_, hs.2.2.2.2⟩
        have := hs.2.2.2.1 v a b
        show 0 ≤ up1 (sV σ) (nmT T n (y1 T n σ)) (nmT T n (y2 T n σ)) v ∧ up1 (sV σ) (nmT T n (y1 T n σ)) (nmT T n (y2 T n σ)) v ≤ 2 ∧ (sN σ ≤ v → up1 (sV σ) (nmT T n (y1 T n σ)) (nmT T n (y2 T n σ)) v = 0)
        unfold up1
        by_cases z : v = nmT T n (y1 T n σ)
        · rw [if_pos z]; exact ⟨r.1, r.2, fun _ => by omega⟩
        · rw [if_neg z]; exact this
      have c3 : RC T n ((y2 T n σ).1, (y2 T n σ).2, sN σ, sL σ, up1 (sV σ) (nmT T n (y1 T n σ)) (nmT T n (y2 T n σ)), sS σ) M3 := by
        refine ⟨by rw [g1 7 (by decide)]; exact c2.1, by rw [g1 4 (by decide)]; exact n2, fun k a b => by rw [g1 5 (by decide)]; exact c2.2.2.1 k a b, fun k a b => ?_, by rw [g1 4 (by decide)]; exact c2.2.2.2.2.1, by rw [g1 7 (by decide)]; exact c2.2.2.2.2.2⟩
        rw [e3, gup_e]
        show _ = up1 (sV σ) (nmT T n (y1 T n σ)) (nmT T n (y2 T n σ)) k
        unfold up1
        have := c2.2.2.2.1 k a b
        rw [this]
        rfl
      refine p_passS (f3'.tx h) s3 c3 (fun M4 f4 s4 c4 => ?_)
      have := hK M4 (up M4 (f3'.tr f4.c (by decide)))
      rw [ec] at this
      exact this s4 c4
    · have r : ¬ (0 ≤ nmT T n (y2 T n σ) ∧ nmT T n (y2 T n σ) ≤ 2) := r
      have ec : clLev T n σ = (0, setT σ (y2 T n σ)) := by unfold clLev; rw [if_neg (fun z => z q), if_pos r]
      have := hK M2 (up M2 f2')
      rw [ec] at this
      exact this s2 c2
  · have q : ¬ (0 ≤ nmT T n (y1 T n σ) ∧ nmT T n (y1 T n σ) ≤ sN σ - 1) := q
    have ec : clLev T n σ = (0, setT σ (y1 T n σ)) := by unfold clLev; rw [if_pos q]
    have := hK M1 (up M1 f1.c)
    rw [ec] at this
    exact this s1 c1
theorem cl01 (T : Int → Int) (n : Int) (σ : RSt) : ((clNet T n σ).1 = 0 ∨ (clNet T n σ).1 = 1) ∧ ((clLink T n σ).1 = 0 ∨ (clLink T n σ).1 = 1) ∧ ((clLev T n σ).1 = 0 ∨ (clLev T n σ).1 = 1) := by
  refine ⟨?_, ?_, ?_⟩
  · unfold clNet
    split
    · exact Or.inr rfl
    · exact Or.inl rfl
  · unfold clLink
    split
    · exact Or.inl rfl
    · split
      · exact Or.inl rfl
      · split
        · exact Or.inl rfl
        · exact Or.inr rfl
  · unfold clLev
    split
    · exact Or.inl rfl
    · split
      · exact Or.inl rfl
      · exact Or.inr rfl
theorem clf01 (T : Int → Int) (n : Int) (σ : RSt) : (clf T n σ).1 = 0 ∨ (clf T n σ).1 = 1 := by
  have c := cl01 T n σ
  unfold clf
  split
  · exact c.1
  · split
    · exact c.2.1
    · split
      · exact c.2.2
      · exact Or.inl rfl
theorem p_readClauseC {T : Int → Int} {n : Int} {σ : RSt} {K : Int → gMem → Prop} {M : gMem} (h : TxC T n M) (hs : SW T n σ) (hr : RC T n σ M) (hv : 0 ≤ M 4 3 ∧ M 4 3 ≤ 150000) (hK : ∀ M', FrC 1 M M' → SW T n (clf T n σ).2 → RC T n (clf T n σ).2 M' → K (clf T n σ).1 M') : wX7_readClause 7 4 K M := by
  unfold wX7_readClause
  obtain ⟨⟨r1, r2, r3⟩, -⟩ := id hr
  have bd := hs.1.bd
  have c01 := cl01 T n σ
  have key : ∀ w, (M 7 3 = 1 ∧ mt T (M 7 4) (M 7 5) w) ↔ (kd T n σ.1 = 1 ∧ mt T σ.1 σ.2.1 w) := fun w => by rw [r1, r2, r3]
  refine p_isWord h (by omega) (fun a b => ⟨fun e => absurd e (by decide), fun _ => ?_⟩) (fun a => ⟨fun _ => ?_, fun e => absurd rfl e⟩)
  · have w0 : wv T n σ.1 σ.2.1 = 0 := by unfold wv; rw [if_pos ((key 0).1 ⟨a, b⟩)]
    have ec : clf T n σ = clNet T n σ := by unfold clf; rw [if_pos w0]
    rw [ec] at hK
    exact p_readNetC h hs hr hv (fun M' f s c => ⟨c01.1, hK M' f s c⟩)
  · have n0 : ¬ (kd T n σ.1 = 1 ∧ mt T σ.1 σ.2.1 0) := fun z => a ((key 0).2 z)
    refine p_isWord h (by omega) (fun b c => ⟨fun e => absurd e (by decide), fun _ => ?_⟩) (fun b => ⟨fun _ => ?_, fun e => absurd rfl e⟩)
    · have w0 : wv T n σ.1 σ.2.1 = 1 := by unfold wv; rw [if_neg n0, if_pos ((key 1).1 ⟨b, c⟩)]
      have ec : clf T n σ = clLink T n σ := by unfold clf; rw [if_neg (by omega), if_pos w0]
      rw [ec] at hK
      exact p_readLinkC h hs hr hv (fun M' f s c => ⟨c01.2.1, hK M' f s c⟩)
    · have n1 : ¬ (kd T n σ.1 = 1 ∧ mt T σ.1 σ.2.1 1) := fun z => b ((key 1).2 z)
      refine p_isWord h (by omega) (fun c d => gK1_r (gK0_r ⟨fun e => absurd e (by decide), fun _ => ?_⟩)) (fun c => gK1_r (gK0_r ⟨fun _ => ⟨Or.inl rfl, ?_⟩, fun e => absurd rfl e⟩))
      · have w0 : wv T n σ.1 σ.2.1 = 2 := by unfold wv; rw [if_neg n0, if_neg n1, if_pos ((key 2).1 ⟨c, d⟩)]
        have ec : clf T n σ = clLev T n σ := by unfold clf; rw [if_neg (by omega), if_neg (by omega), if_pos w0]
        rw [ec] at hK
        refine p_readLevelC h hs hr (fun M' f s c => ⟨fun z => ⟨Or.inl rfl, ?_⟩, fun z => ⟨Or.inr rfl, ?_⟩⟩)
        · have := hK M' f s c; rw [z] at this; exact this
        · have := hK M' f s c
          have e : (clLev T n σ).1 = 1 := by omega
          rw [e] at this; exact this
      · have n2 : ¬ (kd T n σ.1 = 1 ∧ mt T σ.1 σ.2.1 2) := fun z => c ((key 2).2 z)
        have w0 : wv T n σ.1 σ.2.1 = -1 := by unfold wv; rw [if_neg n0, if_neg n1, if_neg n2]
        have ec : clf T n σ = (0, σ) := by unfold clf; rw [if_neg (by omega), if_neg (by omega), if_neg (by omega)]
        rw [ec] at hK
        exact hK M ⟨fun _ _ => rfl, rfl, rfl, rfl, by omega, by omega⟩ hs hr
