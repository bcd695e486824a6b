/-! THE TEXT, 4: clauses, the reference -/
theorem SW.net {T : Int → Int} {n v : Int} {x : Int × Int} (hx : TW T n x.1 x.2) (hv : 2 ≤ v ∧ v ≤ 12) : SW T n (x.1, x.2, v, (fun _ => 0), (fun _ => 0), 1) :=
  ⟨hx, hv, fun u v a b c d => ⟨Int.le_refl 0, (show (0 : Int) ≤ 99 by decide), rfl, fun _ => rfl, fun _ => rfl⟩, fun v a b => ⟨Int.le_refl 0, (show (0 : Int) ≤ 2 by decide), fun _ => rfl⟩, ⟨by show lkc (fun _ => 0) ≤ 60; rw [lkc_0]; decide, by show lkc (fun _ => 0) % 2 = 0; rw [lkc_0]; decide⟩, Or.inr rfl⟩
theorem SW.lev {T : Int → Int} {n u i : Int} {σ : RSt} {x : Int × Int} (h : SW T n σ) (hx : TW T n x.1 x.2) (hu : 0 ≤ u ∧ u ≤ sN σ - 1) (hi : 0 ≤ i ∧ i ≤ 2) : SW T n (x.1, x.2, sN σ, sL σ, up1 (sV σ) u i, sS σ) := by
  refine ⟨hx, h.2.1, h.2.2.1, fun v a b => ?_, h.2.2.2.2⟩
  have := h.2.2.2.1 v a b
  show 0 ≤ up1 (sV σ) u i v ∧ up1 (sV σ) u i v ≤ 2 ∧ (sN σ ≤ v → up1 (sV σ) u i v = 0)
  unfold up1
  by_cases z : v = u
  · rw [if_pos z]; exact ⟨hi.1, hi.2, fun _ => by omega⟩
  · rw [if_neg z]; exact this
theorem SW.link {T : Int → Int} {n u v l : Int} {σ : RSt} {x : Int × Int} (h : SW T n σ) (hx : TW T n x.1 x.2) (hu : 0 ≤ u ∧ u ≤ sN σ - 1) (hv : 0 ≤ v ∧ v ≤ sN σ - 1) (ne : v ≠ u) (rm : lkc (sL σ) < 60 ∨ 0 < sL σ (12 * u + v)) (hl : 1 ≤ l ∧ l ≤ 99) : SW T n (x.1, x.2, sN σ, up2 (sL σ) u v l, sV σ, sS σ) := by
  have hN := h.2.1
  have ok := up2_ok (N := sN σ) (l := l) h.2.2.1 hN.2 (u := u) (v := v) (by omega) (by omega) (fun z => ne z.symm) (by omega)
  have uc := up2_cnt (N := sN σ) (l := l) h.2.2.1 hN.2 (u := u) (v := v) (by omega) (by omega) (fun z => ne z.symm)
  have lb := h.2.2.2.2.1
  refine ⟨hx, hN, ok, h.2.2.2.1, ?_, h.2.2.2.2.2⟩
  show lkc (up2 (sL σ) u v l) ≤ 60 ∧ lkc (up2 (sL σ) u v l) % 2 = 0
  rw [uc, if_pos (show 0 < l by omega)]
  by_cases z : 0 < sL σ (12 * u + v)
  · rw [if_pos z]; omega
  · rw [if_neg z]; omega
def RM (σ : RSt) (d : Int) (N0 : Int → Int) (M : gMem) : Prop := (M 228 7 = σ.1 ∧ M 228 8 = σ.2.1) ∧ M 228 9 = sN σ ∧ (∀ k, 0 ≤ k → k < 144 → M 233 k = if 0 < sL σ k then 1 else 0) ∧ 2 * M 228 11 = lkc (sL σ) ∧ M 228 13 = d ∧ (d ≠ 0 → M 228 2 = sN σ ∧ (∀ k, 0 ≤ k → k < 144 → M 229 k = sL σ k) ∧ (∀ v, 0 ≤ v → v < 12 → M 229 (144 + v) = sV σ v) ∧ ∀ k, 0 ≤ k → k < 240 → M 230 k = if sS σ = 1 then 0 else N0 k)
def FrT (M M' : gMem) : Prop := (∀ x, x ≠ 228 → x ≠ 234 → M' x = M x) ∧ ∀ k, k ≠ 7 → k ≠ 8 → M' 228 k = M 228 k
def FrM (d : Int) (M M' : gMem) : Prop := (∀ x, x ≠ 228 → x ≠ 229 → x ≠ 230 → x ≠ 233 → x ≠ 234 → M' x = M x) ∧ (∀ k, k ≠ 2 → k ≠ 7 → k ≠ 8 → k ≠ 9 → k ≠ 11 → M' 228 k = M 228 k) ∧ (d = 0 → M' 228 2 = M 228 2 ∧ M' 229 = M 229 ∧ M' 230 = M 230) ∧ (∀ k, 156 ≤ k → M' 229 k = M 229 k) ∧ ∀ k, 240 ≤ k → M' 230 k = M 230 k
theorem FrT.m {d : Int} {M M' : gMem} (h : FrT M M') : FrM d M M' := ⟨fun x a _ _ _ e => h.1 x a e, fun k _ b c _ _ => h.2 k b c, fun _ => ⟨h.2 2 (by decide) (by decide), h.1 229 (by decide) (by decide), h.1 230 (by decide) (by decide)⟩, fun k _ => by rw [h.1 229 (by decide) (by decide)], fun k _ => by rw [h.1 230 (by decide) (by decide)]⟩
theorem FrM.tr {d : Int} {M M' M'' : gMem} (h : FrM d M M') (h2 : FrM d M' M'') : FrM d M M'' := by
  obtain ⟨p1, p2, p3, p4, p5⟩ := h
  obtain ⟨q1, q2, q3, q4, q5⟩ := h2
  exact ⟨fun x a b c e f => (q1 x a b c e f).trans (p1 x a b c e f), fun k a b c e f => (q2 k a b c e f).trans (p2 k a b c e f), fun z => ⟨(q3 z).1.trans (p3 z).1, (q3 z).2.1.trans (p3 z).2.1, (q3 z).2.2.trans (p3 z).2.2⟩, fun k a => (q4 k a).trans (p4 k a), fun k a => (q5 k a).trans (p5 k a)⟩
theorem FrT.tr {M M' M'' : gMem} (h : FrT M M') (h2 : FrT M' M'') : FrT M M'' := ⟨fun x a b => (h2.1 x a b).trans (h.1 x a b), fun k a b => (h2.2 k a b).trans (h.2 k a b)⟩
theorem FrM.tx {d n : Int} {T : Int → Int} {M M' : gMem} (h : FrM d M M') (ht : TxM T n M) : TxM T n M' := ⟨by rw [h.2.1 6 (by decide) (by decide) (by decide) (by decide) (by decide)]; exact ht.1, ht.2.1, ht.2.2.1, fun i x y => by rw [h.1 232 (by decide) (by decide) (by decide) (by decide) (by decide)]; exact ht.2.2.2 i x y⟩
theorem FrT.tx {n : Int} {T : Int → Int} {M M' : gMem} (h : FrT M M') (ht : TxM T n M) : TxM T n M' := (h.m (d := 0)).tx ht
theorem RM.set {σ : RSt} {d : Int} {N0 : Int → Int} {M M' : gMem} (h : RM σ d N0 M) (f : FrT M M') {x : Int × Int} (h1 : M' 228 7 = x.1) (h2 : M' 228 8 = x.2) : RM (setT σ x) d N0 M' := by
  obtain ⟨r1, r2, r3, r4, r5, r6⟩ := h
  refine ⟨⟨h1, h2⟩, by rw [f.2 9 (by decide) (by decide)]; exact r2, fun k a b => by rw [f.1 233 (by decide) (by decide)]; exact r3 k a b, by rw [f.2 11 (by decide) (by decide)]; exact r4, by rw [f.2 13 (by decide) (by decide)]; exact r5, fun z => ?_⟩
  rw [f.2 2 (by decide) (by decide), f.1 229 (by decide) (by decide), f.1 230 (by decide) (by decide)]
  exact r6 z
theorem p_nextS {T : Int → Int} {n d : Int} {N0 : Int → Int} {σ : RSt} {K : gMem → Prop} {M : gMem} (h : TxM T n M) (hs : SW T n σ) (hr : RM σ d N0 M) (hK : ∀ M', FrT M M' → SW T n (setT σ (tkn T n σ.2.1)) → RM (setT σ (tkn T n σ.2.1)) d N0 M' → K M') : wX10_nextToken 228 K M := by
  have bd := hs.1.bd
  refine p_nextToken h (by rw [hr.1.2]; omega) (fun M' a b c e f => ?_)
  rw [hr.1.2] at c e
  have ft : FrT M M' := ⟨fun x p _ => a x p, b⟩
  exact hK M' ft (hs.set (by rw [c, e] at f; exact f)) (hr.set ft c e)
theorem p_numMS {T : Int → Int} {n d k lo hi : Int} {N0 : Int → Int} {σ : RSt} {K : Int → gMem → Prop} {M : gMem} (h : TxM T n M) (hs : SW T n σ) (hr : RM σ d N0 M) (hk : 0 ≤ k ∧ k < 3) (hlo : 0 ≤ lo) (h0 : ¬ (lo ≤ nm T n σ.1 σ.2.1 ∧ nm T n σ.1 σ.2.1 ≤ hi) → K 0 M)
    (h1 : lo ≤ nm T n σ.1 σ.2.1 ∧ nm T n σ.1 σ.2.1 ≤ hi → ∀ M', FrT M M' → (∀ j, j ≠ k → M' 234 j = M 234 j) → M' 234 k = nm T n σ.1 σ.2.1 → SW T n (setT σ (tkn T n σ.2.1)) → RM (setT σ (tkn T n σ.2.1)) d N0 M' → K 1 M') : wX10_number 228 k lo hi K M := by
  have e7 := hr.1.1
  have e8 := hr.1.2
  refine p_numberM h (by rw [e7, e8]; exact hs.1) hk hlo (fun q => h0 (by rw [e7, e8] at q; exact q)) (fun q M' a b c e f g i => ?_)
  rw [e7, e8] at q e
  rw [e8] at f g
  have ft : FrT M M' := ⟨a, b⟩
  exact h1 q M' ft c e (hs.set (by rw [f, g] at i; exact i)) (hr.set ft f g)
theorem p_tellsNet {K : gMem → Prop} {M : gMem} (hK : ∀ M', (∀ x, x ≠ 228 → x ≠ 233 → M' x = M x) → (∀ k, k ≠ 9 → k ≠ 11 → M' 228 k = M 228 k) → M' 228 9 = M 234 0 → M' 228 11 = 0 → (∀ k, 0 ≤ k → k < 144 → M' 233 k = 0) → K M') : wX10_tellsNet 228 K M := by
  unfold wX10_tellsNet
  simp only [Int.reduceAdd]
  refine ⟨⟨by decide, by decide⟩, fun M1 e1 M2 e2 => ?_⟩
  have n1 : ∀ x, x ≠ 228 → M2 x = M x := fun x a => by rw [e2, gup_c _ a, e1, gup_c _ a]
  refine ⟨fun k M' => 0 ≤ k ∧ k ≤ 144 ∧ Only 233 M2 M' ∧ ∀ j, 0 ≤ j → j < k → M' 233 j = 0, fun k _ => 144 - k, ⟨by omega, by omega, Only.rf, fun j a b => by omega⟩, ?_⟩
  intro k M3 ⟨k0, k1, o3, z3⟩
  dsimp only
  refine ⟨by omega, fun q => ?_, fun q => ⟨⟨by omega, by omega⟩, fun M4 e4 => ⟨⟨by omega, by omega⟩, ⟨by omega, by omega, by rw [e4]; exact o3.up, fun j a b => ?_⟩, by omega⟩⟩⟩
  · refine hK M3 (fun x a b => by rw [o3 x b, n1 x a]) (fun j a b => by rw [o3 228 (by decide), e2, gup_k _ b, e1, gup_k _ a]) (by rw [o3 228 (by decide), e2, gup_k _ (by decide), e1, gup_s]) (by rw [o3 228 (by decide), e2, gup_s]) (fun j a b => z3 j a (by omega))
  · by_cases g : j = k
    · rw [g, e4, gup_s]
    · rw [e4, gup_k _ g]; exact z3 j a (by omega)
theorem p_tellsLink {u v : Int} {K : gMem → Prop} {M : gMem} (eu : M 234 0 = u) (ev : M 234 1 = v) (hu : 0 ≤ u ∧ u < 12) (hv : 0 ≤ v ∧ v < 12) (hl : 0 ≤ M 228 11 ∧ M 228 11 ≤ 1000) (hK : ∀ M', (∀ x, x ≠ 228 → x ≠ 233 → M' x = M x) → (∀ k, k ≠ 11 → M' 228 k = M 228 k) → M' 228 11 = M 228 11 + (if M 233 (12 * u + v) = 0 then 1 else 0) → (∀ k, M' 233 k = if k = 12 * u + v ∨ k = 12 * v + u then 1 else M 233 k) → K M') : wX10_tellsLink 228 K M := by
  unfold wX10_tellsLink
  simp only [Int.reduceAdd]
  refine ⟨⟨by decide, by decide⟩, fun a ea => ⟨⟨by decide, by decide⟩, fun b eb => ?_⟩⟩
  rw [eu] at ea
  rw [ev] at eb
  subst ea
  subst eb
  have fin : ∀ x, x = (if M 233 (12 * a + b) = 0 then 1 else 0) → gR ((M 228 11) + x) ∧ (∀ M7 : gMem, M7 = gup M 228 11 ((M 228 11) + x) → (gR (12 * a) ∧ (gR ((12 * a) + b) ∧ (((0 : Int) ≤ ((12 * a) + b) ∧ ((12 * a) + b) < 144) ∧ (∀ M8 : gMem, M8 = gup M7 233 ((12 * a) + b) 1 → (gR (12 * b) ∧ (gR ((12 * b) + a) ∧ (((0 : Int) ≤ ((12 * b) + a) ∧ ((12 * b) + a) < 144) ∧ (∀ M9 : gMem, M9 = gup M8 233 ((12 * b) + a) 1 → (K M9)))))))))) := by
    intro x ex
    have xb : 0 ≤ x ∧ x ≤ 1 := by rw [ex]; split <;> omega
    refine ⟨⟨by omega, by omega⟩, fun M1 e1 => ⟨⟨by omega, by omega⟩, ⟨by omega, by omega⟩, ⟨by omega, by omega⟩, fun M2 e2 => ⟨⟨by omega, by omega⟩, ⟨by omega, by omega⟩, ⟨by omega, by omega⟩, fun M3 e3 => hK M3 (fun y p q => ?_) (fun k p => ?_) ?_ (fun k => ?_)⟩⟩⟩
    · rw [e3, gup_c _ q, e2, gup_c _ q, e1, gup_c _ p]
    · rw [e3, gup_c _ (by decide), e2, gup_c _ (by decide), e1, gup_k _ p]
    · rw [e3, gup_c _ (by decide), e2, gup_c _ (by decide), e1, gup_s, ex]
    · rw [e3, gup_e, e2, gup_e, e1, gup_c _ (by decide)]
      by_cases p : k = 12 * b + a
      · rw [if_pos p, if_pos (Or.inr p)]
      · rw [if_neg p]
        by_cases q : k = 12 * a + b
        · rw [if_pos q, if_pos (Or.inl q)]
        · rw [if_neg q, if_neg (fun r => r.elim q p)]
  refine ⟨⟨by omega, by omega⟩, ⟨by omega, by omega⟩, ⟨by omega, by omega⟩, gK1_r ⟨fun z => fin 1 (by rw [if_pos z]), fun z => fin 0 (by rw [if_neg z])⟩⟩
theorem p_does1 {r : Int} {K : gMem → Prop} {M : gMem} (er : r = 1) (h : wX10_lies 228 (M 234 0) (M 234 1) (M 234 2) K M) : wX10_does 228 r K M := by
  unfold wX10_does
  simp only [Int.reduceAdd]
  exact gK0_r ⟨fun _ => ⟨fun e => absurd er e, fun _ => ⟨⟨by decide, by decide⟩, ⟨by decide, by decide⟩, ⟨by decide, by decide⟩, h⟩⟩, fun e => absurd e (by omega)⟩
theorem p_does2 {r u i : Int} {K : gMem → Prop} {M : gMem} (er : r = 2) (e0 : M 234 0 = u) (e1 : M 234 1 = i) (hu : 0 ≤ u ∧ u < 12) (h : ∀ M', M' = gup M 229 (144 + u) i → K M') : wX10_does 228 r K M := by
  unfold wX10_does
  simp only [Int.reduceAdd]
  rw [e0, e1]
  exact gK0_r ⟨fun _ => ⟨fun _ => ⟨⟨by decide, by decide⟩, ⟨by omega, by omega⟩, ⟨by decide, by decide⟩, ⟨by omega, by omega⟩, h⟩, fun e => absurd e (by omega)⟩, fun e => absurd e (by omega)⟩
theorem p_does0 {r v : Int} {K : gMem → Prop} {M1 : gMem} (er : r = 0) (e20 : M1 234 0 = v) (h : ∀ M', (∀ x, x ≠ 228 → x ≠ 229 → x ≠ 230 → M' x = M1 x) → (∀ k, k ≠ 2 → M' 228 k = M1 228 k) → M' 228 2 = v → (∀ k, 0 ≤ k → k < 156 → M' 229 k = 0) → (∀ k, 156 ≤ k → M' 229 k = M1 229 k) → (∀ k, 0 ≤ k → k < 240 → M' 230 k = 0) → (∀ k, 240 ≤ k → M' 230 k = M1 230 k) → K M') : wX10_does 228 r K M1 := by
  unfold wX10_does
  simp only [Int.reduceAdd]
  refine gK0_r ⟨fun e => absurd er e, fun _ => ⟨⟨by decide, by decide⟩, fun M2 e2 => ?_⟩⟩
  rw [e20] at e2
  refine ⟨fun k M' => 0 ≤ k ∧ k ≤ 156 ∧ Only 229 M2 M' ∧ (∀ j, 0 ≤ j → j < k → M' 229 j = 0) ∧ ∀ j, k ≤ j → M' 229 j = M2 229 j, fun k _ => 156 - k, ⟨by omega, by omega, Only.rf, fun j p q => by omega, fun _ _ => rfl⟩, ?_⟩
  intro k M3 ⟨k0, k1, o3, z3, s3⟩
  dsimp only
  refine ⟨by omega, fun q => ?_, fun q => ⟨⟨by omega, by omega⟩, fun M4 e4 => ⟨⟨by omega, by omega⟩, ⟨by omega, by omega, by rw [e4]; exact o3.up, fun j p q => ?_, fun j p => by rw [e4, gup_k _ (by omega)]; exact s3 j (by omega)⟩, by omega⟩⟩⟩
  · refine ⟨fun i M' => 0 ≤ i ∧ i ≤ 240 ∧ Only 230 M3 M' ∧ (∀ j, 0 ≤ j → j < i → M' 230 j = 0) ∧ ∀ j, i ≤ j → M' 230 j = M3 230 j, fun i _ => 240 - i, ⟨by omega, by omega, Only.rf, fun j p q => by omega, fun _ _ => rfl⟩, ?_⟩
    intro i M4 ⟨i0, i1, o4, z4, s4⟩
    dsimp only
    refine ⟨by omega, fun q2 => ?_, fun q2 => ⟨⟨by omega, by omega⟩, fun M5 e5 => ⟨⟨by omega, by omega⟩, ⟨by omega, by omega, by rw [e5]; exact o4.up, fun j p q => ?_, fun j p => by rw [e5, gup_k _ (by omega)]; exact s4 j (by omega)⟩, by omega⟩⟩⟩
    · have e28 : M4 228 = M2 228 := by rw [o4 228 (by decide), o3 228 (by decide)]
      have e29 : M4 229 = M3 229 := o4 229 (by decide)
      refine h M4 (fun x p q r => by rw [o4 x r, o3 x q, e2, gup_c _ p]) (fun k hk => by rw [e28, e2, gup_k _ hk]) (by rw [e28, e2, gup_s]) (fun j p q => by rw [e29]; exact z3 j p (by omega)) (fun j p => by rw [e29, s3 j (by omega), e2, gup_c _ (by decide)]) (fun j p q => z4 j p (by omega)) (fun j p => by rw [s4 j (by omega), o3 230 (by decide), e2, gup_c _ (by decide)])
    · by_cases g : j = i
      · rw [g, e5, gup_s]
      · rw [e5, gup_k _ g]; exact z4 j p (by omega)
  · by_cases g : j = k
    · rw [g, e4, gup_s]
    · rw [e4, gup_k _ g]; exact z3 j p (by omega)
/-- the clause is told, and done, if that is wanted -/
def wTail (r : Int) (K : Int → gMem → Prop) (M6 : gMem) : Prop := gK0 (fun P11 => (¬ r = 0 → (¬ r = 1 → P11 M6) ∧ (r = 1 → wX10_tellsLink 228 (fun (M20 : gMem) => P11 M20) M6)) ∧ (r = 0 → wX10_tellsNet 228 (fun (M21 : gMem) => P11 M21) M6)) (fun (M10 : gMem) => gK0 (fun P14 => ((M10 228 13) = 0 → P14 M10) ∧ (¬ (M10 228 13) = 0 → wX10_does 228 r (fun (M17 : gMem) => P14 M17) M10)) (fun (M13 : gMem) => K 1 M13))
theorem p_tailNet {T : Int → Int} {n d v : Int} {N0 : Int → Int} {σ : RSt} {K : Int → gMem → Prop} {M : gMem} (hr : RM σ d N0 M) (e0 : M 234 0 = v) (hv : 2 ≤ v ∧ v ≤ 12) (hK : ∀ M', FrM d M M' → RM (σ.1, σ.2.1, v, (fun _ => 0), (fun _ => 0), 1) d N0 M' → K 1 M') : wTail 0 K M := by
  unfold wTail
  obtain ⟨r1, r2, r3, r4, r5, r6⟩ := hr
  refine gK0_r ⟨fun e => absurd rfl e, fun _ => p_tellsNet (fun M1 a b c e f => ?_)⟩
  rw [e0] at c
  have d13 : M1 228 13 = d := by rw [b 13 (by decide) (by decide)]; exact r5
  rw [d13]
  have told : ∀ M' : gMem, (∀ k, k ≠ 2 → M' 228 k = M1 228 k) → M' 233 = M1 233 → ((M' 228 7 = σ.1 ∧ M' 228 8 = σ.2.1) ∧ M' 228 9 = v ∧ (∀ k, 0 ≤ k → k < 144 → M' 233 k = if 0 < (0 : Int) then 1 else 0) ∧ 2 * M' 228 11 = lkc (fun _ => 0) ∧ M' 228 13 = d) := by
    intro M' p q
    refine ⟨⟨by rw [p 7 (by decide), b 7 (by decide) (by decide)]; exact r1.1, by rw [p 8 (by decide), b 8 (by decide) (by decide)]; exact r1.2⟩, by rw [p 9 (by decide)]; exact c, fun k x y => by rw [q, f k x y, if_neg (by decide)], by rw [p 11 (by decide), e, lkc_0]; decide, by rw [p 13 (by decide)]; exact d13⟩
  refine gK0_r ⟨fun dz => hK M1 ⟨fun x p _ _ s _ => a x p s, fun k _ _ _ s u => b k s u, fun _ => ⟨b 2 (by decide) (by decide), a 229 (by decide) (by decide), a 230 (by decide) (by decide)⟩, fun k _ => by rw [a 229 (by decide) (by decide)], fun k _ => by rw [a 230 (by decide) (by decide)]⟩ ?_, fun dn => ?_⟩
  · have t := told M1 (fun _ _ => rfl) rfl
    exact ⟨t.1, t.2.1, t.2.2.1, t.2.2.2.1, t.2.2.2.2, fun z => absurd dz z⟩
  · have e20 : M1 234 0 = v := by rw [a 234 (by decide) (by decide)]; exact e0
    refine p_does0 rfl e20 (fun M4 oth k28 n2 z1 z2 z3 z4 => ?_)
    have t := told M4 k28 (oth 233 (by decide) (by decide) (by decide))
    refine hK M4 ⟨fun x p q r s u => by rw [oth x p q r, a x p s], fun k p q r s u => by rw [k28 k p, b k s u], fun z => absurd z dn, fun j p => by rw [z2 j p, a 229 (by decide) (by decide)], fun j p => by rw [z4 j p, a 230 (by decide) (by decide)]⟩ ⟨t.1, t.2.1, t.2.2.1, t.2.2.2.1, t.2.2.2.2, fun _ => ⟨n2, fun j p q => z1 j p (by omega), fun j p q => z1 (144 + j) (by omega) (by omega), fun j p q => by rw [z3 j p q]; rfl⟩⟩
theorem p_tailLev {d u i : Int} {N0 : Int → Int} {σ : RSt} {K : Int → gMem → Prop} {M : gMem} (hr : RM σ d N0 M) (e0 : M 234 0 = u) (e1 : M 234 1 = i) (hu : 0 ≤ u ∧ u < 12) (hK : ∀ M', FrM d M M' → RM (σ.1, σ.2.1, sN σ, sL σ, up1 (sV σ) u i, sS σ) d N0 M' → K 1 M') : wTail 2 K M := by
  unfold wTail
  obtain ⟨r1, r2, r3, r4, r5, r6⟩ := hr
  refine gK0_r ⟨fun _ => ⟨fun _ => ?_, fun e => absurd e (by decide)⟩, fun e => absurd e (by decide)⟩
  dsimp only
  rw [r5]
  refine gK0_r ⟨fun dz => hK M ⟨fun _ _ _ _ _ _ => rfl, fun _ _ _ _ _ _ => rfl, fun _ => ⟨rfl, rfl, rfl⟩, fun _ _ => rfl, fun _ _ => rfl⟩ ⟨r1, r2, r3, r4, r5, fun z => absurd dz z⟩, fun dn => ?_⟩
  refine p_does2 rfl e0 e1 hu (fun M1 h1 => ?_)
  have g1 : ∀ x, x ≠ 229 → M1 x = M x := fun x hx => by rw [h1, gup_c _ hx]
  have r6 := r6 dn
  refine hK M1 ⟨fun x _ b _ _ _ => g1 x b, fun k _ _ _ _ _ => by rw [g1 228 (by decide)], fun z => absurd z dn, fun k a => by rw [h1, gup_k _ (by omega)], fun k _ => by rw [g1 230 (by decide)]⟩ ⟨by rw [g1 228 (by decide)]; exact r1, by rw [g1 228 (by decide)]; exact r2, by rw [g1 233 (by decide)]; exact r3, by rw [g1 228 (by decide)]; exact r4, by rw [g1 228 (by decide)]; exact r5, fun _ => ⟨by rw [g1 228 (by decide)]; exact r6.1, fun k a b => ?_, fun v a b => ?_, by rw [g1 230 (by decide)]; exact r6.2.2.2⟩⟩
  · rw [h1, gup_k _ (by omega)]; exact r6.2.1 k a b
  · rw [h1, gup_e]
    show _ = up1 (sV σ) u i v
    unfold up1
    by_cases z : v = u
    · rw [if_pos z, if_pos (by omega)]
    · rw [if_neg z, if_neg (by omega)]; exact r6.2.2.1 v a b
theorem p_tailLink {T : Int → Int} {n d u v l : Int} {N0 : Int → Int} {σ : RSt} {K : Int → gMem → Prop} {M : gMem} (hs : SW T n σ) (hr : RM σ d N0 M) (e0 : M 234 0 = u) (e1 : M 234 1 = v) (e2 : M 234 2 = l) (hu : 0 ≤ u ∧ u ≤ sN σ - 1) (hv : 0 ≤ v ∧ v ≤ sN σ - 1) (ne : v ≠ u) (hl : 1 ≤ l ∧ l ≤ 99) (hK : ∀ M', FrM d M M' → RM (σ.1, σ.2.1, sN σ, up2 (sL σ) u v l, sV σ, sS σ) d N0 M' → K 1 M') : wTail 1 K M := by
  unfold wTail
  obtain ⟨r1, r2, r3, r4, r5, r6⟩ := hr
  have hN := hs.2.1
  have lb := hs.2.2.2.2.1
  have cb : 0 ≤ lkc (sL σ) := cnt_0 _ _
  have uc := up2_cnt (N := sN σ) (l := l) hs.2.2.1 hN.2 (u := u) (v := v) (by omega) (by omega) (fun z => ne z.symm)
  refine gK0_r ⟨fun _ => ⟨fun e => absurd rfl e, fun _ => p_tellsLink e0 e1 (by omega) (by omega) (by omega) (fun M1 a b c f => ?_)⟩, fun e => absurd e (by decide)⟩
  have d13 : M1 228 13 = d := by rw [b 13 (by decide)]; exact r5
  dsimp only
  rw [d13]
  have p3 := r3 (12 * u + v) (by omega) (by omega)
  have told : (M1 228 7 = σ.1 ∧ M1 228 8 = σ.2.1) ∧ M1 228 9 = sN σ ∧ (∀ k, 0 ≤ k → k < 144 → M1 233 k = if 0 < up2 (sL σ) u v l k then 1 else 0) ∧ 2 * M1 228 11 = lkc (up2 (sL σ) u v l) := by
    refine ⟨⟨by rw [b 7 (by decide)]; exact r1.1, by rw [b 8 (by decide)]; exact r1.2⟩, by rw [b 9 (by decide)]; exact r2, fun k x y => ?_, ?_⟩
    · rw [f k]
      unfold up2
      by_cases z : k = 12 * u + v ∨ k = 12 * v + u
      · rw [if_pos z, if_pos z, if_pos (by omega)]
      · rw [if_neg z, if_neg z]; exact r3 k x y
    · rw [uc, c, if_pos (show 0 < l by omega)]
      by_cases z : 0 < sL σ (12 * u + v)
      · rw [if_pos z] at p3 ⊢
        rw [if_neg (by omega)]; omega
      · rw [if_neg z] at p3 ⊢
        rw [if_pos p3]; omega
  refine gK0_r ⟨fun dz => hK M1 ⟨fun x p _ _ s _ => a x p s, fun k _ _ _ _ u => b k u, fun _ => ⟨b 2 (by decide), a 229 (by decide) (by decide), a 230 (by decide) (by decide)⟩, fun k _ => by rw [a 229 (by decide) (by decide)], fun k _ => by rw [a 230 (by decide) (by decide)]⟩ ⟨told.1, told.2.1, told.2.2.1, told.2.2.2, d13, fun z => absurd dz z⟩, fun dn => ?_⟩
  have r6 := r6 dn
  refine p_does1 rfl ?_
  rw [a 234 (by decide) (by decide), e0, e1, e2]
  refine p_lies (by omega) (by omega) (fun M2 o2 q2 => ?_)
  refine hK M2 ⟨fun x p q _ s _ => by rw [o2 x q, a x p s], fun k _ _ _ _ u => by rw [o2 228 (by decide), b k u], fun z => absurd z dn, fun k p => by rw [q2 k, if_neg (by omega), a 229 (by decide) (by decide)], fun k p => by rw [o2 230 (by decide), a 230 (by decide) (by decide)]⟩ ⟨by rw [o2 228 (by decide)]; exact told.1, by rw [o2 228 (by decide)]; exact told.2.1, by rw [o2 233 (by decide)]; exact told.2.2.1, by rw [o2 228 (by decide)]; exact told.2.2.2, by rw [o2 228 (by decide)]; exact d13, fun _ => ⟨by rw [o2 228 (by decide), b 2 (by decide)]; exact r6.1, fun k p q => ?_, fun w p q => ?_, by rw [o2 230 (by decide), a 230 (by decide) (by decide)]; exact r6.2.2.2⟩⟩
  · rw [q2 k, a 229 (by decide) (by decide)]
    show _ = up2 (sL σ) u v l k
    unfold up2
    by_cases z : k = 12 * u + v ∨ k = 12 * v + u
    · rw [if_pos z, if_pos z]
    · rw [if_neg z, if_neg z]; exact r6.2.1 k p q
  · rw [q2 (144 + w), if_neg (by omega), a 229 (by decide) (by decide)]; exact r6.2.2.1 w p q
theorem p_otherNode {T : Int → Int} {n d : Int} {N0 : Int → Int} {σ : RSt} {u : Int} {K : Int → gMem → Prop} {M : gMem} (h : TxM T n M) (hs : SW T n σ) (hr : RM σ d N0 M) (e0 : M 234 0 = u) (hu : 0 ≤ u ∧ u ≤ sN σ - 1) (h0 : ¬ ((0 ≤ nm T n σ.1 σ.2.1 ∧ nm T n σ.1 σ.2.1 ≤ sN σ - 1) ∧ nm T n σ.1 σ.2.1 ≠ u ∧ (lkc (sL σ) < 60 ∨ 0 < sL σ (12 * u + nm T n σ.1 σ.2.1))) → K 0 M)
    (h1 : ((0 ≤ nm T n σ.1 σ.2.1 ∧ nm T n σ.1 σ.2.1 ≤ sN σ - 1) ∧ nm T n σ.1 σ.2.1 ≠ u ∧ (lkc (sL σ) < 60 ∨ 0 < sL σ (12 * u + nm T n σ.1 σ.2.1))) → wX10_number 228 1 0 (sN σ - 1) (fun (r : Int) (M' : gMem) => (r = 0 → (K 0 M')) ∧ (¬ r = 0 → (K 1 M'))) M) : wX10_otherNode 228 K M := by
  have hN := hs.2.1
  have p3 := hr.2.2.1
  have k2 := hr.2.2.2.1
  have n2 := hr.2.1
  unfold wX10_otherNode
  simp only [Int.reduceAdd]
  refine ⟨⟨by decide, by decide⟩, fun x ex => ?_⟩
  rw [e0] at ex
  subst ex
  refine p_numberHere h (by rw [hr.1.1, hr.1.2]; exact hs.1) ?_
  rw [hr.1.1, hr.1.2, n2]
  generalize nm T n σ.1 σ.2.1 = v at h0 h1
  have go : ((0 ≤ v ∧ v ≤ sN σ - 1) ∧ v ≠ x ∧ (lkc (sL σ) < 60 ∨ 0 < sL σ (12 * x + v))) → gK1 (fun P12 => gK0 (fun P15 => ((1 : Int) = 0 → P15 M) ∧ (¬ (1 : Int) = 0 → gR ((M 228 9) - 1) ∧ (wX10_number 228 1 0 ((M 228 9) - 1) (fun (r19 : Int) (M18 : gMem) => (r19 = 0 → P15 M18) ∧ (¬ r19 = 0 → P12 1 M18)) M))) (fun (M14 : gMem) => P12 0 M14)) (fun (x10 : Int) (M11 : gMem) => (x10 = 0 ∨ x10 = 1) ∧ K x10 M11) := by
    intro ok
    rw [n2]
    refine ⟨fun y M' => (y = 0 ∨ y = 1) ∧ K y M', ⟨fun M' => K 0 M', ⟨fun e => absurd e (by decide), fun _ => ⟨⟨by omega, by omega⟩, ?_⟩⟩, fun M' q => ⟨Or.inl rfl, q⟩⟩, fun y M' q => q⟩
    have := h1 ok
    have e : (fun (r19 : Int) (M18 : gMem) => (r19 = 0 → (K 0 M18)) ∧ (¬ r19 = 0 → ((1 : Int) = 0 ∨ (1 : Int) = 1) ∧ K 1 M18)) = (fun (r : Int) (M' : gMem) => (r = 0 → (K 0 M')) ∧ (¬ r = 0 → (K 1 M'))) := by
      funext r M'
      refine propext ⟨fun q => ⟨q.1, fun z => (q.2 z).2⟩, fun q => ⟨q.1, fun z => ⟨Or.inr rfl, q.2 z⟩⟩⟩
    rw [e]
    exact this
  have nogo : (¬ ((0 ≤ v ∧ v ≤ sN σ - 1) ∧ v ≠ x ∧ (lkc (sL σ) < 60 ∨ 0 < sL σ (12 * x + v)))) → gK1 (fun P12 => gK0 (fun P15 => ((0 : Int) = 0 → P15 M) ∧ (¬ (0 : Int) = 0 → gR ((M 228 9) - 1) ∧ (wX10_number 228 1 0 ((M 228 9) - 1) (fun (r19 : Int) (M18 : gMem) => (r19 = 0 → P15 M18) ∧ (¬ r19 = 0 → P12 1 M18)) M))) (fun (M14 : gMem) => P12 0 M14)) (fun (x10 : Int) (M11 : gMem) => (x10 = 0 ∨ x10 = 1) ∧ K x10 M11) := by
    intro no
    exact gK1_r (gK0_r ⟨fun _ => ⟨Or.inl rfl, h0 no⟩, fun e => absurd rfl e⟩)
  refine ⟨⟨by omega, by omega⟩, p_inI (fun a => gK1_r (gK0_r ⟨fun e => absurd e (by decide), fun _ => ⟨fun e => nogo (fun w => w.2.1 e), fun ne => ⟨⟨by omega, by omega⟩, ⟨by omega, by omega⟩, ⟨by omega, by omega⟩, ?_⟩⟩⟩)) (fun a => gK1_r (gK0_r ⟨fun _ => nogo (fun w => a w.1), fun e => absurd rfl e⟩))⟩
  have pv := p3 (12 * x + v) (by omega) (by omega)
  refine gK0_r ⟨fun z => go ⟨a, ne, Or.inr ?_⟩, fun z => ⟨fun y => nogo (fun w => ?_), fun y => go ⟨a, ne, Or.inl (by omega)⟩⟩⟩
  · by_cases g : 0 < sL σ (12 * x + v)
    · exact g
    · rw [if_neg g] at pv; exact absurd pv z
  · have w2 := w.2.2
    by_cases g : 0 < sL σ (12 * x + v)
    · rw [if_pos g] at pv; omega
    · omega
theorem p_readsClauseM {T : Int → Int} {n d : Int} {N0 : Int → Int} {σ : RSt} {K : Int → gMem → Prop} {M : gMem} (h : TxM T n M) (hw : ∀ k : Nat, k < 15 → M 235 (k : Int) = gwl.getD k 0) (hs : SW T n σ) (hr : RM σ d N0 M) (hK : ∀ M', FrM d M M' → SW T n (clf T n σ).2 → RM (clf T n σ).2 d N0 M' → K (clf T n σ).1 M') : wX10_readsClause 228 K M := by
  unfold wX10_readsClause
  have e7 := hr.1.1
  have e8 := hr.1.2
  have hN := hs.2.1
  refine p_wordHere h hw (by rw [e7, e8]; exact hs.1) ?_
  rw [e7, e8]
  by_cases w0 : wv T n σ.1 σ.2.1 = 0
  · have ec : clf T n σ = clNet T n σ := by unfold clf; rw [if_pos w0]
    rw [ec] at hK
    rw [w0]
    refine ⟨fun _ => p_nextS h hs hr (fun M1 f1 s1 c1 => ?_), fun e => absurd e (by decide)⟩
    have t1 := f1.tx h
    refine gK1_r ⟨fun e => absurd rfl e, fun _ => p_numMS t1 s1 c1 (by decide) (by decide) (fun q => ⟨fun e => absurd rfl e, fun _ => ?_⟩) (fun q M2 f2 a2 b2 s2 c2 => ⟨fun _ => ?_, fun e => absurd e (by decide)⟩)⟩
    · have q : ¬ (2 ≤ nmT T n (y1 T n σ) ∧ nmT T n (y1 T n σ) ≤ 12) := q
      have e : clNet T n σ = (0, setT σ (y1 T n σ)) := by unfold clNet; rw [if_neg q]
      rw [e] at hK
      exact hK M1 f1.m s1 c1
    · have q : 2 ≤ nmT T n (y1 T n σ) ∧ nmT T n (y1 T n σ) ≤ 12 := q
      have e : clNet T n σ = (1, ((y2 T n σ).1, (y2 T n σ).2, nmT T n (y1 T n σ), (fun _ => 0), (fun _ => 0), 1)) := by unfold clNet; rw [if_pos q]
      rw [e] at hK
      exact p_tailNet (T := T) (n := n) c2 b2 q (fun M3 f3 c3 => hK M3 ((f1.tr f2).m.tr f3) (SW.net (x := y2 T n σ) s2.1 q) c3)
  by_cases w1 : wv T n σ.1 σ.2.1 = 1
  · have ec : clf T n σ = clLink T n σ := by unfold clf; rw [if_neg w0, if_pos w1]
    rw [ec] at hK
    rw [w1]
    refine ⟨fun _ => p_nextS h hs hr (fun M1 f1 s1 c1 => ?_), fun e => absurd e (by decide)⟩
    have t1 := f1.tx h
    have n1 : M1 228 9 = sN σ := c1.2.1
    rw [n1]
    refine gK1_r ⟨fun _ => ⟨fun e => absurd rfl e, fun _ => ⟨⟨by omega, by omega⟩, p_numMS t1 s1 c1 (by decide) (by decide) (fun q => gK0_r ⟨fun _ => ⟨fun e => absurd rfl e, fun _ => ?_⟩, fun e => absurd rfl e⟩) (fun q M2 f2 a2 b2 s2 c2 => gK0_r ⟨fun e => absurd e (by decide), fun _ => ?_⟩)⟩⟩, fun e => absurd e (by decide)⟩
    · have q : ¬ (0 ≤ nmT T n (y1 T n σ) ∧ nmT T n (y1 T n σ) ≤ sN σ - 1) := q
      have e : clLink T n σ = (0, setT σ (y1 T n σ)) := by unfold clLink; rw [if_pos q]
      rw [e] at hK
      exact hK M1 f1.m s1 c1
    · have q : 0 ≤ nmT T n (y1 T n σ) ∧ nmT T n (y1 T n σ) ≤ sN σ - 1 := q
      have b2 : M2 234 0 = nmT T n (y1 T n σ) := b2
      have f2' := f1.tr f2
      have t2 := f2'.tx h
      have n2 : M2 228 9 = sN σ := c2.2.1
      have bad : ¬ ((0 ≤ nmT T n (y2 T n σ) ∧ nmT T n (y2 T n σ) ≤ sN σ - 1) ∧ nmT T n (y2 T n σ) ≠ nmT T n (y1 T n σ) ∧ (lkc (sL σ) < 60 ∨ 0 < sL σ (12 * nmT T n (y1 T n σ) + nmT T n (y2 T n σ)))) → (¬ (0 : Int) = 0 → wTail 1 K M2) ∧ ((0 : Int) = 0 → K 0 M2) := by
        intro b
        refine ⟨fun e => absurd rfl e, fun _ => ?_⟩
        have e : clLink T n σ = (0, setT σ (y2 T n σ)) := by unfold clLink; rw [if_neg (fun z => z q), if_pos b]
        rw [e] at hK
        exact hK M2 f2'.m s2 c2
      refine p_otherNode t2 s2 c2 b2 q (fun no => ⟨fun _ => bad no, fun e => absurd rfl e⟩) (fun ok => ?_)
      have ok : (0 ≤ nmT T n (y2 T n σ) ∧ nmT T n (y2 T n σ) ≤ sN σ - 1) ∧ nmT T n (y2 T n σ) ≠ nmT T n (y1 T n σ) ∧ (lkc (sL σ) < 60 ∨ 0 < sL σ (12 * nmT T n (y1 T n σ) + nmT T n (y2 T n σ))) := ok
      refine p_numMS t2 s2 c2 (by decide) (by decide) (fun z => absurd ok.1 z) (fun _ M3 f3 a3 b3 s3 c3 => ⟨fun e => absurd e (by decide), fun _ => ⟨fun e => absurd e (by decide), fun _ => ?_⟩⟩)
      have b3 : M3 234 1 = nmT T n (y2 T n σ) := b3
      have f3' := f2'.tr f3
      have t3 := f3'.tx h
      refine p_numMS t3 s3 c3 (by decide) (by decide) (fun z => ⟨fun _ => ⟨fun e => absurd rfl e, fun _ => ?_⟩, fun e => absurd rfl e⟩) (fun z M4 f4 a4 b4 s4 c4 => ⟨fun e => absurd e (by decide), fun _ => ⟨fun _ => ?_, fun e => absurd e (by decide)⟩⟩)
      · have z : ¬ (1 ≤ nmT T n (y3 T n σ) ∧ nmT T n (y3 T n σ) ≤ 99) := z
        have e : clLink T n σ = (0, setT σ (y3 T n σ)) := by unfold clLink; rw [if_neg (fun w => w q), if_neg (fun w => w ok), if_pos z]
        rw [e] at hK
        exact hK M3 f3'.m s3 c3
      · have z : 1 ≤ nmT T n (y3 T n σ) ∧ nmT T n (y3 T n σ) ≤ 99 := z
        have b4 : M4 234 2 = nmT T n (y3 T n σ) := b4
        have e : clLink T n σ = (1, ((y4 T n σ).1, (y4 T n σ).2, sN σ, up2 (sL σ) (nmT T n (y1 T n σ)) (nmT T n (y2 T n σ)) (nmT T n (y3 T n σ)), sV σ, sS σ)) := by unfold clLink; rw [if_neg (fun w => w q), if_neg (fun w => w ok), if_neg (fun w => w z)]
        rw [e] at hK
        refine p_tailLink (u := nmT T n (y1 T n σ)) (v := nmT T n (y2 T n σ)) s4 c4 ?_ ?_ b4 q ok.1 ok.2.1 z (fun M5 f5 c5 => hK M5 ((f3'.tr f4).m.tr f5) (SW.link (x := y4 T n σ) hs s4.1 q ok.1 ok.2.1 ok.2.2 z) c5)
        · rw [a4 0 (by decide), a3 0 (by decide)]; exact b2
        · rw [a4 1 (by decide)]; exact b3
  by_cases w2 : wv T n σ.1 σ.2.1 = 2
  · have ec : clf T n σ = clLev T n σ := by unfold clf; rw [if_neg w0, if_neg w1, if_pos w2]
    rw [ec] at hK
    rw [w2]
    refine ⟨fun _ => p_nextS h hs hr (fun M1 f1 s1 c1 => ?_), fun e => absurd e (by decide)⟩
    have t1 := f1.tx h
    have n1 : M1 228 9 = sN σ := c1.2.1
    rw [n1]
    refine gK1_r ⟨fun _ => ⟨fun _ => ⟨⟨by omega, by omega⟩, p_numMS t1 s1 c1 (by decide) (by decide) (fun q => gK0_r ⟨fun _ => ⟨fun e => absurd rfl e, fun _ => ?_⟩, fun e => absurd rfl e⟩) (fun q M2 f2 a2 b2 s2 c2 => gK0_r ⟨fun e => absurd e (by decide), fun _ => ?_⟩)⟩, fun e => absurd e (by decide)⟩, fun e => absurd e (by decide)⟩
    · have q : ¬ (0 ≤ nmT T n (y1 T n σ) ∧ nmT T n (y1 T n σ) ≤ sN σ - 1) := q
      have e : clLev T n σ = (0, setT σ (y1 T n σ)) := by unfold clLev; rw [if_pos q]
      rw [e] at hK
      exact hK M1 f1.m s1 c1
    · have q : 0 ≤ nmT T n (y1 T n σ) ∧ nmT T n (y1 T n σ) ≤ sN σ - 1 := q
      have b2 : M2 234 0 = nmT T n (y1 T n σ) := b2
      have f2' := f1.tr f2
      have t2 := f2'.tx h
      refine p_numMS t2 s2 c2 (by decide) (by decide) (fun r => ⟨fun _ => ⟨fun e => absurd rfl e, fun _ => ?_⟩, fun e => absurd rfl e⟩) (fun r M3 f3 a3 b3 s3 c3 => ⟨fun e => absurd e (by decide), fun _ => ⟨fun _ => ?_, fun e => absurd e (by decide)⟩⟩)
      · have r : ¬ (0 ≤ nmT T n (y2 T n σ) ∧ nmT T n (y2 T n σ) ≤ 2) := r
        have e : clLev T n σ = (0, setT σ (y2 T n σ)) := by unfold clLev; rw [if_neg (fun z => z q), if_pos r]
        rw [e] at hK
        exact hK M2 f2'.m s2 c2
      · have r : 0 ≤ nmT T n (y2 T n σ) ∧ nmT T n (y2 T n σ) ≤ 2 := r
        have b3 : M3 234 1 = nmT T n (y2 T n σ) := b3
        have e : clLev T n σ = (1, ((y3 T n σ).1, (y3 T n σ).2, sN σ, sL σ, up1 (sV σ) (nmT T n (y1 T n σ)) (nmT T n (y2 T n σ)), sS σ)) := by unfold clLev; rw [if_neg (fun z => z q), if_neg (fun z => z r)]
        rw [e] at hK
        exact p_tailLev (u := nmT T n (y1 T n σ)) c3 (by rw [a3 0 (by decide)]; exact b2) b3 (by omega) (fun M4 f4 c4 => hK M4 ((f2'.tr f3).m.tr f4) (SW.lev (x := y3 T n σ) hs s3.1 q r) c4)
  · have ew : wv T n σ.1 σ.2.1 = -1 := by
      unfold wv at w0 w1 w2 ⊢
      split at w0
      · exact absurd rfl w0
      · next g0 =>
        rw [if_neg g0] at w1 w2 ⊢
        split at w1
        · exact absurd rfl w1
        · next g1 =>
          rw [if_neg g1] at w2 ⊢
          split at w2
          · exact absurd rfl w2
          · next g2 => rw [if_neg g2]
    have ec : clf T n σ = (0, σ) := by unfold clf; rw [if_neg w0, if_neg w1, if_neg w2]
    rw [ec] at hK
    rw [ew]
    exact ⟨fun e => absurd rfl e, fun _ => hK M ⟨fun _ _ _ _ _ _ => rfl, fun _ _ _ _ _ _ => rfl, fun _ => ⟨rfl, rfl, rfl⟩, fun _ _ => rfl, fun _ _ => rfl⟩ hs hr⟩
