/-! CALLS, 10: the greatest fraction; worst -/
abbrev P4 := Int × Int × Int × Int
/-- met, above, below, which -/
def pk1 (s : P4) (A B k : Int) : P4 := if s.2.1 * B < A * s.2.2.1 then (s.1 + 1, A, B, k) else (s.1 + 1, s.2.1, s.2.2.1, s.2.2.2)
def pkS (ok : Int → Bool) (A B : Int → Int) (a0 : Int) : Nat → P4
  | 0 => (0, a0, 1, -1)
  | k + 1 => if ok (k : Int) = true then pk1 (pkS ok A B a0 k) (A (k : Int)) (B (k : Int)) (k : Int) else pkS ok A B a0 k
theorem pk_sI (ok : Int → Bool) (A B : Int → Int) (a0 w : Int) (hw : 0 ≤ w) : pkS ok A B a0 (w + 1).toNat = if ok w = true then pk1 (pkS ok A B a0 w.toNat) (A w) (B w) w else pkS ok A B a0 w.toNat := by
  rw [show (w + 1).toNat = w.toNat + 1 by omega]
  conv => lhs; unfold pkS
  rw [show ((w.toNat : Nat) : Int) = w by omega]
theorem pk_more {ok : Int → Bool} {A B : Int → Int} {a0 : Int} (a : Nat) : ∀ b : Nat, a ≤ b → (∀ i : Nat, a ≤ i → i < b → ok (i : Int) = false) → pkS ok A B a0 b = pkS ok A B a0 a
  | 0, h, _ => by have : a = 0 := by omega
                  subst this; rfl
  | b + 1, h, h1 => by
    by_cases e : a = b + 1
    · subst e; rfl
    · have := pk_more (A := A) (B := B) (a0 := a0) a b (by omega) (fun i x y => h1 i x (by omega))
      conv => lhs; unfold pkS
      rw [if_neg (by rw [h1 b (by omega) (by omega)]; decide)]
      exact this
def pkB (s : P4) (a0 k : Int) : Prop := 0 ≤ s.1 ∧ s.1 ≤ k ∧ (s.1 = 0 → s.2.1 = a0 ∧ s.2.2.1 = 1 ∧ s.2.2.2 = -1) ∧ (s.1 ≠ 0 → (a0 + 1 ≤ s.2.1 ∧ s.2.1 ≤ 2400) ∧ (1 ≤ s.2.2.1 ∧ s.2.2.1 ≤ 1200) ∧ 0 ≤ s.2.2.2 ∧ s.2.2.2 < k)
theorem pk_first {a0 A B : Int} (ha : a0 = 0 ∨ a0 = -1) (hA : a0 + 1 ≤ A) (hB : 1 ≤ B) : a0 * B < A * 1 := by
  rcases ha with e | e
  · subst e; omega
  · subst e; omega
theorem pk1_b {s : P4} {a0 A B k : Int} (h : pkB s a0 k) (h0 : 0 ≤ k) (ha : a0 = 0 ∨ a0 = -1) (hA : a0 + 1 ≤ A ∧ A ≤ 2400) (hB : 1 ≤ B ∧ B ≤ 1200) : pkB (pk1 s A B k) a0 (k + 1) := by
  obtain ⟨a, b, c, d⟩ := h
  unfold pk1
  by_cases q : s.2.1 * B < A * s.2.2.1
  · rw [if_pos q]
    exact ⟨by show 0 ≤ s.1 + 1; omega, by show s.1 + 1 ≤ k + 1; omega, fun e => absurd (show s.1 + 1 = 0 from e) (by omega), fun _ => ⟨hA, hB, h0, by show k < k + 1; omega⟩⟩
  · rw [if_neg q]
    have ne : s.1 ≠ 0 := fun e => by
      have c := c e
      rw [c.1, c.2.1] at q
      exact q (pk_first ha hA.1 hB.1)
    have d := d ne
    exact ⟨by show 0 ≤ s.1 + 1; omega, by show s.1 + 1 ≤ k + 1; omega, fun e => absurd (show s.1 + 1 = 0 from e) (by omega), fun _ => ⟨d.1, d.2.1, d.2.2.1, by show s.2.2.2 < k + 1; omega⟩⟩
theorem pkB.up {s : P4} {a0 k k' : Int} (h : pkB s a0 k) (hk : k ≤ k') : pkB s a0 k' := by
  obtain ⟨a, b, c, d⟩ := h
  exact ⟨a, by omega, c, fun e => by have d := d e; exact ⟨d.1, d.2.1, d.2.2.1, by omega⟩⟩
theorem pk_b {ok : Int → Bool} {A B : Int → Int} {a0 : Int} (ha : a0 = 0 ∨ a0 = -1) (H : ∀ k, 0 ≤ k → k < 144 → ok k = true → (a0 + 1 ≤ A k ∧ A k ≤ 2400) ∧ (1 ≤ B k ∧ B k ≤ 1200)) : ∀ k : Nat, k ≤ 144 → pkB (pkS ok A B a0 k) a0 (k : Int)
  | 0, _ => ⟨Int.le_refl 0, Int.le_refl 0, fun _ => ⟨rfl, rfl, rfl⟩, fun e => absurd rfl e⟩
  | k + 1, hk => by
    have ih := pk_b ha H k (by omega)
    unfold pkS
    by_cases q : ok (k : Int) = true
    · rw [if_pos q]
      have := H (k : Int) (by omega) (by omega) q
      have r := pk1_b ih (by omega) ha this.1 this.2
      rw [show ((k + 1 : Nat) : Int) = (k : Int) + 1 by omega]
      exact r
    · rw [if_neg q]
      exact ih.up (by omega)
theorem mul_b {a b : Int} (ha : 0 ≤ a ∧ a ≤ 2400) (hb : 0 ≤ b ∧ b ≤ 2400) : 0 ≤ a * b ∧ a * b ≤ 5760000 := by
  have x := Int.mul_nonneg ha.1 hb.1
  have y := Int.mul_le_mul ha.2 hb.2 hb.1 (by decide : (0 : Int) ≤ 2400)
  omega
/-- the class's peak -/
def PkC (s : P4) (M : gMem) : Prop := M 227 4 = s.1 ∧ (s.1 ≠ 0 → M 227 0 = s.2.1 ∧ M 227 1 = s.2.2.1 ∧ M 227 2 = s.2.2.2 / 12 ∧ M 227 3 = s.2.2.2 % 12)
theorem p_offer {s : P4} {a0 A B u v k : Int} {K : gMem → Prop} {M : gMem} (hp : PkC s M) (hb : pkB s a0 144) (ha : a0 = 0 ∨ a0 = -1) (hA : a0 + 1 ≤ A ∧ A ≤ 2400) (hB : 1 ≤ B ∧ B ≤ 1200) (hk : k = 12 * u + v) (hv : 0 ≤ v ∧ v < 12)
    (hK : ∀ M', Only 227 M M' → PkC (pk1 s A B k) M' → K M') : wX4_offer 227 A B u v K M := by
  unfold wX4_offer
  obtain ⟨b1, b2, b3, b4⟩ := hb
  have p4 := hp.1
  have tk : s.2.1 * B < A * s.2.2.1 → ∀ M8, M8 = gup M 227 0 A → ∀ M9, M9 = gup M8 227 1 B → ∀ M10, M10 = gup M9 227 2 u → ∀ M11, M11 = gup M10 227 3 v → gR (M11 227 4 + 1) ∧ ∀ M4, M4 = gup M11 227 4 (M11 227 4 + 1) → K M4 := by
    intro q M8 e8 M9 e9 M10 e10 M11 e11
    have f4 : M11 227 4 = s.1 := by rw [e11, gup_k _ (by decide), e10, gup_k _ (by decide), e9, gup_k _ (by decide), e8, gup_k _ (by decide), p4]
    rw [f4]
    refine ⟨⟨by omega, by omega⟩, fun M4 e4 => hK M4 (fun c hc => by rw [e4, gup_c _ hc, e11, gup_c _ hc, e10, gup_c _ hc, e9, gup_c _ hc, e8, gup_c _ hc]) ?_⟩
    unfold pk1
    rw [if_pos q]
    refine ⟨by rw [e4, gup_s], fun _ => ⟨?_, ?_, ?_, ?_⟩⟩
    · rw [e4, gup_k _ (by decide), e11, gup_k _ (by decide), e10, gup_k _ (by decide), e9, gup_k _ (by decide), e8, gup_s]
    · rw [e4, gup_k _ (by decide), e11, gup_k _ (by decide), e10, gup_k _ (by decide), e9, gup_s]
    · rw [e4, gup_k _ (by decide), e11, gup_k _ (by decide), e10, gup_s]
      show u = k / 12
      omega
    · rw [e4, gup_k _ (by decide), e11, gup_s]
      show v = k % 12
      omega
  refine gK0_r (gK0_r ⟨fun a => tk ?_, fun a => ?_⟩)
  · have c := b3 (by omega)
    rw [c.1, c.2.1]
    exact pk_first ha hA.1 hB.1
  · have ne : s.1 ≠ 0 := by omega
    have d := b4 ne
    have p := hp.2 ne
    rw [p.1, p.2.1]
    have m1 := mul_b (a := A) (b := s.2.2.1) (by omega) (by omega)
    have m2 := mul_b (a := s.2.1) (b := B) (by omega) (by omega)
    refine ⟨⟨by omega, by omega⟩, ⟨by omega, by omega⟩, fun b => ?_, fun b => tk (by omega)⟩
    dsimp only
    rw [p4]
    refine ⟨⟨by omega, by omega⟩, fun M4 e4 => hK M4 (fun c hc => by rw [e4, gup_c _ hc]) ?_⟩
    unfold pk1
    rw [if_neg (by omega)]
    refine ⟨by rw [e4, gup_s], fun _ => ⟨?_, ?_, ?_, ?_⟩⟩
    · rw [e4, gup_k _ (by decide)]; exact p.1
    · rw [e4, gup_k _ (by decide)]; exact p.2.1
    · rw [e4, gup_k _ (by decide)]; exact p.2.2.1
    · rw [e4, gup_k _ (by decide)]; exact p.2.2.2
noncomputable def okW (M : gMem) (k : Int) : Bool := decide (k / 12 < k % 12 ∧ k % 12 < nN M ∧ dd M (k / 12) (k % 12) ≠ -1)
noncomputable def tA (M : gMem) (k : Int) : Int := gdist (nN M) (LR (mL M) (τc (nN M) M)) (k / 12) (k % 12)
noncomputable def tB (M : gMem) (k : Int) : Int := dd M (k / 12) (k % 12)
theorem okW_no {M : gMem} {k : Int} (h : ¬ (k / 12 < k % 12 ∧ k % 12 < nN M ∧ dd M (k / 12) (k % 12) ≠ -1)) : okW M k = false := by unfold okW; exact decide_eq_false h
theorem okW_yes {M : gMem} {k : Int} (h : k / 12 < k % 12 ∧ k % 12 < nN M ∧ dd M (k / 12) (k % 12) ≠ -1) : okW M k = true := by unfold okW; exact decide_eq_true h
theorem thin_far {t s : Int} {M : gMem} (h : InvA t M) (hF : FarOK M) (hT : ThinOK s M) {u v : Int} (hu : 0 ≤ u ∧ u < nN M) (hv : 0 ≤ v ∧ v < nN M) (ne : u ≠ v) (hd : dd M u v ≠ -1) : M (212 + u) v < 1000000 ∧ gdist (nN M) (LR (mL M) (τc (nN M) M)) u v = M (212 + u) v ∧ 1 ≤ M (212 + u) v ∧ M (212 + u) v ≤ 1188 := by
  obtain ⟨a, b, c, d, e, f⟩ := hT
  have hn := h.1
  have l99 := LR_99 (τc (nN M) M) h.L99
  obtain ⟨m, z, hw⟩ := gdist_wk hd
  obtain ⟨j, y, hy⟩ := b.walk h.sym (fun u a b => by have := (h.L u u a (by omega) a (by omega)).2.2.2.1 rfl; omega) (fun u v a b c d => h.keyL u v a b c d) m u v z hu.1 hu.2 hv.1 hv.2 hw
  have rc : M (212 + u) v < 1000000 := c.reach hn.2 l99 (by decide) j u v y hu.1 hu.2 hv.1 hv.2 hy
  obtain ⟨m2, w2⟩ := c.2.2.2.2 u v hu.1 hu.2 hv.1 hv.2 rc
  have w3 := Wk_mono (L' := mL M) (fun x y p q r s g => by
    unfold LR at g ⊢
    split at g
    · next i => rw [if_pos i]
    · omega) m2 u v _ hv.1 hv.2 w2
  have le : M (197 + u) v ≤ M (212 + u) v := hF.2.2.le m2 u v _ hu.1 hu.2 hv.1 hv.2 w3
  have pos := (dd_all h hF hu hv).2.2.2.2.2 ne hd
  have val : (M (197 + u) v < 1000000 ∧ dd M u v = M (197 + u) v ∧ 0 ≤ M (197 + u) v ∧ M (197 + u) v ≤ 1188) ∨ (¬ M (197 + u) v < 1000000 ∧ dd M u v = -1) := hF.2.2.val hn.2 h.L99 (by decide) hu.1 hu.2 hv.1 hv.2
  have val2 : (M (212 + u) v < 1000000 ∧ gdist (nN M) (LR (mL M) (τc (nN M) M)) u v = M (212 + u) v ∧ 0 ≤ M (212 + u) v ∧ M (212 + u) v ≤ 1188) ∨ (¬ M (212 + u) v < 1000000 ∧ gdist (nN M) (LR (mL M) (τc (nN M) M)) u v = -1) := c.val hn.2 l99 (by decide) hu.1 hu.2 hv.1 hv.2
  omega
theorem ok_bd {t s : Int} {M : gMem} (h : InvA t M) (hF : FarOK M) (hT : ThinOK s M) : ∀ k, 0 ≤ k → k < 144 → okW M k = true → (0 + 1 ≤ tA M k ∧ tA M k ≤ 2400) ∧ (1 ≤ tB M k ∧ tB M k ≤ 1200) := by
  intro k k0 k1 hk
  unfold okW at hk
  have hk := of_decide_eq_true hk
  have hn := h.1
  have a := thin_far h hF hT (u := k / 12) (v := k % 12) (by omega) (by omega) (by omega) hk.2.2
  have b := dd_all h hF (u := k / 12) (v := k % 12) (by omega) (by omega)
  have c := b.2.2.2.2.2 (by omega) hk.2.2
  unfold tA tB
  omega
theorem Only.aside227 {M M' : gMem} (h : Only 227 M M') : Aside M M' := ⟨fun c' h1 h2 => h c' (fun e => h1 (by subst e; unfold scr; omega)), by rw [h 4 (by omega)], by rw [h 228 (by omega)], by rw [h 228 (by omega)], by rw [h 228 (by omega)]⟩
theorem Inv.t227 {t : Int} {M M' : gMem} (h : Inv t M) (o : Only 227 M M') : Inv t M' :=
  ⟨h.1.cong o.aside227, h.2.1.cong h.1.1.2 (by rw [o 1 (by omega)]) (fun c a b => o c (by omega)) (by rw [o 228 (by omega)]) (o 229 (by omega)), h.2.2.cong h.1.1.2 (by rw [o 1 (by omega)]) (fun c a b => o c (by omega)) (by rw [o 228 (by omega)]) (o 229 (by omega))⟩
theorem p_weighThinned {t s : Int} {K : gMem → Prop} {M : gMem} (h : Inv t M) (hs : 1 ≤ s ∧ s ≤ 9) (hK : ∀ M1 M', Inv t M1 → nN M1 = nN M → FarOK M1 → ThinOK s M1 → Only 227 M1 M' → PkC (pkS (okW M1) (tA M1) (tB M1) 0 144) M' → K M') : wX9_weighThinned 0 s K M := by
  unfold wX9_weighThinned
  simp only [Int.reduceAdd]
  refine p_follow1 h.1 h.2.1 (fun M0 f0 o0 => ?_)
  have h0 := h.q f0.q o0
  refine p_follow2 h0.1 h0.2.2 hs (fun M1 f1 o1 e2 e3 => ?_)
  have h1 := h0.th f1 o1 e2 e3
  have F1 : FarOK M1 := o0.cong h0.1.1.2 (by rw [f1 1 (by omega)]) (fun c a b => f1 c (by omega)) (by rw [f1 228 (by omega)]) (f1 229 (by omega))
  have eN : nN M1 = nN M := ((TF.aside f1).2.2.2.1).trans f0.aside.2.2.2.1
  have hK := hK M1
  have hn := h1.1.1
  have e0 : M1 1 0 = nN M1 := h1.1.2.1.1
  have H := ok_bd h1.1 F1 o1
  unfold wX4_clear
  intro M2 em2
  refine ⟨fun u M' => 0 ≤ u ∧ u ≤ nN M1 ∧ Only 227 M1 M' ∧ PkC (pkS (okW M1) (tA M1) (tB M1) 0 (12 * u).toNat) M', fun u _ => nN M1 - u, ⟨by omega, by omega, fun c hc => by rw [em2, gup_c _ hc], by rw [em2, gup_s]; rfl, fun e => absurd rfl e⟩, ?_⟩
  intro u M3 ⟨u0, u1, O3, P3⟩
  dsimp only
  have g0 : M3 1 0 = nN M1 := by rw [O3 1 (by decide)]; exact e0
  rw [g0]
  refine ⟨by omega, fun q => ?_, fun q => ⟨⟨by omega, by omega⟩, fun v0 ev => ?_⟩⟩
  · refine hK M3 h1 eN F1 o1 O3 ?_
    rw [pk_more (12 * u).toNat 144 (by omega) (fun i a b => okW_no (fun c => by omega))]
    exact P3
  · refine ⟨fun v M' => u < v ∧ v ≤ nN M1 ∧ Only 227 M1 M' ∧ PkC (pkS (okW M1) (tA M1) (tB M1) 0 (12 * u + v).toNat) M', fun v _ => nN M1 - v, ⟨by omega, by omega, O3, ?_⟩, ?_⟩
    · rw [pk_more (12 * u).toNat (12 * u + v0).toNat (by omega) (fun i a b => okW_no (fun c => by omega))]
      exact P3
    · intro v M4 ⟨v0', v1, O4, P4'⟩
      dsimp only
      have g4 : M4 1 0 = nN M1 := by rw [O4 1 (by decide)]; exact e0
      rw [g4]
      have h4 := h1.t227 O4
      have eN4 : nN M4 = nN M1 := O4.aside227.2.2.2.1
      have F4 : FarOK M4 := F1.cong hn.2 (by rw [O4 1 (by decide)]) (fun c a b => O4 c (by omega)) (by rw [O4 228 (by decide)]) (O4 229 (by decide))
      have hS := pk_sI (okW M1) (tA M1) (tB M1) 0 (12 * u + v) (by omega)
      rw [show 12 * u + v + 1 = 12 * u + (v + 1) by omega] at hS
      refine ⟨by omega, fun q2 => ⟨⟨by omega, by omega⟩, ⟨by omega, by omega, O4, ?_⟩, by omega⟩, fun q2 => ?_⟩
      · rw [pk_more (12 * u + v).toNat (12 * (u + 1)).toNat (by omega) (fun i a b => okW_no (fun c => by omega))]
        exact P4'
      · have k1 : (12 * u + v) / 12 = u := by omega
        have k2 : (12 * u + v) % 12 = v := by omega
        refine p_btw1 h4.1 F4 (fun q3 => ?_) (fun p => absurd (show _ by omega) p)
        rw [dd_cong O4.aside227]
        refine gK0_r ⟨fun c => ⟨⟨by omega, by omega⟩, ⟨by omega, by omega, O4, ?_⟩, by omega⟩, fun c => ?_⟩
        · rw [hS, okW_no (fun g => g.2.2 (by rw [k1, k2]; exact c)), if_neg (by decide)]
          exact P4'
        · have tf := thin_far h1.1 F1 o1 (u := u) (v := v) (by omega) (by omega) (by omega) c
          have n10 : M4 210 0 = nN M1 := by rw [O4 210 (by decide)]; exact o1.1
          have oky : okW M1 (12 * u + v) = true := okW_yes ⟨by omega, by omega, by rw [k1, k2]; exact c⟩
          have Hk := H (12 * u + v) (by omega) (by omega) oky
          refine p_btw (by omega) (fun q4 => ?_) (fun p => absurd (show _ by omega) p)
          have e5 : M4 (210 + 2 + u) v = tA M1 (12 * u + v) := by
            unfold tA
            rw [k1, k2, tf.2.1]
            show M4 (212 + u) v = _
            rw [O4 _ (by omega)]
          rw [e5, if_pos (by omega)]
          have e6 : dd M1 u v = tB M1 (12 * u + v) := by unfold tB; rw [k1, k2]
          rw [e6]
          refine p_offer (a0 := 0) (k := 12 * u + v) P4' ((pk_b (Or.inl rfl) H (12 * u + v).toNat (by omega)).up (by omega)) (Or.inl rfl) Hk.1 Hk.2 rfl (by omega) (fun M5 O5 P5 => ⟨⟨by omega, by omega⟩, ⟨by omega, by omega, O4.tr O5, ?_⟩, by omega⟩)
          rw [hS, oky, if_pos rfl]
          exact P5
