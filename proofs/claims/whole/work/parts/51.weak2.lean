/-! THE SAME, of weaker ties, 2 (printed out of the earlier parts by mkbc2.py) -/
theorem InvC.sym {t : Int} {M : gMem} (h : InvC t M) : Lsym (nN M) (mL M) := fun u v a b c d => (h.L u v a (by have := h.1; omega) c (by have := h.1; omega)).2.2.1
theorem InvC.keyL {t : Int} {M : gMem} (h : InvC t M) (u v : Int) (a : 0 ≤ u) (b : u < nN M) (c : 0 ≤ v) (d : v < nN M) : key (mL M) u v < 14400 := by
  have := (h.L u v a (by have := h.1; omega) c (by have := h.1; omega)).2.1
  have := h.1
  unfold key
  split <;> omega
theorem InvC.row {t : Int} {M : gMem} (h : InvC t M) (k : Int) (h0 : 0 ≤ k) (h1 : k < 144) : 0 ≤ M 229 k ∧ M 229 k ≤ 99 ∧ (0 < M 229 k → k / 12 < nN M ∧ k % 12 < nN M ∧ k / 12 ≠ k % 12) ∧ mL M (k / 12) (k % 12) = M 229 k := by
  have a := h.L (k / 12) (k % 12) (by omega) (by omega) (by omega) (by omega)
  have b := h.L (k % 12) (k / 12) (by omega) (by omega) (by omega) (by omega)
  have e : mL M (k / 12) (k % 12) = M 229 k := by unfold mL; rw [show 12 * (k / 12) + k % 12 = k by omega]
  rw [e] at a b
  exact ⟨a.1, a.2.1, fun q => ⟨by omega, by omega, by omega⟩, e⟩
theorem row_symC {t : Int} {M : gMem} (h : InvC t M) (k : Int) (h0 : 0 ≤ k) (h1 : k < 144) : M 229 (sw k) = M 229 k := by
  have a := (h.L (k % 12) (k / 12) (by omega) (by omega) (by omega) (by omega)).2.2.1
  unfold mL at a
  rw [show 12 * (k / 12) + k % 12 = k by omega] at a
  exact a
theorem cnt_lkC {t : Int} {M : gMem} (h : InvC t M) : cnt (lk (M 229)) 144 = M 1 1 := by
  have a := h.2.1.2.2.2.2.1
  have b := cnt_0 (lk (M 229)) 144
  obtain ⟨N, hN⟩ := Int.eq_ofNat_of_zero_le b
  have c := cnt_half 144 rfl N (fun k => decide (0 < M 229 k)) (fun k x y => by rw [row_symC h k x y]) (fun k x y z => by
    have := (h.row k x y).2.2.1
    simp only [decide_eq_false_iff_not]
    intro q
    exact (this q).2.2 z) hN
  have e : (fun k => decide (0 < M 229 (0 + k))) = (fun k => decide (0 < M 229 k)) := by funext k; rw [Int.zero_add]
  rw [e, c] at a
  rw [hN]
  omega
theorem p_len1C {t u v : Int} {K : Int → gMem → Prop} {M : gMem} (h : InvC t M) (h1 : (0 ≤ u ∧ u < nN M) ∧ 0 ≤ v ∧ v < nN M → K (mL M u v) M) (h2 : ¬ ((0 ≤ u ∧ u < nN M) ∧ 0 ≤ v ∧ v < nN M) → K 0 M) : wX1_lengthOf 1 u v K M := by
  have hn := h.1
  have e : M 1 0 = nN M := h.2.1.1
  refine p_len (by omega) (fun q => ?_) (fun q => h2 (by rw [e] at q; exact q))
  rw [e] at q
  have := h.cLe u v q.1.1 (by omega) q.2.1 (by omega)
  unfold cL at this
  rw [this]
  exact h1 q
theorem p_insertC {s u v : Int} {K : gMem → Prop} {M M0 : gMem} (h : InvC s M) (hS : SF M M0) (hu : 0 ≤ u) (huv : u < v) (hv : v < nN M) (hl : 0 < M 229 (12 * u + v)) (hO : Ord (M 229) (M0 224) (M0 209 4) (12 * u + v)) (hj : M0 209 4 < 30)
    (hK : ∀ M', SF M M' → M' 209 4 = M0 209 4 + 1 → Ord (M 229) (M' 224) (M' 209 4) (12 * u + v + 1) → K M') : wX8_insert 209 1 u v K M0 := by
  unfold wX8_insert
  simp only [Int.reduceAdd]
  have hn := h.1
  have hI0 := h.cong hS.aside
  have en0 : nN M0 = nN M := hS.aside.2.2.2.1
  have j0 : 0 ≤ M0 209 4 := by rw [hO.2.2.2]; exact cnt_0 _ _
  refine p_len1C hI0 (fun q => ?_) (fun q => absurd (show _ by omega) q)
  intro j ej
  have eL : mL M0 u v = M 229 (12 * u + v) := by unfold mL; rw [hS.1 229 (by decide) (by decide)]
  rw [eL]
  refine ⟨fun p M' => 0 ≤ p ∧ p ≤ j ∧ SF M M' ∧ M' 209 = M0 209 ∧ (∀ i, 0 ≤ i → i < p → M' 224 i = M0 224 i) ∧ (∀ i, p ≤ i → i < j → M' 224 (i + 1) = M0 224 i ∧ M 229 (12 * u + v) < M 229 (M0 224 i)), fun p _ => p, ⟨by omega, by omega, hS, rfl, fun _ _ _ => rfl, fun i a b => by omega⟩, ?_⟩
  intro p M1 ⟨p0, p1, hS1, f9, f1, f2⟩
  dsimp only
  have hI1 := h.cong hS1.aside
  have en1 : nN M1 = nN M := hS1.aside.2.2.2.1
  have done : (p = 0 ∨ M 229 (M0 224 (p - 1)) ≤ M 229 (12 * u + v)) → wX9_cell u v (fun (r11 : Int) (M10 : gMem) => ((0 : Int) ≤ p ∧ p < 30) ∧ (∀ M12 : gMem, M12 = gup M10 224 p r11 → (gR ((M12 209 4) + 1) ∧ (∀ M13 : gMem, M13 = gup M12 209 4 ((M12 209 4) + 1) → (K M13))))) M1 := by
    intro hlo
    refine p_cell (by omega) ⟨⟨by omega, by omega⟩, fun M2 e2 => ?_⟩
    have g : M2 209 = M0 209 := by rw [e2, gup_c _ (by decide), f9]
    rw [g]
    refine ⟨⟨by omega, by omega⟩, fun M3 e3 => ?_⟩
    have k4 : M3 209 4 = M0 209 4 + 1 := by rw [e3, gup_s]
    have k5 : M3 224 = M2 224 := by rw [e3, gup_c _ (by decide)]
    refine hK M3 ⟨fun c a b => by rw [e3, gup_c _ a, e2, gup_c _ b, hS1.1 c a b], fun k a => by rw [e3, gup_k _ a, g, hS.2 k a]⟩ k4 ?_
    rw [k4, k5]
    refine hO.ins (p := p) (by omega) (by omega) ⟨by omega, hl⟩ (by omega) hlo (fun i a b => (f2 i a (by omega)).2) (fun i a b => ?_) ?_ (fun i a b => ?_)
    · rw [e2, gup_k _ (by omega)]; exact f1 i a b
    · rw [e2, gup_s]
    · rw [e2, gup_k _ (by omega)]; exact (f2 i a (by omega)).1
  refine ⟨p0, gK0_r ⟨fun q => done (by omega), fun q => ⟨⟨by omega, by omega⟩, ?_⟩⟩⟩
  unfold wX8_lengthAt
  simp only [Int.reduceAdd]
  have g1 : M1 224 (p - 1) = M0 224 (p - 1) := f1 (p - 1) (by omega) (by omega)
  have ho := hO.1 (p - 1) (by omega) (by omega)
  have hr := h.row (M0 224 (p - 1)) ho.1 (by omega)
  have hb := hr.2.2.1 ho.2.2.2
  rw [g1]
  refine ⟨⟨by omega, by omega⟩, ⟨by omega, by omega⟩, ⟨by omega, by omega⟩, ⟨by omega, by omega⟩, p_len1C hI1 (fun q => ?_) (fun q => absurd (show _ by omega) q)⟩
  have eL1 : mL M1 (M0 224 (p - 1) / 12) (M0 224 (p - 1) % 12) = M 229 (M0 224 (p - 1)) := by rw [← hr.2.2.2]; unfold mL; rw [hS1.1 229 (by decide) (by decide)]
  rw [eL1]
  refine ⟨fun a => done (Or.inr a), fun a => ⟨⟨by omega, by omega⟩, ⟨by omega, by omega⟩, ⟨by omega, by omega⟩, fun M2 e2 => ⟨⟨by omega, by omega⟩, ⟨by omega, by omega, ⟨fun c b d => by rw [e2, gup_c _ d, hS1.1 c b d], fun k b => by rw [e2, gup_c _ (by decide), hS1.2 k b]⟩, by rw [e2, gup_c _ (by decide), f9], fun i b c => by rw [e2, gup_k _ (by omega)]; exact f1 i b (by omega), fun i b c => ?_⟩, by omega⟩⟩⟩
  by_cases e : i = p - 1
  · rw [e, show p - 1 + 1 = p by omega, e2, gup_s]; exact ⟨g1, by omega⟩
  · rw [e2, gup_k _ (by omega)]; exact f2 i (by omega) c
theorem p_sortLinksC {s : Int} {K : gMem → Prop} {M : gMem} (h : InvC s M) (hK : ∀ M', SF M M' → M' 209 4 ≤ 30 → Ord (M 229) (M' 224) (M' 209 4) 144 → K M') : wX8_sortLinks 209 1 K M := by
  unfold wX8_sortLinks
  have hn := h.1
  have e0 : M 1 0 = nN M := h.2.1.1
  have hc := cnt_lkC h
  have h30 : M 1 1 ≤ 30 := h.2.1.2.2.2.2.2.1
  intro M1 e1
  refine ⟨fun u M' => 0 ≤ u ∧ u ≤ nN M ∧ SF M M' ∧ Ord (M 229) (M' 224) (M' 209 4) (12 * u), fun u _ => nN M - u, ⟨by omega, by omega, ⟨fun c a b => by rw [e1, gup_c _ a], fun k a => by rw [e1, gup_k _ a]⟩, ?_⟩, ?_⟩
  · rw [e1, gup_s]
    exact ⟨fun i a b => by omega, fun i i' a b c => by omega, fun k a b => by omega, rfl⟩
  intro u M2 ⟨u0, u1, hS, hO⟩
  dsimp only
  have g0 : M2 1 0 = nN M := by rw [hS.1 1 (by decide) (by decide)]; exact e0
  rw [g0]
  refine ⟨by omega, fun q => ?_, fun q => ⟨⟨by omega, by omega⟩, fun v0 ev => ?_⟩⟩
  · have hO2 := hO.skip (x' := 144) (by omega) (by omega) (fun k a b c => by
      have := (h.row k (by omega) b).2.2.1 c.2
      omega)
    have := hO2.2.2.2
    have e : cnt (lk (M 229)) (144 : Int).toNat = M 1 1 := hc
    exact hK M2 hS (by omega) hO2
  · refine ⟨fun v M' => u < v ∧ v ≤ nN M ∧ SF M M' ∧ Ord (M 229) (M' 224) (M' 209 4) (12 * u + v), fun v _ => nN M - v, ⟨by omega, by omega, hS, hO.skip (by omega) (by omega) (fun k a b c => by omega)⟩, ?_⟩
    intro v M3 ⟨v0', v1, hS3, hO3⟩
    dsimp only
    have g3 : M3 1 0 = nN M := by rw [hS3.1 1 (by decide) (by decide)]; exact e0
    rw [g3]
    have hI3 := h.cong hS3.aside
    have en3 : nN M3 = nN M := hS3.aside.2.2.2.1
    have eL3 : mL M3 u v = M 229 (12 * u + v) := by unfold mL; rw [hS3.1 229 (by decide) (by decide)]
    refine ⟨by omega, fun q2 => ⟨⟨by omega, by omega⟩, ⟨by omega, by omega, hS3, hO3.skip (by omega) (by omega) (fun k a b c => ?_)⟩, by omega⟩, fun q2 => ?_⟩
    · have := (h.row k (by omega) (by omega)).2.2.1 c.2
      omega
    · refine p_len1C hI3 (fun q3 => ?_) (fun q3 => absurd (show _ by omega) q3)
      rw [eL3]
      refine gK0_r ⟨fun a => ⟨⟨by omega, by omega⟩, ⟨by omega, by omega, hS3, ?_⟩, by omega⟩, fun a => ⟨fun b => ?_, fun b => ?_⟩⟩
      · rw [show 12 * u + (v + 1) = 12 * u + v + 1 by omega]
        refine hO3.skip (by omega) (by omega) (fun k b c d => ?_)
        have : k = 12 * u + v := by omega
        rw [this] at d
        omega
      · have j := hO3.2.2.2
        have l1 : lk (M 229) (12 * u + v) = true := lk_iff.2 ⟨by omega, by omega⟩
        have c1 := cnt_s (lk (M 229)) (12 * u + v).toNat
        rw [show (((12 * u + v).toNat : Nat) : Int) = 12 * u + v by omega, if_pos l1] at c1
        have c2 := cnt_up (p := lk (M 229)) ((12 * u + v).toNat + 1) 144 (by omega)
        omega
      · refine p_insertC h hS3 u0 (by omega) (by omega) (by omega) hO3 (by omega) (fun M4 a4 b4 c4 => ⟨⟨by omega, by omega⟩, ⟨by omega, by omega, a4, ?_⟩, by omega⟩)
        rw [show 12 * u + (v + 1) = 12 * u + v + 1 by omega]
        exact c4
theorem p_takeC {s t c i u v z : Int} {K : gMem → Prop} {M M1 : gMem} (h : InvC s M) (hT : TC M t c i M1) (hi : i < 30) (hu : 0 ≤ u) (huv : u < v) (hv : v < nN M) (hz : mL M u v = z) (hz0 : 0 < z) (hk : key (mL M) u v = c) (hfar : far1 (nN M) (mL M) t (τc (nN M) M1) u v)
    (hK : ∀ M', TC M t (c + 1) (i + 1) M' → M' 224 = M1 224 → (∀ k, k ≠ 0 → M' 209 k = M1 209 k) → K M') : wX8_take 209 u v z K M1 := by
  obtain ⟨hF, h0, hR, hD, hbd, hnn, hbx, hct, hs0, hs1⟩ := hT
  have hn := h.1
  have hz99 : z ≤ 99 := by rw [← hz]; exact h.L99 u v hu (by omega) (by omega) hv
  unfold wX8_take
  simp only [Int.reduceAdd]
  have no1 : ¬ τc (nN M) M1 u v := fun p => by have := (hR.2.1 _ _ p).2.2.2.1; omega
  have no2 : ¬ τc (nN M) M1 v u := fun p => no1 (hR.1 _ _ p)
  have b1 : tb M1 u v = 0 := (bit_01 (M1 225 u) v).elim id (fun q => absurd ⟨⟨by omega, by omega⟩, ⟨by omega, by omega⟩, q⟩ no1)
  have b2 : tb M1 v u = 0 := (bit_01 (M1 225 v) u).elim id (fun q => absurd ⟨⟨by omega, by omega⟩, ⟨by omega, by omega⟩, q⟩ no2)
  refine gK0_r ⟨fun q => absurd q (by omega), fun _ => ⟨fun q => absurd q (by omega), fun _ => ⟨fun q => absurd q (by omega), fun _ => ⟨fun _ => ⟨⟨by omega, by omega⟩, ⟨by omega, by omega⟩, ⟨hnn u (by omega) (by omega), gpw_0 v⟩, ⟨by omega, by omega⟩, fun M2 e2 => ⟨⟨by omega, by omega⟩, ⟨by omega, by omega⟩, ⟨?_, gpw_0 u⟩, ⟨by omega, by omega⟩, fun M3 e3 => ?_⟩⟩, fun q => absurd q (by omega)⟩⟩⟩⟩
  · rw [e2, gup_k _ (by omega)]; exact hnn v (by omega) (by omega)
  · have f3 : ∀ c', c' ≠ 225 → M3 c' = M1 c' := fun c' a => by rw [e3, gup_c _ a, e2, gup_c _ a]
    have n3 : ∀ a, 0 ≤ a → a < 12 → 0 ≤ M3 225 a := fun a a0 a1 => by
      rw [e3, gup_2]
      split
      · exact gor_nn _ _
      · rw [e2, gup_2]
        split
        · exact gor_nn _ _
        · exact hnn a a0 a1
    have t3 : ∀ a b, 0 ≤ a → a < 12 → 0 ≤ b → b < 12 → (tb M3 a b = 1 ↔ (tb M1 a b = 1 ∨ (a = u ∧ b = v) ∨ (a = v ∧ b = u))) := fun a b a0 a1 b0 b1' => by
      unfold tb
      rw [e3, gup_2]
      by_cases c1 : a = v
      · rw [if_pos ⟨rfl, c1⟩, e2, gup_k _ (show v ≠ u by omega), gor_bit (hnn v (by omega) (by omega)) hu b0]
        subst c1
        by_cases c2 : b = u
        · rw [if_pos c2]; exact ⟨fun _ => Or.inr (Or.inr ⟨rfl, c2⟩), fun _ => rfl⟩
        · rw [if_neg c2]
          exact ⟨Or.inl, fun q => q.elim id (fun q => by omega)⟩
      · rw [if_neg (fun q => c1 q.2), e2, gup_2]
        by_cases c3 : a = u
        · rw [if_pos ⟨rfl, c3⟩, gor_bit (hnn u (by omega) (by omega)) (by omega) b0]
          subst c3
          by_cases c2 : b = v
          · rw [if_pos c2]; exact ⟨fun _ => Or.inr (Or.inl ⟨rfl, c2⟩), fun _ => rfl⟩
          · rw [if_neg c2]
            exact ⟨Or.inl, fun q => q.elim id (fun q => by omega)⟩
        · rw [if_neg (fun q => c3 q.2)]
          exact ⟨Or.inl, fun q => q.elim id (fun q => by omega)⟩
    have tau3 : ∀ a b, τc (nN M) M3 a b ↔ (τc (nN M) M1 a b ∨ (far1 (nN M) (mL M) t (τc (nN M) M1) u v ∧ ((a = u ∧ b = v) ∨ (a = v ∧ b = u)))) := by
      intro a b
      unfold τc
      by_cases hb : (0 ≤ a ∧ a < nN M) ∧ (0 ≤ b ∧ b < nN M)
      · have := t3 a b hb.1.1 (by omega) hb.2.1 (by omega)
        refine ⟨fun q => ?_, fun q => ⟨hb.1, hb.2, this.2 ?_⟩⟩
        · rcases this.1 q.2.2 with p | p
          · exact Or.inl ⟨hb.1, hb.2, p⟩
          · exact Or.inr ⟨hfar, p⟩
        · rcases q with q | q
          · exact Or.inl q.2.2
          · exact Or.inr q.2
      · refine ⟨fun q => absurd ⟨q.1, q.2.1⟩ hb, fun q => absurd ?_ hb⟩
        rcases q with q | q
        · exact ⟨q.1, q.2.1⟩
        · omega
    have e10 : M3 210 0 = nN M := by rw [f3 210 (by decide)]; exact h0
    refine p_add (L := LR (mL M) (τc (nN M) M1)) (by omega) (by omega) (by omega) (by omega) ?_ (fun a b x y z w => ?_) (fun M4 F4 G4 T4 => ⟨?_, fun M5 e5 => ?_⟩)
    · rw [e10]
      refine hD.conf (fun a b x y z w => ?_)
      show M3 (212 + a) b = M1 (212 + a) b
      rw [f3 _ (by omega)]
    · rw [e10] at y w
      show M3 (212 + a) b ≤ 1000000
      rw [f3 _ (by omega)]
      exact hbd a b x y z w
    · have : M4 209 = M1 209 := by rw [F4 209 (by omega), f3 209 (by decide)]
      rw [this]; exact ⟨by omega, by omega⟩
    · have g9 : M4 209 = M1 209 := by rw [F4 209 (by omega), f3 209 (by decide)]
      have g225 : M5 225 = M3 225 := by rw [e5, gup_c _ (by decide), F4 225 (by omega)]
      have tb5 : ∀ a b, tb M5 a b = tb M3 a b := fun a b => by unfold tb; rw [g225]
      have tau5 : τc (nN M) M5 = τc (nN M) M3 := by funext a b; unfold τc; rw [tb5]
      rw [e10] at T4
      refine hK M5 ⟨fun c' a => ?_, ?_, ?_, ?_, ?_, ?_, ?_, ?_, ?_, ?_⟩ ?_ (fun k a => by rw [e5, gup_k _ a, g9])
      · rw [e5, gup_c _ (by omega), F4 c' (by omega), f3 c' (by omega), hF c' a]
      · rw [e5, gup_c _ (by decide), G4]; exact e10
      · rw [tau5]
        exact hR.step hn.2 h.sym hu huv hv (by omega) hk tau3
      · rw [tau5]
        refine IsD.add hD (p := u) (q := v) (z := z) (by omega) (by omega) hz0 (fun a b x y zz w q => ?_) ?_ ?_ (fun a b x y zz w q => ?_) (fun a b x y zz w => ?_)
        · unfold LR at q ⊢
          split at q
          · next p => rw [if_pos ((tau3 a b).2 (Or.inl p)), if_pos p]
          · omega
        · unfold LR
          rw [if_pos ((tau3 u v).2 (Or.inr ⟨hfar, Or.inl ⟨rfl, rfl⟩⟩)), hz]
        · unfold LR
          rw [if_pos ((tau3 v u).2 (Or.inr ⟨hfar, Or.inr ⟨rfl, rfl⟩⟩)), h.sym v u (by omega) (by omega) (by omega) (by omega), hz]
        · unfold LR at q ⊢
          split at q
          · next p =>
            rcases (tau3 a b).1 p with p2 | p2
            · exact Or.inr (Or.inr (by rw [if_pos p, if_pos p2]))
            · rcases p2.2 with p3 | p3
              · exact Or.inl p3
              · exact Or.inr (Or.inl p3)
          · omega
        · have := T4 a b x y zz w
          show M5 (212 + a) b = _
          rw [e5, gup_c _ (by omega)]
          refine this.trans ?_
          show mn (M3 (212 + a) b) (mn (M3 (212 + a) u + z + M3 (212 + v) b) (M3 (212 + a) v + z + M3 (212 + u) b)) = _
          rw [f3 _ (by omega), f3 _ (by omega), f3 _ (by omega)]
      · intro a b x y zz w
        have := T4 a b x y zz w
        rw [e5, gup_c _ (by omega)]
        refine Int.le_trans (Int.le_of_eq this) ?_
        have c := hbd a b x y zz w
        have e : M3 (210 + 2 + a) b = M1 (212 + a) b := by show M3 (212 + a) b = _; rw [f3 _ (by omega)]
        rw [e]
        have := mn_cases (M1 (212 + a) b) (mn (M3 (210 + 2 + a) u + z + M3 (210 + 2 + v) b) (M3 (210 + 2 + a) v + z + M3 (210 + 2 + u) b))
        omega
      · rw [g225]; exact n3
      · intro a b x y zz w q
        rw [tb5] at q
        rcases (t3 a b x y zz w).1 q with p | p
        · exact hbx a b x y zz w p
        · omega
      · have e : M5 209 0 = M1 209 0 + 1 := by rw [e5, gup_s, g9]
        rw [e]
        have := cnt_two (p := tbk M1) (q := tbk M5) (a := (12 * u + v).toNat) (b := (12 * v + u).toNat) (m := 144) (by omega) (by omega) (by omega) (fun i hi h1 h2 => ?_) ?_ ?_ ?_ ?_
        · omega
        · unfold tbk
          rw [tb5]
          have := t3 ((i : Int) / 12) ((i : Int) % 12) (by omega) (by omega) (by omega) (by omega)
          have e : tb M3 ((i : Int) / 12) ((i : Int) % 12) = 1 ↔ tb M1 ((i : Int) / 12) ((i : Int) % 12) = 1 := by
            rw [this]
            exact ⟨fun q => q.elim id (fun q => by omega), Or.inl⟩
          simp only [e]
        · unfold tbk
          rw [show (((12 * u + v).toNat : Nat) : Int) = 12 * u + v by omega, show (12 * u + v) / 12 = u by omega, show (12 * u + v) % 12 = v by omega, b1]
          rfl
        · unfold tbk
          rw [show (((12 * v + u).toNat : Nat) : Int) = 12 * v + u by omega, show (12 * v + u) / 12 = v by omega, show (12 * v + u) % 12 = u by omega, b2]
          rfl
        · unfold tbk
          rw [show (((12 * u + v).toNat : Nat) : Int) = 12 * u + v by omega, show (12 * u + v) / 12 = u by omega, show (12 * u + v) % 12 = v by omega, tb5, (t3 u v (by omega) (by omega) (by omega) (by omega)).2 (Or.inr (Or.inl ⟨rfl, rfl⟩))]
          rfl
        · unfold tbk
          rw [show (((12 * v + u).toNat : Nat) : Int) = 12 * v + u by omega, show (12 * v + u) / 12 = v by omega, show (12 * v + u) % 12 = u by omega, tb5, (t3 v u (by omega) (by omega) (by omega) (by omega)).2 (Or.inr (Or.inr ⟨rfl, rfl⟩))]
          rfl
      · rw [e5, gup_s, g9]; omega
      · rw [e5, gup_s, g9]; omega
      · rw [e5, gup_c _ (by decide), F4 224 (by omega), f3 224 (by decide)]
theorem p_follow2C {s t : Int} {K : gMem → Prop} {M : gMem} (h : InvC s M) (hT : ThinInv M) (ht : 1 ≤ t ∧ t ≤ 9) (hK : ∀ M', (∀ c', c' < 209 ∨ 226 ≤ c' → M' c' = M c') → ThinOK t M' → M' 209 2 = M 1 3 → M' 209 3 = t → K M') : wX8_follow 209 1 t K M := by
  unfold wX8_follow
  simp only [Int.reduceAdd]
  have hn := h.1
  refine ⟨fun M' => M' = M, ⟨fun _ => rfl, fun q => ⟨fun _ => rfl, fun q2 => hK M (fun _ _ => rfl) (q2 ▸ hT.2.2 q) q q2⟩⟩, fun M1 e1 => ?_⟩
  subst e1
  refine p_sortLinksC h (fun M2 hS hj hO => ?_)
  have g1 : M2 1 = M1 1 := hS.1 1 (by decide) (by decide)
  have e0 : M2 1 0 = nN M1 := by rw [g1]; exact h.2.1.1
  rw [e0]
  unfold wX8_clear
  simp only [Int.reduceAdd]
  intro M3 e3 M4 e4
  refine p_clear hn (fun M5 F5 A5 B5 C5 => ?_)
  have f5 : ∀ c', c' < 209 ∨ 226 ≤ c' → M5 c' = M1 c' := fun c' a => by rw [F5 c' (by omega), e4, gfl_c _ (by omega), e3, gup_c _ (by omega), hS.1 c' (by omega) (by omega)]
  have o5 : M5 224 = M2 224 := by rw [F5 224 (by omega), e4, gfl_c _ (by omega), e3, gup_c _ (by omega)]
  have k5 : ∀ k, k ≠ 0 → M5 209 k = M2 209 k := fun k a => by rw [F5 209 (by omega), e4, gfl_c _ (by omega), e3, gup_k _ a]
  have z5 : ∀ u, 0 ≤ u → u < 12 → M5 225 u = 0 := fun u a b => by rw [F5 225 (by omega), e4, gfl_2, if_pos ⟨rfl, a, b⟩]
  have t5 : ∀ u v, 0 ≤ u → u < 12 → tb M5 u v = 0 := fun u v a b => by unfold tb; rw [z5 u a b, Int.zero_ediv]; rfl
  have nt : ∀ u v, ¬ τc (nN M1) M5 u v := fun u v q => by
    unfold τc at q
    rw [t5 u v q.1.1 (by omega)] at q
    exact absurd q.2.2 (by decide)
  have j0 : 0 ≤ M2 209 4 := by rw [hO.2.2.2]; exact cnt_0 _ _
  have kk : ∀ u v, u < v → 0 ≤ u → v < nN M1 → key (mL M1) u v = 144 * M1 229 (12 * u + v) + (12 * u + v) := fun u v a b c => key_up a
  have inO : ∀ u v, 0 ≤ u → u < v → v < nN M1 → 0 < mL M1 u v → ∃ i, 0 ≤ i ∧ i < M2 209 4 ∧ M2 224 i = 12 * u + v := fun u v a b c d => hO.2.2.1 (12 * u + v) (by omega) (by omega) (by omega) d
  refine ⟨fun i M' => 0 ≤ i ∧ i ≤ M2 209 4 ∧ M' 224 = M2 224 ∧ M' 209 4 = M2 209 4 ∧ ∃ c, TC M1 t c i M' ∧ c ≤ 14400 ∧ (∀ i', 0 ≤ i' → i' < i → 144 * M1 229 (M2 224 i') + M2 224 i' < c) ∧ (i < M2 209 4 → c ≤ 144 * M1 229 (M2 224 i) + M2 224 i), fun i _ => M2 209 4 - i, ⟨by omega, j0, o5, k5 4 (by decide), 0, ⟨f5, A5, Rt.init nt, ?_, ?_, ?_, ?_, ?_, ?_, ?_⟩, by decide, fun i' a b => by omega, fun q => ?_⟩, ?_⟩
  · refine IsD.nil (by decide) (fun u v a b c d => ?_) (fun a b x y z w => C5 a b x y z (by omega))
    unfold LR
    rw [if_neg (nt u v)]
    omega
  · intro a b x y z w
    have := C5 a b x y z (by omega)
    refine Int.le_trans (Int.le_of_eq this) ?_
    split <;> omega
  · intro u a b; rw [z5 u a b]; omega
  · intro u v a b c d q
    rw [t5 u v a b] at q
    exact absurd q (by decide)
  · have : cnt (tbk M5) 144 = 0 := cnt_f 144 (fun i hi => by
      unfold tbk
      rw [t5 _ _ (by omega) (by omega)]
      rfl)
    rw [this, F5 209 (by omega), e4, gfl_c _ (by omega), e3, gup_s]
    rfl
  · rw [F5 209 (by omega), e4, gfl_c _ (by omega), e3, gup_s]; decide
  · rw [F5 209 (by omega), e4, gfl_c _ (by omega), e3, gup_s]; decide
  · have := hO.1 0 (by omega) q; omega
  intro i M6 ⟨i0, i1, o6, j6, c, hTC, c14, clo, chi⟩
  dsimp only
  rw [j6]
  refine ⟨by omega, fun q => ?_, fun q => ?_⟩
  · have hTC := hTC.skip (c' := 14400) c14 (fun u v a b cc d e => by
      obtain ⟨i', x, y, z⟩ := inO u v a b cc d
      have := clo i' x (by omega)
      rw [z] at this
      rw [kk u v b a cc]
      exact this)
    obtain ⟨hF, h0, hR, hD, hbd, hnn, hbx, hct, hs0, hs1⟩ := hTC
    intro M7 e7 M8 e8
    have g8 : ∀ c', c' ≠ 209 → M8 c' = M6 c' := fun c' a => by rw [e8, gup_c _ a, e7, gup_c _ a]
    have tau8 : τc (nN M1) M8 = τc (nN M1) M6 := by funext a b; unfold τc tb; rw [g8 225 (by decide)]
    have eN : nN M8 = nN M1 := by unfold nN; rw [g8 228 (by decide), hF 228 (by omega)]
    have eL : mL M8 = mL M1 := by funext a b; unfold mL; rw [g8 229 (by decide), hF 229 (by omega)]
    refine hK M8 (fun c' a => by rw [g8 c' (by omega), hF c' a]) ?_ ?_ ?_
    · unfold ThinOK
      rw [eN, eL, tau8]
      refine ⟨by rw [g8 210 (by decide)]; exact h0, hR, hD.conf (fun a b x y z w => by rw [g8 _ (by omega)]), fun u a b => by rw [g8 225 (by decide)]; exact hnn u a b, fun u v a b x y z => ?_, ?_⟩
      · unfold tb at z
        rw [g8 225 (by decide)] at z
        exact hbx u v a b x y z
      · have : tbk M8 = tbk M6 := by funext k; unfold tbk tb; rw [g8 225 (by decide)]
        rw [this, e8, gup_k _ (by decide), e7, gup_k _ (by decide)]
        exact hct
    · rw [e8, gup_k _ (by decide), e7, gup_s, hF 1 (by omega)]
    · rw [e8, gup_s]
  · have hOi := hO.1 i i0 (by omega)
    have hr := h.row (M2 224 i) hOi.1 hOi.2.1
    have hb := hr.2.2.1 hOi.2.2.2
    have hTC := hTC.skip (c' := 144 * M1 229 (M2 224 i) + M2 224 i) (chi (by omega)) (fun u v a b cc d e => by
      obtain ⟨i', x, y, z⟩ := inO u v a b cc d
      rw [kk u v b a cc] at e ⊢
      rw [← z] at e ⊢
      by_cases g : i' < i
      · exact clo i' x g
      · by_cases g2 : i' = i
        · rw [g2] at e; omega
        · have := hO.2.1 i i' i0 (by omega) y; omega)
    obtain ⟨hF, h0, hR, hD, hbd, hnn, hbx, hct, hs0, hs1⟩ := id hTC
    have hI6 := h.cong (TF.aside hF)
    have eN : nN M6 = nN M1 := by unfold nN; rw [hF 228 (by omega)]
    have eL : ∀ a b, mL M6 a b = mL M1 a b := fun a b => by unfold mL; rw [hF 229 (by omega)]
    rw [o6]
    have hkey : key (mL M1) (M2 224 i / 12) (M2 224 i % 12) = 144 * M1 229 (M2 224 i) + M2 224 i := by
      rw [kk _ _ hOi.2.2.1 (by omega) hb.2.1, show 12 * (M2 224 i / 12) + M2 224 i % 12 = M2 224 i by omega]
    have hv := IsD.val hD hn.2 (LR_99 _ h.L99) (by decide) (u := M2 224 i / 12) (v := M2 224 i % 12) (by omega) hb.1 (by omega) hb.2.1
    have hml := mul_bd ht (show 0 ≤ M1 229 (M2 224 i) ∧ M1 229 (M2 224 i) ≤ 99 by omega)
    refine ⟨⟨by omega, by omega⟩, ⟨by omega, by omega⟩, fun u eu => ⟨⟨by omega, by omega⟩, ⟨by omega, by omega⟩, fun v ev => ?_⟩⟩
    have fin : ∀ c' M', TC M1 t c' (i + 1) M' → c' = 144 * M1 229 (M2 224 i) + M2 224 i + 1 → M' 224 = M2 224 → M' 209 4 = M2 209 4 → gR (i + 1) ∧ (0 ≤ i + 1 ∧ i + 1 ≤ M2 209 4 ∧ M' 224 = M2 224 ∧ M' 209 4 = M2 209 4 ∧ ∃ c, TC M1 t c (i + 1) M' ∧ c ≤ 14400 ∧ (∀ i', 0 ≤ i' → i' < i + 1 → 144 * M1 229 (M2 224 i') + M2 224 i' < c) ∧ (i + 1 < M2 209 4 → c ≤ 144 * M1 229 (M2 224 (i + 1)) + M2 224 (i + 1))) ∧ M2 209 4 - (i + 1) < M2 209 4 - i := by
      intro c' M' a b cc d
      refine ⟨⟨by omega, by omega⟩, ⟨by omega, by omega, cc, d, c', a, by omega, fun i' x y => ?_, fun x => ?_⟩, by omega⟩
      · by_cases g : i' = i
        · rw [g]; omega
        · have := hO.2.1 i' i x (by omega) (by omega); omega
      · have := hO.2.1 i (i + 1) i0 (by omega) x; omega
    refine p_len1C hI6 (fun q2 => ?_) (fun q2 => absurd (show _ by rw [eu, ev]; omega) q2)
    have eLuv : mL M6 u v = M1 229 (M2 224 i) := by rw [eL, eu, ev]; exact hr.2.2.2
    rw [eLuv]
    rw [← eu, ← ev] at hkey hv
    have hfq : far1 (nN M1) (mL M1) t (τc (nN M1) M6) u v ↔ gdist (nN M1) (LR (mL M1) (τc (nN M1) M6)) u v = -1 ∨ t * M1 229 (M2 224 i) < gdist (nN M1) (LR (mL M1) (τc (nN M1) M6)) u v := by
      unfold far1
      rw [← eL u v, eLuv]
    have take : far1 (nN M1) (mL M1) t (τc (nN M1) M6) u v → wX8_take 209 u v (M1 229 (M2 224 i)) (fun (M24 : gMem) => gR (i + 1) ∧ (0 ≤ i + 1 ∧ i + 1 ≤ M2 209 4 ∧ M24 224 = M2 224 ∧ M24 209 4 = M2 209 4 ∧ ∃ c, TC M1 t c (i + 1) M24 ∧ c ≤ 14400 ∧ (∀ i', 0 ≤ i' → i' < i + 1 → 144 * M1 229 (M2 224 i') + M2 224 i' < c) ∧ (i + 1 < M2 209 4 → c ≤ 144 * M1 229 (M2 224 (i + 1)) + M2 224 (i + 1))) ∧ M2 209 4 - (i + 1) < M2 209 4 - i) M6 := by
      intro hf
      refine p_takeC h hTC (by omega) (by omega) (by omega) (by omega) (by rw [← eL]; exact eLuv) (by omega) hkey hf (fun M7 a b cc => fin _ M7 a rfl (by rw [b, o6]) (by rw [cc 4 (by decide), j6]))
    have pass : ¬ far1 (nN M1) (mL M1) t (τc (nN M1) M6) u v → gR (i + 1) ∧ (0 ≤ i + 1 ∧ i + 1 ≤ M2 209 4 ∧ M6 224 = M2 224 ∧ M6 209 4 = M2 209 4 ∧ ∃ c, TC M1 t c (i + 1) M6 ∧ c ≤ 14400 ∧ (∀ i', 0 ≤ i' → i' < i + 1 → 144 * M1 229 (M2 224 i') + M2 224 i' < c) ∧ (i + 1 < M2 209 4 → c ≤ 144 * M1 229 (M2 224 (i + 1)) + M2 224 (i + 1))) ∧ M2 209 4 - (i + 1) < M2 209 4 - i := by
      intro hf
      exact fin _ M6 ⟨hF, h0, hR.pass hn.2 h.sym (by omega) (by omega) (by omega) (by rw [← eL, eLuv]; omega) hkey hf, hD, hbd, hnn, hbx, hct, hs0, by omega⟩ rfl o6 j6
    refine p_btw (by omega) (fun q3 => ?_) (fun q3 => absurd (show _ by omega) q3)
    show gK0 _ _
    rcases hv with ⟨va, vb, vc, vd⟩ | ⟨va, vb⟩
    · have va : M6 (210 + 2 + u) v < 1000000 := va
      have vb : gdist (nN M1) (LR (mL M1) (τc (nN M1) M6)) u v = M6 (210 + 2 + u) v := vb
      have vc : 0 ≤ M6 (210 + 2 + u) v := vc
      rw [if_pos va]
      refine gK0_r (gK0_r ⟨fun a => by omega, fun a => ⟨⟨by omega, by omega⟩, fun b => pass (fun p => ?_), fun b => take (hfq.2 (Or.inr (by omega)))⟩⟩)
      have := hfq.1 p
      omega
    · have va : ¬ M6 (210 + 2 + u) v < 1000000 := va
      rw [if_neg va]
      exact gK0_r (gK0_r ⟨fun a => take (hfq.2 (Or.inl vb)), fun a => absurd rfl a⟩)
