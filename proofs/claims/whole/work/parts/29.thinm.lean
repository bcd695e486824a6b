/-! THINNING, the reference -/
def τm (n : Int) (M : gMem) (u v : Int) : Prop := (0 ≤ u ∧ u < n) ∧ (0 ≤ v ∧ v < n) ∧ M 237 (12 * u + v) ≠ 0
def TI (M : gMem) (t c : Int) (M' : gMem) : Prop := (∀ c', c' ≠ 236 → c' ≠ 237 → M' c' = M c') ∧ Rt (nN M) (mL M) t c (τm (nN M) M') ∧ ∀ k, 0 ≤ k → k < 144 → (M' 237 k = 0 ∨ M' 237 k = 1) ∧ (M' 237 k ≠ 0 → k / 12 < nN M ∧ k % 12 < nN M)
theorem InvA.sym {t : Int} {M : gMem} (h : InvA t M) : Lsym (nN M) (mL M) := fun u v a b c d => (h.L u v a (by have := h.1; omega) c (by have := h.1; omega)).2.2.1
theorem InvA.keyL {t : Int} {M : gMem} (h : InvA t M) (u v : Int) (a : 0 ≤ u) (b : u < nN M) (c : 0 ≤ v) (d : v < nN M) : key (mL M) u v < 14400 := by
  have := (h.L u v a (by have := h.1; omega) c (by have := h.1; omega)).2.1
  have := h.1
  unfold key
  split <;> omega
theorem key_up {L : Int → Int → Int} {u v : Int} (h : u < v) : key L u v = 144 * L u v + (12 * u + v) := by unfold key; rw [if_pos h]
theorem InvA.row {t : Int} {M : gMem} (h : InvA t M) (k : Int) (h0 : 0 ≤ k) (h1 : k < 144) : 0 ≤ M 229 k ∧ M 229 k ≤ 99 ∧ (0 < M 229 k → k / 12 < nN M ∧ k % 12 < nN M ∧ k / 12 ≠ k % 12) ∧ mL M (k / 12) (k % 12) = M 229 k := by
  have a := h.L (k / 12) (k % 12) (by omega) (by omega) (by omega) (by omega)
  have b := h.L (k % 12) (k / 12) (by omega) (by omega) (by omega) (by omega)
  have e : mL M (k / 12) (k % 12) = M 229 k := by unfold mL; rw [show 12 * (k / 12) + k % 12 = k by omega]
  rw [e] at a b
  exact ⟨a.1, a.2.1, fun q => ⟨by omega, by omega, by omega⟩, e⟩
theorem mLb_LR {t : Int} {M M' : gMem} (h : InvA t M) (h1 : M' 229 = M 229) (u v : Int) (a : 0 ≤ u) (b : u < nN M) (c : 0 ≤ v) (d : v < nN M) : LR (mL M) (τm (nN M) M') u v = mLb M' 1 u v := by
  have := (h.L u v a (by have := h.1; omega) c (by have := h.1; omega)).1
  unfold LR mLb τm
  unfold mL at this ⊢
  rw [h1]
  by_cases q : M' 237 (12 * u + v) = 0
  · rw [if_neg (fun p => p.2.2 q), if_neg (fun p => by omega)]
  · rw [if_pos ⟨⟨a, b⟩, ⟨c, d⟩, q⟩]
    by_cases p : 0 < M 229 (12 * u + v)
    · rw [if_pos ⟨p, Or.inr q⟩]
    · rw [if_neg (fun p' => p p'.1)]; omega
theorem LR_99 {n : Int} {L : Int → Int → Int} (τ : Int → Int → Prop) (h : ∀ u v, 0 ≤ u → u < n → 0 ≤ v → v < n → L u v ≤ 99) : ∀ u v, 0 ≤ u → u < n → 0 ≤ v → v < n → LR L τ u v ≤ 99 := by
  intro u v a b c d
  unfold LR
  split
  · exact h u v a b c d
  · omega
theorem mul_bd {t l : Int} (h : 1 ≤ t ∧ t ≤ 9) (h2 : 0 ≤ l ∧ l ≤ 99) : 0 ≤ t * l ∧ t * l ≤ 891 := by
  have a := Int.mul_nonneg (show 0 ≤ t by omega) h2.1
  have b := Int.mul_le_mul h.2 h2.2 h2.1 (by decide : (0 : Int) ≤ 9)
  omega
theorem p_takes {t s l : Int} {K : gMem → Prop} {M M0 : gMem} (h : InvA s M) (ht : 1 ≤ t ∧ t ≤ 9) (hl : 1 ≤ l ∧ l ≤ 99) (hT : TI M t (144 * l) M0) (hK : ∀ M', TI M t (144 * (l + 1)) M' → K M') : wX10_takes 228 t l K M0 := by
  unfold wX10_takes
  simp only [Int.reduceAdd]
  have hn := h.1
  refine ⟨fun k M' => 0 ≤ k ∧ k ≤ 144 ∧ TI M t (144 * l + k) M', fun k _ => 144 - k, ⟨by omega, by omega, by rw [Int.add_zero]; exact hT⟩, ?_⟩
  intro k M1 ⟨k0, k1, hF, hR, hB⟩
  dsimp only
  have f9 : M1 229 = M 229 := hF 229 (by decide) (by decide)
  have f8 : M1 228 = M 228 := hF 228 (by decide) (by decide)
  refine ⟨by omega, fun q => ?_, fun q => ⟨⟨by omega, by omega⟩, ⟨by omega, by omega⟩, ?_⟩⟩
  · have e : k = 144 := by omega
    subst e
    exact hK M1 ⟨hF, by rw [show 144 * (l + 1) = 144 * l + 144 by omega]; exact hR, hB⟩
  have hr := h.row k k0 (by omega)
  have skip : ¬ (k / 12 < k % 12 ∧ M 229 k = l) → gR (k + 1) ∧ (0 ≤ k + 1 ∧ k + 1 ≤ 144 ∧ TI M t (144 * l + (k + 1)) M1) ∧ 144 - (k + 1) < 144 - k := by
    intro no
    refine ⟨⟨by omega, by omega⟩, ⟨by omega, by omega, hF, hR.skip (by omega) (fun u v a b c d e => ?_), hB⟩, by omega⟩
    rw [key_up b] at e ⊢
    refine Classical.byContradiction (fun g => no ?_)
    have e1 : 144 * mL M u v + (12 * u + v) = 144 * l + k := by omega
    have e2 : mL M u v = l := by omega
    have e3 : 12 * u + v = k := by omega
    have e4 : k / 12 = u := by omega
    have e5 : k % 12 = v := by omega
    refine ⟨by omega, ?_⟩
    rw [← e3]
    exact e2
  rw [f9]
  refine gK0_r ⟨fun a => skip (by omega), fun a => ⟨⟨by omega, by omega⟩, fun b => skip (by omega), fun b => ?_⟩⟩
  refine p_finds (by rw [f8]; exact hn) (fun k' a b => by rw [f9]; have := h.row k' a b; omega) (fun M2 o2 hD => ?_)
  have bx := hr.2.2.1 (by omega)
  have hml := mul_bd ht (show 0 ≤ l ∧ l ≤ 99 by omega)
  rw [f8] at hD
  have hD2 : IsD (nN M) (LR (mL M) (τm (nN M) M1)) 100000 (fun u v => M2 236 (12 * u + v)) := hD.cong (fun u v a b c d => mLb_LR h f9 u v a b c d)
  have hv := IsD.val hD2 hn.2 (LR_99 _ h.L99) (by decide) (u := k / 12) (v := k % 12) (by omega) bx.1 (by omega) bx.2.1
  rw [show 12 * (k / 12) + k % 12 = k by omega] at hv
  have hq : far1 (nN M) (mL M) t (τm (nN M) M1) (k / 12) (k % 12) ↔ t * l < M2 236 k := by
    unfold far1
    rw [hr.2.2.2, b]
    omega
  have fin : ∀ x, (x = 0 ∧ ¬ t * l < M2 236 k) ∨ (x = 1 ∧ t * l < M2 236 k) → ((0 : Int) ≤ k ∧ k < 144) ∧ ((x = 0 ∨ x = 1) ∧ (∀ M15 : gMem, M15 = gup M2 237 k x → (((0 : Int) ≤ k ∧ (0 : Int) < 12) ∧ (gR ((k % 12) * 12) ∧ (((0 : Int) ≤ k ∧ (0 : Int) < 12) ∧ (gR (((k % 12) * 12) + (k / 12)) ∧ (((0 : Int) ≤ (((k % 12) * 12) + (k / 12)) ∧ (((k % 12) * 12) + (k / 12)) < 144) ∧ ((x = 0 ∨ x = 1) ∧ (∀ M16 : gMem, M16 = gup M15 237 (((k % 12) * 12) + (k / 12)) x → (gR (k + 1) ∧ (0 ≤ k + 1 ∧ k + 1 ≤ 144 ∧ TI M t (144 * l + (k + 1)) M16) ∧ 144 - (k + 1) < 144 - k)))))))))) := by
    intro x hx
    refine ⟨⟨by omega, by omega⟩, by omega, fun M3 e3 => ⟨⟨by omega, by omega⟩, ⟨by omega, by omega⟩, ⟨by omega, by omega⟩, ⟨by omega, by omega⟩, ⟨by omega, by omega⟩, by omega, fun M4 e4 => ⟨⟨by omega, by omega⟩, ⟨by omega, by omega, fun c' a b => ?_, ?_, ?_⟩, by omega⟩⟩⟩
    · rw [e4, gup_c _ b, e3, gup_c _ b, o2 c' a, hF c' a b]
    · have g2 : M2 237 = M1 237 := o2 237 (by decide)
      have key1 : key (mL M) (k / 12) (k % 12) = 144 * l + k := by rw [key_up (by omega), hr.2.2.2, b]; omega
      have no1 : ¬ τm (nN M) M1 (k / 12) (k % 12) := fun p => by have := (hR.2.1 _ _ p).2.2.2.1; omega
      have no2 : ¬ τm (nN M) M1 (k % 12) (k / 12) := fun p => no1 (hR.1 _ _ p)
      rw [show 144 * l + (k + 1) = 144 * l + k + 1 by omega]
      refine hR.step hn.2 h.sym (u := k / 12) (v := k % 12) (by omega) (by omega) bx.2.1 (by rw [hr.2.2.2]; omega) key1 (fun u v => ?_)
      rw [hq]
      unfold τm at no1 no2 ⊢
      have z1 : M1 237 (12 * (k / 12) + k % 12) = 0 := Classical.byContradiction (fun p => no1 ⟨⟨by omega, by omega⟩, ⟨by omega, by omega⟩, p⟩)
      have z2 : M1 237 (12 * (k % 12) + k / 12) = 0 := Classical.byContradiction (fun p => no2 ⟨⟨by omega, by omega⟩, ⟨by omega, by omega⟩, p⟩)
      by_cases hbox : (0 ≤ u ∧ u < nN M) ∧ (0 ≤ v ∧ v < nN M)
      · have ek : 12 * u + v = k ↔ u = k / 12 ∧ v = k % 12 := by omega
        have ek2 : 12 * u + v = (k % 12) * 12 + k / 12 ↔ u = k % 12 ∧ v = k / 12 := by omega
        rw [e4, gup_2, e3, gup_2, g2]
        by_cases c1 : u = k % 12 ∧ v = k / 12
        · rw [if_pos ⟨rfl, ek2.2 c1⟩]
          rw [c1.1, c1.2, z2]
          omega
        · rw [if_neg (fun p => c1 (ek2.1 p.2))]
          by_cases c2 : u = k / 12 ∧ v = k % 12
          · rw [if_pos ⟨rfl, ek.2 c2⟩]
            rw [c2.1, c2.2, z1]
            omega
          · rw [if_neg (fun p => c2 (ek.1 p.2))]
            exact ⟨fun p => Or.inl p, fun p => p.elim id (fun p => absurd p.2 (fun p => p.elim c2 c1))⟩
      · refine ⟨fun p => absurd ⟨p.1, p.2.1⟩ hbox, fun p => p.elim (fun p => absurd ⟨p.1, p.2.1⟩ hbox) (fun p => absurd ?_ hbox)⟩
        omega
    · intro k' a' b'
      have g2 : M2 237 = M1 237 := o2 237 (by decide)
      have := hB k' a' b'
      rw [e4, gup_2, e3, gup_2, g2]
      by_cases c1 : k' = (k % 12) * 12 + k / 12
      · rw [if_pos ⟨rfl, c1⟩]; omega
      · rw [if_neg (fun p => c1 p.2)]
        by_cases c2 : k' = k
        · rw [if_pos ⟨rfl, c2⟩]; omega
        · rw [if_neg (fun p => c2 p.2)]; exact this
  exact ⟨⟨by omega, by omega⟩, ⟨by omega, by omega⟩, gK1_r ⟨fun c => fin 0 (by omega), fun c => fin 1 (by omega)⟩⟩
theorem p_thins {t s : Int} {K : gMem → Prop} {M : gMem} (h : InvA s M) (ht : 1 ≤ t ∧ t ≤ 9) (hK : ∀ M', TI M t 14400 M' → K M') : wX10_thins 228 t K M := by
  unfold wX10_thins
  simp only [Int.reduceAdd]
  refine ⟨fun k M' => 0 ≤ k ∧ k ≤ 144 ∧ (∀ c', c' ≠ 237 → M' c' = M c') ∧ ∀ i, 0 ≤ i → i < k → M' 237 i = 0, fun k _ => 144 - k, ⟨by omega, by omega, fun _ _ => rfl, fun i a b => by omega⟩, ?_⟩
  intro k M1 ⟨k0, k1, hF, h0⟩
  dsimp only
  refine ⟨by omega, fun q => ?_, fun q => ⟨⟨by omega, by omega⟩, fun M2 e2 => ⟨⟨by omega, by omega⟩, ⟨by omega, by omega, fun c' a => by rw [e2, gup_c _ a, hF c' a], fun i a b => ?_⟩, by omega⟩⟩⟩
  · have e : k = 144 := by omega
    subst e
    have hn := h.1
    refine ⟨fun l M' => 1 ≤ l ∧ l ≤ 100 ∧ TI M t (144 * l) M', fun l _ => 100 - l, ⟨by omega, by omega, fun c' _ a => hF c' a, ?_, fun k a b => ⟨Or.inl (h0 k a b), fun p => absurd (h0 k a b) p⟩⟩, ?_⟩
    · refine Rt.skip (Rt.init (fun u v p => ?_)) (by omega) (fun u v a b c d e => ?_)
      · unfold τm at p
        exact p.2.2 (h0 _ (by omega) (by omega))
      · rw [key_up b] at e ⊢; omega
    · intro l M2 ⟨l0, l1, hT⟩
      dsimp only
      refine ⟨by omega, fun q => ?_, fun q => p_takes h ht (by omega) hT (fun M3 h3 => ⟨⟨by omega, by omega⟩, ⟨by omega, by omega, h3⟩, by omega⟩)⟩
      have e : l = 100 := by omega
      subst e
      exact hK M2 hT
  · rw [e2]
    by_cases hi : i = k
    · rw [hi, gup_s]
    · rw [gup_k _ hi]; exact h0 i a (by omega)
