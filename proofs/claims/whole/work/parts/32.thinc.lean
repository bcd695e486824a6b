/-! THINNING, the class, 2: which are taken -/
def tb (M : gMem) (u v : Int) : Int := (M 225 u / gpw v) % 2
def τc (n : Int) (M : gMem) (u v : Int) : Prop := (0 ≤ u ∧ u < n) ∧ (0 ≤ v ∧ v < n) ∧ tb M u v = 1
def tbk (M : gMem) (k : Int) : Bool := decide (tb M (k / 12) (k % 12) = 1)
/-- the kept thinning is right -/
def ThinOK (t : Int) (M : gMem) : Prop :=
  M 210 0 = nN M ∧ Rt (nN M) (mL M) t 14400 (τc (nN M) M) ∧ IsD (nN M) (LR (mL M) (τc (nN M) M)) 1000000 (fun a b => M (212 + a) b) ∧
  (∀ u, 0 ≤ u → u < 12 → 0 ≤ M 225 u) ∧ (∀ u v, 0 ≤ u → u < 12 → 0 ≤ v → v < 12 → tb M u v = 1 → u < nN M ∧ v < nN M) ∧ 2 * M 209 0 = cnt (tbk M) 144
def ThinInv (M : gMem) : Prop := 0 ≤ M 209 2 ∧ M 209 2 ≤ M 1 3 ∧ (M 209 2 = M 1 3 → ThinOK (M 209 3) M)
/-- while links are taken -/
def TC (M : gMem) (t c i : Int) (M' : gMem) : Prop :=
  (∀ c', c' < 209 ∨ 226 ≤ c' → M' c' = M c') ∧ M' 210 0 = nN M ∧ Rt (nN M) (mL M) t c (τc (nN M) M') ∧ IsD (nN M) (LR (mL M) (τc (nN M) M')) 1000000 (fun a b => M' (212 + a) b) ∧
  (∀ a b, 0 ≤ a → a < nN M → 0 ≤ b → b < nN M → M' (212 + a) b ≤ 1000000) ∧
  (∀ u, 0 ≤ u → u < 12 → 0 ≤ M' 225 u) ∧ (∀ u v, 0 ≤ u → u < 12 → 0 ≤ v → v < 12 → tb M' u v = 1 → u < nN M ∧ v < nN M) ∧ 2 * M' 209 0 = cnt (tbk M') 144 ∧ 0 ≤ M' 209 0 ∧ M' 209 0 ≤ i
theorem cnt_two {p q : Int → Bool} {a b m : Nat} (ha : a < m) (hb : b < m) (hab : a ≠ b) (h : ∀ i : Nat, i < m → i ≠ a → i ≠ b → p (i : Int) = q (i : Int)) (h1 : p (a : Int) = false) (h2 : p (b : Int) = false) (h3 : q (a : Int) = true) (h4 : q (b : Int) = true) : cnt q m = cnt p m + 2 := by
  let r : Int → Bool := fun k => q k && decide (k ≠ (b : Int))
  have e1 : cnt q m = cnt r m + 1 := cnt_one (a := b) m hb (fun i hi hij => by
    have : ((i : Int) ≠ (b : Int)) := by omega
    simp [r, this]) (by simp [r]) h4
  have e2 : cnt r m = cnt p m + 1 := cnt_one (a := a) m ha (fun i hi hij => by
    by_cases e : i = b
    · subst e; simp [r, h2]
    · have : ((i : Int) ≠ (b : Int)) := by omega
      simp [r, this, h i hi hij e]) h1 (by
    have : ((a : Int) ≠ (b : Int)) := by omega
    simp [r, h3, this])
  omega
theorem p_take {s t c i u v z : Int} {K : gMem → Prop} {M M1 : gMem} (h : InvA s M) (hT : TC M t c i M1) (hi : i < 30) (hu : 0 ≤ u) (huv : u < v) (hv : v < nN M) (hz : mL M u v = z) (hz0 : 0 < z) (hk : key (mL M) u v = c) (hfar : far1 (nN M) (mL M) t (τc (nN M) M1) u v)
    (hK : ∀ M', TC M t (c + 1) (i + 1) M' → M' 224 = M1 224 → (∀ k, k ≠ 0 → M' 209 k = M1 209 k) → K M') : wX8_take 209 u v z K M1 := by
  obtain ⟨hF, h0, hR, hD, hbd, hnn, hbx, hct, hs0, hs1⟩ := hT
  have hn := h.1
  have hz99 : z ≤ 99 := by rw [← hz]; exact h.L99 u v hu (by omega) (by omega) hv
  unfold wX8_take
  simp only [Int.reduceAdd]
  have no1 : ¬ τc (nN M) M1 u v := fun p => by have := (hR.2.1 _ _ p).2.2.2.1; omega
  have no2 : ¬ τc (nN M) M1 v u := fun p => no1 (hR.1 _ _ p)
  have b1 : tb M1 u v = 0 := (bit_01 (M1 225 u) v).elim id (fun q => absurd ⟨⟨by omega, by omega⟩, ⟨by omega, by omega⟩, q⟩ no1)
  have b2 : tb M1 v u = 0 := (bit_01 (M1 225 v) u).elim id (fun q => absurd ⟨⟨by omega, by omega⟩, ⟨by omega, by omega⟩, q⟩ no2)
  refine gK0_r ⟨fun q => absurd q (by omega), fun _ => ⟨fun q => absurd q (by omega), fun _ => ⟨fun q => absurd q (by omega), fun _ => ⟨fun _ => ⟨⟨by omega, by omega⟩, ⟨by omega, by omega⟩, ⟨hnn u (by omega) (by omega), gpw_0 v⟩, ⟨by omega, by omega⟩, fun M2 e2 => ⟨⟨by omega, by omega⟩, ⟨by omega, by omega⟩, ⟨?_, gpw_0 u⟩, ⟨by omega, by omega⟩, fun M3 e3 => ?_⟩⟩, fun q => absurd q (by omega)⟩⟩⟩⟩
  · rw [e2, gup_k _ (by omega)]; exact hnn v (by omega) (by omega)
  · have f3 : ∀ c', c' ≠ 225 → M3 c' = M1 c' := fun c' a => by rw [e3, gup_c _ a, e2, gup_c _ a]
    have n3 : ∀ a, 0 ≤ a → a < 12 → 0 ≤ M3 225 a := fun a a0 a1 => by
      rw [e3, gup_2]
      split
      · exact gor_nn _ _
      · rw [e2, gup_2]
        split
        · exact gor_nn _ _
        · exact hnn a a0 a1
    have t3 : ∀ a b, 0 ≤ a → a < 12 → 0 ≤ b → b < 12 → (tb M3 a b = 1 ↔ (tb M1 a b = 1 ∨ (a = u ∧ b = v) ∨ (a = v ∧ b = u))) := fun a b a0 a1 b0 b1' => by
      unfold tb
      rw [e3, gup_2]
      by_cases c1 : a = v
      · rw [if_pos ⟨rfl, c1⟩, e2, gup_k _ (show v ≠ u by omega), gor_bit (hnn v (by omega) (by omega)) hu b0]
        subst c1
        by_cases c2 : b = u
        · rw [if_pos c2]; exact ⟨fun _ => Or.inr (Or.inr ⟨rfl, c2⟩), fun _ => rfl⟩
        · rw [if_neg c2]
          exact ⟨Or.inl, fun q => q.elim id (fun q => by omega)⟩
      · rw [if_neg (fun q => c1 q.2), e2, gup_2]
        by_cases c3 : a = u
        · rw [if_pos ⟨rfl, c3⟩, gor_bit (hnn u (by omega) (by omega)) (by omega) b0]
          subst c3
          by_cases c2 : b = v
          · rw [if_pos c2]; exact ⟨fun _ => Or.inr (Or.inl ⟨rfl, c2⟩), fun _ => rfl⟩
          · rw [if_neg c2]
            exact ⟨Or.inl, fun q => q.elim id (fun q => by omega)⟩
        · rw [if_neg (fun q => c3 q.2)]
          exact ⟨Or.inl, fun q => q.elim id (fun q => by omega)⟩
    have tau3 : ∀ a b, τc (nN M) M3 a b ↔ (τc (nN M) M1 a b ∨ (far1 (nN M) (mL M) t (τc (nN M) M1) u v ∧ ((a = u ∧ b = v) ∨ (a = v ∧ b = u)))) := by
      intro a b
      unfold τc
      by_cases hb : (0 ≤ a ∧ a < nN M) ∧ (0 ≤ b ∧ b < nN M)
      · have := t3 a b hb.1.1 (by omega) hb.2.1 (by omega)
        refine ⟨fun q => ?_, fun q => ⟨hb.1, hb.2, this.2 ?_⟩⟩
        · rcases this.1 q.2.2 with p | p
          · exact Or.inl ⟨hb.1, hb.2, p⟩
          · exact Or.inr ⟨hfar, p⟩
        · rcases q with q | q
          · exact Or.inl q.2.2
          · exact Or.inr q.2
      · refine ⟨fun q => absurd ⟨q.1, q.2.1⟩ hb, fun q => absurd ?_ hb⟩
        rcases q with q | q
        · exact ⟨q.1, q.2.1⟩
        · omega
    have e10 : M3 210 0 = nN M := by rw [f3 210 (by decide)]; exact h0
    refine p_add (L := LR (mL M) (τc (nN M) M1)) (by omega) (by omega) (by omega) (by omega) ?_ (fun a b x y z w => ?_) (fun M4 F4 G4 T4 => ⟨?_, fun M5 e5 => ?_⟩)
    · rw [e10]
      refine hD.conf (fun a b x y z w => ?_)
      show M3 (212 + a) b = M1 (212 + a) b
      rw [f3 _ (by omega)]
    · rw [e10] at y w
      show M3 (212 + a) b ≤ 1000000
      rw [f3 _ (by omega)]
      exact hbd a b x y z w
    · have : M4 209 = M1 209 := by rw [F4 209 (by omega), f3 209 (by decide)]
      rw [this]; exact ⟨by omega, by omega⟩
    · have g9 : M4 209 = M1 209 := by rw [F4 209 (by omega), f3 209 (by decide)]
      have g225 : M5 225 = M3 225 := by rw [e5, gup_c _ (by decide), F4 225 (by omega)]
      have tb5 : ∀ a b, tb M5 a b = tb M3 a b := fun a b => by unfold tb; rw [g225]
      have tau5 : τc (nN M) M5 = τc (nN M) M3 := by funext a b; unfold τc; rw [tb5]
      rw [e10] at T4
      refine hK M5 ⟨fun c' a => ?_, ?_, ?_, ?_, ?_, ?_, ?_, ?_, ?_, ?_⟩ ?_ (fun k a => by rw [e5, gup_k _ a, g9])
      · rw [e5, gup_c _ (by omega), F4 c' (by omega), f3 c' (by omega), hF c' a]
      · rw [e5, gup_c _ (by decide), G4]; exact e10
      · rw [tau5]
        exact hR.step hn.2 h.sym hu huv hv (by omega) hk tau3
      · rw [tau5]
        refine IsD.add hD (p := u) (q := v) (z := z) (by omega) (by omega) hz0 (fun a b x y zz w q => ?_) ?_ ?_ (fun a b x y zz w q => ?_) (fun a b x y zz w => ?_)
        · unfold LR at q ⊢
          split at q
          · next p => rw [if_pos ((tau3 a b).2 (Or.inl p)), if_pos p]
          · omega
        · unfold LR
          rw [if_pos ((tau3 u v).2 (Or.inr ⟨hfar, Or.inl ⟨rfl, rfl⟩⟩)), hz]
        · unfold LR
          rw [if_pos ((tau3 v u).2 (Or.inr ⟨hfar, Or.inr ⟨rfl, rfl⟩⟩)), h.sym v u (by omega) (by omega) (by omega) (by omega), hz]
        · unfold LR at q ⊢
          split at q
          · next p =>
            rcases (tau3 a b).1 p with p2 | p2
            · exact Or.inr (Or.inr (by rw [if_pos p, if_pos p2]))
            · rcases p2.2 with p3 | p3
              · exact Or.inl p3
              · exact Or.inr (Or.inl p3)
          · omega
        · have := T4 a b x y zz w
          show M5 (212 + a) b = _
          rw [e5, gup_c _ (by omega)]
          refine this.trans ?_
          show mn (M3 (212 + a) b) (mn (M3 (212 + a) u + z + M3 (212 + v) b) (M3 (212 + a) v + z + M3 (212 + u) b)) = _
          rw [f3 _ (by omega), f3 _ (by omega), f3 _ (by omega)]
      · intro a b x y zz w
        have := T4 a b x y zz w
        rw [e5, gup_c _ (by omega)]
        refine Int.le_trans (Int.le_of_eq this) ?_
        have c := hbd a b x y zz w
        have e : M3 (210 + 2 + a) b = M1 (212 + a) b := by show M3 (212 + a) b = _; rw [f3 _ (by omega)]
        rw [e]
        have := mn_cases (M1 (212 + a) b) (mn (M3 (210 + 2 + a) u + z + M3 (210 + 2 + v) b) (M3 (210 + 2 + a) v + z + M3 (210 + 2 + u) b))
        omega
      · rw [g225]; exact n3
      · intro a b x y zz w q
        rw [tb5] at q
        rcases (t3 a b x y zz w).1 q with p | p
        · exact hbx a b x y zz w p
        · omega
      · have e : M5 209 0 = M1 209 0 + 1 := by rw [e5, gup_s, g9]
        rw [e]
        have := cnt_two (p := tbk M1) (q := tbk M5) (a := (12 * u + v).toNat) (b := (12 * v + u).toNat) (m := 144) (by omega) (by omega) (by omega) (fun i hi h1 h2 => ?_) ?_ ?_ ?_ ?_
        · omega
        · unfold tbk
          rw [tb5]
          have := t3 ((i : Int) / 12) ((i : Int) % 12) (by omega) (by omega) (by omega) (by omega)
          have e : tb M3 ((i : Int) / 12) ((i : Int) % 12) = 1 ↔ tb M1 ((i : Int) / 12) ((i : Int) % 12) = 1 := by
            rw [this]
            exact ⟨fun q => q.elim id (fun q => by omega), Or.inl⟩
          simp only [e]
        · unfold tbk
          rw [show (((12 * u + v).toNat : Nat) : Int) = 12 * u + v by omega, show (12 * u + v) / 12 = u by omega, show (12 * u + v) % 12 = v by omega, b1]
          rfl
        · unfold tbk
          rw [show (((12 * v + u).toNat : Nat) : Int) = 12 * v + u by omega, show (12 * v + u) / 12 = v by omega, show (12 * v + u) % 12 = u by omega, b2]
          rfl
        · unfold tbk
          rw [show (((12 * u + v).toNat : Nat) : Int) = 12 * u + v by omega, show (12 * u + v) / 12 = u by omega, show (12 * u + v) % 12 = v by omega, tb5, (t3 u v (by omega) (by omega) (by omega) (by omega)).2 (Or.inr (Or.inl ⟨rfl, rfl⟩))]
          rfl
        · unfold tbk
          rw [show (((12 * v + u).toNat : Nat) : Int) = 12 * v + u by omega, show (12 * v + u) / 12 = v by omega, show (12 * v + u) % 12 = u by omega, tb5, (t3 v u (by omega) (by omega) (by omega) (by omega)).2 (Or.inr (Or.inr ⟨rfl, rfl⟩))]
          rfl
      · rw [e5, gup_s, g9]; omega
      · rw [e5, gup_s, g9]; omega
      · rw [e5, gup_c _ (by decide), F4 224 (by omega), f3 224 (by decide)]
