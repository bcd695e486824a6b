/-! THE CLASS, 1: nets and tables of distances -/
theorem gup_2 (M : gMem) (c k v c' j : Int) : gup M c k v c' j = if c' = c ∧ j = k then v else M c' j := by
  unfold gup
  by_cases h : c' = c
  · by_cases h2 : j = k
    · rw [if_pos h, if_pos h2, if_pos ⟨h, h2⟩]
    · rw [if_pos h, if_neg h2, if_neg (fun q => h2 q.2)]
  · rw [if_neg h, if_neg (fun q => h q.1)]
theorem gfl_2 (M : gMem) (c n v c' j : Int) : gfl M c n v c' j = if c' = c ∧ 0 ≤ j ∧ j < n then v else M c' j := rfl
theorem gfl_c (M : gMem) {c n v c' : Int} (h : c' ≠ c) : gfl M c n v c' = M c' := by funext j; rw [gfl_2, if_neg (fun q => h q.1)]
theorem gcp_2 (M : gMem) (c0 c1 m c' j : Int) : gcp M c0 c1 m c' j = if c' = c1 ∧ 0 ≤ j ∧ j < m then M c0 j else M c' j := rfl
theorem gcp_c (M : gMem) {c0 c1 m c' : Int} (h : c' ≠ c1) : gcp M c0 c1 m c' = M c' := by funext j; rw [gcp_2, if_neg (fun q => h q.1)]
theorem p_has_t {c a : Int} {K : Int → gMem → Prop} {M : gMem} (h : 0 ≤ a ∧ a < M c 0) (k : K 1 M) : wX1_has c a K M := by
  unfold wX1_has
  exact gK1_r (gK0_r ⟨fun q => absurd q (by omega), fun _ => ⟨fun q => absurd q (by omega), fun _ => ⟨Or.inr rfl, k⟩⟩⟩)
theorem p_has_f {c a : Int} {K : Int → gMem → Prop} {M : gMem} (h : ¬ (0 ≤ a ∧ a < M c 0)) (k : K 0 M) : wX1_has c a K M := by
  unfold wX1_has
  exact gK1_r (gK0_r ⟨fun _ => ⟨Or.inl rfl, k⟩, fun q => ⟨fun _ => ⟨Or.inl rfl, k⟩, fun q2 => absurd (show 0 ≤ a ∧ a < M c 0 by omega) h⟩⟩)
theorem p_cell {u v : Int} {K : Int → gMem → Prop} {M : gMem} (h : 0 ≤ u ∧ u < 12 ∧ 0 ≤ v ∧ v < 12) (k : K (12 * u + v) M) : wX9_cell u v K M := by
  unfold wX9_cell
  rw [show u * 12 + v = 12 * u + v by omega]
  exact ⟨⟨by omega, by omega⟩, ⟨by omega, by omega⟩, k⟩
theorem p_len {c u v : Int} {K : Int → gMem → Prop} {M : gMem} (hn : M c 0 ≤ 12) (h1 : (0 ≤ u ∧ u < M c 0) ∧ 0 ≤ v ∧ v < M c 0 → K (M (c + 1) (12 * u + v)) M) (h2 : ¬ ((0 ≤ u ∧ u < M c 0) ∧ 0 ≤ v ∧ v < M c 0) → K 0 M) : wX1_lengthOf c u v K M := by
  unfold wX1_lengthOf
  by_cases hu : 0 ≤ u ∧ u < M c 0
  · refine p_has_t hu (gK1_r (gK0_r ⟨fun q => absurd q (by decide), fun _ => ?_⟩))
    by_cases hv : 0 ≤ v ∧ v < M c 0
    · refine p_has_t hv ⟨fun q => absurd q (by decide), fun _ => ?_⟩
      refine p_cell ⟨by omega, by omega, by omega, by omega⟩ ⟨⟨by omega, by omega⟩, h1 ⟨hu, hv⟩⟩
    · exact p_has_f hv ⟨fun _ => h2 (fun q => hv q.2), fun q => absurd rfl q⟩
  · exact p_has_f hu (gK1_r (gK0_r ⟨fun _ => h2 (fun q => hu q.1), fun q => absurd rfl q⟩))
theorem p_lev {c v : Int} {K : Int → gMem → Prop} {M : gMem} (hn : M c 0 ≤ 12) (h1 : 0 ≤ v ∧ v < M c 0 → K (M (c + 2) v) M) (h2 : ¬ (0 ≤ v ∧ v < M c 0) → K 0 M) : wX1_levelOf c v K M := by
  unfold wX1_levelOf
  refine gK1_r (gK0_r ⟨fun q => h2 (by omega), fun q => ⟨fun q2 => h2 (by omega), fun q2 => ⟨⟨by omega, by omega⟩, h1 ⟨by omega, by omega⟩⟩⟩⟩)
theorem farE (c v : Int) : (c + 1) + 1 + 1 * v = c + 2 + v := by omega
theorem p_btw {c u v : Int} {K : Int → gMem → Prop} {M : gMem} (hn : M c 0 ≤ 12) (h1 : (0 ≤ u ∧ u < M c 0) ∧ 0 ≤ v ∧ v < M c 0 → K (if M (c + 2 + u) v < 1000000 then M (c + 2 + u) v else -1) M) (h2 : ¬ ((0 ≤ u ∧ u < M c 0) ∧ 0 ≤ v ∧ v < M c 0) → K (-1) M) : wX0_between c u v K M := by
  unfold wX0_between
  simp only [farE]
  refine gK0_r ⟨fun q => h2 (by omega), fun q => ⟨fun q2 => h2 (by omega), fun q2 => ⟨fun q3 => h2 (by omega), fun q3 => ⟨fun q4 => ⟨⟨by omega, by omega⟩, ⟨by omega, by omega⟩, gK1_r ⟨fun q5 => ?_, fun q5 => ⟨⟨by omega, by omega⟩, ⟨by omega, by omega⟩, ?_⟩⟩⟩, fun q4 => h2 (by omega)⟩⟩⟩⟩
  · have := h1 (by omega)
    rw [if_neg (by omega)] at this
    exact this
  · have := h1 (by omega)
    rw [if_pos (by omega)] at this
    exact this
/-- all but the cells of a Far stays -/
def FarFr (c : Int) (M M' : gMem) : Prop := ∀ c', c' < c ∨ c + 14 ≤ c' → M' c' = M c'
theorem p_clear {c m : Int} {K : gMem → Prop} {M : gMem} (hm : 2 ≤ m ∧ m ≤ 12) (hK : ∀ M', FarFr c M M' → M' c 0 = m → (∀ k, k ≠ 0 → M' c k = M c k) → (∀ a b, 0 ≤ a → a < m → 0 ≤ b → b < 12 → M' (c + 2 + a) b = if a = b then 0 else 1000000) → K M') : wX0_clear c m K M := by
  unfold wX0_clear
  simp only [farE]
  intro M1 e1
  rw [if_neg (by omega)] at e1
  have f1 : M1 c 0 = m := by rw [e1, gup_s]
  have f2 : ∀ k, k ≠ 0 → M1 c k = M c k := fun k hk => by rw [e1, gup_k M hk]
  have f3 : ∀ c', c' ≠ c → M1 c' = M c' := fun c' h => by rw [e1, gup_c M h]
  refine ⟨fun v M' => 0 ≤ v ∧ v ≤ m ∧ (∀ c', c' < c + 2 ∨ c + 14 ≤ c' → M' c' = M1 c') ∧ ∀ a b, 0 ≤ a → a < v → 0 ≤ b → b < 12 → M' (c + 2 + a) b = if a = b then 0 else 1000000, fun v _ => m - v, ⟨by omega, by omega, fun _ _ => rfl, fun a b h1 h2 => by omega⟩, ?_⟩
  intro v M2 ⟨v0, v1, hF, ht⟩
  dsimp only
  have g0 : M2 c = M1 c := hF c (by omega)
  refine ⟨by omega, fun q => ?_, fun q => ?_⟩
  · rw [g0, f1] at q
    refine hK M2 (fun c' h => ?_) (by rw [g0]; exact f1) (fun k hk => by rw [g0]; exact f2 k hk) (fun a b h1 h2 h3 h4 => ht a b h1 (by omega) h3 h4)
    rw [hF c' (by omega), f3 c' (by omega)]
  · rw [g0, f1] at q
    refine ⟨⟨by omega, by omega⟩, fun M7 e7 => ⟨⟨by omega, by omega⟩, ⟨by omega, by omega⟩, fun M9 e9 => ⟨⟨by omega, by omega⟩, ⟨by omega, by omega, fun c' h => ?_, fun a b h1 h2 h3 h4 => ?_⟩, by omega⟩⟩⟩
    · rw [e9, gup_c _ (by omega), e7, gfl_c _ (by omega), hF c' h]
    · rw [e9, gup_2, e7]
      by_cases hav : a = v
      · subst hav
        by_cases hb : b = a
        · rw [if_pos ⟨rfl, hb⟩, if_pos hb.symm]
        · rw [if_neg (fun q => hb q.2), gfl_2, if_pos ⟨rfl, h3, h4⟩, if_neg (fun q => hb q.symm)]
      · rw [if_neg (by omega), gfl_2, if_neg (by omega)]
        exact ht a b h1 (by omega) h3 h4
/-- rows that are new already do no harm -/
theorem add_same {n z : Int} {L : Int → Int → Int} {B : Int} {f : Int → Int → Int} (h : IsD n L B f) {p q a b X Y : Int} (hp : 0 ≤ p ∧ p < n) (hq : 0 ≤ q ∧ q < n) (ha : 0 ≤ a ∧ a < n) (hb : 0 ≤ b ∧ b < n) (hz : 0 < z)
    (hX : X = f q b ∨ X = mn (f q b) (mn (f q p + z + f q b) (f q q + z + f p b))) (hY : Y = f p b ∨ Y = mn (f p b) (mn (f p p + z + f q b) (f p q + z + f p b))) :
    mn (f a b) (mn (f a p + z + X) (f a q + z + Y)) = mn (f a b) (mn (f a p + z + f q b) (f a q + z + f p b)) := by
  obtain ⟨n0, n1, n2, -, -⟩ := h
  have := n0 a b ha.1 ha.2 hb.1 hb.2
  have := n0 a p ha.1 ha.2 hp.1 hp.2
  have := n0 a q ha.1 ha.2 hq.1 hq.2
  have := n0 q b hq.1 hq.2 hb.1 hb.2
  have := n0 p b hp.1 hp.2 hb.1 hb.2
  have := n0 p q hp.1 hp.2 hq.1 hq.2
  have := n0 q p hq.1 hq.2 hp.1 hp.2
  have := n1 p hp.1 hp.2
  have := n1 q hq.1 hq.2
  have := n2 a p b ha.1 ha.2 hp.1 hp.2 hb.1 hb.2
  have := n2 a q b ha.1 ha.2 hq.1 hq.2 hb.1 hb.2
  have hX2 : X ≤ f q b ∧ (X = f q b ∨ z + f p b ≤ X) := by
    rcases hX with e | e
    · omega
    · unfold mn at e; split at e <;> split at e <;> omega
  have hY2 : Y ≤ f p b ∧ (Y = f p b ∨ z + f q b ≤ Y) := by
    rcases hY with e | e
    · omega
    · unfold mn at e; split at e <;> split at e <;> omega
  unfold mn
  split <;> split <;> split <;> split <;> omega
theorem p_add {c u v z : Int} {K : gMem → Prop} {M : gMem} {L : Int → Int → Int} (hm : 2 ≤ M c 0 ∧ M c 0 ≤ 12) (hu : 0 ≤ u ∧ u < M c 0) (hv : 0 ≤ v ∧ v < M c 0) (hz : 1 ≤ z ∧ z ≤ 99) (hI : IsD (M c 0) L 1000000 (fun a b => M (c + 2 + a) b)) (hbd : ∀ a b, 0 ≤ a → a < M c 0 → 0 ≤ b → b < M c 0 → M (c + 2 + a) b ≤ 1000000)
    (hK : ∀ M', FarFr c M M' → M' c = M c → (∀ a b, 0 ≤ a → a < M c 0 → 0 ≤ b → b < M c 0 → M' (c + 2 + a) b = mn (M (c + 2 + a) b) (mn (M (c + 2 + a) u + z + M (c + 2 + v) b) (M (c + 2 + a) v + z + M (c + 2 + u) b))) → K M') : wX0_add c u v z K M := by
  unfold wX0_add
  simp only [farE]
  have n0 := hI.1
  refine gK0_r ⟨fun q => absurd q (by omega), fun _ => ⟨fun q => absurd q (by omega), fun _ => ⟨fun q => absurd q (by omega), fun _ => ⟨fun _ => ?_, fun q => absurd hv.2 q⟩⟩⟩⟩
  refine ⟨fun a M' => 0 ≤ a ∧ a ≤ M c 0 ∧ (∀ c', c' < c + 2 ∨ c + 14 ≤ c' → M' c' = M c') ∧ ∀ x y, 0 ≤ x → x < M c 0 → 0 ≤ y → y < M c 0 → M' (c + 2 + x) y = if x < a then mn (M (c + 2 + x) y) (mn (M (c + 2 + x) u + z + M (c + 2 + v) y) (M (c + 2 + x) v + z + M (c + 2 + u) y)) else M (c + 2 + x) y, fun a _ => M c 0 - a, ⟨by omega, by omega, fun _ _ => rfl, fun x y h1 h2 h3 h4 => by rw [if_neg (by omega)]⟩, ?_⟩
  intro a M1 ⟨a0, a1, hF, ht⟩
  dsimp only
  have g0 : M1 c = M c := hF c (by omega)
  refine ⟨by omega, fun q => ?_, fun q => ?_⟩
  · rw [g0] at q
    exact hK M1 (fun c' h => hF c' (by omega)) g0 (fun x y h1 h2 h3 h4 => by rw [ht x y h1 h2 h3 h4, if_pos (by omega)])
  · rw [g0] at q
    have r1 : M1 (c + 2 + a) u = M (c + 2 + a) u := by rw [ht a u a0 (by omega) hu.1 hu.2, if_neg (by omega)]
    have r2 : M1 (c + 2 + a) v = M (c + 2 + a) v := by rw [ht a v a0 (by omega) hv.1 hv.2, if_neg (by omega)]
    have b1 := n0 a u a0 (by omega) hu.1 hu.2
    have b2 := hbd a u a0 (by omega) hu.1 hu.2
    have b3 := n0 a v a0 (by omega) hv.1 hv.2
    have b4 := hbd a v a0 (by omega) hv.1 hv.2
    have b1 : 0 ≤ M (c + 2 + a) u := b1
    have b3 : 0 ≤ M (c + 2 + a) v := b3
    rw [r1, r2]
    refine ⟨⟨by omega, by omega⟩, ⟨by omega, by omega⟩, ⟨by omega, by omega⟩, fun tu etu => ⟨⟨by omega, by omega⟩, ⟨by omega, by omega⟩, fun tv etv => ?_⟩⟩
    refine ⟨fun b M' => 0 ≤ b ∧ b ≤ M c 0 ∧ (∀ c', c' < c + 2 ∨ c + 14 ≤ c' → M' c' = M c') ∧ ∀ x y, 0 ≤ x → x < M c 0 → 0 ≤ y → y < M c 0 → M' (c + 2 + x) y = if x < a ∨ (x = a ∧ y < b) then mn (M (c + 2 + x) y) (mn (M (c + 2 + x) u + z + M (c + 2 + v) y) (M (c + 2 + x) v + z + M (c + 2 + u) y)) else M (c + 2 + x) y, fun b _ => M c 0 - b, ⟨by omega, by omega, hF, fun x y h1 h2 h3 h4 => ?_⟩, ?_⟩
    · rw [ht x y h1 h2 h3 h4]
      by_cases hx : x < a
      · rw [if_pos hx, if_pos (Or.inl hx)]
      · rw [if_neg hx, if_neg (by omega)]
    · intro b M2 ⟨b0, b1', hF2, ht2⟩
      dsimp only
      have g2 : M2 c = M c := hF2 c (by omega)
      refine ⟨by omega, fun q2 => ?_, fun q2 => ?_⟩
      · rw [g2] at q2
        refine ⟨⟨by omega, by omega⟩, ⟨by omega, by omega, hF2, fun x y h1 h2 h3 h4 => ?_⟩, by omega⟩
        rw [ht2 x y h1 h2 h3 h4]
        by_cases hx : x < a + 1
        · rw [if_pos hx, if_pos (by omega)]
        · rw [if_neg hx, if_neg (by omega)]
      · rw [g2] at q2
        have sv := ht2 v b hv.1 hv.2 b0 (by omega)
        have su := ht2 u b hu.1 hu.2 b0 (by omega)
        have sa := ht2 a b a0 (by omega) b0 (by omega)
        rw [if_neg (by omega)] at sa
        have k1 := n0 v b hv.1 hv.2 b0 (by omega)
        have k2 := hbd v b hv.1 hv.2 b0 (by omega)
        have k3 := n0 u b hu.1 hu.2 b0 (by omega)
        have k4 := hbd u b hu.1 hu.2 b0 (by omega)
        have k1 : 0 ≤ M (c + 2 + v) b := k1
        have k3 : 0 ≤ M (c + 2 + u) b := k3
        have k5 := n0 v u hv.1 hv.2 hu.1 hu.2
        have k5 : 0 ≤ M (c + 2 + v) u := k5
        have k6 := n0 u v hu.1 hu.2 hv.1 hv.2
        have k6 : 0 ≤ M (c + 2 + u) v := k6
        have k7 : M (c + 2 + u) u = 0 := hI.2.1 u hu.1 hu.2
        have k8 : M (c + 2 + v) v = 0 := hI.2.1 v hv.1 hv.2
        have hX : M2 (c + 2 + v) b = M (c + 2 + v) b ∨ M2 (c + 2 + v) b = mn (M (c + 2 + v) b) (mn (M (c + 2 + v) u + z + M (c + 2 + v) b) (M (c + 2 + v) v + z + M (c + 2 + u) b)) := by
          rw [sv]; split
          · exact Or.inr rfl
          · exact Or.inl rfl
        have hY : M2 (c + 2 + u) b = M (c + 2 + u) b ∨ M2 (c + 2 + u) b = mn (M (c + 2 + u) b) (mn (M (c + 2 + u) u + z + M (c + 2 + v) b) (M (c + 2 + u) v + z + M (c + 2 + u) b)) := by
          rw [su]; split
          · exact Or.inr rfl
          · exact Or.inl rfl
        have key := add_same (z := z) hI (p := u) (q := v) (a := a) (b := b) hu hv ⟨a0, by omega⟩ ⟨b0, by omega⟩ (by omega) hX hY
        have hX2 : 0 ≤ M2 (c + 2 + v) b ∧ M2 (c + 2 + v) b ≤ 1000000 := by
          rcases hX with e | e
          · omega
          · unfold mn at e; split at e <;> split at e <;> omega
        have hY2 : 0 ≤ M2 (c + 2 + u) b ∧ M2 (c + 2 + u) b ≤ 1000000 := by
          rcases hY with e | e
          · omega
          · unfold mn at e; split at e <;> split at e <;> omega
        refine ⟨⟨by omega, by omega⟩, ⟨by omega, by omega⟩, ⟨by omega, by omega⟩, ⟨by omega, by omega⟩, ⟨by omega, by omega⟩, ⟨by omega, by omega⟩, fun s es => ⟨⟨by omega, by omega⟩, ⟨by omega, by omega⟩, fun M22 e22 => ⟨⟨by omega, by omega⟩, ⟨by omega, by omega, fun c' h => ?_, fun x y h1 h2 h3 h4 => ?_⟩, by omega⟩⟩⟩
        · rw [e22, gup_c _ (by omega)]
          exact hF2 c' h
        · rw [e22, gup_2]
          by_cases he : c + 2 + x = c + 2 + a ∧ y = b
          · have hx : x = a := by omega
            have hy := he.2
            subst hx
            subst hy
            rw [if_pos he]
            refine Eq.trans ?_ (if_pos (by omega)).symm
            rw [sa, es, etu, etv]
            exact key
          · rw [if_neg he, ht2 x y h1 h2 h3 h4]
            by_cases hx : x < a ∨ (x = a ∧ y < b)
            · rw [if_pos hx, if_pos (by omega)]
            · rw [if_neg hx, if_neg (by omega)]
/-- the lengths of a net of the class -/
def cL (M : gMem) (c : Int) (u v : Int) : Int := M (c + 1) (12 * u + v)
/-- of those, the pairs ahead of (a, b) -/
def cLp (M : gMem) (c a b : Int) (u v : Int) : Int := if (u < v ∧ (u < a ∨ (u = a ∧ v < b))) ∨ (v < u ∧ (v < a ∨ (v = a ∧ u < b))) then M (c + 1) (12 * u + v) else 0
/-- a net's lengths are as they ought to be -/
def LOK (n : Int) (L : Int → Int → Int) : Prop := ∀ u v, 0 ≤ u → u < 12 → 0 ≤ v → v < 12 → 0 ≤ L u v ∧ L u v ≤ 99 ∧ L u v = L v u ∧ (u = v → L u v = 0) ∧ (n ≤ u → L u v = 0)
theorem IsD.cong {n B : Int} {L L' f : Int → Int → Int} (h : IsD n L B f) (hL : ∀ u v, 0 ≤ u → u < n → 0 ≤ v → v < n → L' u v = L u v) : IsD n L' B f := by
  obtain ⟨n0, n1, n2, n3, n4⟩ := h
  refine ⟨n0, n1, n2, fun u v a b c d e => ?_, fun u v a b c d e => ?_⟩
  · rw [hL u v a b c d] at e ⊢
    exact n3 u v a b c d e
  · obtain ⟨m, w⟩ := n4 u v a b c d e
    exact ⟨m, Wk_mono (fun x y a b c d _ => hL x y a b c d) m u v _ c d w⟩
theorem p_follow {c d : Int} {K : gMem → Prop} {M : gMem} (hcd : d + 2 < c ∨ c + 14 ≤ d) (hn : 2 ≤ M d 0 ∧ M d 0 ≤ 12) (hL : LOK (M d 0) (cL M d)) (h1 : M c 1 = M d 3 → K M)
    (hK : ∀ M', FarFr c M M' → M' c 0 = M d 0 → M' c 1 = M d 3 → IsD (M d 0) (cL M d) 1000000 (fun a b => M' (c + 2 + a) b) → K M') : wX0_follow c d K M := by
  unfold wX0_follow
  refine ⟨fun _ => ?_, fun q => h1 q⟩
  refine p_clear hn (fun M1 hF1 e0 e1 e2 => ?_)
  have d1 : ∀ M', FarFr c M M' → M' d = M d ∧ M' (d + 1) = M (d + 1) := fun M' h => ⟨h d (by omega), h (d + 1) (by omega)⟩
  have hcL : ∀ u v, 0 ≤ u → u < M d 0 → 0 ≤ v → v < M d 0 → 0 ≤ M (d + 1) (12 * u + v) ∧ M (d + 1) (12 * u + v) ≤ 99 ∧ M (d + 1) (12 * u + v) = M (d + 1) (12 * v + u) := fun u v a b e f => by
    have := hL u v a (by omega) e (by omega)
    unfold cL at this
    exact ⟨this.1, this.2.1, this.2.2.1⟩
  refine ⟨fun a M' => 0 ≤ a ∧ a ≤ M d 0 ∧ FarFr c M M' ∧ M' c 0 = M d 0 ∧ IsD (M d 0) (cLp M d a (a + 1)) 1000000 (fun x y => M' (c + 2 + x) y) ∧ ∀ x y, 0 ≤ x → x < M d 0 → 0 ≤ y → y < M d 0 → M' (c + 2 + x) y ≤ 1000000, fun a _ => M d 0 - a, ⟨by omega, by omega, hF1, e0, ?_, fun x y a b e f => by rw [e2 x y a b e (by omega)]; split <;> omega⟩, ?_⟩
  · refine IsD.nil (by decide) (fun u v a b e f => ?_) (fun x y a b e f => e2 x y a b e (by omega))
    unfold cLp
    rw [if_neg (by omega)]
    exact Int.le_refl 0
  · intro a M2 ⟨a0, a1, hF2, f0, hI, hB⟩
    dsimp only
    refine ⟨by omega, fun q M7 e7 => ?_, fun q => ⟨⟨by omega, by omega⟩, fun a' ea' => ?_⟩⟩
    · rw [f0] at q
      have g1 := d1 M2 hF2
      refine hK M7 (fun c' h => ?_) ?_ ?_ ?_
      · rw [e7, gup_c _ (by omega)]
        exact hF2 c' h
      · rw [e7, gup_k _ (by decide)]
        exact f0
      · rw [e7, gup_s, g1.1]
      · have hI2 : IsD (M d 0) (cLp M d a (a + 1)) 1000000 (fun x y => M7 (c + 2 + x) y) := by
          have e8 : (fun x y => M7 (c + 2 + x) y) = fun x y => if c + 2 + x = c ∧ y = 1 then M2 d 3 else M2 (c + 2 + x) y := by
            funext x y
            rw [e7, gup_2]
          obtain ⟨n0, n1, n2, n3, n4⟩ := hI
          have e9 : ∀ x y, 0 ≤ x → M7 (c + 2 + x) y = M2 (c + 2 + x) y := fun x y hx => by rw [e7, gup_2, if_neg (by omega)]
          refine ⟨fun u v a b e f => ?_, fun u a b => ?_, fun u x v a b e f g h => ?_, fun u v a b e f g => ?_, fun u v a b e f g => ?_⟩
          · show 0 ≤ M7 (c + 2 + u) v
            rw [e9 u v a]
            exact n0 u v a b e f
          · show M7 (c + 2 + u) u = 0
            rw [e9 u u a]
            exact n1 u a b
          · show M7 (c + 2 + u) v ≤ M7 (c + 2 + u) x + M7 (c + 2 + x) v
            rw [e9 u v a, e9 u x a, e9 x v e]
            exact n2 u x v a b e f g h
          · show M7 (c + 2 + u) v ≤ _
            rw [e9 u v a]
            exact n3 u v a b e f g
          · have g : M7 (c + 2 + u) v < 1000000 := g
            show ∃ m, Wk _ _ m u v (M7 (c + 2 + u) v)
            rw [e9 u v a] at g ⊢
            exact n4 u v a b e f g
        refine hI2.cong (fun u v a b e f => ?_)
        unfold cLp cL
        by_cases huv : u = v
        · have := hL u v a (by omega) e (by omega)
          unfold cL at this
          rw [this.2.2.2.1 huv]
          split <;> rfl
        · rw [if_pos (by omega)]
    · rw [f0] at q
      have g1 := d1 M2 hF2
      refine ⟨fun b M' => a + 1 ≤ b ∧ b ≤ M d 0 ∧ FarFr c M M' ∧ M' c 0 = M d 0 ∧ IsD (M d 0) (cLp M d a b) 1000000 (fun x y => M' (c + 2 + x) y) ∧ ∀ x y, 0 ≤ x → x < M d 0 → 0 ≤ y → y < M d 0 → M' (c + 2 + x) y ≤ 1000000, fun b _ => M d 0 - b, ⟨by omega, by omega, hF2, f0, by rw [ea']; exact hI, hB⟩, ?_⟩
      intro b M3 ⟨b0, b1, hF3, f3, hI3, hB3⟩
      dsimp only
      have g3 := d1 M3 hF3
      refine ⟨by omega, fun q2 => ?_, fun q2 => ?_⟩
      · rw [f3] at q2
        refine ⟨⟨by omega, by omega⟩, ⟨by omega, by omega, hF3, f3, ?_, hB3⟩, by omega⟩
        refine hI3.cong (fun u v a2 b2 e2 f2 => ?_)
        unfold cLp
        by_cases h : (u < v ∧ (u < a ∨ (u = a ∧ v < b))) ∨ (v < u ∧ (v < a ∨ (v = a ∧ u < b)))
        · rw [if_pos h, if_pos (by omega)]
        · rw [if_neg h, if_neg (by omega)]
      · rw [f3] at q2
        refine p_len (by rw [g3.1]; omega) (fun h => ?_) (fun h => absurd (show _ from ⟨⟨a0, by rw [g3.1]; omega⟩, by omega, by rw [g3.1]; omega⟩) h)
        rw [g3.2]
        have hl := hcL a b a0 (by omega) (by omega) (by omega)
        -- whether there is a link or not
        have fin : ∀ M4, FarFr c M M4 → M4 c 0 = M d 0 → IsD (M d 0) (cLp M d a (b + 1)) 1000000 (fun x y => M4 (c + 2 + x) y) → (∀ x y, 0 ≤ x → x < M d 0 → 0 ≤ y → y < M d 0 → M4 (c + 2 + x) y ≤ 1000000) → gR (b + 1) ∧ (a + 1 ≤ b + 1 ∧ b + 1 ≤ M d 0 ∧ FarFr c M M4 ∧ M4 c 0 = M d 0 ∧ IsD (M d 0) (cLp M d a (b + 1)) 1000000 (fun x y => M4 (c + 2 + x) y) ∧ ∀ x y, 0 ≤ x → x < M d 0 → 0 ≤ y → y < M d 0 → M4 (c + 2 + x) y ≤ 1000000) ∧ M d 0 - (b + 1) < M d 0 - b := fun M4 k1 k2 k3 k4 => ⟨⟨by omega, by omega⟩, ⟨by omega, by omega, k1, k2, k3, k4⟩, by omega⟩
        refine gK0_r ⟨fun q3 => fin M3 hF3 f3 ?_ hB3, fun q3 => ?_⟩
        · refine hI3.cong (fun u v a2 b2 e2 f2 => ?_)
          unfold cLp
          by_cases h : (u < v ∧ (u < a ∨ (u = a ∧ v < b))) ∨ (v < u ∧ (v < a ∨ (v = a ∧ u < b)))
          · rw [if_pos h, if_pos (by omega)]
          · by_cases h2 : (u = a ∧ v = b) ∨ (u = b ∧ v = a)
            · rw [if_neg h, if_pos (by omega)]
              rcases h2 with ⟨rfl, rfl⟩ | ⟨rfl, rfl⟩ <;> omega
            · rw [if_neg h, if_neg (by omega)]
        · refine p_add (L := cLp M d a b) (by rw [f3]; exact hn) (by rw [f3]; omega) (by rw [f3]; omega) ⟨by omega, hl.2.1⟩ (by rw [f3]; exact hI3) (by rw [f3]; exact hB3) (fun M4 hF4 k4 ht4 => ?_)
          rw [f3] at ht4
          refine fin M4 (fun c' h => (hF4 c' h).trans (hF3 c' h)) (by rw [k4]; exact f3) ?_ (fun x y a2 b2 e2 f2 => ?_)
          · refine hI3.add (p := a) (q := b) (z := M (d + 1) (12 * a + b)) ⟨a0, by omega⟩ ⟨by omega, by omega⟩ (by omega) (fun u v a2 b2 e2 f2 h => ?_) ?_ ?_ (fun u v a2 b2 e2 f2 h => ?_) ht4
            · unfold cLp at h ⊢
              by_cases h2 : (u < v ∧ (u < a ∨ (u = a ∧ v < b))) ∨ (v < u ∧ (v < a ∨ (v = a ∧ u < b)))
              · rw [if_pos h2, if_pos (by omega)]
              · rw [if_neg h2] at h
                omega
            · unfold cLp
              rw [if_pos (by omega)]
            · unfold cLp
              rw [if_pos (by omega)]
              exact hl.2.2.symm
            · by_cases h2 : (u = a ∧ v = b) ∨ (u = b ∧ v = a)
              · rcases h2 with h2 | h2
                · exact Or.inl h2
                · exact Or.inr (Or.inl h2)
              · refine Or.inr (Or.inr ?_)
                unfold cLp
                by_cases h3 : (u < v ∧ (u < a ∨ (u = a ∧ v < b))) ∨ (v < u ∧ (v < a ∨ (v = a ∧ u < b)))
                · rw [if_pos h3, if_pos (by omega)]
                · rw [if_neg h3, if_neg (by omega)]
          · rw [ht4 x y a2 b2 e2 f2]
            have := hB3 x y a2 b2 e2 f2
            unfold mn
            split <;> split <;> omega
