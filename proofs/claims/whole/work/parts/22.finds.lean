/-! THE REFERENCE, 1: small words, distances -/
def Only (c : Int) (M M' : gMem) : Prop := ∀ c', c' ≠ c → M' c' = M c'
theorem Only.rf {c : Int} {M : gMem} : Only c M M := fun _ _ => rfl
theorem Only.tr {c : Int} {M M' M'' : gMem} (h1 : Only c M M') (h2 : Only c M' M'') : Only c M M'' := fun c' h => (h2 c' h).trans (h1 c' h)
theorem Only.up {c k v : Int} {M M' : gMem} (h : Only c M M') : Only c M (gup M' c k v) := fun c' h' => (gup_c M' h').trans (h c' h')
theorem gup_e (M : gMem) (c k v j : Int) : gup M c k v c j = if j = k then v else M c j := by simp [gup]
theorem p_in_t {a b c : Int} {K : Int → gMem → Prop} {M : gMem} (h : b ≤ a ∧ a ≤ c) (k : K 1 M) : wX10_in a b c K M := by
  unfold wX10_in
  refine gK1_r (gK0_r ⟨fun q => absurd q ?_, fun _ => ⟨fun q => absurd q ?_, fun _ => ⟨Or.inr rfl, k⟩⟩⟩)
  · rw [if_neg (by omega)]; split <;> decide
  · split
    · decide
    · rw [if_pos (by omega)]; decide
theorem p_in_f {a b c : Int} {K : Int → gMem → Prop} {M : gMem} (h : ¬ (b ≤ a ∧ a ≤ c)) (k : K 0 M) : wX10_in a b c K M := by
  unfold wX10_in
  refine gK1_r (gK0_r ⟨fun _ => ⟨Or.inl rfl, k⟩, fun q => ⟨fun _ => ⟨Or.inl rfl, k⟩, fun q2 => absurd q2 ?_⟩⟩)
  have : b ≤ a := by
    by_cases hb : a < b
    · rw [if_pos hb] at q; omega
    · omega
  rw [if_neg (by omega), if_neg (by omega)]
  decide
theorem p_in {a b c : Int} {K : Int → gMem → Prop} {M : gMem} (h1 : b ≤ a ∧ a ≤ c → K 1 M) (h2 : ¬ (b ≤ a ∧ a ≤ c) → K 0 M) : wX10_in a b c K M := by
  by_cases h : b ≤ a ∧ a ≤ c
  · exact p_in_t h (h1 h)
  · exact p_in_f h (h2 h)
/-- the lengths by which distances are found -/
def mLb (M : gMem) (a : Int) (u v : Int) : Int := if 0 < M 229 (12 * u + v) ∧ (a = 0 ∨ ¬ M 237 (12 * u + v) = 0) then M 229 (12 * u + v) else 0
theorem p_finds {a : Int} {K : gMem → Prop} {M : gMem} (hn : 2 ≤ M 228 2 ∧ M 228 2 ≤ 12) (hr : ∀ k, 0 ≤ k → k < 144 → 0 ≤ M 229 k ∧ M 229 k ≤ 99)
    (hK : ∀ M', Only 236 M M' → IsD (M 228 2) (mLb M a) 100000 (fun u v => M' 236 (12 * u + v)) → K M') : wX10_finds 228 a K M := by
  unfold wX10_finds
  simp only [Int.reduceAdd]
  refine ⟨fun k M' => 0 ≤ k ∧ k ≤ 144 ∧ Only 236 M M' ∧ ∀ j, 0 ≤ j → j < k → M' 236 j = if j / 12 = j % 12 then 0 else if 0 < M 229 j ∧ (a = 0 ∨ ¬ M 237 j = 0) then M 229 j else 100000, fun k _ => 144 - k, ⟨by omega, by omega, Only.rf, fun j h1 h2 => by omega⟩, ?_⟩
  intro k M1 ⟨k0, k1, hO, hj⟩
  dsimp only
  have e1 : M1 229 = M 229 := hO 229 (by decide)
  have e2 : M1 228 = M 228 := hO 228 (by decide)
  have e3 : M1 237 = M 237 := hO 237 (by decide)
  refine ⟨by omega, fun q => ?_, fun q => ⟨⟨by omega, by omega⟩, ?_⟩⟩
  · -- the three loops
    have hfw0 : IsFW (M 228 2) (mLb M a) 100000 0 (fun u v => M1 236 (12 * u + v)) := by
      refine IsFW.init (by decide) (fun u v a1 b1 c1 d1 => ?_) (fun u v a1 b1 c1 d1 => ?_)
      · unfold mLb
        have := hr (12 * u + v) (by omega) (by omega)
        split <;> omega
      · show M1 236 (12 * u + v) = _
        rw [hj (12 * u + v) (by omega) (by omega)]
        unfold mLb
        have e4 : (12 * u + v) / 12 = u := by omega
        have e5 : (12 * u + v) % 12 = v := by omega
        rw [e4, e5]
        by_cases huv : u = v
        · rw [if_pos huv, if_pos huv]
        · rw [if_neg huv, if_neg huv]
          by_cases hc : 0 < M 229 (12 * u + v) ∧ (a = 0 ∨ ¬ M 237 (12 * u + v) = 0)
          · rw [if_pos hc, if_pos hc, if_pos hc.1]
          · rw [if_neg hc, if_neg hc, if_neg (by omega)]
    refine ⟨fun b M' => 0 ≤ b ∧ b ≤ M 228 2 ∧ Only 236 M M' ∧ IsFW (M 228 2) (mLb M a) 100000 b (fun u v => M' 236 (12 * u + v)), fun b _ => M 228 2 - b, ⟨by omega, by omega, hO, hfw0⟩, ?_⟩
    intro b M2 ⟨b0, b1, hO2, hF⟩
    dsimp only
    have f2 : M2 228 = M 228 := hO2 228 (by decide)
    refine ⟨by omega, fun q => ?_, fun q => ?_⟩
    · rw [f2] at q
      have : b = M 228 2 := by omega
      rw [this] at hF
      exact hK M2 hO2 hF.done
    · rw [f2] at q
      obtain ⟨g0, g1, g2, g3, g4⟩ := id hF
      refine ⟨fun u M' => 0 ≤ u ∧ u ≤ M 228 2 ∧ Only 236 M M' ∧ ∀ x y, 0 ≤ x → x < M 228 2 → 0 ≤ y → y < M 228 2 → M' 236 (12 * x + y) = if x < u then mn (M2 236 (12 * x + y)) (M2 236 (12 * x + b) + M2 236 (12 * b + y)) else M2 236 (12 * x + y), fun u _ => M 228 2 - u, ⟨by omega, by omega, hO2, fun x y a1 b1 c1 d1 => by rw [if_neg (by omega)]⟩, ?_⟩
      intro u M3 ⟨u0, u1, hO3, h3⟩
      dsimp only
      have f3 : M3 228 = M 228 := hO3 228 (by decide)
      refine ⟨by omega, fun q2 => ?_, fun q2 => ?_⟩
      · rw [f3] at q2
        refine ⟨⟨by omega, by omega⟩, ⟨by omega, by omega, hO3, hF.next b0 (by omega) (fun x y a1 b1 c1 d1 => ?_)⟩, by omega⟩
        show M3 236 (12 * x + y) = _
        rw [h3 x y a1 b1 c1 d1, if_pos (by omega)]
      · rw [f3] at q2
        refine ⟨fun v M' => 0 ≤ v ∧ v ≤ M 228 2 ∧ Only 236 M M' ∧ ∀ x y, 0 ≤ x → x < M 228 2 → 0 ≤ y → y < M 228 2 → M' 236 (12 * x + y) = if x < u ∨ (x = u ∧ y < v) then mn (M2 236 (12 * x + y)) (M2 236 (12 * x + b) + M2 236 (12 * b + y)) else M2 236 (12 * x + y), fun v _ => M 228 2 - v, ⟨by omega, by omega, hO3, fun x y a1 b1 c1 d1 => ?_⟩, ?_⟩
        · rw [h3 x y a1 b1 c1 d1]
          by_cases hx : x < u
          · rw [if_pos hx, if_pos (Or.inl hx)]
          · rw [if_neg hx, if_neg (by omega)]
        · intro v M4 ⟨v0, v1, hO4, h4⟩
          dsimp only
          have f4 : M4 228 = M 228 := hO4 228 (by decide)
          refine ⟨by omega, fun q3 => ?_, fun q3 => ?_⟩
          · rw [f4] at q3
            refine ⟨⟨by omega, by omega⟩, ⟨by omega, by omega, hO4, fun x y a1 b1 c1 d1 => ?_⟩, by omega⟩
            rw [h4 x y a1 b1 c1 d1]
            by_cases hx : x < u + 1
            · rw [if_pos hx, if_pos (by omega)]
            · rw [if_neg hx, if_neg (by omega)]
          · rw [f4] at q3
            have hbb := g1 b b0 (by omega)
            have hub := g0 u b u0 (by omega) b0 (by omega)
            have hbv := g0 b v b0 (by omega) v0 (by omega)
            have huv := g0 u v u0 (by omega) v0 (by omega)
            have r1 : M4 236 (12 * u + b) = M2 236 (12 * u + b) := by
              rw [h4 u b u0 (by omega) b0 (by omega)]
              split
              · have hbb : M2 236 (12 * b + b) = 0 := hbb
                unfold mn
                rw [if_neg (by omega)]
              · rfl
            have r2 : M4 236 (12 * b + v) = M2 236 (12 * b + v) := by
              rw [h4 b v b0 (by omega) v0 (by omega)]
              split
              · have hbb : M2 236 (12 * b + b) = 0 := hbb
                unfold mn
                rw [if_neg (by omega)]
              · rfl
            have r3 : M4 236 (12 * u + v) = M2 236 (12 * u + v) := by
              rw [h4 u v u0 (by omega) v0 (by omega), if_neg (by omega)]
            have hub : 0 ≤ M2 236 (12 * u + b) ∧ M2 236 (12 * u + b) ≤ 100000 := hub
            have hbv : 0 ≤ M2 236 (12 * b + v) ∧ M2 236 (12 * b + v) ≤ 100000 := hbv
            have huv : 0 ≤ M2 236 (12 * u + v) ∧ M2 236 (12 * u + v) ≤ 100000 := huv
            rw [r1, r2, r3]
            refine ⟨⟨by omega, by omega⟩, ⟨by omega, by omega⟩, ⟨by omega, by omega⟩, ⟨by omega, by omega⟩, ⟨by omega, by omega⟩, ⟨by omega, by omega⟩, ⟨by omega, by omega⟩, ?_⟩
            intro s es
            refine ⟨⟨by omega, by omega⟩, ⟨by omega, by omega⟩, ⟨by omega, by omega⟩, ⟨by omega, by omega⟩, ⟨by omega, by omega⟩, ?_⟩
            have fin : ∀ z M5, M5 = M4 → z = mn (M2 236 (12 * u + v)) (M2 236 (12 * u + b) + M2 236 (12 * b + v)) → ((0 : Int) ≤ 12 * u + v ∧ 12 * u + v < 144) ∧ ∀ M22, M22 = gup M5 236 (12 * u + v) z → gR (v + 1) ∧ (0 ≤ v + 1 ∧ v + 1 ≤ M 228 2 ∧ Only 236 M M22 ∧ ∀ x y, 0 ≤ x → x < M 228 2 → 0 ≤ y → y < M 228 2 → M22 236 (12 * x + y) = if x < u ∨ (x = u ∧ y < v + 1) then mn (M2 236 (12 * x + y)) (M2 236 (12 * x + b) + M2 236 (12 * b + y)) else M2 236 (12 * x + y)) ∧ M 228 2 - (v + 1) < M 228 2 - v := by
              intro z M5 e5 ez
              subst e5
              refine ⟨⟨by omega, by omega⟩, fun M22 e22 => ?_⟩
              subst e22
              refine ⟨⟨by omega, by omega⟩, ⟨by omega, by omega, hO4.up, fun x y a1 b1 c1 d1 => ?_⟩, by omega⟩
              rw [gup_e]
              by_cases he : 12 * x + y = 12 * u + v
              · have hx : x = u := by omega
                have hy : y = v := by omega
                subst hx
                subst hy
                rw [if_pos he, if_pos (by omega), ez]
              · rw [if_neg he, h4 x y a1 b1 c1 d1]
                by_cases hx : x < u ∨ (x = u ∧ y < v)
                · rw [if_pos hx, if_pos (by omega)]
                · rw [if_neg hx, if_neg (by omega)]
            refine gK1_r ⟨fun c => ⟨⟨by omega, by omega⟩, ⟨by omega, by omega⟩, ⟨by omega, by omega⟩, fin _ _ rfl ?_⟩, fun c => fin _ _ rfl ?_⟩
            · unfold mn
              rw [if_neg (by omega)]
            · unfold mn
              rw [if_pos (by omega)]
              exact es
  · -- the first loop's body
    have fin : ∀ z M5, M5 = M1 → z = (if k / 12 = k % 12 then 0 else if 0 < M 229 k ∧ (a = 0 ∨ ¬ M 237 k = 0) then M 229 k else 100000) → ((0 : Int) ≤ k ∧ k < 144) ∧ ∀ M32, M32 = gup M5 236 k z → gR (k + 1) ∧ (0 ≤ k + 1 ∧ k + 1 ≤ 144 ∧ Only 236 M M32 ∧ ∀ j, 0 ≤ j → j < k + 1 → M32 236 j = if j / 12 = j % 12 then 0 else if 0 < M 229 j ∧ (a = 0 ∨ ¬ M 237 j = 0) then M 229 j else 100000) ∧ 144 - (k + 1) < 144 - k := by
      intro z M5 e5 ez
      subst e5
      refine ⟨⟨by omega, by omega⟩, fun M32 e32 => ?_⟩
      subst e32
      refine ⟨⟨by omega, by omega⟩, ⟨by omega, by omega, hO.up, fun j a1 b1 => ?_⟩, by omega⟩
      rw [gup_e]
      by_cases he : j = k
      · rw [if_pos he, ez, he]
      · rw [if_neg he]
        exact hj j a1 (by omega)
    rw [e1, e3]
    refine ⟨fun x M5 => M5 = M1 ∧ (x = 0 ∨ x = 1) ∧ (x = 1 ↔ (0 < M 229 k ∧ (a = 0 ∨ ¬ M 237 k = 0))), ?_, ?_⟩
    · refine gK0_r ⟨fun c1 => ⟨rfl, Or.inl rfl, fun q => by omega, fun q => by omega⟩, fun c1 => gK0_r ⟨fun c2 => ⟨rfl, Or.inr rfl, fun _ => ⟨by omega, Or.inl c2⟩, fun _ => rfl⟩, fun c2 => ⟨⟨by omega, by omega⟩, fun c3 => ⟨rfl, Or.inl rfl, fun q => by omega, fun q => by omega⟩, fun c3 => ⟨rfl, Or.inr rfl, fun _ => ⟨by omega, Or.inr c3⟩, fun _ => rfl⟩⟩⟩⟩
    · intro x M5 ⟨e5, hx, hx2⟩
      subst e5
      refine ⟨⟨by omega, by decide⟩, ⟨by omega, by decide⟩, gK1_r ⟨fun c1 => ⟨fun c2 => fin _ _ rfl ?_, fun c2 => ⟨⟨by omega, by omega⟩, fin _ _ rfl ?_⟩⟩, fun c1 => fin _ _ rfl ?_⟩⟩
      · rw [if_neg c1, if_neg (fun q => by have := hx2.mpr q; omega)]
      · rw [if_neg c1, if_pos (hx2.mp (by omega)), e1]
      · rw [if_pos c1]
