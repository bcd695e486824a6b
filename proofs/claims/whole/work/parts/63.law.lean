/-! THE START, and the law -/
theorem inv_start : Inv 0 gM0 := by
  have c2 : ∀ k, gM0 2 k = 0 := fun k => rfl
  have c3 : ∀ k, gM0 3 k = 0 := fun k => rfl
  have c229 : ∀ k, gM0 229 k = if k = 156 then 1 else 0 := fun k => rfl
  have c230 : ∀ k, gM0 230 k = 0 := fun k => rfl
  have c231 : ∀ k, gM0 231 k = 0 := fun k => rfl
  have e0 : gM0 1 0 = 2 := rfl
  have e1 : gM0 1 1 = 0 := rfl
  have e2 : gM0 1 2 = 1 := rfl
  have e3 : gM0 1 3 = 1 := rfl
  have e43 : gM0 4 3 = 1 := rfl
  have n2 : nN gM0 = 2 := rfl
  have notes : ∀ v, 0 ≤ v → v < 12 → gM0 (36 + 4 * v) 0 = 0 := by
    intro v a b
    have hv : v = 0 ∨ v = 1 ∨ v = 2 ∨ v = 3 ∨ v = 4 ∨ v = 5 ∨ v = 6 ∨ v = 7 ∨ v = 8 ∨ v = 9 ∨ v = 10 ∨ v = 11 := by omega
    rcases hv with rfl | rfl | rfl | rfl | rfl | rfl | rfl | rfl | rfl | rfl | rfl | rfl <;> rfl
  have rings : ∀ i, 0 ≤ i → i < 8 → gM0 (11 + 3 * i) 3 = 1 := by
    intro v a b
    have hv : v = 0 ∨ v = 1 ∨ v = 2 ∨ v = 3 ∨ v = 4 ∨ v = 5 ∨ v = 6 ∨ v = 7 := by omega
    rcases hv with rfl | rfl | rfl | rfl | rfl | rfl | rfl | rfl <;> rfl
  have slots : ∀ k, 0 ≤ k → k < 2 → gM0 (90 + 53 * k) 3 = 1 ∧ gM0 (89 + 53 * k) 0 = 0 := by
    intro v a b
    have hv : v = 0 ∨ v = 1 := by omega
    rcases hv with rfl | rfl <;> exact ⟨rfl, rfl⟩
  refine ⟨⟨by rw [n2]; decide, ⟨by rw [e0, n2], fun k a b => ?_, fun k a b => ?_, ?_, ?_, by rw [e1]; decide, fun u v a b c d => ?_, fun v a b => ?_⟩, fun v a b => ⟨Or.inl (notes v a b), by rw [c230, notes v a b], fun e => absurd e (by rw [notes v a b]; decide)⟩, ⟨rfl, by decide, by decide, fun i a b => absurd (show i < 0 from b) (by omega)⟩, ⟨rfl, by decide, by decide, by decide, by decide, fun i a b => absurd (show i < 0 from b) (by omega)⟩, fun k a b => ⟨Or.inl (slots k a b).2, by rw [c231, (slots k a b).2], fun e => absurd e (by rw [(slots k a b).2]; decide)⟩, ⟨by rw [e3]; decide, by rw [e43]; decide, fun i a b => by rw [rings i a b]; decide, fun k a b => by rw [(slots k a b).1]; decide⟩, fun k hk => ?_⟩, ⟨by decide, by decide, fun e => absurd (show (0 : Int) = 1 from e) (by decide)⟩, ⟨by decide, by decide, fun e => absurd (show (0 : Int) = 1 from e) (by decide)⟩⟩
  · show gM0 2 k = gM0 229 (0 + k)
    rw [c2, c229, if_neg (by omega)]
  · show gM0 3 k = gM0 229 (0 + 144 + k)
    rw [c3, c229, if_neg (by omega)]
  · rw [e2, c229, if_pos (by decide)]
  · rw [e1, cnt_f 144 (fun i hi => by
      rw [c229, if_neg (by omega)]
      exact decide_eq_false (by decide))]
    rfl
  · dsimp only
    rw [c229, c229, if_neg (by omega), if_neg (by omega)]
    exact ⟨by decide, by decide, rfl, fun _ => rfl, fun _ => rfl⟩
  · rw [c229, if_neg (by omega)]
    exact ⟨by decide, by decide, fun _ => rfl⟩
  · show gwl.getD ((k : Int).toNat) 0 = gwl.getD k 0
    rw [Int.toNat_natCast]
theorem pure_law : ∀ (xs : Int → Int) (n : Int), (∀ i, gR (xs i)) → 0 ≤ n → n ≤ 2048 → wL_law xs n gM0 := by
  intro xs n hx n0 n1
  unfold wL_law
  refine ⟨fun v M' => 0 ≤ v ∧ v % 4 = 0 ∧ v ≤ n + 4 ∧ Inv (v / 4) M', fun v _ => n + 8 - v, ⟨by omega, by omega, by omega, inv_start⟩, ?_⟩
  intro v M ⟨v0, v4, vn, h⟩
  dsimp only
  refine ⟨by omega, ⟨by omega, by omega⟩, fun _ => trivial, fun q => ⟨⟨by omega, by omega⟩, ?_⟩⟩
  have ht : 0 ≤ v / 4 ∧ v / 4 ≤ 512 := by omega
  have fin : ∀ M2, Inv (v / 4 + 1) M2 → gR (v + 4) ∧ (0 ≤ v + 4 ∧ (v + 4) % 4 = 0 ∧ v + 4 ≤ n + 4 ∧ Inv ((v + 4) / 4) M2) ∧ n + 8 - (v + 4) < n + 8 - v := by
    intro M2 h2
    refine ⟨⟨by omega, by omega⟩, ⟨by omega, by omega, by omega, ?_⟩, by omega⟩
    rw [show (v + 4) / 4 = v / 4 + 1 by omega]
    exact h2
  refine gK0_r ⟨fun _ => ⟨⟨by omega, by omega⟩, ⟨by omega, by omega⟩, c_type h (fun r M1 ag => ⟨⟨by omega, by omega⟩, ⟨by omega, by omega⟩, ag _ (fun M2 h2 => ⟨fun _ => fin M2 h2, fun e => absurd rfl e⟩)⟩)⟩,
    fun _ => c_erase h (fun r M1 ag => ag _ (fun M2 h2 => ⟨fun _ => fin M2 h2, fun e => absurd rfl e⟩)),
    fun _ => c_fault h ht (fun r M1 ag => ag _ (fun M2 h2 => ⟨fun _ => fin M2 h2, fun e => absurd rfl e⟩)),
    fun _ => c_net h ht (fun r M1 ag => ag _ (fun M2 h2 => ⟨fun _ => fin M2 h2, fun e => absurd rfl e⟩)),
    fun _ => ⟨⟨by omega, by omega⟩, ⟨by omega, by omega⟩, ⟨by omega, by omega⟩, ⟨by omega, by omega⟩, c_link h (hx _) (fun r M1 ag => ⟨⟨by omega, by omega⟩, ⟨by omega, by omega⟩, ⟨by omega, by omega⟩, ⟨by omega, by omega⟩, ag _ (fun M2 h2 => ⟨fun _ => fin M2 h2, fun e => absurd rfl e⟩)⟩)⟩,
    fun _ => ⟨⟨by omega, by omega⟩, ⟨by omega, by omega⟩, c_level h (fun r M1 ag => ⟨⟨by omega, by omega⟩, ⟨by omega, by omega⟩, ag _ (fun M2 h2 => ⟨fun _ => fin M2 h2, fun e => absurd rfl e⟩)⟩)⟩,
    fun _ => ⟨⟨by omega, by omega⟩, ⟨by omega, by omega⟩, ⟨by omega, by omega⟩, ⟨by omega, by omega⟩, ⟨by omega, by omega⟩, ⟨by omega, by omega⟩, c_join h ht (fun r M1 ag => ⟨⟨by omega, by omega⟩, ⟨by omega, by omega⟩, ⟨by omega, by omega⟩, ⟨by omega, by omega⟩, ⟨by omega, by omega⟩, ⟨by omega, by omega⟩, ag _ (fun M2 h2 => ⟨fun _ => fin M2 h2, fun e => absurd rfl e⟩)⟩)⟩,
    fun _ => ⟨⟨by omega, by omega⟩, ⟨by omega, by omega⟩, ⟨by omega, by omega⟩, ⟨by omega, by omega⟩, c_cut h ht (fun r M1 ag => ⟨⟨by omega, by omega⟩, ⟨by omega, by omega⟩, ⟨by omega, by omega⟩, ⟨by omega, by omega⟩, ag _ (fun M2 h2 => ⟨fun _ => fin M2 h2, fun e => absurd rfl e⟩)⟩)⟩,
    fun _ => ⟨⟨by omega, by omega⟩, ⟨by omega, by omega⟩, ⟨by omega, by omega⟩, ⟨by omega, by omega⟩, c_lift h ht (fun r M1 ag => ⟨⟨by omega, by omega⟩, ⟨by omega, by omega⟩, ⟨by omega, by omega⟩, ⟨by omega, by omega⟩, ag _ (fun M2 h2 => ⟨fun _ => fin M2 h2, fun e => absurd rfl e⟩)⟩)⟩,
    fun _ => ⟨⟨by omega, by omega⟩, ⟨by omega, by omega⟩, c_draw h ht (fun r M1 ag => ⟨⟨by omega, by omega⟩, ⟨by omega, by omega⟩, ag _ (fun M2 h2 => ⟨fun _ => fin M2 h2, fun e => absurd rfl e⟩)⟩)⟩,
    fun _ => ⟨⟨by omega, by omega⟩, ⟨by omega, by omega⟩, c_thin h ht (fun r M1 ag => ⟨⟨by omega, by omega⟩, ⟨by omega, by omega⟩, ag _ (fun M2 h2 => ⟨fun _ => fin M2 h2, fun e => absurd rfl e⟩)⟩)⟩,
    fun _ => c_undo h ht (fun r M1 ag => ag _ (fun M2 h2 => ⟨fun _ => fin M2 h2, fun e => absurd rfl e⟩)),
    fun _ => ⟨⟨by omega, by omega⟩, ⟨by omega, by omega⟩, c_keep h ht (fun r M1 ag => ⟨⟨by omega, by omega⟩, ⟨by omega, by omega⟩, ag _ (fun M2 h2 => ⟨fun _ => fin M2 h2, fun e => absurd rfl e⟩)⟩)⟩,
    fun _ => ⟨⟨by omega, by omega⟩, ⟨by omega, by omega⟩, c_back h ht (fun r M1 ag => ⟨⟨by omega, by omega⟩, ⟨by omega, by omega⟩, ag _ (fun M2 h2 => ⟨fun _ => fin M2 h2, fun e => absurd rfl e⟩)⟩)⟩,
    fun _ => ⟨⟨by omega, by omega⟩, ⟨by omega, by omega⟩, ⟨by omega, by omega⟩, ⟨by omega, by omega⟩, c_distance h (fun r M1 ag => ⟨⟨by omega, by omega⟩, ⟨by omega, by omega⟩, ⟨by omega, by omega⟩, ⟨by omega, by omega⟩, ag _ (fun M2 h2 => ⟨fun _ => fin M2 h2, fun e => absurd rfl e⟩)⟩)⟩,
    fun _ => ⟨⟨by omega, by omega⟩, ⟨by omega, by omega⟩, ⟨by omega, by omega⟩, ⟨by omega, by omega⟩, ⟨by omega, by omega⟩, ⟨by omega, by omega⟩, c_nearest h (fun r M1 ag => ⟨⟨by omega, by omega⟩, ⟨by omega, by omega⟩, ⟨by omega, by omega⟩, ⟨by omega, by omega⟩, ⟨by omega, by omega⟩, ⟨by omega, by omega⟩, ag _ (fun M2 h2 => ⟨fun _ => fin M2 h2, fun e => absurd rfl e⟩)⟩)⟩,
    fun _ => ⟨⟨by omega, by omega⟩, ⟨by omega, by omega⟩, ⟨by omega, by omega⟩, ⟨by omega, by omega⟩, c_bunch h (fun r M1 ag => ⟨⟨by omega, by omega⟩, ⟨by omega, by omega⟩, ⟨by omega, by omega⟩, ⟨by omega, by omega⟩, ag _ (fun M2 h2 => ⟨fun _ => fin M2 h2, fun e => absurd rfl e⟩)⟩)⟩,
    fun _ => ⟨⟨by omega, by omega⟩, ⟨by omega, by omega⟩, ⟨by omega, by omega⟩, ⟨by omega, by omega⟩, c_next h (fun r M1 ag => ⟨⟨by omega, by omega⟩, ⟨by omega, by omega⟩, ⟨by omega, by omega⟩, ⟨by omega, by omega⟩, ag _ (fun M2 h2 => ⟨fun _ => fin M2 h2, fun e => absurd rfl e⟩)⟩)⟩,
    fun _ => ⟨⟨by omega, by omega⟩, ⟨by omega, by omega⟩, ⟨by omega, by omega⟩, ⟨by omega, by omega⟩, c_thinned h (hx _) (fun r M1 ag => ⟨⟨by omega, by omega⟩, ⟨by omega, by omega⟩, ⟨by omega, by omega⟩, ⟨by omega, by omega⟩, ag _ (fun M2 h2 => ⟨fun _ => fin M2 h2, fun e => absurd rfl e⟩)⟩)⟩,
    fun _ => ⟨⟨by omega, by omega⟩, ⟨by omega, by omega⟩, ⟨by omega, by omega⟩, ⟨by omega, by omega⟩, c_worst h (fun r M1 ag => ⟨⟨by omega, by omega⟩, ⟨by omega, by omega⟩, ⟨by omega, by omega⟩, ⟨by omega, by omega⟩, ag _ (fun M2 h2 => ⟨fun _ => fin M2 h2, fun e => absurd rfl e⟩)⟩)⟩,
    fun _ => ⟨⟨by omega, by omega⟩, ⟨by omega, by omega⟩, c_note h (fun r M1 ag => ⟨⟨by omega, by omega⟩, ⟨by omega, by omega⟩, ag _ (fun M2 h2 => ⟨fun _ => fin M2 h2, fun e => absurd rfl e⟩)⟩)⟩,
    fun _ => c_mend h (fun r M1 ag => ag _ (fun M2 h2 => ⟨fun _ => fin M2 h2, fun e => absurd rfl e⟩)),
    fun _ => ⟨⟨by omega, by omega⟩, ⟨by omega, by omega⟩, c_tear h (fun r M1 ag => ⟨⟨by omega, by omega⟩, ⟨by omega, by omega⟩, ag _ (fun M2 h2 => ⟨fun _ => fin M2 h2, fun e => absurd rfl e⟩)⟩)⟩,
    fun _ => ⟨⟨by omega, by omega⟩, ⟨by omega, by omega⟩, ⟨by omega, by omega⟩, ⟨by omega, by omega⟩, c_noted h (fun r M1 ag => ⟨⟨by omega, by omega⟩, ⟨by omega, by omega⟩, ⟨by omega, by omega⟩, ⟨by omega, by omega⟩, ag _ (fun M2 h2 => ⟨fun _ => fin M2 h2, fun e => absurd rfl e⟩)⟩)⟩,
    fun _ => ⟨⟨by omega, by omega⟩, ⟨by omega, by omega⟩, ⟨by omega, by omega⟩, ⟨by omega, by omega⟩, c_notedFar h (fun r M1 ag => ⟨⟨by omega, by omega⟩, ⟨by omega, by omega⟩, ⟨by omega, by omega⟩, ⟨by omega, by omega⟩, ag _ (fun M2 h2 => ⟨fun _ => fin M2 h2, fun e => absurd rfl e⟩)⟩)⟩,
    fun _ => ⟨⟨by omega, by omega⟩, ⟨by omega, by omega⟩, ⟨by omega, by omega⟩, ⟨by omega, by omega⟩, ⟨by omega, by omega⟩, ⟨by omega, by omega⟩, c_told h (fun r M1 ag => ⟨⟨by omega, by omega⟩, ⟨by omega, by omega⟩, ⟨by omega, by omega⟩, ⟨by omega, by omega⟩, ⟨by omega, by omega⟩, ⟨by omega, by omega⟩, ag _ (fun M2 h2 => ⟨fun _ => fin M2 h2, fun e => absurd rfl e⟩)⟩)⟩,
    fun _ => ⟨⟨by omega, by omega⟩, ⟨by omega, by omega⟩, ⟨by omega, by omega⟩, ⟨by omega, by omega⟩, ⟨by omega, by omega⟩, ⟨by omega, by omega⟩, c_why h (fun r M1 ag => ⟨⟨by omega, by omega⟩, ⟨by omega, by omega⟩, ⟨by omega, by omega⟩, ⟨by omega, by omega⟩, ⟨by omega, by omega⟩, ⟨by omega, by omega⟩, ag _ (fun M2 h2 => ⟨fun _ => fin M2 h2, fun e => absurd rfl e⟩)⟩)⟩,
    fun _ => ⟨⟨by omega, by omega⟩, ⟨by omega, by omega⟩, ⟨by omega, by omega⟩, ⟨by omega, by omega⟩, ⟨by omega, by omega⟩, ⟨by omega, by omega⟩, c_route h (hx _) (fun r M1 ag => ⟨⟨by omega, by omega⟩, ⟨by omega, by omega⟩, ⟨by omega, by omega⟩, ⟨by omega, by omega⟩, ⟨by omega, by omega⟩, ⟨by omega, by omega⟩, ag _ (fun M2 h2 => ⟨fun _ => fin M2 h2, fun e => absurd rfl e⟩)⟩)⟩,
    fun _ => ⟨⟨by omega, by omega⟩, ⟨by omega, by omega⟩, c_pairs h (fun r M1 ag => ⟨⟨by omega, by omega⟩, ⟨by omega, by omega⟩, ag _ (fun M2 h2 => ⟨fun _ => fin M2 h2, fun e => absurd rfl e⟩)⟩)⟩,
    fun _ => ⟨⟨by omega, by omega⟩, ⟨by omega, by omega⟩, c_count h (fun r M1 ag => ⟨⟨by omega, by omega⟩, ⟨by omega, by omega⟩, ag _ (fun M2 h2 => ⟨fun _ => fin M2 h2, fun e => absurd rfl e⟩)⟩)⟩,
    fun _ => fin M h.later⟩
