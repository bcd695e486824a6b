/-! ACTS, 1: nets copied, the past -/
theorem p_copyNet {c a : Int} {K : gMem → Prop} {M : gMem} (hca : c + 3 ≤ a ∨ a + 3 ≤ c) (hv : 0 ≤ M c 3 ∧ M c 3 ≤ 200000) (hK : ∀ M', (∀ x, x < c ∨ c + 3 ≤ x → M' x = M x) → M' c 0 = M a 0 → M' c 1 = M a 1 → M' c 2 = M a 2 → M' c 3 = M c 3 + 1 → (∀ k, 0 ≤ k → k < 144 → M' (c + 1) k = M (a + 1) k) → (∀ k, 0 ≤ k → k < 12 → M' (c + 2) k = M (a + 2) k) → K M') : wX1_copyFrom c a K M := by
  unfold wX1_copyFrom
  intro M1 e1 M2 e2 M3 e3
  refine ⟨⟨by decide, by decide, by decide⟩, fun M4 e4 => ⟨⟨by decide, by decide, by decide⟩, fun M5 e5 => ?_⟩⟩
  have f5 : M5 c 3 = M c 3 := by rw [e5, gcp_c _ (by omega), e4, gcp_c _ (by omega), e3, gup_k _ (by decide), e2, gup_k _ (by decide), e1, gup_k _ (by decide)]
  rw [f5]
  refine ⟨⟨by omega, by omega⟩, fun M6 e6 => hK M6 (fun x hx => ?_) ?_ ?_ ?_ ?_ (fun k k0 k1 => ?_) (fun k k0 k1 => ?_)⟩
  · rw [e6, gup_c _ (by omega), e5, gcp_c _ (by omega), e4, gcp_c _ (by omega), e3, gup_c _ (by omega), e2, gup_c _ (by omega), e1, gup_c _ (by omega)]
  · rw [e6, gup_k _ (by decide), e5, gcp_c _ (by omega), e4, gcp_c _ (by omega), e3, gup_k _ (by decide), e2, gup_k _ (by decide), e1, gup_s]
  · rw [e6, gup_k _ (by decide), e5, gcp_c _ (by omega), e4, gcp_c _ (by omega), e3, gup_k _ (by decide), e2, gup_s, e1, gup_c _ (by omega)]
  · rw [e6, gup_k _ (by decide), e5, gcp_c _ (by omega), e4, gcp_c _ (by omega), e3, gup_s, e2, gup_c _ (by omega), e1, gup_c _ (by omega)]
  · rw [e6, gup_s]
  · rw [e6, gup_c _ (by omega), e5, gcp_c _ (by omega), e4, gcp_2, if_pos ⟨rfl, k0, k1⟩, e3, gup_c _ (by omega), e2, gup_c _ (by omega), e1, gup_c _ (by omega)]
  · rw [e6, gup_c _ (by omega), e5, gcp_2, if_pos ⟨rfl, k0, k1⟩, e4, gcp_c _ (by omega), e3, gup_c _ (by omega), e2, gup_c _ (by omega), e1, gup_c _ (by omega)]
/-- the class has pushed its net -/
def PuC (M M' : gMem) : Prop :=
  (∀ x, x ≠ 9 → x < 11 + 3 * M 9 1 ∨ 14 + 3 * M 9 1 ≤ x → M' x = M x) ∧ M' 9 1 = (M 9 1 + 1) % 8 ∧ M' 9 0 = (if 8 < M 9 0 + 1 then 8 else M 9 0 + 1) ∧ M' (11 + 3 * M 9 1) 0 = M 1 0 ∧ M' (11 + 3 * M 9 1) 1 = M 1 1 ∧ M' (11 + 3 * M 9 1) 2 = M 1 2 ∧ M' (11 + 3 * M 9 1) 3 = M (11 + 3 * M 9 1) 3 + 1 ∧
  (∀ k, 0 ≤ k → k < 144 → M' (11 + 3 * M 9 1 + 1) k = M 2 k) ∧ ∀ k, 0 ≤ k → k < 12 → M' (11 + 3 * M 9 1 + 2) k = M 3 k
theorem p_push {t : Int} {K : gMem → Prop} {M : gMem} (h : InvA t M) (ht : 0 ≤ t ∧ t ≤ 512) (hK : ∀ M', PuC M M' → K M') : wX3_push 9 1 K M := by
  unfold wX3_push
  simp only [Int.reduceAdd]
  obtain ⟨p1, p2, p3, p4, p5, p6⟩ := h.2.2.2.2.1
  have v := h.2.2.2.2.2.2.1.2.2.1 (M 9 1) p4 p5
  refine ⟨⟨p4, p5⟩, p_copyNet (by omega) (by omega) (fun M1 g1 g2 g3 g4 g5 g6 g7 => ?_)⟩
  have e9 : M1 9 = M 9 := g1 9 (by omega)
  rw [e9]
  refine ⟨⟨by omega, by omega⟩, ⟨by omega, by omega⟩, fun M2 e2 => ?_⟩
  have e90 : M2 9 0 = M 9 0 := by rw [e2, gup_k _ (by decide), e9]
  rw [e90]
  refine ⟨⟨by omega, by omega⟩, fun M3 e3 => hK M3 ?_⟩
  have f : ∀ x, x ≠ 9 → M3 x = M1 x := fun x hx => by rw [e3, gup_c _ hx, e2, gup_c _ hx]
  refine ⟨fun x a b => by rw [f x a, g1 x (by omega)], ?_, ?_, ?_, ?_, ?_, ?_, fun k a b => ?_, fun k a b => ?_⟩
  · rw [e3, gup_k _ (by decide), e2, gup_s]
  · rw [e3, gup_s]
  · rw [f _ (by omega)]; exact g2
  · rw [f _ (by omega)]; exact g3
  · rw [f _ (by omega)]; exact g4
  · rw [f _ (by omega)]; exact g5
  · rw [f _ (by omega)]; exact g6 k a b
  · rw [f _ (by omega)]; exact g7 k a b
theorem p_copyRow {a b : Int} {K : gMem → Prop} {M : gMem} (ha : 0 ≤ a ∧ a ≤ 1570) (hb : 0 ≤ b ∧ b ≤ 1570) (hab : a + 157 ≤ b ∨ b + 157 ≤ a) (hK : ∀ M', Only 229 M M' → (∀ k, 0 ≤ k → k < 157 → M' 229 (b + k) = M 229 (a + k)) → (∀ k, k < b ∨ b + 157 ≤ k → M' 229 k = M 229 k) → K M') : wX10_copyRow 228 a b K M := by
  unfold wX10_copyRow
  simp only [Int.reduceAdd]
  refine ⟨fun k M' => 0 ≤ k ∧ k ≤ 157 ∧ Only 229 M M' ∧ (∀ j, 0 ≤ j → j < k → M' 229 (b + j) = M 229 (a + j)) ∧ (∀ j, j < b ∨ b + k ≤ j → M' 229 j = M 229 j), fun k _ => 157 - k, ⟨by omega, by omega, Only.rf, fun j x y => by omega, fun _ _ => rfl⟩, ?_⟩
  intro k M1 ⟨k0, k1, g1, g2, g3⟩
  dsimp only
  refine ⟨by omega, fun q => ?_, fun q => ⟨⟨by omega, by omega⟩, ⟨by omega, by omega⟩, ⟨by omega, by omega⟩, ⟨by omega, by omega⟩, fun M2 e2 => ⟨⟨by omega, by omega⟩, ⟨by omega, by omega, by rw [e2]; exact g1.up, fun j x y => ?_, fun j x => ?_⟩, by omega⟩⟩⟩
  · have e : k = 157 := by omega
    subst e
    exact hK M1 g1 g2 g3
  · by_cases e : j = k
    · rw [e, e2, gup_s]; exact g3 _ (by omega)
    · rw [e2, gup_k _ (by omega)]; exact g2 j x (by omega)
  · rw [e2, gup_k _ (by omega)]; exact g3 j (by omega)
/-- the reference has kept its row -/
def KpM (M : gMem) (sh : Int) (M' : gMem) : Prop :=
  ((sh = 1 ∧ M 228 1 = 8) ∨ (sh = 0 ∧ M 228 1 < 8)) ∧ (∀ c, c ≠ 228 → c ≠ 229 → M' c = M c) ∧ (∀ k, k ≠ 1 → M' 228 k = M 228 k) ∧ M' 228 1 = M 228 1 - sh + 1 ∧ (∀ k, k < 157 ∨ 1413 ≤ k → M' 229 k = M 229 k) ∧
  (∀ i, 0 ≤ i → i < M 228 1 - sh → ∀ k, 0 ≤ k → k < 157 → M' 229 (157 + 157 * i + k) = M 229 (157 + 157 * (i + sh) + k)) ∧ ∀ k, 0 ≤ k → k < 157 → M' 229 (157 + 157 * (M 228 1 - sh) + k) = M 229 k
theorem p_keepPast {K : gMem → Prop} {M : gMem} (hs : 0 ≤ M 228 1 ∧ M 228 1 ≤ 8) (hK : ∀ sh M', KpM M sh M' → K M') : wX10_keepPast 228 K M := by
  unfold wX10_keepPast
  simp only [Int.reduceAdd]
  have rest : ∀ sh M1, ((sh = 1 ∧ M 228 1 = 8) ∨ (sh = 0 ∧ M 228 1 < 8)) → Only 229 M M1 → (∀ k, k < 157 ∨ 1413 ≤ k → M1 229 k = M 229 k) → (∀ i, 0 ≤ i → i < M 228 1 - sh → ∀ k, 0 ≤ k → k < 157 → M1 229 (157 + 157 * i + k) = M 229 (157 + 157 * (i + sh) + k)) → gK1 (fun P9 => (¬ (M1 228 1) = 8 → P9 0 M1) ∧ ((M1 228 1) = 8 → P9 1 M1)) (fun (x7 : Int) (M8 : gMem) => gR ((M1 228 1) - x7) ∧ (∀ M11 : gMem, M11 = gup M8 228 1 ((M1 228 1) - x7) → (gR (157 * (M11 228 1)) ∧ (gR (157 + (157 * (M11 228 1))) ∧ (wX10_copyRow 228 0 (157 + (157 * (M11 228 1))) (fun (M12 : gMem) => gR ((M12 228 1) + 1) ∧ (∀ M13 : gMem, M13 = gup M12 228 1 ((M12 228 1) + 1) → (K M13))) M11))))) := by
    intro sh M1 hsh o1 g1 g2
    have e8 : M1 228 1 = M 228 1 := by rw [o1 228 (by decide)]
    rw [e8]
    have fin : gR (M 228 1 - sh) ∧ (∀ M11 : gMem, M11 = gup M1 228 1 (M 228 1 - sh) → (gR (157 * (M11 228 1)) ∧ (gR (157 + (157 * (M11 228 1))) ∧ (wX10_copyRow 228 0 (157 + (157 * (M11 228 1))) (fun (M12 : gMem) => gR ((M12 228 1) + 1) ∧ (∀ M13 : gMem, M13 = gup M12 228 1 ((M12 228 1) + 1) → (K M13))) M11)))) := by
      refine ⟨⟨by omega, by omega⟩, fun M2 e2 => ?_⟩
      have s2 : M2 228 1 = M 228 1 - sh := by rw [e2, gup_s]
      rw [s2]
      refine ⟨⟨by omega, by omega⟩, ⟨by omega, by omega⟩, p_copyRow (by omega) (by omega) (by omega) (fun M3 o3 r1 r2 => ?_)⟩
      have s3 : M3 228 1 = M 228 1 - sh := by rw [o3 228 (by decide), s2]
      rw [s3]
      have n2 : M2 229 = M1 229 := by rw [e2, gup_c _ (by decide)]
      rw [n2] at r1 r2
      refine ⟨⟨by omega, by omega⟩, fun M4 e4 => hK sh M4 ⟨hsh, fun c a b => ?_, fun k a => ?_, ?_, fun k a => ?_, fun i i0 i1 k k0 k1 => ?_, fun k k0 k1 => ?_⟩⟩
      · rw [e4, gup_c _ a, o3 c b, e2, gup_c _ a, o1 c b]
      · rw [e4, gup_k _ a, o3 228 (by decide), e2, gup_k _ a, o1 228 (by decide)]
      · rw [e4, gup_s]
      · rw [e4, gup_c _ (by decide), r2 k (by omega)]; exact g1 k a
      · rw [e4, gup_c _ (by decide), r2 _ (by omega)]; exact g2 i i0 i1 k k0 k1
      · rw [e4, gup_c _ (by decide), r1 k k0 k1, Int.zero_add]; exact g1 k (by omega)
    refine gK1_r ⟨fun a => ?_, fun a => ?_⟩
    · have e : sh = 0 := by omega
      subst e; exact fin
    · have e : sh = 1 := by omega
      subst e; exact fin
  by_cases h8 : M 228 1 = 8
  · refine ⟨fun k M' => 0 ≤ k ∧ k ≤ 1099 ∧ Only 229 M M' ∧ (∀ j, 0 ≤ j → j < k → M' 229 (157 + j) = M 229 (314 + j)) ∧ ∀ j, j < 157 ∨ 157 + k ≤ j → M' 229 j = M 229 j, fun k _ => 1099 - k, ⟨by omega, by omega, Only.rf, fun j a b => by omega, fun _ _ => rfl⟩, ?_⟩
    intro k M1 ⟨k0, k1, o1, g1, g2⟩
    dsimp only
    have e8 : M1 228 1 = 8 := by rw [o1 228 (by decide)]; exact h8
    refine ⟨by omega, gK0_r ⟨fun q => rest 1 M1 (Or.inl ⟨rfl, h8⟩) o1 (fun j a => g2 j (by omega)) (fun i i0 i1 j j0 j1 => ?_), fun q => ⟨fun q2 => absurd e8 q2, fun _ => ⟨⟨by omega, by omega⟩, ⟨by omega, by omega⟩, ⟨by omega, by omega⟩, ⟨by omega, by omega⟩, fun M2 e2 => ⟨⟨by omega, by omega⟩, ⟨by omega, by omega, by rw [e2]; exact o1.up, fun j a b => ?_, fun j a => ?_⟩, by omega⟩⟩⟩⟩⟩
    · have := g1 (157 * i + j) (by omega) (by omega)
      rw [show 157 + 157 * i + j = 157 + (157 * i + j) by omega, this, show 314 + (157 * i + j) = 157 + 157 * (i + 1) + j by omega]
    · by_cases e : j = k
      · rw [e, e2, gup_s]; exact g2 _ (by omega)
      · rw [e2, gup_k _ (by omega)]; exact g1 j a (by omega)
    · rw [e2, gup_k _ (by omega)]; exact g2 j (by omega)
  · refine ⟨fun k M' => M' = M ∧ k = 0, fun k _ => 0, ⟨rfl, rfl⟩, ?_⟩
    intro k M1 ⟨e1, ek⟩
    subst e1
    subst ek
    dsimp only
    refine ⟨by omega, gK0_r ⟨fun q => absurd q (by decide), fun q => ⟨fun _ => rest 0 M1 (Or.inr ⟨rfl, by omega⟩) Only.rf (fun _ _ => rfl) (fun i i0 i1 k k0 k1 => by rw [Int.add_zero]), fun e => absurd e h8⟩⟩⟩
/-- both have: the past is tied -/
theorem past_push {t sh : Int} {M Mr M1 M2 M' : gMem} (h : InvA t M) (hC : PuC M M1) (hM : KpM Mr sh M2) (er1 : Mr 228 1 = M 228 1) (er2 : Mr 229 = M 229) (hn2 : M' 228 2 = M 228 2) (h1 : ∀ x, 9 ≤ x → x < 35 → M' x = M1 x) (h2 : M' 228 1 = M2 228 1) (h3 : ∀ k, 157 ≤ k → k < 1413 → M' 229 k = M2 229 k) : PastRel M' := by
  obtain ⟨p1, p2, p3, p4, p5, p6⟩ := h.2.2.2.2.1
  obtain ⟨c1, c2, c3, c4, c5, c6, c7, c8, c9⟩ := hC
  obtain ⟨m1, m2, m3, m4, m5, m6, m7⟩ := hM
  rw [er1] at m1 m4 m6 m7
  rw [er2] at m6 m7
  have s1 : M' 9 0 = M 228 1 - sh + 1 := by rw [h1 9 (by omega) (by omega), c3]; split <;> omega
  have s2 : M' 9 1 = (M 9 1 + 1) % 8 := by rw [h1 9 (by omega) (by omega), c2]
  refine ⟨by rw [s1, h2, m4], by omega, by omega, by omega, by omega, fun i i0 i1 => ?_⟩
  rw [s1, s2]
  by_cases e : i = M 228 1 - sh
  · have ei : ((M 9 1 + 1) % 8 + 8 - (M 228 1 - sh + 1) + i) % 8 = M 9 1 := by omega
    rw [ei]
    refine h.2.1.move hn2 ?_ ?_ ?_ (fun k a b => ?_) (fun k a b => ?_) (fun k a b => ?_)
    · rw [h1 _ (by omega) (by omega)]; exact c4
    · rw [h1 _ (by omega) (by omega)]; exact c5
    · rw [h1 _ (by omega) (by omega)]; exact c6
    · rw [h1 _ (by omega) (by omega)]; exact c8 k a b
    · rw [h1 _ (by omega) (by omega)]; exact c9 k a b
    · rw [h3 _ (by omega) (by omega), e, m7 k a b, Int.zero_add]
  · have ei : ((M 9 1 + 1) % 8 + 8 - (M 228 1 - sh + 1) + i) % 8 = (M 9 1 + 8 - M 9 0 + (i + sh)) % 8 := by omega
    have ne : (M 9 1 + 8 - M 9 0 + (i + sh)) % 8 ≠ M 9 1 := by omega
    rw [ei]
    have old := p6 (i + sh) (by omega) (by omega)
    generalize hg : (M 9 1 + 8 - M 9 0 + (i + sh)) % 8 = g at old ne
    have gb : 0 ≤ g ∧ g < 8 := by omega
    have st : ∀ x, 11 + 3 * g ≤ x → x < 14 + 3 * g → M' x = M x := fun x a b => by rw [h1 x (by omega) (by omega), c1 x (by omega) (by omega)]
    refine old.move hn2 ?_ ?_ ?_ (fun k a b => ?_) (fun k a b => ?_) (fun k a b => ?_)
    · rw [st _ (by omega) (by omega)]
    · rw [st _ (by omega) (by omega)]
    · rw [st _ (by omega) (by omega)]
    · rw [st _ (by omega) (by omega)]
    · rw [st _ (by omega) (by omega)]
    · rw [h3 _ (by omega) (by omega), m6 i i0 (by omega) k a b]
theorem InvA.act {t t' : Int} {M M' : gMem} (h : InvA t M) (hn2 : M' 228 2 = M 228 2) (hnet : NetRel M' 1 0) (hp : PastRel M') (hc : ∀ c, c = 7 ∨ c = 8 ∨ (35 ≤ c ∧ c < 84) ∨ (88 ≤ c ∧ c < 195) ∨ (230 ≤ c ∧ c < 233) ∨ c = 235 → M' c = M c) (h6 : M' 228 6 = M 228 6) (hk : ∀ k, 1413 ≤ k → k < 1727 → M' 229 k = M 229 k) (hv : VerOK t' M') : InvA t' M' := by
  obtain ⟨i1, i2, i3, i4, i5, i6, i7, i8⟩ := h
  have e30 : M' 230 = M 230 := hc 230 (by omega)
  refine ⟨?_, hnet, fun v a b => (i3 v a b).stay hn2 (fun c a b => hc c (by omega)) (fun k a b => by rw [e30]), i4.stay (by rw [hc 7 (by omega)]) h6 (hc 8 (by omega)) (hc 232 (by omega)), hp, fun k a b => (i6 k a b).stay ⟨a, b⟩ hn2 (fun c a b => hc c (by omega)) (by rw [hc 231 (by omega)]) hk (fun k a b => by rw [e30]), hv, fun k a => by rw [hc 235 (by omega)]; exact i8 k a⟩
  unfold nN at i1 ⊢
  rw [hn2]
  exact i1
theorem FarInv.stale {M M' : gMem} (h : FarInv M) (e : M' 195 1 = M 195 1) (hv : M 1 3 < M' 1 3) : FarInv M' := by
  obtain ⟨a, b, c⟩ := h
  exact ⟨by omega, by omega, fun q => by omega⟩
theorem ThinInv.stale {M M' : gMem} (h : ThinInv M) (e : M' 209 2 = M 209 2) (hv : M 1 3 < M' 1 3) : ThinInv M' := by
  obtain ⟨a, b, c⟩ := h
  exact ⟨by omega, by omega, fun q => by omega⟩
theorem ver_act {t : Int} {M M' : gMem} (h : VerOK t M) (h1 : M 1 3 ≤ M' 1 3 ∧ M' 1 3 ≤ M 1 3 + 200) (h2 : M' 4 3 = M 4 3) (h3 : ∀ i, 0 ≤ i → i < 8 → M (11 + 3 * i) 3 ≤ M' (11 + 3 * i) 3 ∧ M' (11 + 3 * i) 3 ≤ M (11 + 3 * i) 3 + 200) (h4 : ∀ c, 88 ≤ c → c < 195 → M' c = M c) : VerOK (t + 1) M' := by
  obtain ⟨v1, v2, v3, v4⟩ := h
  refine ⟨by omega, by omega, fun i a b => ?_, fun k a b => ?_⟩
  · have := v3 i a b
    have := h3 i a b
    omega
  · rw [h4 _ (by omega) (by omega)]
    have := v4 k a b
    omega
theorem PuC.ring {M M1 : gMem} (h : PuC M M1) (i : Int) (h0 : 0 ≤ i) (h1 : i < 8) : M (11 + 3 * i) 3 ≤ M1 (11 + 3 * i) 3 ∧ M1 (11 + 3 * i) 3 ≤ M (11 + 3 * i) 3 + 200 := by
  by_cases e : i = M 9 1
  · rw [e, h.2.2.2.2.2.2.1]; omega
  · rw [h.1 _ (by omega) (by omega)]; omega
theorem PuC.n9 {t : Int} {M M1 : gMem} (h : PuC M M1) (hI : InvA t M) (c : Int) (hc : c < 9 ∨ 35 ≤ c) : M1 c = M c := by
  have p := hI.2.2.2.2.1
  exact h.1 c (by omega) (by have := p.2.2.2.1; have := p.2.2.2.2.1; omega)
