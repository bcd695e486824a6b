/-! CALLS, 16: fault, net -/
/-- where reading begins -/
noncomputable def st0 (M : gMem) : RSt := ((tkn (M 232) (M 228 6) 0).1, (tkn (M 232) (M 228 6) 0).2, nN M, M 229, (fun v => M 229 (144 + v)), 0)
theorem st0_ok {t : Int} {M : gMem} (h : InvA t M) : (2 ≤ sN (st0 M) ∧ sN (st0 M) ≤ 12) ∧ LOK (sN (st0 M)) (fun u v => sL (st0 M) (12 * u + v)) ∧ (∀ v, 0 ≤ v → v < 12 → 0 ≤ sV (st0 M) v ∧ sV (st0 M) v ≤ 2 ∧ (sN (st0 M) ≤ v → sV (st0 M) v = 0)) ∧ (lkc (sL (st0 M)) ≤ 60 ∧ lkc (sL (st0 M)) % 2 = 0) ∧ sS (st0 M) = 0 := by
  have cn : lkc (M 229) = 2 * M 1 1 := cnt_net h
  have f30 : M 1 1 ≤ 30 := h.2.1.2.2.2.2.2.1
  refine ⟨h.1, h.L, fun v a b => h.lev v a b, ⟨?_, ?_⟩, rfl⟩
  · show lkc (M 229) ≤ 60
    omega
  · show lkc (M 229) % 2 = 0
    omega
def FrX (M M' : gMem) : Prop := (∀ x, x < 4 ∨ 8 ≤ x → M' x = M x) ∧ M' 7 0 = M 7 0 ∧ M 4 3 ≤ M' 4 3 ∧ M' 4 3 ≤ M 4 3 + 25
/-- the class reads its text on a copy -/
theorem p_readText {t : Int} {K : Int → gMem → Prop} {M : gMem} (h : Inv t M) (ht : 0 ≤ t ∧ t ≤ 512) (hK : ∀ M', FrX M M' → ((rn (M 232) (M 228 6) 24 (st0 M)).1 = -1 → M' 7 1 = (rn (M 232) (M 228 6) 24 (st0 M)).2.1 ∧ SW (M 232) (M 228 6) (rn (M 232) (M 228 6) 24 (st0 M)).2.2 ∧ RC (M 232) (M 228 6) (rn (M 232) (M 228 6) 24 (st0 M)).2.2 M' ∧ (sS (rn (M 232) (M 228 6) 24 (st0 M)).2.2 = 0 → sN (rn (M 232) (M 228 6) 24 (st0 M)).2.2 = nN M)) → M' 4 2 = M 1 2 → K (rn (M 232) (M 228 6) 24 (st0 M)).1 M') : wX9_readText 0 K M := by
  unfold wX9_readText
  simp only [Int.reduceAdd]
  obtain ⟨x1, x2, x3, x4⟩ := h.1.2.2.2.1
  have v4 := h.1.2.2.2.2.2.2.1.2.1
  obtain ⟨b1, b2, b3, b4, b5, b6, b7⟩ := h.1.2.1
  refine p_copyNet (by omega) (by omega) (fun M1 g1 g2 g3 g4 g5 g6 g7 => ?_)
  have t1 : TxC (M 232) (M 228 6) M1 := ⟨by rw [g1 7 (by omega)]; exact x1, by omega, by omega, fun i a b => by rw [g1 8 (by omega)]; exact x4 i a (by omega)⟩
  refine p_readInto t1 (st0_ok h.1) ⟨rfl, rfl⟩ ⟨by rw [g2]; exact b1, fun k a b => ?_, fun k a b => ?_, ?_⟩ (by omega) (fun M2 f2 r2 => hK M2 ?_ r2 ?_)
  · have g6 : M1 5 k = M 2 k := g6 k a b
    have b2 : M 2 k = M 229 (0 + k) := b2 k a b
    rw [Int.zero_add] at b2
    rw [g6, b2]
    rfl
  · have g7 : M1 6 k = M 3 k := g7 k a b
    have b3 : M 3 k = M 229 (0 + 144 + k) := b3 k a b
    rw [show (0 : Int) + 144 + k = 144 + k by omega] at b3
    rw [g7, b3]
    rfl
  · rw [g3]
    show 2 * M 1 1 = lkc (M 229)
    rw [show lkc (M 229) = 2 * M 1 1 from cnt_net h.1]
  · exact ⟨fun x p => by rw [f2.1 x p, g1 x (by omega)], by rw [f2.2.1, g1 7 (by omega)], by have := f2.2.2.2.1; omega, by have := f2.2.2.2.2; omega⟩
  · rw [f2.2.2.1, g4]
theorem c_fault {t : Int} {K1 : Int → gMem → Prop} {M : gMem} (h : Inv t M) (ht : 0 ≤ t ∧ t ≤ 512) (hK : ∀ r M1, Ag t (wX10_fault 228) r M1 → K1 r M1) : wX9_fault 0 K1 M := by
  unfold wX9_fault
  refine p_readText h ht (fun M1 f1 r1 d1 => hK _ _ (fun K2 hk => ?_))
  obtain ⟨x1, x2, x3, x4⟩ := h.1.2.2.2.1
  have v4 := h.1.2.2.2.2.2.2.1.2.1
  have t1 : TxM (M 232) (M 228 6) M1 := ⟨by rw [f1.1 228 (by omega)], by omega, by omega, fun i a b => by rw [f1.1 232 (by omega)]⟩
  have w1 : ∀ k : Nat, k < 15 → M1 235 (k : Int) = gwl.getD k 0 := fun k hk => by rw [f1.1 235 (by omega)]; exact h.1.2.2.2.2.2.2.2 k hk
  have inv : ∀ M2, FrD 0 M1 M2 → Inv (t + 1) M2 := by
    intro M2 f2
    obtain ⟨d2, d29, d30⟩ := f2.2.2.1 rfl
    have oth : ∀ x, x ≠ 228 → x ≠ 233 → x ≠ 234 → M2 x = M1 x := fun x a b c => by
      by_cases g : x = 229
      · rw [g]; exact d29
      · by_cases g2 : x = 230
        · rw [g2]; exact d30
        · exact f2.1 x a g g2 b c
    refine h.text (fun c hc => by rw [oth c (by omega) (by omega) (by omega), f1.1 c (by omega)]) (by rw [f2.2.1.1, f1.1 228 (by omega)]) (by rw [d2, f1.1 228 (by omega)]) (h.1.2.2.2.1.stay (by rw [oth 7 (by decide) (by decide) (by decide)]; exact f1.2.1) (by rw [f2.2.1.2, f1.1 228 (by omega)]) (by rw [oth 8 (by decide) (by decide) (by decide), f1.1 8 (by omega)]) (by rw [oth 232 (by decide) (by decide) (by decide), f1.1 232 (by omega)])) ?_
    rw [oth 4 (by decide) (by decide) (by decide)]
    have := f1.2.2
    omega
  unfold wX10_fault
  refine p_reads (σ0 := st0 M) t1 w1 (Or.inl rfl) (st0_ok h.1) ⟨rfl, rfl⟩ ⟨by rw [f1.1 228 (by omega)]; rfl, by rw [f1.1 229 (by omega)]; rfl, fun v a b => by rw [f1.1 229 (by omega)]; rfl⟩ (fun e M2 f2 c2 s2 r2 => gK1_r ⟨fun z => absurd z (by decide), fun _ => ?_⟩) (fun e M2 f2 c2 => gK1_r ⟨fun _ => ?_, fun z => absurd rfl z⟩)
  · rw [← e]; exact hk M2 (inv M2 f2)
  · rw [c2]; exact hk M2 (inv M2 f2)
theorem p_blankAll {K : gMem → Prop} {M : gMem} (hK : ∀ M', (∀ x, x < 36 ∨ 84 ≤ x → M' x = M x) → (∀ v, 0 ≤ v → v < 12 → M' (36 + 4 * v) 0 = 0) → K M') : wX9_blankAll 0 K M := by
  unfold wX9_blankAll
  simp only [Int.reduceAdd]
  refine ⟨fun v M' => 0 ≤ v ∧ v ≤ 12 ∧ (∀ x, x < 36 ∨ 84 ≤ x → M' x = M x) ∧ ∀ y, 0 ≤ y → y < v → M' (36 + 4 * y) 0 = 0, fun v _ => 12 - v, ⟨by omega, by omega, fun _ _ => rfl, fun y a b => by omega⟩, ?_⟩
  intro v M1 ⟨v0, v1, o1, z1⟩
  dsimp only
  refine ⟨by omega, fun q => hK M1 o1 (fun y a b => z1 y a (by omega)), fun q => ⟨⟨by omega, by omega⟩, fun M2 e2 => ⟨⟨by omega, by omega⟩, ⟨by omega, by omega, fun x a => by rw [e2, gup_c _ (by omega), o1 x a], fun y a b => ?_⟩, by omega⟩⟩⟩
  by_cases g : y = v
  · rw [g, e2, gup_s]
  · rw [e2, gup_c _ (by omega)]; exact z1 y a (by omega)
theorem p_forgetSlots {K : gMem → Prop} {M : gMem} (hK : ∀ M', (∀ x, x ≠ 89 → x ≠ 142 → M' x = M x) → M' 89 0 = 0 → M' 142 0 = 0 → K M') : wX9_forgetSlots 0 K M := by
  unfold wX9_forgetSlots
  simp only [Int.reduceAdd]
  refine ⟨fun v M' => 0 ≤ v ∧ v ≤ 2 ∧ (∀ x, x ≠ 89 → x ≠ 142 → M' x = M x) ∧ (0 < v → M' 89 0 = 0) ∧ (1 < v → M' 142 0 = 0), fun v _ => 2 - v, ⟨by omega, by omega, fun _ _ _ => rfl, fun a => by omega, fun a => by omega⟩, ?_⟩
  intro v M1 ⟨v0, v1, o1, z1, z2⟩
  dsimp only
  refine ⟨by omega, fun q => hK M1 o1 (z1 (by omega)) (z2 (by omega)), fun q => ⟨⟨by omega, by omega⟩, fun M2 e2 => ⟨⟨by omega, by omega⟩, ⟨by omega, by omega, fun x a b => by rw [e2, gup_c _ (by omega), o1 x a b], fun a => ?_, fun a => ?_⟩, by omega⟩⟩⟩
  · by_cases g : v = 0
    · rw [e2, g]; exact gup_s _ _ _ _
    · rw [e2, gup_c _ (by omega)]; exact z1 (by omega)
  · have g : v = 1 := by omega
    rw [e2, g]; exact gup_s _ _ _ _
theorem c_net {t : Int} {K1 : Int → gMem → Prop} {M : gMem} (h : Inv t M) (ht : 0 ≤ t ∧ t ≤ 512) (hK : ∀ r M1, Ag t (wX10_net 228) r M1 → K1 r M1) : wX9_net 0 K1 M := by
  unfold wX9_net
  simp only [Int.reduceAdd]
  have ver := h.1.2.2.2.2.2.2.1
  obtain ⟨x1, x2, x3, x4⟩ := h.1.2.2.2.1
  have dr : M 1 2 = M 229 156 := h.1.2.1.2.2.2.1
  refine p_readText h ht (fun M1 f1 r1 d1 => ?_)
  have hst := st0_ok h.1
  generalize hR : rn (M 232) (M 228 6) 24 (st0 M) = R at r1
  refine ⟨fun e => ?_, fun e => hK _ _ (fun K2 hk => ?_)⟩
  · obtain ⟨k1, s1, c1, sn⟩ := r1 e
    obtain ⟨⟨-, -, -⟩, a4, a5, a6, a7, a8⟩ := c1
    have e13 : M1 1 = M 1 := f1.1 1 (by omega)
    refine p_copyNet (by omega) (by rw [e13]; have := ver.1; omega) (fun M2 g1 g2 g3 g4 g5 g6 g7 => ?_)
    -- notes, past, slots, letters
    have fin : ∀ M3 : gMem, (∀ x, x < 36 ∨ 84 ≤ x → M3 x = M2 x) → (sS R.2.2 = 1 → ∀ v, 0 ≤ v → v < 12 → M3 (36 + 4 * v) 0 = 0) → (sS R.2.2 = 0 → M3 = M2) → ∀ M8 : gMem, M8 = gup M3 9 0 0 → wX9_forgetSlots 0 (fun (M9 : gMem) => ∀ M10 : gMem, M10 = gup M9 7 0 0 → (K1 (M10 7 1) M10)) M8 := by
      intro M3 o3 n3 n3' M4 e4
      refine p_forgetSlots (fun M5 o5 s5 s5' => ?_)
      intro M6 e6
      have c6 : ∀ x, x ≠ 7 → x ≠ 89 → x ≠ 142 → x ≠ 9 → (x < 36 ∨ 84 ≤ x) → M6 x = M2 x := fun x a b c d f => by rw [e6, gup_c _ a, o5 x b c, e4, gup_c _ d, o3 x f]
      have m6 : ∀ x, 8 ≤ x → x ≠ 89 → x ≠ 142 → x ≠ 9 → (x < 36 ∨ 84 ≤ x) → M6 x = M x := fun x a b c d f => by rw [c6 x (by omega) b c d f, g1 x (by omega), f1.1 x (by omega)]
      have k6 : M6 7 1 = R.2.1 := by rw [e6, gup_k _ (by decide), o5 7 (by decide) (by decide), e4, gup_c _ (by decide), o3 7 (by omega), g1 7 (by omega)]; exact k1
      rw [k6]
      refine hK _ _ (fun K2 hk => ?_)
      have t6 : TxM (M 232) (M 228 6) M6 := ⟨by rw [m6 228 (by decide) (by decide) (by decide) (by decide) (by omega)], by omega, by omega, fun i a b => by rw [m6 232 (by decide) (by decide) (by decide) (by decide) (by omega)]⟩
      have w6 : ∀ k : Nat, k < 15 → M6 235 (k : Int) = gwl.getD k 0 := fun k hk => by rw [m6 235 (by decide) (by decide) (by decide) (by decide) (by omega)]; exact h.1.2.2.2.2.2.2.2 k hk
      have e628 : M6 228 = M 228 := m6 228 (by decide) (by decide) (by decide) (by decide) (by omega)
      have e629 : M6 229 = M 229 := m6 229 (by decide) (by decide) (by decide) (by decide) (by omega)
      have e630 : M6 230 = M 230 := m6 230 (by decide) (by decide) (by decide) (by decide) (by omega)
      unfold wX10_net
      simp only [Int.reduceAdd]
      refine p_reads (σ0 := st0 M) t6 w6 (Or.inl rfl) hst ⟨rfl, rfl⟩ ⟨by rw [e628]; rfl, by rw [e629]; rfl, fun v a b => by rw [e629]; rfl⟩ (fun _ M7 f7 _ _ _ => ⟨fun _ => ?_, fun z => absurd z (by decide)⟩) (fun z => absurd (by rw [hR]; exact e) z)
      obtain ⟨d72, d79, d70⟩ := f7.2.2.1 rfl
      refine p_reads (σ0 := st0 M) (f7.tx t6) (f7.w w6) (Or.inr rfl) hst ⟨rfl, rfl⟩ ⟨by rw [d72, e628]; rfl, by rw [d79, e629]; rfl, fun v a b => by rw [d79, e629]; rfl⟩ (fun _ M8 f8 k8 _ r8 => ?_) (fun z => absurd (by rw [hR]; exact e) z)
      rw [hR] at k8 r8
      intro M9 e9 M10 e10
      refine ⟨⟨by decide, by decide⟩, fun M11 e11 => ⟨⟨by decide, by decide⟩, fun M12 e12 => ?_⟩⟩
      have c12 : ∀ x, x ≠ 228 → x ≠ 231 → M12 x = M8 x := fun x a b => by rw [e12, gup_c _ b, e11, gup_c _ b, e10, gup_c _ a, e9, gup_c _ a]
      have k12 : ∀ k, k ≠ 1 → k ≠ 6 → M12 228 k = M8 228 k := fun k a b => by rw [e12, gup_c _ (by decide), e11, gup_c _ (by decide), e10, gup_k _ a, e9, gup_k _ b]
      rw [k12 12 (by decide) (by decide), k8]
      refine hk M12 ?_
      have all : ∀ x, x ≠ 228 → x ≠ 229 → x ≠ 230 → x ≠ 231 → x ≠ 233 → x ≠ 234 → M12 x = M6 x := fun x a b c d f g => by rw [c12 x a d, f8.1 x a b c f g, f7.1 x a b c f g]
      obtain ⟨-, -, -, -, -, r6⟩ := r8
      obtain ⟨q1, q2, q3, q4⟩ := r6 (by decide)
      have hN : M12 228 2 = sN R.2.2 := by rw [k12 2 (by decide) (by decide)]; exact q1
      have e29 : M12 229 = M8 229 := c12 229 (by decide) (by decide)
      have e30 : M12 230 = M8 230 := c12 230 (by decide) (by decide)
      have c1_ : ∀ x, x < 4 → M12 x = M2 x := fun x a => by rw [all x (by omega) (by omega) (by omega) (by omega) (by omega) (by omega), c6 x (by omega) (by omega) (by omega) (by omega) (by omega)]
      have rest : ∀ x, 10 ≤ x → (x < 36 ∨ 84 ≤ x) → x ≠ 89 → x ≠ 142 → x < 228 → M12 x = M x := fun x a b c d f => by rw [all x (by omega) (by omega) (by omega) (by omega) (by omega) (by omega), m6 x (by omega) c d (by omega) b]
      obtain ⟨sw1, sw2, sw3, sw4, sw5, sw6⟩ := s1
      have c13 : M12 1 3 = M 1 3 + 1 := by rw [c1_ 1 (by omega), g5, e13]
      have net : NetRel M12 1 0 := by
        have eN : nN M12 = sN R.2.2 := hN
        refine ⟨by rw [c1_ 1 (by omega), g2, a4, eN], fun k p q => ?_, fun k p q => ?_, ?_, ?_, ?_, fun u v p q r s => ?_, fun v p q => ?_⟩
        · have g6 : M2 2 k = M1 5 k := g6 k p q
          show M12 2 k = M12 229 (0 + k)
          rw [c1_ 2 (by omega), g6, a5 k p q, Int.zero_add, e29, q2 k p q]
        · have g7 : M2 3 k = M1 6 k := g7 k p q
          show M12 3 k = M12 229 (0 + 144 + k)
          rw [c1_ 3 (by omega), g7, a6 k p q, show (0 : Int) + 144 + k = 144 + k by omega, e29, q3 k p q]
        · rw [c1_ 1 (by omega), g4, d1, dr, show (0 : Int) + 156 = 156 by omega, e29, f8.2.2.2.1 156 (by decide), d79, e629]
        · rw [c1_ 1 (by omega), g3, a7]
          exact cnt_cong 144 (fun k hk => by rw [Int.zero_add, e29, q2 (k : Int) (by omega) (by omega)])
        · rw [c1_ 1 (by omega), g3]
          have := sw5.1
          omega
        · have := sw3 u v p q r s
          dsimp only at this ⊢
          rw [Int.zero_add, Int.zero_add, e29, q2 _ (by omega) (by omega), q2 _ (by omega) (by omega), eN]
          exact this
        · have := sw4 v p q
          rw [show (0 : Int) + 144 + v = 144 + v by omega, e29, q3 v p q, eN]
          exact this
      have notes : ∀ v, 0 ≤ v → v < 12 → NoteRel M12 (36 + 4 * v) (20 * v) := by
        intro v v0 v1
        rcases sw6 with z | z
        · have m3 := n3' z
          have nn := sn z
          have st : ∀ c, 36 ≤ c → c < 84 → M12 c = M c := fun c p q => by rw [all c (by omega) (by omega) (by omega) (by omega) (by omega) (by omega), e6, gup_c _ (by omega), o5 c (by omega) (by omega), e4, gup_c _ (by omega), m3, g1 c (by omega), f1.1 c (by omega)]
          refine (h.1.2.2.1 v v0 v1).stay (by rw [hN, nn]) (fun c p q => st c (by omega) (by omega)) (fun k p q => ?_)
          rw [e30, q4 _ (by omega) (by omega), if_neg (by rw [z]; decide), d70, e630]
        · have w0 : M12 (36 + 4 * v) 0 = 0 := by rw [all _ (by omega) (by omega) (by omega) (by omega) (by omega) (by omega), e6, gup_c _ (by omega), o5 _ (by omega) (by omega), e4, gup_c _ (by omega)]; exact n3 z v v0 v1
          refine ⟨Or.inl w0, ?_, fun y => absurd y (by rw [w0]; decide)⟩
          rw [w0, e30, q4 _ (by omega) (by omega), if_pos z]
      have p0 : M12 9 0 = 0 := by rw [all 9 (by decide) (by decide) (by decide) (by decide) (by decide) (by decide), e6, gup_c _ (by decide), o5 9 (by decide) (by decide), e4, gup_s]
      have p1 : M12 9 1 = M 9 1 := by rw [all 9 (by decide) (by decide) (by decide) (by decide) (by decide) (by decide), e6, gup_c _ (by decide), o5 9 (by decide) (by decide), e4, gup_k _ (by decide), o3 9 (by omega), g1 9 (by omega), f1.1 9 (by omega)]
      have u0 : M12 228 1 = 0 := by rw [e12, gup_c _ (by decide), e11, gup_c _ (by decide), e10, gup_s]
      have l0 : M12 228 6 = 0 := by rw [e12, gup_c _ (by decide), e11, gup_c _ (by decide), e10, gup_k _ (by decide), e9, gup_s]
      have tz : M12 7 0 = 0 := by rw [all 7 (by decide) (by decide) (by decide) (by decide) (by decide) (by decide), e6, gup_s]
      have past := h.1.2.2.2.2.1
      have v43 : M12 4 3 = M1 4 3 := by rw [all 4 (by decide) (by decide) (by decide) (by decide) (by decide) (by decide), c6 4 (by decide) (by decide) (by decide) (by decide) (by omega), g1 4 (by omega)]
      refine ⟨⟨by unfold nN; rw [hN]; exact sw2, net, notes, ⟨by rw [tz, l0], by omega, by omega, fun i a b => by omega⟩, ⟨by rw [p0, u0], by omega, by omega, by rw [p1]; exact past.2.2.2.1, by rw [p1]; exact past.2.2.2.2.1, fun i a b => by omega⟩, fun k a b => ?_, ?_, fun k hk => ?_⟩, h.2.1.stale (by rw [rest 195 (by omega) (by omega) (by omega) (by omega) (by omega)]) (by omega), h.2.2.stale (by rw [rest 209 (by omega) (by omega) (by omega) (by omega) (by omega)]) (by omega)⟩
      · have hk2 : k = 0 ∨ k = 1 := by omega
        have s89 : M12 89 0 = 0 := by rw [all 89 (by decide) (by decide) (by decide) (by decide) (by decide) (by decide), e6, gup_c _ (by decide)]; exact s5
        have s142 : M12 142 0 = 0 := by rw [all 142 (by decide) (by decide) (by decide) (by decide) (by decide) (by decide), e6, gup_c _ (by decide)]; exact s5'
        have y0 : M12 231 0 = 0 := by rw [e12, gup_k _ (by decide), e11, gup_s]
        have y1 : M12 231 1 = 0 := by rw [e12, gup_s]
        rcases hk2 with z | z
        · subst z
          exact ⟨Or.inl s89, by show M12 231 0 = M12 89 0; rw [y0, s89], fun w => absurd (show M12 89 0 = 1 from w) (by rw [s89]; decide)⟩
        · subst z
          exact ⟨Or.inl s142, by show M12 231 1 = M12 142 0; rw [y1, s142], fun w => absurd (show M12 142 0 = 1 from w) (by rw [s142]; decide)⟩
      · obtain ⟨v1, v2, v3, v4⟩ := ver
        have ff := f1.2.2
        refine ⟨by omega, by omega, fun i a b => ?_, fun k a b => ?_⟩
        · rw [rest _ (by omega) (by omega) (by omega) (by omega) (by omega)]; have := v3 i a b; omega
        · rw [rest _ (by omega) (by omega) (by omega) (by omega) (by omega)]; have := v4 k a b; omega
      · rw [all 235 (by decide) (by decide) (by decide) (by decide) (by decide) (by decide)]; exact w6 k hk
    have e72 : M2 7 2 = sS R.2.2 := by rw [g1 7 (by omega)]; exact a8
    rw [e72]
    refine gK0_r ⟨fun z => fin M2 (fun _ _ => rfl) (fun y => by omega) (fun _ => rfl), fun z => p_blankAll (fun M3 o3 z3 => fin M3 o3 (fun _ => z3) (fun y => absurd y z))⟩
  · have t1 : TxM (M 232) (M 228 6) M1 := ⟨by rw [f1.1 228 (by omega)], by omega, by omega, fun i a b => by rw [f1.1 232 (by omega)]⟩
    have w1 : ∀ k : Nat, k < 15 → M1 235 (k : Int) = gwl.getD k 0 := fun k hk => by rw [f1.1 235 (by omega)]; exact h.1.2.2.2.2.2.2.2 k hk
    unfold wX10_net
    refine p_reads (σ0 := st0 M) t1 w1 (Or.inl rfl) hst ⟨rfl, rfl⟩ ⟨by rw [f1.1 228 (by omega)]; rfl, by rw [f1.1 229 (by omega)]; rfl, fun v a b => by rw [f1.1 229 (by omega)]; rfl⟩ (fun z => absurd (by rw [hR] at z; exact z) e) (fun _ M2 f2 c2 => ⟨fun z => absurd rfl z, fun _ => hk M2 ?_⟩)
    obtain ⟨d2, d29, d30⟩ := f2.2.2.1 rfl
    have oth : ∀ x, x ≠ 228 → x ≠ 233 → x ≠ 234 → M2 x = M1 x := fun x a b c => by
      by_cases g : x = 229
      · rw [g]; exact d29
      · by_cases g2 : x = 230
        · rw [g2]; exact d30
        · exact f2.1 x a g g2 b c
    refine h.text (fun c hc => by rw [oth c (by omega) (by omega) (by omega), f1.1 c (by omega)]) (by rw [f2.2.1.1, f1.1 228 (by omega)]) (by rw [d2, f1.1 228 (by omega)]) (h.1.2.2.2.1.stay (by rw [oth 7 (by decide) (by decide) (by decide)]; exact f1.2.1) (by rw [f2.2.1.2, f1.1 228 (by omega)]) (by rw [oth 8 (by decide) (by decide) (by decide), f1.1 8 (by omega)]) (by rw [oth 232 (by decide) (by decide) (by decide), f1.1 232 (by omega)])) ?_
    rw [oth 4 (by decide) (by decide) (by decide)]
    have := f1.2.2
    have := ver.2.1
    omega
