/-! CALLS, 4: what two notes tell -/
abbrev T5 := Int × Int × Int × Int × Int
/-- reason, level, node looked at last, by whom, how far -/
def tel (N : Int → Int) : Nat → Int → Int → Int → T5
  | 0, i, u, _ => (3, i - 1, u, -1, 0)
  | k + 1, i, u, v => if N (20 * u) ≠ 1 then (1, i, u, -1, 0) else if N (20 * u + 1 + i) = -1 then (2, i, u, -1, 0) else if N (20 * v) ≠ 1 then (1, i, v, -1, 0) else
    if N (20 * v + 8 + N (20 * u + 1 + i)) = -1 then tel N k (i + 1) v u else (0, i, v, N (20 * u + 1 + i), N (20 * v + 8 + N (20 * u + 1 + i)) + N (20 * u + 4 + i))
def TellC (T : T5) (M : gMem) : Prop := M 226 0 = T.1 ∧ M 226 3 = T.2.1 ∧ (T.1 ≠ 0 → M 226 4 = T.2.2.1) ∧ (T.1 = 0 → M 226 2 = T.2.2.2.1 ∧ M 226 1 = T.2.2.2.2)
def TellM (T : T5) (M : gMem) : Prop := M 228 22 = T.2.1 ∧ (T.1 ≠ 0 → M 228 23 = T.1 ∧ M 228 24 = T.2.2.1) ∧ (T.1 = 0 → M 228 21 = T.2.2.2.1 ∧ M 228 20 = T.2.2.2.2)
theorem Only.t226 {M M' : gMem} (h : Only 226 M M') (c : Int) (hc : c ≠ 226) : M' c = M c := h c hc
theorem p_tell {t u v : Int} {K : gMem → Prop} {M : gMem} (h : InvA t M) (hu : 0 ≤ u ∧ u < nN M) (hv : 0 ≤ v ∧ v < nN M) (hK : ∀ M', Only 226 M M' → TellC (tel (M 230) 3 0 u v) M' → K M') : wX6_tell 226 35 u v K M := by
  unfold wX6_tell
  have hn := h.1
  generalize hG : tel (M 230) 3 0 u v = T at hK
  refine ⟨fun a b i M' => Only 226 M M' ∧ 0 ≤ i ∧ i ≤ 3 ∧ (0 ≤ a ∧ a < nN M) ∧ (0 ≤ b ∧ b < nN M) ∧ T = tel (M 230) (3 - i).toNat i a b ∧ (0 < i → M' 226 0 = 3 ∧ M' 226 3 = i - 1 ∧ M' 226 4 = a), fun a b i _ => 3 - i, ⟨fun _ _ => rfl, by omega, by omega, hu, hv, hG.symm, fun q => by omega⟩, ?_⟩
  intro a b i M1 ⟨o1, i0, i1, ha, hb, hT, hl⟩
  dsimp only
  refine ⟨by omega, fun q => ?_, fun q => ?_⟩
  · have e : i = 3 := by omega
    subst e
    have hl := hl (by omega)
    refine hK M1 o1 ?_
    rw [hT]
    exact ⟨hl.1, hl.2.1, fun _ => hl.2.2, fun p => absurd p (by show (3 : Int) ≠ 0; decide)⟩
  · rw [show (3 - i).toNat = (3 - (i + 1)).toNat + 1 by omega] at hT
    unfold tel at hT
    have na := h.2.2.1 a ha.1 (by omega)
    have nb := h.2.2.1 b hb.1 (by omega)
    intro M2 e2
    unfold wX6_look
    simp only [Int.reduceAdd]
    intro M3 e3
    have o3 : Only 226 M M3 := fun c hc => by rw [e3, gup_c _ hc, e2, gup_c _ hc, o1 c hc]
    have l3 : M3 226 3 = i := by rw [e3, gup_k _ (by decide), e2, gup_s]
    have s3 : M3 226 4 = a := by rw [e3, gup_s]
    rw [o3 (36 + 4 * a) (by omega)]
    refine ⟨⟨by omega, by omega⟩, fun wa => ⟨⟨by omega, by omega⟩, ?_⟩, fun wa => ?_⟩
    · have wa1 : M 230 (20 * a) = 1 := by have := na.1; have := na.2.1; omega
      have wq : M (36 + 4 * a) 0 = 1 := by have := na.1; omega
      obtain ⟨na1, na2, na3, na4⟩ := na.2.2 wq
      have nai := na1 i i0 (by omega)
      have nab := na4.1 i i0 (by omega)
      rw [if_neg (by omega)] at hT
      rw [l3]
      refine p_nearAt (by omega) ?_
      rw [o3 (36 + 4 * a + 1) (by omega), nai.1]
      rw [nai.1, nai.2] at nab
      intro M4 e4
      have o4 : Only 226 M M4 := fun c hc => by rw [e4, gup_c _ hc, o3 c hc]
      have l4 : M4 226 3 = i := by rw [e4, gup_k _ (by decide), l3]
      have b4 : M4 226 2 = M 230 (20 * a + 1 + i) := by rw [e4, gup_s]
      have s4 : M4 226 4 = a := by rw [e4, gup_k _ (by decide), s3]
      rw [b4]
      refine ⟨fun c => ?_, fun c => ?_⟩
      · rw [if_neg c] at hT
        intro M5 e5
        have o5 : Only 226 M M5 := fun c hc => by rw [e5, gup_c _ hc, o4 c hc]
        have l5 : M5 226 3 = i := by rw [e5, gup_k _ (by decide), l4]
        have b5 : M5 226 2 = M 230 (20 * a + 1 + i) := by rw [e5, gup_k _ (by decide), b4]
        have s5 : M5 226 4 = b := by rw [e5, gup_s]
        rw [o5 (36 + 4 * b) (by omega)]
        refine ⟨⟨by omega, by omega⟩, fun wb => ⟨⟨by omega, by omega⟩, ?_⟩, fun wb => ?_⟩
        · have wb1 : M 230 (20 * b) = 1 := by have := nb.1; have := nb.2.1; omega
          have wqb : M (36 + 4 * b) 0 = 1 := by have := nb.1; omega
          obtain ⟨nb1, nb2, nb3, nb4⟩ := nb.2.2 wqb
          rw [if_neg (by omega)] at hT
          have nbw := nb3 (M 230 (20 * a + 1 + i)) (by omega) (by omega)
          have nbb := nb4.2.1 (M 230 (20 * a + 1 + i)) (by omega) (by omega)
          rw [nbw] at nbb
          rw [b5]
          have k5 : M5 (36 + 4 * b) 0 = 1 := by rw [o5 _ (by omega)]; exact wqb
          have k6 : M5 (36 + 4 * b + 3) (M 230 (20 * a + 1 + i)) = M 230 (20 * b + 8 + M 230 (20 * a + 1 + i)) := by rw [o5 _ (by omega)]; exact nbw
          refine p_holds (by omega) (fun _ d => ⟨fun _ => ⟨⟨by omega, by omega⟩, ?_⟩, fun e => absurd e (by decide)⟩) (fun d => ⟨fun e => absurd rfl e, fun _ => ?_⟩)
          · rw [k6] at d
            rw [if_neg d] at hT
            rw [l5]
            refine p_nearFarAt (by omega) ?_
            rw [o5 (36 + 4 * a + 2) (by omega), nai.2]
            rw [b5]
            refine ⟨⟨by omega, by omega⟩, p_farOf (by omega) (fun _ => ?_) (fun g => by omega)⟩
            rw [k6]
            refine ⟨⟨by omega, by omega⟩, fun M6 e6 M7 e7 => ?_⟩
            have r7 : M7 226 0 = 0 := by rw [e7, gup_s]
            rw [r7]
            refine ⟨fun g => absurd g (by decide), fun _ => hK M7 (fun c hc => by rw [e7, gup_c _ hc, e6, gup_c _ hc, o5 c hc]) ?_⟩
            rw [hT]
            refine ⟨r7, ?_, fun g => absurd rfl g, fun _ => ⟨?_, ?_⟩⟩
            · rw [e7, gup_k _ (by decide), e6, gup_k _ (by decide), l5]
            · rw [e7, gup_k _ (by decide), e6, gup_k _ (by decide), b5]
            · rw [e7, gup_k _ (by decide), e6, gup_s]
              exact Int.add_comm _ _
          · have d : M 230 (20 * b + 8 + M 230 (20 * a + 1 + i)) = -1 := by omega
            rw [if_pos d] at hT
            intro M7 e7
            have r7 : M7 226 0 = 3 := by rw [e7, gup_s]
            rw [r7]
            refine ⟨fun _ => ⟨⟨by omega, by omega⟩, ⟨fun c hc => by rw [e7, gup_c _ hc, o5 c hc], by omega, by omega, hb, ha, hT, fun _ => ⟨rfl, ?_, ?_⟩⟩, by omega⟩, fun g => absurd rfl g⟩
            · rw [e7, gup_k _ (by decide), l5]; omega
            · rw [e7, gup_k _ (by decide), s5]
        · have wb1 : M 230 (20 * b) ≠ 1 := by have := nb.2.1; omega
          rw [if_pos wb1] at hT
          intro M7 e7
          have r7 : M7 226 0 = 1 := by rw [e7, gup_s]
          rw [r7]
          refine ⟨fun g => absurd g (by decide), fun _ => hK M7 (fun c hc => by rw [e7, gup_c _ hc, o5 c hc]) ?_⟩
          rw [hT]
          exact ⟨r7, by rw [e7, gup_k _ (by decide), l5], fun _ => by rw [e7, gup_k _ (by decide), s5], fun p => absurd p (by show (1 : Int) ≠ 0; decide)⟩
      · rw [if_pos c] at hT
        intro M7 e7
        have r7 : M7 226 0 = 2 := by rw [e7, gup_s]
        rw [r7]
        refine ⟨fun g => absurd g (by decide), fun _ => hK M7 (fun c hc => by rw [e7, gup_c _ hc, o4 c hc]) ?_⟩
        rw [hT]
        exact ⟨r7, by rw [e7, gup_k _ (by decide), l4], fun _ => by rw [e7, gup_k _ (by decide), s4], fun p => absurd p (by show (2 : Int) ≠ 0; decide)⟩
    · have wa1 : M 230 (20 * a) ≠ 1 := by have := na.2.1; omega
      rw [if_pos wa1] at hT
      intro M7 e7
      have r7 : M7 226 0 = 1 := by rw [e7, gup_s]
      rw [r7]
      refine ⟨fun g => absurd g (by decide), fun _ => hK M7 (fun c hc => by rw [e7, gup_c _ hc, o3 c hc]) ?_⟩
      rw [hT]
      exact ⟨r7, by rw [e7, gup_k _ (by decide), l3], fun _ => by rw [e7, gup_k _ (by decide), s3], fun p => absurd p (by show (1 : Int) ≠ 0; decide)⟩
