/-! THINNING, the class, 3: follow -/
theorem TC.skip {M M' : gMem} {t c c' i : Int} (h : TC M t c i M') (hc : c ≤ c') (hno : ∀ u v, 0 ≤ u → u < v → v < nN M → 0 < mL M u v → key (mL M) u v < c' → key (mL M) u v < c) : TC M t c' i M' :=
  ⟨h.1, h.2.1, h.2.2.1.skip hc hno, h.2.2.2⟩
theorem TF.aside {M M' : gMem} (h : ∀ c', c' < 209 ∨ 226 ≤ c' → M' c' = M c') : Aside M M' := ⟨fun c h1 h2 => h c (by unfold scr at h1; omega), by rw [h 4 (by omega)], by rw [h 228 (by omega)], by rw [h 228 (by omega)], by rw [h 228 (by omega)]⟩
theorem Rt.pass {n : Int} {L : Int → Int → Int} {t c : Int} {τ : Int → Int → Prop} (h : Rt n L t c τ) (hn : n ≤ 12) (hL : Lsym n L) {u v : Int} (h0 : 0 ≤ u) (h1 : u < v) (h2 : v < n) (h3 : 0 < L u v) (hk : key L u v = c) (hf : ¬ far1 n L t τ u v) : Rt n L t (c + 1) τ :=
  h.step hn hL h0 h1 h2 h3 hk (fun a b => ⟨Or.inl, fun q => q.elim id (fun q => absurd q.1 hf)⟩)
theorem p_follow2 {s t : Int} {K : gMem → Prop} {M : gMem} (h : InvA s M) (hT : ThinInv M) (ht : 1 ≤ t ∧ t ≤ 9) (hK : ∀ M', (∀ c', c' < 209 ∨ 226 ≤ c' → M' c' = M c') → ThinOK t M' → M' 209 2 = M 1 3 → M' 209 3 = t → K M') : wX8_follow 209 1 t K M := by
  unfold wX8_follow
  simp only [Int.reduceAdd]
  have hn := h.1
  refine ⟨fun M' => M' = M, ⟨fun _ => rfl, fun q => ⟨fun _ => rfl, fun q2 => hK M (fun _ _ => rfl) (q2 ▸ hT.2.2 q) q q2⟩⟩, fun M1 e1 => ?_⟩
  subst e1
  refine p_sortLinks h (fun M2 hS hj hO => ?_)
  have g1 : M2 1 = M1 1 := hS.1 1 (by decide) (by decide)
  have e0 : M2 1 0 = nN M1 := by rw [g1]; exact h.2.1.1
  rw [e0]
  unfold wX8_clear
  simp only [Int.reduceAdd]
  intro M3 e3 M4 e4
  refine p_clear hn (fun M5 F5 A5 B5 C5 => ?_)
  have f5 : ∀ c', c' < 209 ∨ 226 ≤ c' → M5 c' = M1 c' := fun c' a => by rw [F5 c' (by omega), e4, gfl_c _ (by omega), e3, gup_c _ (by omega), hS.1 c' (by omega) (by omega)]
  have o5 : M5 224 = M2 224 := by rw [F5 224 (by omega), e4, gfl_c _ (by omega), e3, gup_c _ (by omega)]
  have k5 : ∀ k, k ≠ 0 → M5 209 k = M2 209 k := fun k a => by rw [F5 209 (by omega), e4, gfl_c _ (by omega), e3, gup_k _ a]
  have z5 : ∀ u, 0 ≤ u → u < 12 → M5 225 u = 0 := fun u a b => by rw [F5 225 (by omega), e4, gfl_2, if_pos ⟨rfl, a, b⟩]
  have t5 : ∀ u v, 0 ≤ u → u < 12 → tb M5 u v = 0 := fun u v a b => by unfold tb; rw [z5 u a b, Int.zero_ediv]; rfl
  have nt : ∀ u v, ¬ τc (nN M1) M5 u v := fun u v q => by
    unfold τc at q
    rw [t5 u v q.1.1 (by omega)] at q
    exact absurd q.2.2 (by decide)
  have j0 : 0 ≤ M2 209 4 := by rw [hO.2.2.2]; exact cnt_0 _ _
  have kk : ∀ u v, u < v → 0 ≤ u → v < nN M1 → key (mL M1) u v = 144 * M1 229 (12 * u + v) + (12 * u + v) := fun u v a b c => key_up a
  have inO : ∀ u v, 0 ≤ u → u < v → v < nN M1 → 0 < mL M1 u v → ∃ i, 0 ≤ i ∧ i < M2 209 4 ∧ M2 224 i = 12 * u + v := fun u v a b c d => hO.2.2.1 (12 * u + v) (by omega) (by omega) (by omega) d
  refine ⟨fun i M' => 0 ≤ i ∧ i ≤ M2 209 4 ∧ M' 224 = M2 224 ∧ M' 209 4 = M2 209 4 ∧ ∃ c, TC M1 t c i M' ∧ c ≤ 14400 ∧ (∀ i', 0 ≤ i' → i' < i → 144 * M1 229 (M2 224 i') + M2 224 i' < c) ∧ (i < M2 209 4 → c ≤ 144 * M1 229 (M2 224 i) + M2 224 i), fun i _ => M2 209 4 - i, ⟨by omega, j0, o5, k5 4 (by decide), 0, ⟨f5, A5, Rt.init nt, ?_, ?_, ?_, ?_, ?_, ?_, ?_⟩, by decide, fun i' a b => by omega, fun q => ?_⟩, ?_⟩
  · refine IsD.nil (by decide) (fun u v a b c d => ?_) (fun a b x y z w => C5 a b x y z (by omega))
    unfold LR
    rw [if_neg (nt u v)]
    omega
  · intro a b x y z w
    have := C5 a b x y z (by omega)
    refine Int.le_trans (Int.le_of_eq this) ?_
    split <;> omega
  · intro u a b; rw [z5 u a b]; omega
  · intro u v a b c d q
    rw [t5 u v a b] at q
    exact absurd q (by decide)
  · have : cnt (tbk M5) 144 = 0 := cnt_f 144 (fun i hi => by
      unfold tbk
      rw [t5 _ _ (by omega) (by omega)]
      rfl)
    rw [this, F5 209 (by omega), e4, gfl_c _ (by omega), e3, gup_s]
    rfl
  · rw [F5 209 (by omega), e4, gfl_c _ (by omega), e3, gup_s]; decide
  · rw [F5 209 (by omega), e4, gfl_c _ (by omega), e3, gup_s]; decide
  · have := hO.1 0 (by omega) q; omega
  intro i M6 ⟨i0, i1, o6, j6, c, hTC, c14, clo, chi⟩
  dsimp only
  rw [j6]
  refine ⟨by omega, fun q => ?_, fun q => ?_⟩
  · have hTC := hTC.skip (c' := 14400) c14 (fun u v a b cc d e => by
      obtain ⟨i', x, y, z⟩ := inO u v a b cc d
      have := clo i' x (by omega)
      rw [z] at this
      rw [kk u v b a cc]
      exact this)
    obtain ⟨hF, h0, hR, hD, hbd, hnn, hbx, hct, hs0, hs1⟩ := hTC
    intro M7 e7 M8 e8
    have g8 : ∀ c', c' ≠ 209 → M8 c' = M6 c' := fun c' a => by rw [e8, gup_c _ a, e7, gup_c _ a]
    have tau8 : τc (nN M1) M8 = τc (nN M1) M6 := by funext a b; unfold τc tb; rw [g8 225 (by decide)]
    have eN : nN M8 = nN M1 := by unfold nN; rw [g8 228 (by decide), hF 228 (by omega)]
    have eL : mL M8 = mL M1 := by funext a b; unfold mL; rw [g8 229 (by decide), hF 229 (by omega)]
    refine hK M8 (fun c' a => by rw [g8 c' (by omega), hF c' a]) ?_ ?_ ?_
    · unfold ThinOK
      rw [eN, eL, tau8]
      refine ⟨by rw [g8 210 (by decide)]; exact h0, hR, hD.conf (fun a b x y z w => by rw [g8 _ (by omega)]), fun u a b => by rw [g8 225 (by decide)]; exact hnn u a b, fun u v a b x y z => ?_, ?_⟩
      · unfold tb at z
        rw [g8 225 (by decide)] at z
        exact hbx u v a b x y z
      · have : tbk M8 = tbk M6 := by funext k; unfold tbk tb; rw [g8 225 (by decide)]
        rw [this, e8, gup_k _ (by decide), e7, gup_k _ (by decide)]
        exact hct
    · rw [e8, gup_k _ (by decide), e7, gup_s, hF 1 (by omega)]
    · rw [e8, gup_s]
  · have hOi := hO.1 i i0 (by omega)
    have hr := h.row (M2 224 i) hOi.1 hOi.2.1
    have hb := hr.2.2.1 hOi.2.2.2
    have hTC := hTC.skip (c' := 144 * M1 229 (M2 224 i) + M2 224 i) (chi (by omega)) (fun u v a b cc d e => by
      obtain ⟨i', x, y, z⟩ := inO u v a b cc d
      rw [kk u v b a cc] at e ⊢
      rw [← z] at e ⊢
      by_cases g : i' < i
      · exact clo i' x g
      · by_cases g2 : i' = i
        · rw [g2] at e; omega
        · have := hO.2.1 i i' i0 (by omega) y; omega)
    obtain ⟨hF, h0, hR, hD, hbd, hnn, hbx, hct, hs0, hs1⟩ := id hTC
    have hI6 := h.cong (TF.aside hF)
    have eN : nN M6 = nN M1 := by unfold nN; rw [hF 228 (by omega)]
    have eL : ∀ a b, mL M6 a b = mL M1 a b := fun a b => by unfold mL; rw [hF 229 (by omega)]
    rw [o6]
    have hkey : key (mL M1) (M2 224 i / 12) (M2 224 i % 12) = 144 * M1 229 (M2 224 i) + M2 224 i := by
      rw [kk _ _ hOi.2.2.1 (by omega) hb.2.1, show 12 * (M2 224 i / 12) + M2 224 i % 12 = M2 224 i by omega]
    have hv := IsD.val hD hn.2 (LR_99 _ h.L99) (by decide) (u := M2 224 i / 12) (v := M2 224 i % 12) (by omega) hb.1 (by omega) hb.2.1
    have hml := mul_bd ht (show 0 ≤ M1 229 (M2 224 i) ∧ M1 229 (M2 224 i) ≤ 99 by omega)
    refine ⟨⟨by omega, by omega⟩, ⟨by omega, by omega⟩, fun u eu => ⟨⟨by omega, by omega⟩, ⟨by omega, by omega⟩, fun v ev => ?_⟩⟩
    have fin : ∀ c' M', TC M1 t c' (i + 1) M' → c' = 144 * M1 229 (M2 224 i) + M2 224 i + 1 → M' 224 = M2 224 → M' 209 4 = M2 209 4 → gR (i + 1) ∧ (0 ≤ i + 1 ∧ i + 1 ≤ M2 209 4 ∧ M' 224 = M2 224 ∧ M' 209 4 = M2 209 4 ∧ ∃ c, TC M1 t c (i + 1) M' ∧ c ≤ 14400 ∧ (∀ i', 0 ≤ i' → i' < i + 1 → 144 * M1 229 (M2 224 i') + M2 224 i' < c) ∧ (i + 1 < M2 209 4 → c ≤ 144 * M1 229 (M2 224 (i + 1)) + M2 224 (i + 1))) ∧ M2 209 4 - (i + 1) < M2 209 4 - i := by
      intro c' M' a b cc d
      refine ⟨⟨by omega, by omega⟩, ⟨by omega, by omega, cc, d, c', a, by omega, fun i' x y => ?_, fun x => ?_⟩, by omega⟩
      · by_cases g : i' = i
        · rw [g]; omega
        · have := hO.2.1 i' i x (by omega) (by omega); omega
      · have := hO.2.1 i (i + 1) i0 (by omega) x; omega
    refine p_len1 hI6 (fun q2 => ?_) (fun q2 => absurd (show _ by rw [eu, ev]; omega) q2)
    have eLuv : mL M6 u v = M1 229 (M2 224 i) := by rw [eL, eu, ev]; exact hr.2.2.2
    rw [eLuv]
    rw [← eu, ← ev] at hkey hv
    have hfq : far1 (nN M1) (mL M1) t (τc (nN M1) M6) u v ↔ gdist (nN M1) (LR (mL M1) (τc (nN M1) M6)) u v = -1 ∨ t * M1 229 (M2 224 i) < gdist (nN M1) (LR (mL M1) (τc (nN M1) M6)) u v := by
      unfold far1
      rw [← eL u v, eLuv]
    have take : far1 (nN M1) (mL M1) t (τc (nN M1) M6) u v → wX8_take 209 u v (M1 229 (M2 224 i)) (fun (M24 : gMem) => gR (i + 1) ∧ (0 ≤ i + 1 ∧ i + 1 ≤ M2 209 4 ∧ M24 224 = M2 224 ∧ M24 209 4 = M2 209 4 ∧ ∃ c, TC M1 t c (i + 1) M24 ∧ c ≤ 14400 ∧ (∀ i', 0 ≤ i' → i' < i + 1 → 144 * M1 229 (M2 224 i') + M2 224 i' < c) ∧ (i + 1 < M2 209 4 → c ≤ 144 * M1 229 (M2 224 (i + 1)) + M2 224 (i + 1))) ∧ M2 209 4 - (i + 1) < M2 209 4 - i) M6 := by
      intro hf
      refine p_take h hTC (by omega) (by omega) (by omega) (by omega) (by rw [← eL]; exact eLuv) (by omega) hkey hf (fun M7 a b cc => fin _ M7 a rfl (by rw [b, o6]) (by rw [cc 4 (by decide), j6]))
    have pass : ¬ far1 (nN M1) (mL M1) t (τc (nN M1) M6) u v → gR (i + 1) ∧ (0 ≤ i + 1 ∧ i + 1 ≤ M2 209 4 ∧ M6 224 = M2 224 ∧ M6 209 4 = M2 209 4 ∧ ∃ c, TC M1 t c (i + 1) M6 ∧ c ≤ 14400 ∧ (∀ i', 0 ≤ i' → i' < i + 1 → 144 * M1 229 (M2 224 i') + M2 224 i' < c) ∧ (i + 1 < M2 209 4 → c ≤ 144 * M1 229 (M2 224 (i + 1)) + M2 224 (i + 1))) ∧ M2 209 4 - (i + 1) < M2 209 4 - i := by
      intro hf
      exact fin _ M6 ⟨hF, h0, hR.pass hn.2 h.sym (by omega) (by omega) (by omega) (by rw [← eL, eLuv]; omega) hkey hf, hD, hbd, hnn, hbx, hct, hs0, by omega⟩ rfl o6 j6
    refine p_btw (by omega) (fun q3 => ?_) (fun q3 => absurd (show _ by omega) q3)
    show gK0 _ _
    rcases hv with ⟨va, vb, vc, vd⟩ | ⟨va, vb⟩
    · have va : M6 (210 + 2 + u) v < 1000000 := va
      have vb : gdist (nN M1) (LR (mL M1) (τc (nN M1) M6)) u v = M6 (210 + 2 + u) v := vb
      have vc : 0 ≤ M6 (210 + 2 + u) v := vc
      rw [if_pos va]
      refine gK0_r (gK0_r ⟨fun a => by omega, fun a => ⟨⟨by omega, by omega⟩, fun b => pass (fun p => ?_), fun b => take (hfq.2 (Or.inr (by omega)))⟩⟩)
      have := hfq.1 p
      omega
    · have va : ¬ M6 (210 + 2 + u) v < 1000000 := va
      rw [if_neg va]
      exact gK0_r (gK0_r ⟨fun a => take (hfq.2 (Or.inl vb)), fun a => absurd rfl a⟩)
theorem p_takes2 {u v n : Int} {K : Int → gMem → Prop} {M : gMem} (hn : n ≤ 12) (hu : 0 ≤ u ∧ u < n) (hv : 0 ≤ v ∧ v < n) (hnn : ∀ u, 0 ≤ u → u < 12 → 0 ≤ M 225 u) (h1 : tb M u v = 1 → K 1 M) (h0 : tb M u v = 0 → K 0 M) : wX8_takes 209 u v K M := by
  unfold wX8_takes
  simp only [Int.reduceAdd]
  have hg := gand_bit (hnn u (by omega) (by omega)) hv.1
  refine gK0_r ⟨fun q => absurd q (by omega), fun _ => ⟨fun q => absurd q (by omega), fun _ => ⟨fun q => absurd q (by omega), fun _ => ⟨fun _ => ⟨⟨by omega, by omega⟩, ⟨by omega, by omega⟩, ⟨hnn u (by omega) (by omega), gpw_0 v⟩, gK1_r ⟨fun q => ⟨Or.inl rfl, h0 (hg.1 q)⟩, fun q => ⟨Or.inr rfl, h1 ?_⟩⟩⟩, fun q => absurd q (by omega)⟩⟩⟩⟩
  rcases bit_01 (M 225 u) v with a | a
  · exact absurd (hg.2 a) q
  · exact a
/-- class and reference take the same links -/
theorem thin_same {s t : Int} {M M1 M2 : gMem} (h : InvA s M) (h1 : ThinOK t M1) (e1 : Aside M M1) (h2 : TI M t 14400 M2) (k : Int) (k0 : 0 ≤ k) (k1 : k < 144) : tb M1 (k / 12) (k % 12) = 1 ↔ M2 237 k = 1 := by
  have hn := h.1
  have eN : nN M1 = nN M := e1.2.2.2.1
  have eL : mL M1 = mL M := by funext u v; unfold mL; rw [e1.at 229 (by omega)]
  unfold ThinOK at h1
  rw [eN, eL] at h1
  have hu := h1.2.1.uniq h2.2.1 h.sym (k / 12) (k % 12)
  unfold τc τm at hu
  rw [show 12 * (k / 12) + k % 12 = k by omega] at hu
  have hb := h2.2.2 k k0 k1
  refine ⟨fun q => ?_, fun q => ?_⟩
  · have := h1.2.2.2.2.1 _ _ (by omega) (by omega) (by omega) (by omega) q
    have := (hu.1 ⟨⟨by omega, by omega⟩, ⟨by omega, by omega⟩, q⟩).2.2
    omega
  · have := hb.2 (by omega)
    exact (hu.2 ⟨⟨by omega, by omega⟩, ⟨by omega, by omega⟩, by omega⟩).2.2
