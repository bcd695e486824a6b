/-! CALLS, 9: links by their numbers, thinned ones -/
def isPr (r : Int → Int) (a k : Int) : Prop := (k = -1 ∧ (a < 0 ∨ cnt (lk r) 144 ≤ a)) ∨ (0 ≤ k ∧ k < 144 ∧ 0 ≤ a ∧ lk r k = true ∧ cnt (lk r) k.toNat = a)
theorem isPr.uniq {r : Int → Int} {a k k' : Int} (h : isPr r a k) (h' : isPr r a k') : k = k' := by
  have mo : ∀ x y, 0 ≤ x → x < y → y ≤ 144 → lk r x = true → cnt (lk r) x.toNat + 1 ≤ cnt (lk r) y.toNat := by
    intro x y x0 xy y1 hx
    have a := cnt_sI (lk r) x x0
    rw [if_pos hx] at a
    have b := cnt_up (p := lk r) (x + 1).toNat y.toNat (by omega)
    omega
  have e : cnt (lk r) (144 : Int).toNat = cnt (lk r) 144 := rfl
  rcases h with ⟨e1, h⟩ | ⟨a0, a1, a2, a3, a4⟩ <;> rcases h' with ⟨e2, h'⟩ | ⟨b0, b1, b2, b3, b4⟩
  · omega
  · have := mo k' 144 b0 b1 (by omega) b3
    omega
  · have := mo k 144 a0 a1 (by omega) a3
    omega
  · by_cases c : k < k'
    · have := mo k k' a0 c (by omega) a3
      omega
    · by_cases d : k' < k
      · have := mo k' k b0 d (by omega) b3
        omega
      · omega
theorem p_pairOf {a : Int} {K : Int → gMem → Prop} {M : gMem} (ha : gR a) (hK : ∀ r, isPr (M 229) a r → K r M) : wX10_pairOf 228 a K M := by
  unfold wX10_pairOf
  simp only [Int.reduceAdd]
  have ha2 := ha.2
  refine ⟨fun left k M' => M' = M ∧ 0 ≤ k ∧ k ≤ 144 ∧ left = a - cnt (lk (M 229)) k.toNat ∧ (0 ≤ a → 0 ≤ left), fun left k _ => 144 - k, ⟨rfl, by omega, by omega, by show a = a - 0; omega, fun q => q⟩, ?_⟩
  intro left k M1 ⟨e1, k0, k1, hl, hl0⟩
  subst e1
  dsimp only
  have hs := cnt_sI (lk (M1 229)) k k0
  have hb := cnt_bI (lk (M1 229)) k k0
  have no : ¬ (k / 12 < k % 12 ∧ 0 < M1 229 k) → cnt (lk (M1 229)) (k + 1).toNat = cnt (lk (M1 229)) k.toNat := fun q => by rw [hs, lk_no.2 q]; simp
  have yes : (k / 12 < k % 12 ∧ 0 < M1 229 k) → cnt (lk (M1 229)) (k + 1).toNat = cnt (lk (M1 229)) k.toNat + 1 := fun q => by rw [hs, lk_iff.2 q]; simp
  refine ⟨by omega, gK0_r ⟨fun q => hK _ (Or.inl ⟨rfl, ?_⟩), fun q => ⟨fun q2 => hK _ (Or.inl ⟨rfl, Or.inl q2⟩), fun q2 => ⟨⟨by omega, by omega⟩, ⟨by omega, by omega⟩, gK1_r ⟨fun c => ⟨⟨by omega, by omega⟩, ⟨rfl, by omega, by omega, ?_, hl0⟩, by omega⟩, fun c => ⟨⟨by omega, by omega⟩, fun d => ⟨⟨by omega, by omega⟩, ⟨rfl, by omega, by omega, ?_, hl0⟩, by omega⟩, fun d => ⟨fun e => ⟨⟨by omega, by omega⟩, ⟨by omega, by omega⟩, ⟨rfl, by omega, by omega, ?_, fun _ => by have := hl0 (by omega); omega⟩, by omega⟩, fun e => hK _ (Or.inr ⟨k0, by omega, by omega, lk_iff.2 ⟨by omega, by omega⟩, by omega⟩)⟩⟩⟩⟩⟩⟩⟩
  · have e : cnt (lk (M1 229)) k.toNat = cnt (lk (M1 229)) 144 := by rw [show k = 144 by omega]; rfl
    by_cases g : a < 0
    · exact Or.inl g
    · have := hl0 (by omega)
      exact Or.inr (by omega)
  · rw [no (by omega)]; exact hl
  · rw [no (by omega)]; exact hl
  · rw [yes (by omega)]; omega
theorem p_cellOfLink {t a : Int} {K : Int → gMem → Prop} {M : gMem} (h : InvA t M) (hK : ∀ r, isPr (M 229) a r → K r M) : wX1_cellOfLink 1 a K M := by
  unfold wX1_cellOfLink
  simp only [Int.reduceAdd]
  have hn := h.1
  have hc := cnt_lk h
  have e0 : M 1 0 = nN M := h.2.1.1
  refine gK0_r ⟨fun q => hK _ (Or.inl ⟨rfl, Or.inl q⟩), fun q => ⟨fun q2 => ?_, fun q2 => hK _ (Or.inl ⟨rfl, Or.inr (by omega)⟩)⟩⟩
  have h30 : M 1 1 ≤ 30 := h.2.1.2.2.2.2.2.1
  refine ⟨fun left u M' => M' = M ∧ 0 ≤ u ∧ u ≤ nN M ∧ left = a - cnt (lk (M 229)) (12 * u).toNat ∧ 0 ≤ left, fun left u _ => nN M - u, ⟨rfl, by omega, by omega, by show a = a - 0; omega, by omega⟩, ?_⟩
  intro left u M1 ⟨e1, u0, u1, hl, hl0⟩
  subst e1
  dsimp only
  rw [e0]
  refine ⟨by omega, fun q3 => ?_, fun q3 => ⟨⟨by omega, by omega⟩, fun v0 ev => ?_⟩⟩
  · have := cnt_more (p := lk (M1 229)) (12 * u).toNat 144 (by omega) (fun i x y => lk_no.2 (fun c => by
      have := (h.row i (by omega) (by omega)).2.2.1 c.2
      omega))
    exfalso
    omega
  · refine ⟨fun left v M' => M' = M1 ∧ u < v ∧ v ≤ nN M1 ∧ left = a - cnt (lk (M1 229)) (12 * u + v).toNat ∧ 0 ≤ left, fun left v _ => nN M1 - v, ⟨rfl, by omega, by omega, ?_, hl0⟩, ?_⟩
    · rw [hl, cnt_more (p := lk (M1 229)) (12 * u).toNat (12 * u + v0).toNat (by omega) (fun i x y => lk_no.2 (fun c => by omega))]
    · intro left v M2 ⟨e2, v0', v1, hl, hl0⟩
      subst e2
      dsimp only
      rw [e0]
      have hs := cnt_sI (lk (M2 229)) (12 * u + v) (by omega)
      have hb := cnt_bI (lk (M2 229)) (12 * u + v) (by omega)
      rw [show 12 * u + v + 1 = 12 * u + (v + 1) by omega] at hs
      refine ⟨by omega, fun q4 => ⟨⟨by omega, by omega⟩, ⟨rfl, by omega, by omega, ?_, hl0⟩, by omega⟩, fun q4 => p_cell (by omega) ⟨⟨by omega, by omega⟩, ?_⟩⟩
      · rw [hl, cnt_more (p := lk (M2 229)) (12 * u + v).toNat (12 * (u + 1)).toNat (by omega) (fun i x y => lk_no.2 (fun c => by
          have := (h.row i (by omega) (by omega)).2.2.1 c.2
          omega))]
      · have eL : M2 2 (12 * u + v) = M2 229 (12 * u + v) := h.cLe u v u0 (by omega) (by omega) (by omega)
        rw [eL]
        refine gK1_r ⟨fun c => ⟨⟨by omega, by omega⟩, ⟨rfl, by omega, by omega, ?_, hl0⟩, by omega⟩, fun c => ⟨fun d => ⟨⟨by omega, by omega⟩, ⟨by omega, by omega⟩, ⟨rfl, by omega, by omega, ?_, by omega⟩, by omega⟩, fun d => p_cell (by omega) (hK _ (Or.inr ⟨by omega, by omega, by omega, lk_iff.2 ⟨by omega, by omega⟩, by omega⟩))⟩⟩
        · rw [hs, lk_no.2 (by omega)]; simp; exact hl
        · rw [hs, lk_iff.2 (by omega)]; simp; omega
theorem c_link {t a b : Int} {K1 : Int → gMem → Prop} {M : gMem} (h : Inv t M) (ha : gR a) (hK : ∀ r M1, Ag t (wX10_link 228 a b) r M1 → K1 r M1) : wX9_link 0 a b K1 M := by
  unfold wX9_link
  simp only [Int.reduceAdd]
  have hn := h.1.1
  refine p_cellOfLink h.1 (fun k hk1 => ⟨fun q => ?_, fun q => hK _ _ (fun K2 hk => ?_)⟩)
  · have hk0 : 0 ≤ k ∧ k < 144 ∧ lk (M 229) k = true := by
      rcases hk1 with ⟨e, _⟩ | ⟨k0, k1, a0, kl, kc⟩
      · exact absurd e q
      · exact ⟨k0, k1, kl⟩
    have lk' := lk_iff.1 hk0.2.2
    have hr := h.1.row k hk0.1 hk0.2.1
    have hb := hr.2.2.1 lk'.2
    have ref : ∀ r, (b = 0 → r = k / 12) → (b = 1 → r = k % 12) → (b = 2 → r = M 229 k) → (b < 0 ∨ 2 < b → r = -3) → K1 r M := by
      intro r r0 r1 r2 r3
      refine hK _ _ (fun K2 hk => ?_)
      unfold wX10_link
      simp only [Int.reduceAdd]
      refine p_pairOf ha (fun k' hk2 => ?_)
      have e := hk1.uniq hk2
      rw [← e]
      have fin : K2 r M := hk M h.later
      refine ⟨fun _ => ⟨fun e => ⟨⟨by omega, by omega⟩, by rw [← r0 e]; exact fin⟩, fun e => ⟨⟨by omega, by omega⟩, by rw [← r1 e]; exact fin⟩, fun e => ⟨⟨by omega, by omega⟩, by rw [← r2 e]; exact fin⟩, fun e => by rw [← r3 e]; exact fin⟩, fun e => absurd hk0.1 e⟩
    refine ⟨⟨by omega, by omega⟩, fun x ex => ⟨⟨by omega, by omega⟩, fun y ey => ⟨fun e => ref _ (fun _ => ex) (fun _ => by omega) (fun _ => by omega) (fun _ => by omega), fun e => ref _ (fun _ => by omega) (fun _ => ey) (fun _ => by omega) (fun _ => by omega), fun e => ?_, fun e => ref _ (fun _ => by omega) (fun _ => by omega) (fun _ => by omega) (fun _ => rfl)⟩⟩⟩
    refine p_len1 h.1 (fun q2 => ref _ (fun _ => by omega) (fun _ => by omega) (fun _ => ?_) (fun _ => by omega)) (fun q2 => absurd (show _ by omega) q2)
    rw [ex, ey]; exact hr.2.2.2
  · unfold wX10_link
    simp only [Int.reduceAdd]
    refine p_pairOf ha (fun k' hk2 => ?_)
    have e := hk1.uniq hk2
    rw [← e, q]
    exact ⟨fun e => absurd e (by decide), fun _ => hk M h.later⟩
theorem Inv.th {t s : Int} {M M1 : gMem} (h : Inv t M) (f : ∀ c', c' < 209 ∨ 226 ≤ c' → M1 c' = M c') (o : ThinOK s M1) (e2 : M1 209 2 = M 1 3) (e3 : M1 209 3 = s) : Inv t M1 := by
  have hv := h.1.2.2.2.2.2.2.1.1.1
  refine ⟨h.1.cong (TF.aside f), h.2.1.cong h.1.1.2 (by rw [f 1 (by omega)]) (fun c a b => f c (by omega)) (by rw [f 228 (by omega)]) (f 229 (by omega)), ?_, ?_, fun _ => by rw [e3]; exact o⟩
  · rw [e2]; omega
  · rw [e2, f 1 (by omega)]; omega
theorem TI.mfr {M M' : gMem} {t c : Int} (h : TI M t c M') : MFr M M' := ⟨fun c hc => h.1 c (by omega) (by omega), by rw [h.1 228 (by decide) (by decide)], by rw [h.1 228 (by decide) (by decide)], by rw [h.1 228 (by decide) (by decide)]⟩
theorem c_thinned {t s a : Int} {K1 : Int → gMem → Prop} {M : gMem} (h : Inv t M) (ha : gR a) (hK : ∀ r M1, Ag t (wX10_thinned 228 s a) r M1 → K1 r M1) : wX9_thinned 0 s a K1 M := by
  unfold wX9_thinned
  simp only [Int.reduceAdd]
  have hn := h.1.1
  have bad : ¬ (1 ≤ s ∧ s ≤ 9) → K1 (-3) M := by
    intro b
    refine hK _ _ (fun K2 hk => ?_)
    unfold wX10_thinned
    exact p_inI (fun p => absurd p b) (fun _ => ⟨fun e => absurd rfl e, fun _ => hk M h.later⟩)
  refine gK0_r ⟨fun q => bad (by omega), fun q => ⟨fun q2 => ?_, fun q2 => bad (by omega)⟩⟩
  have hs : 1 ≤ s ∧ s ≤ 9 := by omega
  refine p_cellOfLink h.1 (fun k hk1 => ?_)
  have go : (a ≠ -1 → k ≠ -1) → wX8_follow 209 1 s (fun (M11 : gMem) => (¬ a = (-1) → ((0 : Int) ≤ k ∧ (0 : Int) < 12) ∧ (((0 : Int) ≤ k ∧ (0 : Int) < 12) ∧ (wX8_takes 209 (k / 12) (k % 12) (fun (r14 : Int) (M13 : gMem) => gK1 (fun P17 => (r14 = 0 → P17 0 M13) ∧ (¬ r14 = 0 → P17 1 M13)) (fun (x15 : Int) (M16 : gMem) => K1 x15 M16)) M11))) ∧ (a = (-1) → K1 (M11 209 0) M11)) M := by
    intro hak
    refine p_follow2 h.1 h.2.2 hs (fun M1 f1 o1 e2 e3 => ?_)
    have h1 := h.th f1 o1 e2 e3
    have A1 := TF.aside f1
    have eN : nN M1 = nN M := A1.2.2.2.1
    have e9 : M1 229 = M 229 := f1 229 (by omega)
    have hk0 : a ≠ -1 → 0 ≤ k ∧ k < 144 ∧ lk (M 229) k = true := by
      intro c
      rcases hk1 with ⟨e, _⟩ | ⟨k0, k1, a0, kl, kc⟩
      · exact absurd e (hak c)
      · exact ⟨k0, k1, kl⟩
    have ref : ∀ r, (a = -1 → r = M1 209 0) → (a ≠ -1 → (r = 0 ∧ tb M1 (k / 12) (k % 12) = 0) ∨ (r = 1 ∧ tb M1 (k / 12) (k % 12) = 1)) → K1 r M1 := by
      intro r r0 r1
      refine hK _ _ (fun K2 hk => ?_)
      unfold wX10_thinned
      simp only [Int.reduceAdd]
      have rest : ∀ x, (a = -1 → x = 0) → (a ≠ -1 → x = k) → (0 ≤ x → wX10_thins 228 s (fun (M9 : gMem) => (a = (-1) → gL2 (fun rec14 (v11 : Int) (v12 : Int) (M13 : gMem) => (144 ≤ v12 → ((0 : Int) ≤ v11 ∧ (0 : Int) < 2) ∧ (K2 (v11 / 2) M13)) ∧ (¬ (144 : Int) ≤ v12 → ((0 : Int) ≤ v12 ∧ v12 < 144) ∧ (gK1 (fun P18 => ((M13 237 v12) = 0 → P18 0 M13) ∧ (¬ (M13 237 v12) = 0 → P18 1 M13)) (fun (x16 : Int) (M17 : gMem) => gR (v11 + x16) ∧ (∀ v20 : Int, v20 = (v11 + x16) → (gR (v12 + 1) ∧ (rec14 v20 (v12 + 1) M17))))))) 0 0 M9) ∧ (¬ a = (-1) → ((0 : Int) ≤ x ∧ x < 144) ∧ (gK1 (fun P24 => ((M9 237 x) = 0 → P24 0 M9) ∧ (¬ (M9 237 x) = 0 → P24 1 M9)) (fun (x22 : Int) (M23 : gMem) => K2 x22 M23)))) M1) ∧ (¬ (0 : Int) ≤ x → K2 (-2) M1) := by
        intro x x0 x1
        refine ⟨fun _ => p_thins h1.1 hs (fun M2 T2 => ?_), fun e => ?_⟩
        · have h2 := (h1.mfr T2.mfr).later
          have same := fun k k0 k1 => thin_same h1.1 o1 Aside.rf T2 k k0 k1
          refine ⟨fun c => ?_, fun c => ?_⟩
          · have hcn : cnt (fun k => decide (M2 237 k ≠ 0)) 144 = 2 * M1 209 0 := by
              rw [o1.2.2.2.2.2]
              refine cnt_cong 144 (fun i hi => ?_)
              have := same (i : Int) (by omega) (by omega)
              have b := (T2.2.2 (i : Int) (by omega) (by omega)).1
              unfold tbk
              by_cases g : M2 237 (i : Int) = 1
              · rw [decide_eq_true (show M2 237 (i : Int) ≠ 0 by omega), decide_eq_true (this.2 g)]
              · rw [decide_eq_false (show ¬ M2 237 (i : Int) ≠ 0 by omega), decide_eq_false (fun q => g (this.1 q))]
            refine ⟨fun f v M' => M' = M2 ∧ 0 ≤ v ∧ v ≤ 144 ∧ f = cnt (fun k => decide (M2 237 k ≠ 0)) v.toNat, fun f v _ => 144 - v, ⟨rfl, by omega, by omega, rfl⟩, ?_⟩
            intro f v M3 ⟨e3, v0, v1, hf⟩
            subst e3
            dsimp only
            have hs := cnt_sI (fun k => decide (M3 237 k ≠ 0)) v v0
            have hb := cnt_bI (fun k => decide (M3 237 k ≠ 0)) v v0
            rw [← hf] at hs hb
            refine ⟨by omega, fun q => ⟨⟨by omega, by omega⟩, ?_⟩, fun q => ⟨⟨by omega, by omega⟩, ?_⟩⟩
            · have e : f = 2 * M1 209 0 := by rw [hf, show v = 144 by omega]; exact hcn
              rw [e, show 2 * M1 209 0 / 2 = M1 209 0 by omega, ← r0 c]
              exact hk M3 h2
            · refine gK1_r ⟨fun b => ⟨⟨by omega, by omega⟩, fun x ex => ⟨⟨by omega, by omega⟩, ⟨rfl, by omega, by omega, ?_⟩, by omega⟩⟩, fun b => ⟨⟨by omega, by omega⟩, fun x ex => ⟨⟨by omega, by omega⟩, ⟨rfl, by omega, by omega, ?_⟩, by omega⟩⟩⟩
              · rw [hs, if_neg (by simp only [decide_eq_true_eq]; omega)]; omega
              · rw [hs, if_pos (by simp only [decide_eq_true_eq]; omega)]; omega
          · have hk2 := hk0 c
            have ex := x1 c
            have sm := same k hk2.1 hk2.2.1
            have b := (T2.2.2 k hk2.1 hk2.2.1).1
            rw [ex]
            refine ⟨⟨by omega, by omega⟩, gK1_r ⟨fun d => ?_, fun d => ?_⟩⟩
            · rcases r1 c with g | g
              · rw [← g.1]; exact hk M2 h2
              · exact absurd (sm.1 g.2) (by omega)
            · rcases r1 c with g | g
              · have := sm.2 (by omega); omega
              · rw [← g.1]; exact hk M2 h2
        · by_cases c : a = -1
          · exact absurd e (by have := x0 c; omega)
          · exact absurd e (by have := x1 c; have := hk0 c; omega)
      refine p_inI (fun _ => ⟨fun _ => gK1_r ⟨fun c => p_pairOf ha (fun k' hk2 => ?_), fun c => rest 0 (fun _ => rfl) (fun d => absurd c d)⟩, fun e => absurd e (by decide)⟩) (fun p => absurd hs p)
      rw [e9] at hk2
      have e := hk1.uniq hk2
      exact rest k' (fun d => absurd d c) (fun _ => e.symm)
    refine ⟨fun c => ?_, fun c => ref _ (fun _ => rfl) (fun d => absurd c d)⟩
    have hk2 := hk0 c
    have lk' := lk_iff.1 hk2.2.2
    have hb := (h.1.row k hk2.1 hk2.2.1).2.2.1 lk'.2
    refine ⟨⟨by omega, by omega⟩, ⟨by omega, by omega⟩, p_takes2 (n := nN M) hn.2 (by omega) (by omega) o1.2.2.2.1 (fun d => ?_) (fun d => ?_)⟩
    · exact gK1_r ⟨fun e => absurd e (by decide), fun _ => ref 1 (fun e => absurd e c) (fun _ => Or.inr ⟨rfl, d⟩)⟩
    · exact gK1_r ⟨fun _ => ref 0 (fun e => absurd e c) (fun _ => Or.inl ⟨rfl, d⟩), fun e => absurd rfl e⟩
  refine gK0_r ⟨fun c => go (fun d => absurd c d), fun c => ⟨fun d => go (fun _ => d), fun d => hK _ _ (fun K2 hk => ?_)⟩⟩
  unfold wX10_thinned
  simp only [Int.reduceAdd]
  refine p_inI (fun _ => ⟨fun _ => gK1_r ⟨fun c => p_pairOf ha (fun k' hk2 => ?_), fun e => absurd e c⟩, fun e => absurd e (by decide)⟩) (fun p => absurd hs p)
  have e := hk1.uniq hk2
  rw [← e, d]
  exact ⟨fun e => absurd e (by decide), fun _ => hk M h.later⟩
