/-! ACTS, 5: thin -/
theorem thin_sameB {s t : Int} {M M1 M2 : gMem} (h : InvB s M) (h1 : ThinOK t M1) (eN : nN M1 = nN M) (eL : mL M1 = mL M) (h2 : TI M t 14400 M2) (k : Int) (k0 : 0 ≤ k) (k1 : k < 144) : tb M1 (k / 12) (k % 12) = 1 ↔ M2 237 k = 1 := by
  have hn := h.1
  unfold ThinOK at h1
  rw [eN, eL] at h1
  have hu := h1.2.1.uniq h2.2.1 h.sym (k / 12) (k % 12)
  unfold τc τm at hu
  rw [show 12 * (k / 12) + k % 12 = k by omega] at hu
  have hb := h2.2.2 k k0 k1
  refine ⟨fun q => ?_, fun q => ?_⟩
  · have := h1.2.2.2.2.1 _ _ (by omega) (by omega) (by omega) (by omega) q
    have := (hu.1 ⟨⟨by omega, by omega⟩, ⟨by omega, by omega⟩, q⟩).2.2
    omega
  · have := hb.2 (by omega)
    exact (hu.2 ⟨⟨by omega, by omega⟩, ⟨by omega, by omega⟩, by omega⟩).2.2
theorem tb_sym {t : Int} {M : gMem} (h : ThinOK t M) {u v : Int} (hu : 0 ≤ u ∧ u < 12) (hv : 0 ≤ v ∧ v < 12) (q : tb M u v = 1) : tb M v u = 1 := by
  have b := h.2.2.2.2.1 u v hu.1 hu.2 hv.1 hv.2 q
  exact (h.2.1.1 u v ⟨⟨hu.1, b.1⟩, ⟨hv.1, b.2⟩, q⟩).2.2
/-- links that have gone, of those ahead of p -/
def thD (M : gMem) (p k : Int) : Prop := (k / 12 < nN M ∧ k % 12 < nN M ∧ tb M (k / 12) (k % 12) ≠ 1) ∧ ((k / 12 < k % 12 ∧ k < p) ∨ (k % 12 < k / 12 ∧ 12 * (k % 12) + k / 12 < p))
def ThS (M : gMem) (p : Int) (M' : gMem) : Prop :=
  (∀ x, x ≠ 1 → x ≠ 2 → M' x = M x) ∧ (∀ k, k ≠ 1 → k ≠ 3 → M' 1 k = M 1 k) ∧ (∀ k, 0 ≤ k → k < 144 → thD M p k → M' 2 k = 0) ∧ (∀ k, 0 ≤ k → k < 144 → ¬ thD M p k → M' 2 k = M 2 k) ∧ 2 * M' 1 1 = cnt (fun k => decide (0 < M' 2 k)) 144 ∧ M 1 3 ≤ M' 1 3 ∧ M' 1 3 ≤ M 1 3 + p ∧ (M' 1 3 = M 1 3 → ∀ k, 0 ≤ k → k < 144 → M' 2 k = M 2 k)
theorem ThS.skip {M M' : gMem} {p p' : Int} (h : ThS M p M') (hp : p ≤ p') (hno : ∀ k, 0 ≤ k → k < 144 → (thD M p' k ↔ thD M p k)) : ThS M p' M' := by
  obtain ⟨a, b, c, d, e, f, g, i⟩ := h
  exact ⟨a, b, fun k x y z => c k x y ((hno k x y).1 z), fun k x y z => d k x y (fun w => z ((hno k x y).2 w)), e, f, by omega, i⟩
theorem c_thin {t s : Int} {K1 : Int → gMem → Prop} {M : gMem} (h : Inv t M) (ht : 0 ≤ t ∧ t ≤ 512) (hK : ∀ r M1, Ag t (wX10_thin 228 s) r M1 → K1 r M1) : wX9_thin 0 s K1 M := by
  unfold wX9_thin
  simp only [Int.reduceAdd]
  have hn := h.1.1
  have e0 : M 1 0 = nN M := h.1.2.1.1
  have bad : ¬ (1 ≤ s ∧ s ≤ 9) → K1 (-3) M := by
    intro b
    refine hK _ _ (fun K2 hk => ?_)
    unfold wX10_thin
    exact p_inI (fun p => absurd p b) (fun _ => ⟨fun e => absurd rfl e, fun _ => hk M h.later⟩)
  refine gK0_r ⟨fun a => bad (by omega), fun a => ⟨fun b => p_push h.1 ht (fun M1 P1 => ?_), fun b => bad (by omega)⟩⟩
  have hs : 1 ≤ s ∧ s ≤ 9 := by omega
  have n9 := fun c hc => P1.n9 h.1 c hc
  have eN1 : nN M1 = nN M := by unfold nN; rw [n9 228 (by omega)]
  have ver := h.1.2.2.2.2.2.2.1.1
  have C1 : InvC t M1 := ⟨by rw [eN1]; exact hn, h.1.2.1.stay (by rw [n9 228 (by omega)]) (fun x p q => n9 x (by omega)) (fun k p q => by rw [n9 229 (by omega)]), trivial⟩
  have T1 : ThinInv M1 := h.2.2.cong hn.2 (by rw [n9 1 (by omega)]) (fun c p q => n9 c (by omega)) (by rw [n9 228 (by omega)]) (n9 229 (by omega))
  refine p_follow2C C1 T1 hs (fun M2 f2 o2 e2 e3 => ?_)
  have C2 : InvC t M2 := C1.cong (TF.aside f2)
  have f2' : ∀ c, c < 9 ∨ (35 ≤ c ∧ c < 209) ∨ 226 ≤ c → M2 c = M c := fun c hc => by rw [f2 c (by omega), n9 c (by omega)]
  have eN2 : nN M2 = nN M := by unfold nN; rw [f2' 228 (by omega)]
  have e20 : M2 1 0 = nN M := by rw [f2' 1 (by omega)]; exact e0
  have v2 : M2 1 3 = M 1 3 := by rw [f2' 1 (by omega)]
  have L2 : ∀ u v, 0 ≤ u → u < 12 → 0 ≤ v → v < 12 → M2 2 (12 * u + v) = M2 229 (12 * u + v) := fun u v p q r s => C2.cLe u v p q r s
  have sy2 : ∀ u v, 0 ≤ u → u < 12 → 0 ≤ v → v < 12 → M2 2 (12 * u + v) = M2 2 (12 * v + u) := fun u v p q r s => by
    rw [L2 u v p q r s, L2 v u r s p q]
    exact (C2.L u v p q r s).2.2.1
  have cn2 : 2 * M2 1 1 = cnt (fun k => decide (0 < M2 2 k)) 144 := by
    have := C2.2.1.2.2.2.2.1
    rw [this]
    exact cnt_cong 144 (fun k hk => by
      have := C2.2.1.2.1 (k : Int) (by omega) (by omega)
      rw [← this]
      rfl)
  have st0 : ThS M2 0 M2 := ⟨fun _ _ _ => rfl, fun _ _ _ => rfl, fun k p q r => by unfold thD at r; omega, fun _ _ _ _ => rfl, cn2, by omega, by omega, fun _ _ _ _ => rfl⟩
  have row2 : ∀ k, 0 ≤ k → k < 144 → M2 2 k = M 229 k := fun k p q => by
    have := L2 (k / 12) (k % 12) (by omega) (by omega) (by omega) (by omega)
    rw [show 12 * (k / 12) + k % 12 = k by omega, f2' 229 (by omega)] at this
    exact this
  refine ⟨fun u M' => 0 ≤ u ∧ u ≤ nN M ∧ ThS M2 (12 * u) M', fun u _ => nN M - u, ⟨by omega, by omega, st0⟩, ?_⟩
  intro u M3 ⟨u0, u1, S3⟩
  dsimp only
  have g30 : M3 1 0 = nN M := by rw [S3.2.1 0 (by decide) (by decide)]; exact e20
  rw [g30]
  refine ⟨by omega, fun q => ?_, fun q => ⟨⟨by omega, by omega⟩, fun v0 ev => ?_⟩⟩
  · have S3 := S3.skip (p' := 144) (by omega) (fun k p r => by unfold thD; rw [eN2]; omega)
    obtain ⟨a1, a2, a3, a4, a5, a6, a7, a8⟩ := S3
    refine hK _ _ (fun K2 hk => ?_)
    have c3 : ∀ c, c ≠ 1 → c ≠ 2 → c < 9 ∨ (35 ≤ c ∧ c < 209) ∨ 226 ≤ c → M3 c = M c := fun c p q r => by rw [a1 c p q, f2' c r]
    have rs3 : RS M M3 := ⟨by rw [c3 228 (by decide) (by decide) (by omega)], c3 229 (by decide) (by decide) (by omega)⟩
    have eN3 : nN M3 = nN M := rs3.1
    have B3 : InvB t M3 := h.1.b.rs rs3
    unfold wX10_thin
    simp only [Int.reduceAdd]
    refine p_inI (fun _ => ⟨fun _ => p_thinsB B3 hs (fun M4 T4 => ?_), fun e => absurd e (by decide)⟩) (fun p => absurd hs p)
    have same := fun k k0 k1 => thin_sameB B3 o2 (by rw [eN2, eN3]) (by funext x y; unfold mL; rw [f2' 229 (by omega), rs3.2]) T4 k k0 k1
    have e428 : M4 228 = M3 228 := T4.1 228 (by decide) (by decide)
    have e429 : M4 229 = M 229 := by rw [T4.1 229 (by decide) (by decide)]; exact rs3.2
    have e4281 : M4 228 1 = M 228 1 := by rw [e428, c3 228 (by decide) (by decide) (by omega)]
    refine p_keepPast (by rw [e4281]; exact h.1.und) (fun sh M5 m5 => ?_)
    have e537 : M5 237 = M4 237 := m5.2.1 237 (by decide) (by decide)
    have r5 : ∀ k, k < 157 ∨ 1413 ≤ k → M5 229 k = M 229 k := fun k hk => by rw [m5.2.2.2.2.1 k hk, e429]
    refine ⟨fun k M' => 0 ≤ k ∧ k ≤ 144 ∧ Only 229 M5 M' ∧ (∀ j, 0 ≤ j → j < k → M' 229 j = if tb M2 (j / 12) (j % 12) = 1 then M 229 j else 0) ∧ (∀ j, k ≤ j → M' 229 j = M5 229 j), fun k _ => 144 - k, ⟨by omega, by omega, Only.rf, fun j p r => by omega, fun _ _ => rfl⟩, ?_⟩
    intro k M6 ⟨k0, k1, o6, r6, r7⟩
    dsimp only
    have e637 : M6 237 = M4 237 := by rw [o6 237 (by decide), e537]
    refine ⟨by omega, fun q2 => ?_, fun q2 => ⟨⟨by omega, by omega⟩, ?_⟩⟩
    · have ek : k = 144 := by omega
      subst ek
      have all : ∀ c, c ≠ 228 → c ≠ 229 → c ≠ 236 → c ≠ 237 → M6 c = M3 c := fun c p q r s => by rw [o6 c q, m5.2.1 c p q, T4.1 c r s]
      have k28 : ∀ j, j ≠ 1 → M6 228 j = M 228 j := fun j hj => by rw [o6 228 (by decide), m5.2.2.1 j hj, e428, c3 228 (by decide) (by decide) (by omega)]
      have m62 : M6 2 = M3 2 := all 2 (by decide) (by decide) (by decide) (by decide)
      have m61 : M6 1 = M3 1 := all 1 (by decide) (by decide) (by decide) (by decide)
      have eq2 : ∀ j, 0 ≤ j → j < 144 → M6 2 j = M6 229 j := fun j p r => by
        rw [m62, r6 j p r]
        have hr := h.1.row j p r
        by_cases g : tb M2 (j / 12) (j % 12) = 1
        · rw [if_pos g, a4 j p r (fun w => w.1.2.2 g), row2 j p r]
        · rw [if_neg g]
          by_cases d : thD M2 144 j
          · exact a3 j p r d
          · rw [a4 j p r d, row2 j p r]
            unfold thD at d
            rw [eN2] at d
            by_cases z : 0 < M 229 j
            · have := hr.2.2.1 z
              omega
            · omega
      have le2 : ∀ j, 0 ≤ j → j < 144 → 0 < M6 229 j → 0 < M 229 j := fun j p r w => by
        rw [r6 j p r] at w
        by_cases g : tb M2 (j / 12) (j % 12) = 1
        · rw [if_pos g] at w; exact w
        · rw [if_neg g] at w; omega
      have cn6 : 2 * M6 1 1 = cnt (fun j => decide (0 < M6 229 j)) 144 := by
        rw [m61, a5]
        exact cnt_cong 144 (fun j hj => by rw [← m62, eq2 (j : Int) (by omega) (by omega)])
      have mono := cnt_mono (p := fun j => decide (0 < M6 229 j)) (q := fun j => decide (0 < M 229 j)) 144 (fun j hj w => by
        have := of_decide_eq_true w
        exact decide_eq_true (le2 (j : Int) (by omega) (by omega) this))
      have cnM := cnt_net h.1
      have f30 : M 1 1 ≤ 30 := h.1.2.1.2.2.2.2.2.1
      have net : NetRel M6 1 0 := by
        obtain ⟨b1, b2, b3, b4, b5, b6, b7, b8⟩ := h.1.2.1
        have eN6 : nN M6 = nN M := k28 2 (by decide)
        refine ⟨by rw [m61, g30, eN6], fun j p r => by rw [Int.zero_add]; exact eq2 j p r, fun j p r => ?_, ?_, ?_, by omega, fun x y p q r s => ?_, fun x p q => ?_⟩
        · have z : M6 (1 + 2) = M (1 + 2) := by rw [all (1 + 2) (by decide) (by decide) (by decide) (by decide)]; exact c3 3 (by decide) (by decide) (by omega)
          rw [z, show (0 : Int) + 144 + j = 144 + j by omega, r7 _ (by omega), r5 _ (by omega)]
          have := b3 j p r
          rw [show (0 : Int) + 144 + j = 144 + j by omega] at this
          exact this
        · have z : M6 1 2 = M 1 2 := by rw [m61, a2 2 (by decide) (by decide), f2' 1 (by omega)]
          rw [z, show (0 : Int) + 156 = 156 by omega, r7 156 (by omega), r5 156 (by omega)]
          exact b4
        · rw [cn6]
          exact cnt_cong 144 (fun j hj => by rw [Int.zero_add])
        · dsimp only
          have L := h.1.L x y p q r s
          unfold mL at L
          rw [Int.zero_add, Int.zero_add, r6 _ (by omega) (by omega), r6 _ (by omega) (by omega), show (12 * x + y) / 12 = x by omega, show (12 * x + y) % 12 = y by omega, show (12 * y + x) / 12 = y by omega, show (12 * y + x) % 12 = x by omega, eN6]
          by_cases g : tb M2 x y = 1
          · rw [if_pos g, if_pos (tb_sym o2 ⟨p, q⟩ ⟨r, s⟩ g)]; exact L
          · rw [if_neg g, if_neg (fun w => g (tb_sym o2 ⟨r, s⟩ ⟨p, q⟩ w))]
            exact ⟨by omega, by omega, rfl, fun _ => rfl, fun _ => rfl⟩
        · have := b8 x p q
          rw [show (0 : Int) + 144 + x = 144 + x by omega] at this ⊢
          rw [r7 _ (by omega), r5 _ (by omega), eN6]
          exact this
      have past : PastRel M6 := past_push h.1 P1 m5 e4281 e429 (k28 2 (by decide)) (fun x p q => by rw [all x (by omega) (by omega) (by omega) (by omega), a1 x (by omega) (by omega), f2 x (by omega)]) (by rw [o6 228 (by decide)]) (fun j p q => r7 j (by omega))
      have rest : ∀ c, (3 ≤ c ∧ c < 9) ∨ (35 ≤ c ∧ c < 209) ∨ (226 ≤ c ∧ c < 228) ∨ (230 ≤ c ∧ c < 236) → M6 c = M c := fun c hc => by rw [all c (by omega) (by omega) (by omega) (by omega), c3 c (by omega) (by omega) (by omega)]
      have th6 : ∀ c, 209 ≤ c → c < 226 → M6 c = M2 c := fun c p q => by rw [all c (by omega) (by omega) (by omega) (by omega), a1 c (by omega) (by omega)]
      have c13 : M6 1 3 = M3 1 3 := by rw [m61]
      have I6 : InvA (t + 1) M6 := h.1.act (k28 2 (by decide)) net past (fun c hc => rest c (by omega)) (k28 6 (by decide)) (fun j p q => by rw [r7 j (by omega), r5 j (by omega)]) (ver_act h.1.2.2.2.2.2.2.1 (by omega) (by rw [rest 4 (by omega)]) (fun i p q => by rw [all _ (by omega) (by omega) (by omega) (by omega), a1 _ (by omega) (by omega), f2 _ (by omega)]; exact P1.ring i p q) (fun c p q => rest c (by omega)))
      have n26 : M6 209 2 = M 1 3 := by rw [th6 209 (by omega) (by omega), e2, n9 1 (by omega)]
      have n36 : M6 209 3 = s := by rw [th6 209 (by omega) (by omega), e3]
      refine p_links I6 ?_
      rw [m61]
      refine hk M6 ⟨I6, ?_, ?_⟩
      · by_cases g : M3 1 3 = M2 1 3
        · have same2 := a8 g
          exact h.2.1.row hn.2 (by omega) (fun c p q => rest c (by omega)) (k28 2 (by decide)) (fun j p q => by rw [← eq2 j p q, m62, same2 j p q, row2 j p q])
        · exact h.2.1.stale (by rw [rest 195 (by omega)]) (by omega)
      · refine ⟨by omega, by omega, fun q3 => ?_⟩
        have g : M3 1 3 = M2 1 3 := by omega
        have same2 := a8 g
        rw [n36]
        exact o2.row (by omega) th6 (by rw [k28 2 (by decide), f2' 228 (by omega)]) (fun j p q => by rw [← eq2 j p q, m62, same2 j p q, row2 j p q, f2' 229 (by omega)])
    · rw [e637]
      have sm := same k k0 (by omega)
      have bb := (T4.2.2 k k0 (by omega)).1
      have fin : ∀ x, x = (if tb M2 (k / 12) (k % 12) = 1 then M 229 k else 0) → ((0 : Int) ≤ k ∧ k < 1727) ∧ ∀ M16, M16 = gup M6 229 k x → gR (k + 1) ∧ (0 ≤ k + 1 ∧ k + 1 ≤ 144 ∧ Only 229 M5 M16 ∧ (∀ j, 0 ≤ j → j < k + 1 → M16 229 j = if tb M2 (j / 12) (j % 12) = 1 then M 229 j else 0) ∧ (∀ j, k + 1 ≤ j → M16 229 j = M5 229 j)) ∧ 144 - (k + 1) < 144 - k := by
        intro x ex
        refine ⟨⟨by omega, by omega⟩, fun M7 e7 => ⟨⟨by omega, by omega⟩, ⟨by omega, by omega, by rw [e7]; exact o6.up, fun j p r => ?_, fun j p => by rw [e7, gup_k _ (by omega)]; exact r7 j (by omega)⟩, by omega⟩⟩
        by_cases g : j = k
        · rw [g, e7, gup_s, ex]
        · rw [e7, gup_k _ g]; exact r6 j p (by omega)
      refine gK1_r ⟨fun c => fin 0 ?_, fun c => ⟨⟨by omega, by omega⟩, fin _ ?_⟩⟩
      · rw [if_neg (fun w => by have := sm.1 w; omega)]
      · rw [if_pos (sm.2 (by omega)), r7 k (by omega), r5 k (by omega)]
  · refine ⟨fun v M' => u < v ∧ v ≤ nN M ∧ ThS M2 (12 * u + v) M', fun v _ => nN M - v, ⟨by omega, by omega, S3.skip (by omega) (fun k p r => by
      unfold thD
      have a1 : 0 ≤ k / 12 ∧ k / 12 < 12 := by omega
      have a2 : 0 ≤ k % 12 ∧ k % 12 < 12 := by omega
      have a3 : k = 12 * (k / 12) + k % 12 := by omega
      generalize k / 12 = x at a1 a3 ⊢
      generalize k % 12 = y at a2 a3 ⊢
      refine ⟨fun w => ⟨w.1, ?_⟩, fun w => ⟨w.1, by omega⟩⟩
      rcases w.2 with w2 | w2
      · rcases Int.lt_trichotomy x u with z | z | z <;> omega
      · rcases Int.lt_trichotomy y u with z | z | z <;> omega)⟩, ?_⟩
    intro v M4 ⟨v0', v1, S4⟩
    dsimp only
    have g40 : M4 1 0 = nN M := by rw [S4.2.1 0 (by decide) (by decide)]; exact e20
    rw [g40]
    refine ⟨by omega, fun q2 => ⟨⟨by omega, by omega⟩, ⟨by omega, by omega, S4.skip (by omega) (fun k p r => by unfold thD; rw [eN2]; omega)⟩, by omega⟩, fun q2 => ?_⟩
    have e25 : M4 225 = M2 225 := S4.1 225 (by decide) (by decide)
    have etb : tb M4 u v = tb M2 u v := by unfold tb; rw [e25]
    refine p_takes2 (n := nN M) hn.2 (by omega) (by omega) (fun x p q => by rw [e25]; exact o2.2.2.2.1 x p q) (fun c => gK0_r ⟨fun _ => ⟨⟨by omega, by omega⟩, ⟨by omega, by omega, ?_⟩, by omega⟩, fun e => absurd e (by decide)⟩) (fun c => gK0_r ⟨fun e => absurd rfl e, fun _ => ?_⟩)
    · rw [etb] at c
      refine S4.skip (by omega) (fun k p r => ?_)
      have cs := tb_sym o2 (u := u) (v := v) (by omega) (by omega) c
      unfold thD
      by_cases z1 : k = 12 * u + v
      · rw [z1, show (12 * u + v) / 12 = u by omega, show (12 * u + v) % 12 = v by omega]
        exact ⟨fun w => absurd c w.1.2.2, fun w => absurd c w.1.2.2⟩
      · by_cases z2 : k = 12 * v + u
        · rw [z2, show (12 * v + u) / 12 = v by omega, show (12 * v + u) % 12 = u by omega]
          exact ⟨fun w => absurd cs w.1.2.2, fun w => absurd cs w.1.2.2⟩
        · exact ⟨fun w => ⟨w.1, by omega⟩, fun w => ⟨w.1, by omega⟩⟩
    · rw [etb] at c
      have cs : tb M2 v u ≠ 1 := fun w => by have := tb_sym o2 (u := v) (v := u) (by omega) (by omega) w; omega
      obtain ⟨a1, a2, a3, a4, a5, a6, a7, a8⟩ := S4
      have cb := cnt_bI (fun k => decide (0 < M4 2 k)) 144 (by omega)
      have cb2 : cnt (fun k => decide (0 < M4 2 k)) (144 : Int).toNat = cnt (fun k => decide (0 < M4 2 k)) 144 := rfl
      have k1 : (12 * u + v) / 12 = u := by omega
      have k2 : (12 * u + v) % 12 = v := by omega
      have k3 : (12 * v + u) / 12 = v := by omega
      have k4 : (12 * v + u) % 12 = u := by omega
      have n1 : ¬ thD M2 (12 * u + v) (12 * u + v) := by unfold thD; rw [k1, k2]; omega
      have n2 : ¬ thD M2 (12 * u + v) (12 * v + u) := by unfold thD; rw [k3, k4]; omega
      have sy : M4 2 (12 * u + v) = M4 2 (12 * v + u) := by rw [a4 _ (by omega) (by omega) n1, a4 _ (by omega) (by omega) n2]; exact sy2 u v u0 (by omega) (by omega) (by omega)
      refine p_setLength (by omega) (by omega) (by omega) (by omega) (by omega) (by omega) (fun M5 g1 g2 g3 g4 g5 => ⟨⟨by omega, by omega⟩, ⟨by omega, by omega, fun x p r => ?_, fun k p r => ?_, fun k p r w => ?_, fun k p r w => ?_, ?_, by omega, by omega, fun w => by omega⟩, by omega⟩)
      · rw [g1 x p r, a1 x p r]
      · rw [g2 k p r, a2 k p r]
      · have g5 : M5 2 k = if k = 12 * u + v ∨ k = 12 * v + u then 0 else M4 2 k := g5 k
        rw [g5]
        by_cases z : k = 12 * u + v ∨ k = 12 * v + u
        · rw [if_pos z]
        · rw [if_neg z]
          refine a3 k p r ?_
          unfold thD at w ⊢
          exact ⟨w.1, by omega⟩
      · have g5 : M5 2 k = if k = 12 * u + v ∨ k = 12 * v + u then 0 else M4 2 k := g5 k
        rw [g5]
        by_cases z : k = 12 * u + v ∨ k = 12 * v + u
        · refine absurd ?_ w
          unfold thD
          rw [eN2]
          rcases z with z | z
          · rw [z, k1, k2]; omega
          · rw [z, k3, k4]; omega
        · rw [if_neg z]
          refine a4 k p r (fun d => w ?_)
          unfold thD at d ⊢
          exact ⟨d.1, by omega⟩
      · have g3 : M5 1 1 = M4 1 1 - (if 0 < M4 2 (12 * u + v) then 1 else 0) + (if 0 < (0 : Int) then 1 else 0) := g3
        have cs := cnt_set (r := M4 2) (r' := M5 2) (a := 12 * u + v) (b := 12 * v + u) (l := 0) (by omega) (by omega) (by omega) sy (fun k _ _ => g5 k)
        rw [cs, g3, ← a5]
        omega
