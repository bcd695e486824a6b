/-! CALLS, 11: least terms; worst -/
theorem gcd_st {m l : Int} (hm : 0 ≤ m) (hl : 0 ≤ l) : Nat.gcd l.toNat (m % l).toNat = Nat.gcd m.toNat l.toNat := by
  obtain ⟨x, rfl⟩ := Int.eq_ofNat_of_zero_le hm
  obtain ⟨y, rfl⟩ := Int.eq_ofNat_of_zero_le hl
  have e : ((x : Int) % (y : Int)) = ((x % y : Nat) : Int) := rfl
  rw [e, Int.toNat_natCast, Int.toNat_natCast, Int.toNat_natCast, Nat.gcd_comm y, ← Nat.gcd_rec, Nat.gcd_comm]
theorem p_divisor {a b : Int} {K : Int → gMem → Prop} {M : gMem} (ha : 0 ≤ a) (hb : 0 ≤ b) (hK : K ((Nat.gcd a.toNat b.toNat : Nat) : Int) M) : wX10_divisor a b K M := by
  unfold wX10_divisor
  refine ⟨fun m l M' => M' = M ∧ 0 ≤ m ∧ 0 ≤ l ∧ Nat.gcd m.toNat l.toNat = Nat.gcd a.toNat b.toNat, fun m l _ => l, ⟨rfl, ha, hb, rfl⟩, ?_⟩
  intro m l M1 ⟨e1, m0, l0, hg⟩
  subst e1
  dsimp only
  refine ⟨l0, fun q => ?_, fun q => ⟨⟨by omega, by omega⟩, fun x ex => ⟨⟨rfl, l0, ?_, ?_⟩, ?_⟩⟩⟩
  · rw [← hg, q, show (0 : Int).toNat = 0 from rfl, Nat.gcd_zero_right, show ((m.toNat : Nat) : Int) = m by omega] at hK
    exact hK
  · rw [ex]; exact Int.emod_nonneg m q
  · rw [ex, gcd_st m0 l0]; exact hg
  · rw [ex]; exact Int.emod_lt_of_pos m (by omega)
theorem pw_s (k : Nat) : ((2 ^ (k + 1) : Nat) : Int) = 2 * ((2 ^ k : Nat) : Int) := by rw [Nat.pow_succ]; omega
theorem emod_half {m l : Int} (h0 : 0 < l) (h1 : l < m) : 0 ≤ m % l ∧ m % l < l ∧ m % l + l ≤ m := by
  have a := Int.emod_nonneg m (show l ≠ 0 by omega)
  have b := Int.emod_lt_of_pos m h0
  have c := Int.emod_add_mul_ediv m l
  have d : 1 ≤ m / l := by
    have := Int.le_ediv_of_mul_le (a := 1) (b := m) (c := l) h0 (by omega)
    exact this
  have e : l * 1 ≤ l * (m / l) := Int.mul_le_mul_of_nonneg_left d (by omega)
  omega
theorem p_commonPart {a b : Int} {K : Int → gMem → Prop} {M : gMem} (ha : 0 ≤ a) (hb : 0 ≤ b ∧ b < 2048) (hK : K ((Nat.gcd a.toNat b.toNat : Nat) : Int) M) : wX9_commonPart a b K M := by
  unfold wX9_commonPart
  refine ⟨fun m l s M' => M' = M ∧ 0 ≤ m ∧ 0 ≤ l ∧ 0 ≤ s ∧ s ≤ 64 ∧ Nat.gcd m.toNat l.toNat = Nat.gcd a.toNat b.toNat ∧ ∃ k : Nat, (s + 2 * (k : Int) ≤ 64 ∧ l < ((2 ^ k : Nat) : Int)) ∨ (s + 2 * (k : Int) + 1 ≤ 64 ∧ l < m ∧ m < 2 * ((2 ^ k : Nat) : Int)), fun m l s _ => 64 - s, ⟨rfl, ha, hb.1, by omega, by omega, rfl, 11, Or.inl ⟨by omega, hb.2⟩⟩, ?_⟩
  intro m l s M1 ⟨e1, m0, l0, s0, s1, hg, k, hk⟩
  subst e1
  dsimp only
  have done : l = 0 → K m M1 := by
    intro q
    rw [← hg, q, show (0 : Int).toNat = 0 from rfl, Nat.gcd_zero_right, show ((m.toNat : Nat) : Int) = m by omega] at hK
    exact hK
  refine ⟨by omega, gK0_r ⟨fun q => done ?_, fun q => ⟨fun q2 => done q2, fun q2 => ⟨⟨by omega, by omega⟩, fun x ex => ⟨⟨by omega, by omega⟩, ⟨rfl, l0, ?_, by omega, by omega, ?_, ?_⟩, by omega⟩⟩⟩⟩⟩
  · rcases hk with hk | hk
    · have : k = 0 := by omega
      subst this
      have : ((2 ^ 0 : Nat) : Int) = 1 := rfl
      omega
    · omega
  · rw [ex]; exact Int.emod_nonneg m q2
  · rw [ex, gcd_st m0 l0]; exact hg
  · have b := Int.emod_lt_of_pos m (show 0 < l by omega)
    rcases hk with hk | hk
    · cases k with
      | zero =>
        have : ((2 ^ 0 : Nat) : Int) = 1 := rfl
        omega
      | succ k =>
        rw [pw_s] at hk
        exact ⟨k, Or.inr ⟨by omega, by omega, by omega⟩⟩
    · have := emod_half (show 0 < l by omega) hk.2.1
      exact ⟨k, Or.inl ⟨by omega, by omega⟩⟩
theorem c_worst {t s w : Int} {K1 : Int → gMem → Prop} {M : gMem} (h : Inv t M) (hK : ∀ r M1, Ag t (wX10_worst 228 s w) r M1 → K1 r M1) : wX9_worst 0 s w K1 M := by
  unfold wX9_worst
  simp only [Int.reduceAdd]
  have hn := h.1.1
  have bad : ¬ ((1 ≤ s ∧ s ≤ 9) ∧ 0 ≤ w ∧ w ≤ 1) → K1 (-3) M := by
    intro b
    refine hK _ _ (fun K2 hk => ?_)
    unfold wX10_worst
    exact p_inI (fun p => gK0_r ⟨fun e => absurd e (by decide), fun _ => p_inI (fun p2 => absurd ⟨p, p2⟩ b) (fun _ => ⟨fun e => absurd rfl e, fun _ => hk M h.later⟩)⟩) (fun _ => gK0_r ⟨fun _ => hk M h.later, fun e => absurd rfl e⟩)
  refine gK0_r ⟨fun q => bad (by omega), fun q => ⟨fun q2 => bad (by omega), fun q2 => ⟨fun q3 => bad (by omega), fun q3 => ⟨fun q4 => ?_, fun q4 => bad (by omega)⟩⟩⟩⟩
  have hs : 1 ≤ s ∧ s ≤ 9 := by omega
  refine p_weighThinned h hs (fun Mb M1 hb eNb Fb Tb O1 P1 => ?_)
  have h1 := hb.t227 O1
  have A1 := O1.aside227
  have H := ok_bd hb.1 Fb Tb
  have B := pk_b (Or.inl rfl) H 144 (by omega)
  have eN1 : nN M1 = nN Mb := A1.2.2.2.1
  generalize hS : pkS (okW Mb) (tA Mb) (tB Mb) 0 144 = S at P1 B
  have ref : ∀ r, r = (if S.1 = 0 then -1 else if w = 0 then S.2.1 / ((Nat.gcd S.2.1.toNat S.2.2.1.toNat : Nat) : Int) else S.2.2.1 / ((Nat.gcd S.2.1.toNat S.2.2.1.toNat : Nat) : Int)) → K1 r M1 := by
    intro r er
    refine hK _ _ (fun K2 hk => ?_)
    unfold wX10_worst
    simp only [Int.reduceAdd]
    refine p_inI (fun p => gK0_r ⟨fun e => absurd e (by decide), fun _ => p_inI (fun p2 => ⟨fun _ => ?_, fun e => absurd e (by decide)⟩) (fun p2 => absurd (show _ by omega) p2)⟩) (fun p => absurd hs p)
    refine p_finds0 h1.1 (fun M2 o2 F2 => ?_)
    have m2 := o2.mfr (by omega)
    refine ⟨fun k M' => 0 ≤ k ∧ k ≤ 144 ∧ Only 238 M2 M' ∧ ∀ j, 0 ≤ j → j < k → M' 238 j = M2 236 j, fun k _ => 144 - k, ⟨by omega, by omega, fun _ _ => rfl, fun j a b => by omega⟩, ?_⟩
    intro k M3 ⟨k0, k1, o3, w3⟩
    dsimp only
    refine ⟨by omega, fun q => ?_, fun q => ⟨⟨by omega, by omega⟩, ⟨by omega, by omega⟩, fun M4 e4 => ⟨⟨by omega, by omega⟩, ⟨by omega, by omega, fun c hc => by rw [e4, gup_c _ hc, o3 c hc], fun j a b => ?_⟩, by omega⟩⟩⟩
    · have ek : k = 144 := by omega
      subst ek
      have m3 := m2.tr (o3.mfr (by omega))
      have h3 := h1.mfr m3
      refine p_thins h3.1 hs (fun M4 T4 => ?_)
      have m4 := m3.tr T4.mfr
      have h4 := h1.mfr m4
      have eN4 : nN M4 = nN Mb := m4.2.2.1.trans eN1
      have e229 : M4 229 = Mb 229 := by rw [m4.1 229 (by omega), O1 229 (by decide)]
      have eN3 : nN M3 = nN Mb := m3.2.2.1.trans eN1
      have eL3 : mL M3 = mL Mb := by funext a b; unfold mL; rw [m3.1 229 (by omega), O1 229 (by decide)]
      refine p_finds h4.1.1 (fun k a b => by have := h4.1.row k a b; omega) (fun M5 o5 D5 => ?_)
      have m5 := m4.tr (o5.mfr (by omega))
      have h5 := h1.mfr m5
      have w5 : M5 238 = M3 238 := by rw [o5 238 (by decide), T4.1 238 (by decide) (by decide)]
      have eN5 : nN M5 = nN Mb := m5.2.2.1.trans eN1
      -- the reference's values
      have same : ∀ a b, τm (nN Mb) M4 a b ↔ τc (nN Mb) Mb a b := by
        intro a b
        have T := T4.2.1
        rw [eN3, eL3] at T
        exact T.uniq Tb.2.1 hb.1.sym a b
      have D6 : IsD (nN Mb) (LR (mL Mb) (τc (nN Mb) Mb)) 100000 (fun u v => M5 236 (12 * u + v)) := by
        have D5 : IsD (nN M4) (mLb M4 1) 100000 (fun u v => M5 236 (12 * u + v)) := D5
        rw [eN4] at D5
        refine D5.cong (fun u v a b c d => ?_)
        rw [← LR_cong same]
        exact mLb_LR hb.1 e229 u v a b c d
      have val : ∀ u v, 0 ≤ u → u < v → v < nN Mb → (okW Mb (12 * u + v) = true ∧ M5 238 (12 * u + v) < 100000 ∧ M5 238 (12 * u + v) = tB Mb (12 * u + v) ∧ M5 236 (12 * u + v) = tA Mb (12 * u + v)) ∨ (okW Mb (12 * u + v) = false ∧ ¬ M5 238 (12 * u + v) < 100000) := by
        intro u v a b c
        have k1 : (12 * u + v) / 12 = u := by omega
        have k2 : (12 * u + v) % 12 = v := by omega
        have e8 : M5 238 (12 * u + v) = M2 236 (12 * u + v) := by rw [w5]; exact w3 _ (by omega) (by omega)
        have eN2 : nN M2 = nN Mb := m2.2.2.1.trans eN1
        have hv := F2.val (h1.mfr m2).1 (u := u) (v := v) (by omega) (by omega)
        rw [dd_cong (A1.tr m2.aside)] at hv
        rw [e8]
        rcases hv with ⟨va, vb, vc, vd⟩ | ⟨va, vb⟩
        · refine Or.inl ⟨okW_yes ⟨by omega, by omega, by rw [k1, k2]; omega⟩, va, by unfold tB; rw [k1, k2, vb], ?_⟩
          have tf := thin_far hb.1 Fb Tb (u := u) (v := v) (by omega) (by omega) (by omega) (by omega)
          have v6 : (M5 236 (12 * u + v) < 100000 ∧ gdist (nN Mb) (LR (mL Mb) (τc (nN Mb) Mb)) u v = M5 236 (12 * u + v) ∧ 0 ≤ M5 236 (12 * u + v) ∧ M5 236 (12 * u + v) ≤ 1188) ∨ (¬ M5 236 (12 * u + v) < 100000 ∧ gdist (nN Mb) (LR (mL Mb) (τc (nN Mb) Mb)) u v = -1) := D6.val hb.1.1.2 (LR_99 _ hb.1.L99) (by decide) a (by omega) (by omega) c
          unfold tA
          rw [k1, k2]
          omega
        · exact Or.inr ⟨okW_no (fun g => g.2.2 (by rw [k1, k2]; exact vb)), va⟩
      refine ⟨fun ab be u M' => M' = M5 ∧ 0 ≤ u ∧ u ≤ nN Mb ∧ ab = (pkS (okW Mb) (tA Mb) (tB Mb) 0 (12 * u).toNat).2.1 ∧ be = (pkS (okW Mb) (tA Mb) (tB Mb) 0 (12 * u).toNat).2.2.1, fun ab be u _ => nN Mb - u, ⟨rfl, by omega, by have := hb.1.1; omega, rfl, rfl⟩, ?_⟩
      intro ab be u M6 ⟨e6, u0, u1, ha, hbe⟩
      subst e6
      dsimp only
      have hnb := hb.1.1
      have g0 : M6 228 2 = nN Mb := eN5
      rw [g0]
      refine ⟨by omega, fun q => ?_, fun q => ⟨⟨by omega, by omega⟩, fun v0 ev => ?_⟩⟩
      · have eS : pkS (okW Mb) (tA Mb) (tB Mb) 0 (12 * u).toNat = S := by
          rw [← hS, pk_more (12 * u).toNat 144 (by omega) (fun i a b => okW_no (fun c => by omega))]
        rw [eS] at ha hbe
        obtain ⟨b1, b2, b3, b4⟩ := B
        refine ⟨fun c => ?_, fun c => ?_⟩
        · have ne : S.1 ≠ 0 := fun e => by have := b3 e; omega
          have b4 := b4 ne
          rw [if_neg ne] at er
          have gp : 0 < Nat.gcd S.2.1.toNat S.2.2.1.toNat := Nat.gcd_pos_of_pos_left _ (by omega)
          rw [ha, hbe]
          refine p_divisor (by omega) (by omega) (gK1_r ⟨fun d => ⟨⟨by omega, by omega⟩, ?_⟩, fun d => ⟨⟨by omega, by omega⟩, ?_⟩⟩)
          · rw [if_neg d] at er; rw [← er]; exact hk M6 h5.later
          · rw [if_pos d] at er; rw [← er]; exact hk M6 h5.later
        · have ez : S.1 = 0 := by
            by_cases g : S.1 = 0
            · exact g
            · have := b4 g; omega
          rw [if_pos ez] at er
          rw [← er]; exact hk M6 h5.later
      · refine ⟨fun ab be v M' => M' = M6 ∧ u < v ∧ v ≤ nN Mb ∧ ab = (pkS (okW Mb) (tA Mb) (tB Mb) 0 (12 * u + v).toNat).2.1 ∧ be = (pkS (okW Mb) (tA Mb) (tB Mb) 0 (12 * u + v).toNat).2.2.1, fun ab be v _ => nN Mb - v, ⟨rfl, by omega, by omega, ?_, ?_⟩, ?_⟩
        · rw [ha, pk_more (12 * u).toNat (12 * u + v0).toNat (by omega) (fun i a b => okW_no (fun c => by omega))]
        · rw [hbe, pk_more (12 * u).toNat (12 * u + v0).toNat (by omega) (fun i a b => okW_no (fun c => by omega))]
        · intro ab be v M7 ⟨e7, v0', v1, ha, hbe⟩
          subst e7
          dsimp only
          rw [g0]
          have hSt := pk_sI (okW Mb) (tA Mb) (tB Mb) 0 (12 * u + v) (by omega)
          rw [show 12 * u + v + 1 = 12 * u + (v + 1) by omega] at hSt
          have Bk := (pk_b (Or.inl rfl) H (12 * u + v).toNat (by omega)).up (k' := 144) (by omega)
          generalize hs : pkS (okW Mb) (tA Mb) (tB Mb) 0 (12 * u + v).toNat = s at hSt Bk ha hbe
          refine ⟨by omega, fun q2 => ⟨⟨by omega, by omega⟩, ⟨rfl, by omega, by omega, ?_, ?_⟩, by omega⟩, fun q2 => ⟨⟨by omega, by omega⟩, ⟨by omega, by omega⟩, fun k ek => ⟨⟨by omega, by omega⟩, ?_⟩⟩⟩
          · rw [pk_more (12 * u + v).toNat (12 * (u + 1)).toNat (by omega) (fun i a b => okW_no (fun c => by omega)), hs]
            exact ha
          · rw [pk_more (12 * u + v).toNat (12 * (u + 1)).toNat (by omega) (fun i a b => okW_no (fun c => by omega)), hs]
            exact hbe
          · subst ek
            rcases val u v u0 v0' (by omega) with ⟨oy, va, vb, vc⟩ | ⟨on, va⟩
            · rw [if_pos oy] at hSt
              have Hk := H _ (by omega) (by omega) oy
              have bb : (0 ≤ s.2.1 ∧ s.2.1 ≤ 2400) ∧ 1 ≤ s.2.2.1 ∧ s.2.2.1 ≤ 1200 := by
                obtain ⟨b1, b2, b3, b4⟩ := Bk
                by_cases g : s.1 = 0
                · have := b3 g; omega
                · have := b4 g; omega
              subst ha
              subst hbe
              rw [vb, vc]
              have n1 := mul_b (a := tA Mb (12 * u + v)) (b := s.2.2.1) (by omega) (by omega)
              have n2 := mul_b (a := s.2.1) (b := tB Mb (12 * u + v)) (by omega) (by omega)
              refine gK2_r ⟨fun c => by omega, fun c => ⟨⟨by omega, by omega⟩, ⟨by omega, by omega⟩, ⟨by omega, by omega⟩, ⟨by omega, by omega⟩, fun d => ⟨⟨by omega, by omega⟩, ⟨rfl, by omega, by omega, ?_, ?_⟩, by omega⟩, fun d => ⟨⟨by omega, by omega⟩, fun x ex => ⟨⟨by omega, by omega⟩, fun y ey => ⟨⟨by omega, by omega⟩, ⟨rfl, by omega, by omega, ?_, ?_⟩, by omega⟩⟩⟩⟩⟩
              · rw [hSt]; unfold pk1; rw [if_neg (by omega)]
              · rw [hSt]; unfold pk1; rw [if_neg (by omega)]
              · rw [hSt]; unfold pk1; rw [if_pos (by omega)]; exact ex
              · rw [hSt]; unfold pk1; rw [if_pos (by omega)]; exact ey
            · rw [if_neg (by rw [on]; decide)] at hSt
              refine gK2_r ⟨fun c => ⟨⟨by omega, by omega⟩, ⟨rfl, by omega, by omega, by rw [hSt]; exact ha, by rw [hSt]; exact hbe⟩, by omega⟩, fun c => by omega⟩
    · by_cases g : j = k
      · rw [g, e4, gup_s]
        rw [o3 236 (by decide)]
      · rw [e4, gup_k _ g]; exact w3 j a (by omega)
  refine ⟨fun c => ?_, fun c => ref _ ?_⟩
  · have ne : S.1 ≠ 0 := by rw [← P1.1]; exact c
    have p := P1.2 ne
    have b4 := B.2.2.2 ne
    rw [p.1, p.2.1]
    have gp : 0 < Nat.gcd S.2.1.toNat S.2.2.1.toNat := Nat.gcd_pos_of_pos_left _ (by omega)
    refine p_commonPart (by omega) (by omega) ⟨fun d => gK1_r ⟨fun e => ⟨?_, ref _ ?_⟩, fun e => ⟨?_, ref _ ?_⟩⟩, fun d => absurd d (by omega)⟩
    · rw [p.2.1]; exact ⟨by omega, by omega⟩
    · rw [p.2.1, if_neg ne, if_neg e]
    · rw [p.1]; exact ⟨by omega, by omega⟩
    · rw [p.1, if_neg ne, if_pos e]
  · rw [if_pos (by rw [← P1.1]; exact c)]
