/-! CALLS, 13: ways, step by step -/
noncomputable def itn (M : gMem) (w a : Int) : Nat → Int
  | 0 => a
  | k + 1 => nx M (itn M w a k) w
theorem itn_shift (M : gMem) (w a : Int) : ∀ k : Nat, itn M w a (k + 1) = itn M w (nx M a w) k
  | 0 => rfl
  | k + 1 => by
    have := itn_shift M w a k
    show nx M (itn M w a (k + 1)) w = nx M (itn M w (nx M a w) k) w
    rw [this]
def Pth (M : gMem) (a w : Int) (T : Nat) : Prop := itn M w a T = w ∧ ∀ j : Nat, j < T → itn M w a j ≠ w
noncomputable def nnr (M : gMem) (w x : Int) (y : Int) : Bool := decide (dd M y w ≠ -1 ∧ dd M y w < dd M x w)
theorem itn_ok {t : Int} {M : gMem} (h : InvA t M) (hF : FarOK M) {a w : Int} (ha : 0 ≤ a ∧ a < nN M) (hw : 0 ≤ w ∧ w < nN M) (hd : dd M a w ≠ -1) : ∀ j : Nat, (∀ i : Nat, i < j → itn M w a i ≠ w) → (0 ≤ itn M w a j ∧ itn M w a j < nN M) ∧ dd M (itn M w a j) w ≠ -1
  | 0, _ => ⟨ha, hd⟩
  | j + 1, hj => by
    have ih := itn_ok h hF ha hw hd j (fun i hi => hj i (by omega))
    have := nx_ok h hF ih.1 hw (hj j (by omega)) ih.2
    exact ⟨this.1, this.2.1⟩
theorem path_ex0 {t : Int} {M : gMem} (h : InvA t M) (hF : FarOK M) {w : Int} (hw : 0 ≤ w ∧ w < nN M) : ∀ (c : Nat) (a : Int), 0 ≤ a ∧ a < nN M → dd M a w ≠ -1 → cnt (nnr M w a) (nN M).toNat ≤ (c : Int) → ∃ T : Nat, T ≤ c ∧ Pth M a w T := by
  intro c
  induction c with
  | zero =>
    intro a ha hd hc
    by_cases e : a = w
    · exact ⟨0, Nat.le_refl 0, e, fun j hj => absurd hj (Nat.not_lt_zero j)⟩
    · have n1 := nx_ok h hF ha hw e hd
      have := cnt_lt (p := fun _ => false) (q := nnr M w a) (nN M).toNat (fun _ _ h => by cases h) (nx M a w).toNat (by omega) rfl (by rw [show (((nx M a w).toNat : Nat) : Int) = nx M a w by omega]; exact decide_eq_true n1.2)
      have := cnt_0 (fun _ => false) (nN M).toNat
      omega
  | succ c ih =>
    intro a ha hd hc
    by_cases e : a = w
    · exact ⟨0, by omega, e, fun j hj => absurd hj (Nat.not_lt_zero j)⟩
    · have n1 := nx_ok h hF ha hw e hd
      have ex : (((nx M a w).toNat : Nat) : Int) = nx M a w := by omega
      have lt := cnt_lt (p := nnr M w (nx M a w)) (q := nnr M w a) (nN M).toNat (fun i _ hi => by
        have := of_decide_eq_true hi
        exact decide_eq_true ⟨this.1, by omega⟩) (nx M a w).toNat (by omega) (by rw [ex]; exact decide_eq_false (fun q => by omega)) (by rw [ex]; exact decide_eq_true n1.2)
      obtain ⟨T, hT, p1, p2⟩ := ih (nx M a w) n1.1 n1.2.1 (by omega)
      refine ⟨T + 1, by omega, by rw [itn_shift]; exact p1, fun j hj => ?_⟩
      cases j with
      | zero => exact e
      | succ j => rw [itn_shift]; exact p2 j (by omega)
theorem path_ex {t : Int} {M : gMem} (h : InvA t M) (hF : FarOK M) {a w : Int} (ha : 0 ≤ a ∧ a < nN M) (hw : 0 ≤ w ∧ w < nN M) (hd : dd M a w ≠ -1) : ∃ T : Nat, T ≤ 11 ∧ Pth M a w T := by
  have ex : ((a.toNat : Nat) : Int) = a := by omega
  have lt := cnt_lt (p := nnr M w a) (q := fun _ => true) (nN M).toNat (fun _ _ _ => rfl) a.toNat (by omega) (by rw [ex]; exact decide_eq_false (fun q => by omega)) rfl
  have le := cnt_le (fun _ => true) (nN M).toNat
  have := h.1
  exact path_ex0 h hF hw 11 a ha hd (by omega)
theorem p_stepsBetween {t a w : Int} {T : Nat} {K : Int → gMem → Prop} {M : gMem} (h : Inv t M) (hF : FarOK M) (ha : 0 ≤ a ∧ a < nN M) (hw : 0 ≤ w ∧ w < nN M) (hd : dd M a w ≠ -1) (hT : T ≤ 11) (hP : Pth M a w T) (hK : ∀ M', FarFr 195 M M' → FarOK M' → K (T : Int) M') : wX9_stepsBetween 0 a w K M := by
  unfold wX9_stepsBetween
  refine ⟨fun x s M' => FarFr 195 M M' ∧ FarOK M' ∧ 0 ≤ s ∧ s ≤ (T : Int) ∧ x = itn M w a s.toNat, fun x s _ => (T : Int) - s, ⟨fun _ _ => rfl, hF, by omega, by omega, rfl⟩, ?_⟩
  intro x s M1 ⟨f1, o1, s0, s1, hx⟩
  dsimp only
  have h1 := h.q f1.q o1
  have eN : nN M1 = nN M := f1.aside.2.2.2.1
  have hi := itn_ok h.1 hF ha hw hd s.toNat (fun i hi => hP.2 i (by omega))
  rw [← hx] at hi
  refine ⟨by omega, gK0_r ⟨fun q => absurd q (by omega), fun q => ⟨fun q2 => ?_, fun q2 => ⟨fun q3 => absurd q3 (by omega), fun q3 => p_stepTowards h1 (by omega) (by omega) (fun M2 f2 o2 => ?_)⟩⟩⟩⟩
  · have e : s = (T : Int) := by
      by_cases g : s = (T : Int)
      · exact g
      · exact absurd (by rw [← hx]; exact q2) (hP.2 s.toNat (by omega))
    rw [e]; exact hK M1 f1 o1
  · have ne : s ≠ (T : Int) := fun g => q2 (by rw [hx, g, Int.toNat_natCast]; exact hP.1)
    refine ⟨⟨by omega, by omega⟩, ⟨fun c hc => by rw [f2 c hc, f1 c hc], o2, by omega, by omega, ?_⟩, by omega⟩
    rw [nx_cong f1.aside, show (s + 1).toNat = s.toNat + 1 by omega, hx]
    rfl
theorem p_nodeAfter {t a w k : Int} {T : Nat} {K : Int → gMem → Prop} {M : gMem} (h : Inv t M) (hF : FarOK M) (ha : 0 ≤ a ∧ a < nN M) (hw : 0 ≤ w ∧ w < nN M) (hd : dd M a w ≠ -1) (hT : T ≤ 11) (hP : Pth M a w T) (hk : 0 ≤ k ∧ k ≤ (T : Int)) (hK : ∀ M', FarFr 195 M M' → FarOK M' → K (itn M w a k.toNat) M') : wX9_nodeAfter 0 a w k K M := by
  unfold wX9_nodeAfter
  refine ⟨fun x s M' => FarFr 195 M M' ∧ FarOK M' ∧ 0 ≤ s ∧ s ≤ k ∧ x = itn M w a s.toNat, fun x s _ => k - s, ⟨fun _ _ => rfl, hF, by omega, by omega, rfl⟩, ?_⟩
  intro x s M1 ⟨f1, o1, s0, s1, hx⟩
  dsimp only
  have h1 := h.q f1.q o1
  have eN : nN M1 = nN M := f1.aside.2.2.2.1
  have hi := itn_ok h.1 hF ha hw hd s.toNat (fun i hi => hP.2 i (by omega))
  rw [← hx] at hi
  refine ⟨by omega, gK0_r ⟨fun q => ?_, fun q => ⟨fun q2 => absurd q2 (by omega), fun q2 => ⟨fun q3 => absurd q3 (by omega), fun q3 => p_stepTowards h1 (by omega) (by omega) (fun M2 f2 o2 => ?_)⟩⟩⟩⟩
  · have e : s = k := by omega
    rw [hx, e]; exact hK M1 f1 o1
  · refine ⟨⟨by omega, by omega⟩, ⟨fun c hc => by rw [f2 c hc, f1 c hc], o2, by omega, by omega, ?_⟩, by omega⟩
    rw [nx_cong f1.aside, show (s + 1).toNat = s.toNat + 1 by omega, hx]
    rfl
theorem itn_cong {M M' : gMem} (h : Aside M M') (w a : Int) : ∀ k : Nat, itn M' w a k = itn M w a k
  | 0 => rfl
  | k + 1 => by
    show nx M' (itn M' w a k) w = nx M (itn M w a k) w
    rw [nx_cong h, itn_cong h w a k]
theorem Pth.cong {M M' : gMem} (h : Aside M M') {a w : Int} {T : Nat} (p : Pth M a w T) : Pth M' a w T := ⟨by rw [itn_cong h]; exact p.1, fun j hj => by rw [itn_cong h]; exact p.2 j hj⟩
theorem FarOK.mfr {M M' : gMem} (h : FarOK M) (hn : nN M ≤ 12) (m : MFr M M') : FarOK M' := h.cong hn (by rw [m.1 1 (by omega)]) (fun c a b => m.1 c (by omega)) m.2.2.1 (m.1 229 (by omega))
theorem c_route {t u v k : Int} {K1 : Int → gMem → Prop} {M : gMem} (h : Inv t M) (hgk : gR k) (hK : ∀ r M1, Ag t (wX10_route 228 u v k) r M1 → K1 r M1) : wX9_route 0 u v k K1 M := by
  unfold wX9_route
  simp only [Int.reduceAdd]
  have hn := h.1.1
  have hk2 := hgk.2
  refine p_both h.1 (fun q => ⟨fun _ => p_tell h.1 q.1 q.2 (fun M1 o1 t1 => ?_), fun e => absurd e (by decide)⟩) (fun q => ⟨fun e => absurd rfl e, fun _ => hK _ _ (fun K2 hk => ?_)⟩)
  · have h1 := h.t226 o1
    have eN1 : nN M1 = nN M := o1.aside226.2.2.2.1
    have e230 : M1 230 = M 230 := o1 230 (by decide)
    have tb := tel_bd h.1 3 0 u v (by omega) (by decide) q.1 q.2
    generalize hG : tel (M 230) 3 0 u v = T at t1 tb
    refine ⟨fun c w ew => ?_, fun c => hK _ _ (fun K2 hk => ?_)⟩
    · rw [t1.1] at c
      have tb := tb c
      have ew : w = T.2.2.2.1 := by rw [ew]; exact (t1.2.2.2 c).1
      have hw : 0 ≤ w ∧ w < nN M := by rw [ew]; exact tb.1
      refine p_follow1 h1.1 h1.2.1 (fun M2 f2 o2 => ?_)
      have h2 := h1.q f2.q o2
      have eN2 : nN M2 = nN M := f2.aside.2.2.2.1.trans eN1
      have e2302 : M2 230 = M 230 := by rw [f2 230 (by omega), e230]
      -- the reference, up to its loop
      have pre : ∀ r M3, FarFr 195 M2 M3 → FarOK M3 → (dd M2 u w = -1 ∨ dd M2 w v = -1 → r = -4) → (dd M2 u w ≠ -1 → dd M2 w v ≠ -1 → k < 0 → r = -1) → (dd M2 u w ≠ -1 → dd M2 w v ≠ -1 → 0 ≤ k → ∀ T1 T2 : Nat, Pth M2 u w T1 → Pth M2 w v T2 → r = if k ≤ (T1 : Int) then itn M2 w u k.toNat else if k - (T1 : Int) ≤ (T2 : Int) then itn M2 v w (k - (T1 : Int)).toNat else -1) → K1 r M3 := by
        intro r M3 f3 o3 r1 r2 r3
        refine hK _ _ (fun K2 hk => ?_)
        have h3 := h2.q f3.q o3
        have eN3 : nN M3 = nN M := f3.aside.2.2.2.1.trans eN2
        unfold wX10_route
        refine p_isNode h3.1.1 (fun _ => gK0_r ⟨fun e => absurd e (by decide), fun _ => p_isNode h3.1.1 (fun _ => ⟨fun _ => p_finds0 h3.1 (fun M4 o4 F4 => ?_), fun e => absurd e (by decide)⟩) (fun p => absurd (show _ by omega) p)⟩) (fun p => absurd (show _ by omega) p)
        have m4 := o4.mfr (by omega)
        have h4 := h3.mfr m4
        have eN4 : nN M4 = nN M := m4.2.2.1.trans eN3
        refine p_tells h4.1 (by omega) (by omega) (fun M5 m5 g5 t5 => ?_)
        have e2304 : M4 230 = M 230 := by rw [m4.1 230 (by omega), f3 230 (by omega), e2302]
        rw [e2304, hG] at t5 ⊢
        rw [if_pos c]
        have m5' := m4.tr m5
        have h5 := h3.mfr m5'
        have A5 := f3.aside.tr m5'.aside
        have F5 : mFar M5 := F4.cong g5 m5.2.2.1 (m5.1 229 (by omega))
        have O5 : FarOK M5 := o3.mfr h3.1.1.2 m5'
        have eN5 : nN M5 = nN M := m5.2.2.1.trans eN4
        have ew5 : M5 228 21 = w := by rw [ew]; exact (t5.2.2 c).1
        have fin := hk M5 h5.later
        have v1 := F5.val h5.1 (u := u) (v := w) (by omega) (by omega)
        have v2 := F5.val h5.1 (u := w) (v := v) (by omega) (by omega)
        rw [dd_cong A5] at v1 v2
        refine gK0_r ⟨fun e => absurd e (by decide), fun _ => ?_⟩
        rw [ew5]
        refine p_isWay (by omega) (by omega) (fun a => ⟨fun e => absurd e (by decide), fun _ => ?_⟩) (fun a => ⟨fun _ => by rw [← r1 (by omega)]; exact fin, fun e => absurd rfl e⟩)
        rw [ew5]
        refine p_isWay (by omega) (by omega) (fun b => ⟨fun _ => ?_, fun e => absurd e (by decide)⟩) (fun b => ⟨fun e => absurd rfl e, fun _ => by rw [← r1 (by omega)]; exact fin⟩)
        refine ⟨fun k0 => ?_, fun k0 => by rw [← r2 (by omega) (by omega) (by omega)]; exact fin⟩
        have d1 : dd M2 u w ≠ -1 := by omega
        have d2 : dd M2 w v ≠ -1 := by omega
        obtain ⟨T1, hT1, P1⟩ := path_ex h2.1 o2 (a := u) (w := w) (by omega) (by omega) d1
        obtain ⟨T2, hT2, P2⟩ := path_ex h2.1 o2 (a := w) (w := v) (by omega) (by omega) d2
        have er := r3 d1 d2 k0 T1 T2 P1 P2
        have Q1 := P1.cong A5
        have Q2 := P2.cong A5
        have enx : nx M5 = nx M2 := nx_cong A5
        rw [ew5]
        have loop : ∀ x, (x = 0 ∧ u ≠ w) ∨ (x = 1 ∧ u = w) → gL3 (fun rec32 (v28 : Int) (v29 : Int) (v30 : Int) (M31 : gMem) => (k ≤ v30 → K2 v28 M31) ∧ (¬ k ≤ v30 → gK0 (fun P35 => (v29 = 0 → P35 M31) ∧ (¬ v29 = 0 → (¬ v28 = v → P35 M31) ∧ (v28 = v → K2 (-1) M31))) (fun (M34 : gMem) => gK1 (fun P39 => (v29 = 0 → P39 (M34 228 21) M34) ∧ (¬ v29 = 0 → P39 v M34)) (fun (x37 : Int) (M38 : gMem) => wX10_nextOf 228 v28 x37 (fun (r42 : Int) (M41 : gMem) => gK1 (fun P45 => gK0 (fun P48 => (¬ v29 = 0 → P48 M41) ∧ (v29 = 0 → (¬ r42 = (M41 228 21) → P45 0 M41) ∧ (r42 = (M41 228 21) → P48 M41))) (fun (M47 : gMem) => P45 1 M47)) (fun (x43 : Int) (M44 : gMem) => gR (v30 + 1) ∧ (rec32 r42 x43 (v30 + 1) M44))) M38)))) u x 0 M5 := by
          intro x hx
          refine ⟨fun at' bh i M' => M' = M5 ∧ 0 ≤ i ∧ i ≤ k ∧ ((i ≤ (T1 : Int) ∧ at' = itn M2 w u i.toNat ∧ ((bh = 1 ∧ i = (T1 : Int)) ∨ (bh = 0 ∧ i ≠ (T1 : Int)))) ∨ ((T1 : Int) < i ∧ i - (T1 : Int) ≤ (T2 : Int) ∧ bh = 1 ∧ at' = itn M2 v w (i - (T1 : Int)).toNat)), fun _ _ i _ => k - i, ⟨rfl, by omega, by omega, Or.inl ⟨by omega, rfl, ?_⟩⟩, ?_⟩
          · rcases hx with hx | hx
            · refine Or.inr ⟨hx.1, fun e => hx.2 ?_⟩
              have := P1.1
              rw [show T1 = 0 by omega] at this
              exact this
            · refine Or.inl ⟨hx.1, ?_⟩
              by_cases g : T1 = 0
              · omega
              · exact absurd hx.2 (P1.2 0 (by omega))
          · intro at' bh i M6 ⟨e6, i0, i1, hi⟩
            subst e6
            dsimp only
            refine ⟨by omega, fun q1 => ?_, fun q1 => ?_⟩
            · have ei : i = k := by omega
              have : r = at' := by
                rcases hi with ⟨a1, a2, a3⟩ | ⟨a1, a2, a3, a4⟩
                · rw [er, if_pos (by omega), a2, ei]
                · rw [er, if_neg (by omega), if_pos (by omega), a4, ei]
              rw [← this]; exact fin
            · have more : bh ≠ 0 → at' = v → r = -1 := by
                intro g1 g2
                rcases hi with ⟨a1, a2, a3⟩ | ⟨a1, a2, a3, a4⟩
                · have e1 : i = (T1 : Int) := by omega
                  have e2 : at' = w := by rw [a2, e1, Int.toNat_natCast]; exact P1.1
                  have e3 : T2 = 0 := by
                    by_cases g : T2 = 0
                    · exact g
                    · exact absurd (show w = v by omega) (P2.2 0 (by omega))
                  rw [er, if_neg (by omega), if_neg (by omega)]
                · have e3 : (i - (T1 : Int)).toNat = T2 := by
                    by_cases g : (i - (T1 : Int)).toNat = T2
                    · exact g
                    · exact absurd (by rw [← a4]; exact g2) (P2.2 (i - (T1 : Int)).toNat (by omega))
                  rw [er, if_neg (by omega), if_neg (by omega)]
              -- one step on
              have step0 : bh = 0 → wX10_nextOf 228 at' w (fun (r42 : Int) (M41 : gMem) => gK1 (fun P45 => gK0 (fun P48 => (¬ bh = 0 → P48 M41) ∧ (bh = 0 → (¬ r42 = (M41 228 21) → P45 0 M41) ∧ (r42 = (M41 228 21) → P48 M41))) (fun (M47 : gMem) => P45 1 M47)) (fun (x43 : Int) (M44 : gMem) => gR (i + 1) ∧ ((M44 = M6 ∧ 0 ≤ i + 1 ∧ i + 1 ≤ k ∧ ((i + 1 ≤ (T1 : Int) ∧ r42 = itn M2 w u (i + 1).toNat ∧ ((x43 = 1 ∧ i + 1 = (T1 : Int)) ∨ (x43 = 0 ∧ i + 1 ≠ (T1 : Int)))) ∨ ((T1 : Int) < i + 1 ∧ i + 1 - (T1 : Int) ≤ (T2 : Int) ∧ x43 = 1 ∧ r42 = itn M2 v w (i + 1 - (T1 : Int)).toNat))) ∧ k - (i + 1) < k - i))) M6 := by
                intro g
                have hi : i < (T1 : Int) ∧ at' = itn M2 w u i.toNat := by
                  rcases hi with ⟨a1, a2, a3⟩ | ⟨a1, a2, a3, a4⟩
                  · exact ⟨by omega, a2⟩
                  · omega
                have io := itn_ok h2.1 o2 (a := u) (w := w) (by omega) (by omega) d1 i.toNat (fun j hj => P1.2 j (by omega))
                rw [← hi.2] at io
                refine p_nextOf h5.1 O5 F5 (by omega) (by omega) ?_
                rw [enx]
                have e1 : nx M2 at' w = itn M2 w u (i + 1).toNat := by rw [show (i + 1).toNat = i.toNat + 1 by omega, hi.2]; rfl
                rw [ew5, e1]
                refine gK1_r (gK0_r ⟨fun g2 => absurd g g2, fun _ => ⟨fun g2 => ⟨⟨by omega, by omega⟩, ⟨rfl, by omega, by omega, Or.inl ⟨by omega, rfl, Or.inr ⟨rfl, fun g3 => g2 ?_⟩⟩⟩, by omega⟩, fun g2 => ⟨⟨by omega, by omega⟩, ⟨rfl, by omega, by omega, Or.inl ⟨by omega, rfl, Or.inl ⟨rfl, ?_⟩⟩⟩, by omega⟩⟩⟩)
                · rw [g3, Int.toNat_natCast]; exact P1.1
                · by_cases g3 : i + 1 = (T1 : Int)
                  · exact g3
                  · exact absurd g2 (P1.2 (i + 1).toNat (by omega))
              have step1 : bh ≠ 0 → at' ≠ v → wX10_nextOf 228 at' v (fun (r42 : Int) (M41 : gMem) => gK1 (fun P45 => gK0 (fun P48 => (¬ bh = 0 → P48 M41) ∧ (bh = 0 → (¬ r42 = (M41 228 21) → P45 0 M41) ∧ (r42 = (M41 228 21) → P48 M41))) (fun (M47 : gMem) => P45 1 M47)) (fun (x43 : Int) (M44 : gMem) => gR (i + 1) ∧ ((M44 = M6 ∧ 0 ≤ i + 1 ∧ i + 1 ≤ k ∧ ((i + 1 ≤ (T1 : Int) ∧ r42 = itn M2 w u (i + 1).toNat ∧ ((x43 = 1 ∧ i + 1 = (T1 : Int)) ∨ (x43 = 0 ∧ i + 1 ≠ (T1 : Int)))) ∨ ((T1 : Int) < i + 1 ∧ i + 1 - (T1 : Int) ≤ (T2 : Int) ∧ x43 = 1 ∧ r42 = itn M2 v w (i + 1 - (T1 : Int)).toNat))) ∧ k - (i + 1) < k - i))) M6 := by
                intro g gv
                have hi : (T1 : Int) ≤ i ∧ i - (T1 : Int) ≤ (T2 : Int) ∧ at' = itn M2 v w (i - (T1 : Int)).toNat := by
                  rcases hi with ⟨a1, a2, a3⟩ | ⟨a1, a2, a3, a4⟩
                  · have e1 : i = (T1 : Int) := by omega
                    refine ⟨by omega, by omega, ?_⟩
                    rw [a2, e1, Int.toNat_natCast, show ((T1 : Int) - (T1 : Int)).toNat = 0 by omega]
                    exact P1.1
                  · exact ⟨by omega, a2, a4⟩
                have lt : i - (T1 : Int) < (T2 : Int) := by
                  by_cases g2 : i - (T1 : Int) = (T2 : Int)
                  · exact absurd (by rw [hi.2.2, g2, Int.toNat_natCast]; exact P2.1) gv
                  · omega
                have io := itn_ok h2.1 o2 (a := w) (w := v) (by omega) (by omega) d2 (i - (T1 : Int)).toNat (fun j hj => P2.2 j (by omega))
                rw [← hi.2.2] at io
                refine p_nextOf h5.1 O5 F5 (by omega) (by omega) ?_
                rw [enx]
                have e1 : nx M2 at' v = itn M2 v w (i + 1 - (T1 : Int)).toNat := by rw [show (i + 1 - (T1 : Int)).toNat = (i - (T1 : Int)).toNat + 1 by omega, hi.2.2]; rfl
                rw [e1]
                exact gK1_r (gK0_r ⟨fun _ => ⟨⟨by omega, by omega⟩, ⟨rfl, by omega, by omega, Or.inr ⟨by omega, by omega, rfl, rfl⟩⟩, by omega⟩, fun g2 => absurd g2 g⟩)
              refine gK0_r ⟨fun g => gK1_r ⟨fun _ => by rw [ew5]; exact step0 g, fun g2 => absurd g g2⟩, fun g => ⟨fun g2 => gK1_r ⟨fun g3 => absurd g3 g, fun _ => step1 g g2⟩, fun g2 => by rw [← more g g2]; exact fin⟩⟩
        exact gK1_r ⟨fun e => loop 0 (Or.inl ⟨rfl, e⟩), fun e => loop 1 (Or.inr ⟨rfl, e⟩)⟩
      refine p_btw1 h2.1 o2 (fun q3 => ?_) (fun p => absurd (show _ by omega) p)
      refine gK0_r ⟨fun a => pre _ M2 (fun _ _ => rfl) o2 (fun _ => rfl) (fun a1 => absurd a a1) (fun a1 => absurd a a1), fun a => ?_⟩
      refine p_btw1 h2.1 o2 (fun q4 => ?_) (fun p => absurd (show _ by omega) p)
      refine ⟨fun b => ⟨fun k0 => ?_, fun k0 => pre _ M2 (fun _ _ => rfl) o2 (fun a1 => absurd a1 (by omega)) (fun _ _ _ => rfl) (fun _ _ a3 => absurd a3 k0)⟩, fun b => pre _ M2 (fun _ _ => rfl) o2 (fun _ => rfl) (fun _ a2 => absurd b a2) (fun _ a2 => absurd b a2)⟩
      obtain ⟨T1, hT1, P1⟩ := path_ex h2.1 o2 (a := u) (w := w) (by omega) (by omega) a
      obtain ⟨T2, hT2, P2⟩ := path_ex h2.1 o2 (a := w) (w := v) (by omega) (by omega) b
      have uq : ∀ (x y : Int) (T T' : Nat), Pth M2 x y T → Pth M2 x y T' → T = T' := by
        intro x y T T' p p'
        by_cases g : T < T'
        · exact absurd p.1 (p'.2 T g)
        · by_cases g2 : T' < T
          · exact absurd p'.1 (p.2 T' g2)
          · omega
      refine p_stepsBetween h2 o2 (by omega) (by omega) a hT1 P1 (fun M3 f3 o3 => ?_)
      have h3 := h2.q f3.q o3
      have eN3 : nN M3 = nN M := f3.aside.2.2.2.1.trans eN2
      have ed3 := dd_cong f3.aside
      refine ⟨fun lt => ⟨⟨by omega, by omega⟩, p_stepsBetween h3 o3 (by omega) (by omega) (by rw [ed3]; exact b) hT2 (P2.cong f3.aside) (fun M4 f4 o4 => ?_)⟩, fun lt => p_nodeAfter h3 o3 (by omega) (by omega) (by rw [ed3]; exact a) hT1 (P1.cong f3.aside) (by omega) (fun M4 f4 o4 => ?_)⟩
      · have f4' : FarFr 195 M2 M4 := fun c hc => by rw [f4 c hc, f3 c hc]
        have h4 := h2.q f4'.q o4
        have eN4 : nN M4 = nN M := f4'.aside.2.2.2.1.trans eN2
        have ed4 := dd_cong f4'.aside
        refine gK1_r ⟨fun g => pre _ M4 f4' o4 (fun a1 => absurd a1 (by omega)) (fun _ _ a3 => absurd k0 (by omega)) (fun _ _ _ S1 S2 p1 p2 => ?_), fun g => ⟨⟨by omega, by omega⟩, p_nodeAfter h4 o4 (by omega) (by omega) (by rw [ed4]; exact b) hT2 (P2.cong f4'.aside) (by omega) (fun M5 f5 o5 => ?_)⟩⟩
        · have := uq u w T1 S1 P1 p1
          have := uq w v T2 S2 P2 p2
          rw [if_neg (by omega), if_neg (by omega)]
        · rw [itn_cong f4'.aside]
          refine pre _ M5 (fun c hc => by rw [f5 c hc, f4' c hc]) o5 (fun a1 => absurd a1 (by omega)) (fun _ _ a3 => absurd k0 (by omega)) (fun _ _ _ S1 S2 p1 p2 => ?_)
          have e1 := uq u w T1 S1 P1 p1
          have e2 := uq w v T2 S2 P2 p2
          rw [← e1, ← e2, if_neg (by omega), if_pos (by omega)]
      · rw [itn_cong f3.aside]
        refine pre _ M4 (fun c hc => by rw [f4 c hc, f3 c hc]) o4 (fun a1 => absurd a1 (by omega)) (fun _ _ a3 => absurd k0 (by omega)) (fun _ _ _ S1 S2 p1 p2 => ?_)
        have e1 := uq u w T1 S1 P1 p1
        rw [← e1, if_pos (by omega)]
    · rw [t1.1] at c
      unfold wX10_route
      refine p_isNode h1.1.1 (fun _ => gK0_r ⟨fun e => absurd e (by decide), fun _ => p_isNode h1.1.1 (fun _ => ⟨fun _ => p_finds0 h1.1 (fun M4 o4 F4 => ?_), fun e => absurd e (by decide)⟩) (fun p => absurd (show _ by omega) p)⟩) (fun p => absurd (show _ by omega) p)
      have m4 := o4.mfr (by omega)
      have h4 := h1.mfr m4
      have eN4 : nN M4 = nN M := m4.2.2.1.trans eN1
      refine p_tells h4.1 (by omega) (by omega) (fun M5 m5 g5 t5 => ?_)
      have e2304 : M4 230 = M 230 := by rw [m4.1 230 (by omega), e230]
      rw [e2304, hG, if_neg c]
      exact gK0_r ⟨fun _ => hk M5 (h4.mfr m5).later, fun e => absurd rfl e⟩
  · unfold wX10_route
    refine p_isNode hn (fun a => gK0_r ⟨fun e => absurd e (by decide), fun _ => p_isNode hn (fun b => absurd ⟨a, b⟩ q) (fun _ => ⟨fun e => absurd rfl e, fun _ => hk M h.later⟩)⟩) (fun a => gK0_r ⟨fun _ => hk M h.later, fun e => absurd rfl e⟩)
