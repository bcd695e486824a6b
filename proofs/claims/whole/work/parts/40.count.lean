/-! CALLS, 7: counts -/
theorem cnt_sI (p : Int → Bool) (w : Int) (hw : 0 ≤ w) : cnt p (w + 1).toNat = cnt p w.toNat + (if p w = true then 1 else 0) := by
  rw [show (w + 1).toNat = w.toNat + 1 by omega, cnt_s, show ((w.toNat : Nat) : Int) = w by omega]
theorem cnt_bI (p : Int → Bool) (w : Int) (hw : 0 ≤ w) : 0 ≤ cnt p w.toNat ∧ cnt p w.toNat ≤ w := ⟨cnt_0 _ _, by have := cnt_le p w.toNat; omega⟩
theorem p_writtenNotes {t : Int} {K : Int → gMem → Prop} {M : gMem} (h : InvA t M) (hK : K (cnt (fun v => decide (M 230 (20 * v) = 1)) (nN M).toNat) M) : wX9_writtenNotes 0 K M := by
  unfold wX9_writtenNotes
  simp only [Int.reduceAdd]
  have hn := h.1
  have e0 : M 1 0 = nN M := h.2.1.1
  refine ⟨fun f v M' => M' = M ∧ 0 ≤ v ∧ v ≤ nN M ∧ f = cnt (fun v => decide (M 230 (20 * v) = 1)) v.toNat, fun f v _ => nN M - v, ⟨rfl, by omega, by omega, rfl⟩, ?_⟩
  intro f v M1 ⟨e1, v0, v1, hf⟩
  subst e1
  dsimp only
  rw [e0]
  have hs := cnt_sI (fun v => decide (M1 230 (20 * v) = 1)) v v0
  have hb := cnt_bI (fun v => decide (M1 230 (20 * v) = 1)) v v0
  rw [← hf] at hs hb
  refine ⟨by omega, fun q => ?_, fun q => ⟨⟨by omega, by omega⟩, ?_⟩⟩
  · have : v = nN M1 := by omega
    rw [hf, this]; exact hK
  · have n1 := h.2.2.1 v v0 (by omega)
    refine gK1_r ⟨fun a => ⟨⟨by omega, by omega⟩, ⟨rfl, by omega, by omega, ?_⟩, by omega⟩, fun a => ⟨⟨by omega, by omega⟩, ⟨by omega, by omega⟩, ⟨rfl, by omega, by omega, ?_⟩, by omega⟩⟩
    · rw [hs, if_neg (by have := n1.2.1; simp only [decide_eq_true_eq]; omega)]; omega
    · rw [hs, if_pos (by have := n1.2.1; have := n1.1; simp only [decide_eq_true_eq]; omega)]
theorem p_written {t : Int} {K : Int → gMem → Prop} {M : gMem} (h : InvA t M) (hK : K (cnt (fun v => decide (M 230 (20 * v) = 1)) (nN M).toNat) M) : wX10_written 228 K M := by
  unfold wX10_written
  have hn := h.1
  refine ⟨fun f v M' => M' = M ∧ 0 ≤ v ∧ v ≤ nN M ∧ f = cnt (fun v => decide (M 230 (20 * v) = 1)) v.toNat, fun f v _ => nN M - v, ⟨rfl, by omega, by omega, rfl⟩, ?_⟩
  intro f v M1 ⟨e1, v0, v1, hf⟩
  subst e1
  dsimp only
  have e0 : M1 228 2 = nN M1 := rfl
  rw [e0]
  have hs := cnt_sI (fun v => decide (M1 230 (20 * v) = 1)) v v0
  have hb := cnt_bI (fun v => decide (M1 230 (20 * v) = 1)) v v0
  rw [← hf] at hs hb
  refine ⟨by omega, fun q => ?_, fun q => ?_⟩
  · have : v = nN M1 := by omega
    rw [hf, this]; exact hK
  · refine p_isWritten h (by omega) (fun a => gK1_r ⟨fun e => absurd e (by decide), fun _ => ⟨⟨by omega, by omega⟩, fun x ex => ⟨⟨by omega, by omega⟩, ⟨rfl, by omega, by omega, ?_⟩, by omega⟩⟩⟩) (fun a => gK1_r ⟨fun _ => ⟨⟨by omega, by omega⟩, fun x ex => ⟨⟨by omega, by omega⟩, ⟨rfl, by omega, by omega, ?_⟩, by omega⟩⟩, fun e => absurd rfl e⟩)
    · rw [hs, if_pos (by simp only [decide_eq_true_eq]; exact a)]; omega
    · rw [hs, if_neg (by simp only [decide_eq_true_eq]; exact a)]; omega
theorem p_nodesOfLevel {t a : Int} {K : Int → gMem → Prop} {M : gMem} (h : InvA t M) (hK : K (cnt (fun v => decide (lev M v = a)) (nN M).toNat) M) : wX1_nodesOfLevel 1 a K M := by
  unfold wX1_nodesOfLevel
  simp only [Int.reduceAdd]
  have hn := h.1
  have e0 : M 1 0 = nN M := h.2.1.1
  refine ⟨fun f v M' => M' = M ∧ 0 ≤ v ∧ v ≤ nN M ∧ f = cnt (fun v => decide (lev M v = a)) v.toNat, fun f v _ => nN M - v, ⟨rfl, by omega, by omega, rfl⟩, ?_⟩
  intro f v M1 ⟨e1, v0, v1, hf⟩
  subst e1
  dsimp only
  rw [e0]
  have hs := cnt_sI (fun v => decide (lev M1 v = a)) v v0
  have hb := cnt_bI (fun v => decide (lev M1 v = a)) v v0
  rw [← hf] at hs hb
  refine ⟨by omega, fun q => ?_, fun q => ⟨⟨by omega, by omega⟩, ?_⟩⟩
  · have : v = nN M1 := by omega
    rw [hf, this]; exact hK
  · have n1 : M1 3 v = lev M1 v := by
      have := h.2.1.2.2.1 v v0 (by omega)
      rw [show (0 : Int) + 144 + v = 144 + v by omega] at this
      exact this
    rw [n1]
    refine gK1_r ⟨fun b => ⟨⟨by omega, by omega⟩, ⟨rfl, by omega, by omega, ?_⟩, by omega⟩, fun b => ⟨⟨by omega, by omega⟩, ⟨by omega, by omega⟩, ⟨rfl, by omega, by omega, ?_⟩, by omega⟩⟩
    · rw [hs, if_neg (by simp only [decide_eq_true_eq]; exact b)]; omega
    · rw [hs, if_pos (by simp only [decide_eq_true_eq]; exact b)]
theorem p_ofLevel {t a : Int} {K : Int → gMem → Prop} {M : gMem} (h : InvA t M) (hK : K (cnt (fun v => decide (lev M v = a)) (nN M).toNat) M) : wX10_ofLevel 228 a K M := by
  unfold wX10_ofLevel
  simp only [Int.reduceAdd]
  have hn := h.1
  refine ⟨fun f v M' => M' = M ∧ 0 ≤ v ∧ v ≤ nN M ∧ f = cnt (fun v => decide (lev M v = a)) v.toNat, fun f v _ => nN M - v, ⟨rfl, by omega, by omega, rfl⟩, ?_⟩
  intro f v M1 ⟨e1, v0, v1, hf⟩
  subst e1
  dsimp only
  have e0 : M1 228 2 = nN M1 := rfl
  rw [e0]
  have hs := cnt_sI (fun v => decide (lev M1 v = a)) v v0
  have hb := cnt_bI (fun v => decide (lev M1 v = a)) v v0
  rw [← hf] at hs hb
  refine ⟨by omega, fun q => ?_, fun q => ⟨⟨by omega, by omega⟩, ⟨by omega, by omega⟩, ?_⟩⟩
  · have : v = nN M1 := by omega
    rw [hf, this]; exact hK
  · refine gK1_r ⟨fun b => ⟨⟨by omega, by omega⟩, fun x ex => ⟨⟨by omega, by omega⟩, ⟨rfl, by omega, by omega, ?_⟩, by omega⟩⟩, fun b => ⟨⟨by omega, by omega⟩, fun x ex => ⟨⟨by omega, by omega⟩, ⟨rfl, by omega, by omega, ?_⟩, by omega⟩⟩⟩
    · rw [hs, if_neg (by simp only [decide_eq_true_eq]; exact b)]; omega
    · rw [hs, if_pos (by simp only [decide_eq_true_eq]; exact b)]; omega
theorem p_links0 {K : Int → gMem → Prop} {M : gMem} (hK : K (cnt (fun k => decide (0 < M 229 k)) 144 / 2) M) : wX10_links 228 K M := by
  unfold wX10_links
  simp only [Int.reduceAdd]
  refine ⟨fun f v M' => M' = M ∧ 0 ≤ v ∧ v ≤ 144 ∧ f = cnt (fun k => decide (0 < M 229 k)) v.toNat, fun f v _ => 144 - v, ⟨rfl, by omega, by omega, rfl⟩, ?_⟩
  intro f v M1 ⟨e1, v0, v1, hf⟩
  subst e1
  dsimp only
  have hs := cnt_sI (fun k => decide (0 < M1 229 k)) v v0
  have hb := cnt_bI (fun k => decide (0 < M1 229 k)) v v0
  rw [← hf] at hs hb
  refine ⟨by omega, fun q => ⟨⟨by omega, by omega⟩, ?_⟩, fun q => ⟨⟨by omega, by omega⟩, ?_⟩⟩
  · have : v = 144 := by omega
    rw [hf, this]; exact hK
  · refine gK1_r ⟨fun b => ⟨⟨by omega, by omega⟩, fun x ex => ⟨⟨by omega, by omega⟩, ⟨rfl, by omega, by omega, ?_⟩, by omega⟩⟩, fun b => ⟨⟨by omega, by omega⟩, fun x ex => ⟨⟨by omega, by omega⟩, ⟨rfl, by omega, by omega, ?_⟩, by omega⟩⟩⟩
    · rw [hs, if_neg (by simp only [decide_eq_true_eq]; omega)]; omega
    · rw [hs, if_pos (by simp only [decide_eq_true_eq]; omega)]; omega
theorem cnt_net {t : Int} {M : gMem} (h : InvA t M) : cnt (fun k => decide (0 < M 229 k)) 144 = 2 * M 1 1 := by
  have a := h.2.1.2.2.2.2.1
  have e : (fun k => decide (0 < M 229 (0 + k))) = (fun k => decide (0 < M 229 k)) := by funext k; rw [Int.zero_add]
  rw [e] at a
  exact a.symm
theorem p_links {t : Int} {K : Int → gMem → Prop} {M : gMem} (h : InvA t M) (hK : K (M 1 1) M) : wX10_links 228 K M := by
  refine p_links0 ?_
  rw [cnt_net h, show 2 * M 1 1 / 2 = M 1 1 by omega]
  exact hK
