/-! MOVES: the tie's parts, each by itself -/
theorem NetRel.move {M M' : gMem} {c o c' o' : Int} (h : NetRel M c o) (h0 : M' 228 2 = M 228 2) (h1 : M' c' 0 = M c 0) (h2 : M' c' 1 = M c 1) (h3 : M' c' 2 = M c 2) (h4 : ∀ k, 0 ≤ k → k < 144 → M' (c' + 1) k = M (c + 1) k) (h5 : ∀ k, 0 ≤ k → k < 12 → M' (c' + 2) k = M (c + 2) k) (h6 : ∀ k, 0 ≤ k → k < 157 → M' 229 (o' + k) = M 229 (o + k)) : NetRel M' c' o' := by
  obtain ⟨a, b, c1, d, e, f, g, i⟩ := h
  have eN : nN M' = nN M := h0
  refine ⟨by rw [h1, eN]; exact a, fun k x y => by rw [h4 k x y, h6 k x (by omega)]; exact b k x y, fun k x y => ?_, ?_, ?_, by rw [h2]; exact f, ?_, ?_⟩
  · have := h6 (144 + k) (by omega) (by omega)
    rw [h5 k x y, show o' + 144 + k = o' + (144 + k) by omega, this, show o + (144 + k) = o + 144 + k by omega]
    exact c1 k x y
  · rw [h3, h6 156 (by omega) (by omega)]; exact d
  · rw [h2, e]
    exact cnt_cong 144 (fun k hk => by rw [h6 (k : Int) (by omega) (by omega)])
  · rw [eN]
    intro u v p q r s
    have := g u v p q r s
    dsimp only at this ⊢
    rw [h6 (12 * u + v) (by omega) (by omega), h6 (12 * v + u) (by omega) (by omega)]
    exact this
  · intro v p q
    have := h6 (144 + v) (by omega) (by omega)
    rw [show o' + 144 + v = o' + (144 + v) by omega, this, show o + (144 + v) = o + 144 + v by omega, eN]
    exact i v p q
theorem NoteRel.move {M M' : gMem} {q o q' o' : Int} (h : NoteRel M q o) (h0 : M' 228 2 = M 228 2) (h1 : M' q' 0 = M q 0) (h2 : M' q' 1 = M q 1) (h3 : ∀ i, 0 ≤ i → i < 3 → M' (q' + 1) i = M (q + 1) i ∧ M' (q' + 2) i = M (q + 2) i) (h4 : ∀ w, 0 ≤ w → w < 12 → M' (q' + 3) w = M (q + 3) w) (h5 : ∀ k, 0 ≤ k → k < 20 → M' 230 (o' + k) = M 230 (o + k)) : NoteRel M' q' o' := by
  obtain ⟨a, b, c⟩ := h
  have eN : nN M' = nN M := h0
  have e0 := h5 0 (by omega) (by omega)
  rw [Int.add_zero, Int.add_zero] at e0
  refine ⟨by rw [h1]; exact a, by rw [h1, e0]; exact b, fun e => ?_⟩
  rw [h1] at e
  obtain ⟨c1, c2, c3, c4, c5, c6⟩ := c e
  refine ⟨fun i x y => ?_, ?_, fun w x y => ?_, fun i x y => ?_, fun w x y => ?_, ?_⟩
  · have e1 := h5 (1 + i) (by omega) (by omega)
    have e2 := h5 (4 + i) (by omega) (by omega)
    rw [(h3 i x y).1, (h3 i x y).2, show o' + 1 + i = o' + (1 + i) by omega, show o' + 4 + i = o' + (4 + i) by omega, e1, e2, show o + (1 + i) = o + 1 + i by omega, show o + (4 + i) = o + 4 + i by omega]
    exact c1 i x y
  · rw [h2, h5 7 (by omega) (by omega)]; exact c2
  · have e1 := h5 (8 + w) (by omega) (by omega)
    rw [h4 w x y, show o' + 8 + w = o' + (8 + w) by omega, e1, show o + (8 + w) = o + 8 + w by omega]
    exact c3 w x y
  · rw [(h3 i x y).1, (h3 i x y).2, eN]; exact c4 i x y
  · rw [h4 w x y]; exact c5 w x y
  · rw [h2, c6]
    exact bits_cong 12 (fun k hk => (h4 (k : Int) (by omega) (by omega)).symm)
theorem NoteRel.stay {M M' : gMem} {q o : Int} (h : NoteRel M q o) (h0 : M' 228 2 = M 228 2) (h1 : ∀ c, q ≤ c → c < q + 4 → M' c = M c) (h5 : ∀ k, 0 ≤ k → k < 20 → M' 230 (o + k) = M 230 (o + k)) : NoteRel M' q o :=
  h.move h0 (by rw [h1 q (by omega) (by omega)]) (by rw [h1 q (by omega) (by omega)]) (fun i _ _ => by rw [h1 (q + 1) (by omega) (by omega), h1 (q + 2) (by omega) (by omega)]; exact ⟨rfl, rfl⟩) (fun w _ _ => by rw [h1 (q + 3) (by omega) (by omega)]) h5
theorem NetRel.stay {M M' : gMem} {c o : Int} (h : NetRel M c o) (h0 : M' 228 2 = M 228 2) (h1 : ∀ x, c ≤ x → x < c + 3 → M' x = M x) (h6 : ∀ k, 0 ≤ k → k < 157 → M' 229 (o + k) = M 229 (o + k)) : NetRel M' c o :=
  h.move h0 (by rw [h1 c (by omega) (by omega)]) (by rw [h1 c (by omega) (by omega)]) (by rw [h1 c (by omega) (by omega)]) (fun k _ _ => by rw [h1 (c + 1) (by omega) (by omega)]) (fun k _ _ => by rw [h1 (c + 2) (by omega) (by omega)]) h6
theorem PastRel.stay {M M' : gMem} (h : PastRel M) (h0 : M' 228 2 = M 228 2) (h1 : ∀ c, 9 ≤ c → c < 35 → M' c = M c) (h2 : M' 228 1 = M 228 1) (h3 : ∀ k, 157 ≤ k → k < 1413 → M' 229 k = M 229 k) : PastRel M' := by
  obtain ⟨p1, p2, p3, p4, p5, p6⟩ := h
  unfold PastRel
  rw [h1 9 (by omega) (by omega), h2]
  refine ⟨p1, p2, p3, p4, p5, fun i c d => (p6 i c d).stay h0 (fun x a b => h1 x (by omega) (by omega)) (fun k a b => h3 _ (by omega) (by omega))⟩
theorem SlotRel.stay {M M' : gMem} {k : Int} (h : SlotRel M k) (hk : 0 ≤ k ∧ k < 2) (h0 : M' 228 2 = M 228 2) (h1 : ∀ c, 88 ≤ c → c < 195 → M' c = M c) (h2 : M' 231 k = M 231 k) (h3 : ∀ k, 1413 ≤ k → k < 1727 → M' 229 k = M 229 k) (h4 : ∀ k, 240 ≤ k → k < 720 → M' 230 k = M 230 k) : SlotRel M' k := by
  obtain ⟨a, b, c⟩ := h
  unfold SlotRel
  rw [h1 (89 + 53 * k) (by omega) (by omega), h2]
  refine ⟨a, b, fun e => ⟨(c e).1.stay h0 (fun x p q => h1 x (by omega) (by omega)) (fun j p q => h3 _ (by omega) (by omega)), fun v p q => ((c e).2 v p q).stay h0 (fun x r s => h1 x (by omega) (by omega)) (fun j r s => h4 _ (by omega) (by omega))⟩⟩
theorem TextRel.stay {M M' : gMem} (h : TextRel M) (h1 : M' 7 0 = M 7 0) (h2 : M' 228 6 = M 228 6) (h3 : M' 8 = M 8) (h4 : M' 232 = M 232) : TextRel M' := by
  unfold TextRel at h ⊢
  rw [h1, h2, h3, h4]
  exact h
theorem VerOK.stay {t : Int} {M M' : gMem} (h : VerOK t M) (h1 : M' 1 3 = M 1 3) (h2 : M' 4 3 = M 4 3) (h3 : ∀ c, 11 ≤ c → c < 35 → M' c = M c) (h4 : ∀ c, 88 ≤ c → c < 195 → M' c = M c) : VerOK t M' := by
  obtain ⟨v1, v2, v3, v4⟩ := h
  exact ⟨by rw [h1]; exact v1, by rw [h2]; exact v2, fun i a b => by rw [h3 _ (by omega) (by omega)]; exact v3 i a b, fun k a b => by rw [h4 _ (by omega) (by omega)]; exact v4 k a b⟩
/-- row and number of nodes are the same -/
def RS (M M' : gMem) : Prop := M' 228 2 = M 228 2 ∧ M' 229 = M 229
theorem dd_rs {M M' : gMem} (h : RS M M') : dd M' = dd M := by
  funext u v
  unfold dd nN
  have e : mL M' = mL M := by funext u v; unfold mL; rw [h.2]
  rw [e, h.1]
theorem lev_rs {M M' : gMem} (h : RS M M') : lev M' = lev M := by funext w; unfold lev; rw [h.2]
theorem nr_rs {M M' : gMem} (h : RS M M') : nr M' = nr M := by
  funext v l
  unfold nr nN
  rw [dd_rs h, lev_rs h, h.1]
theorem nf_rs {M M' : gMem} (h : RS M M') : nf M' = nf M := by
  funext v l
  unfold nf
  rw [dd_rs h, nr_rs h]
theorem inB_rs {M M' : gMem} (h : RS M M') : inB M' = inB M := by
  funext v l
  unfold inB
  rw [dd_rs h, nr_rs h, lev_rs h]
theorem fr_rs {M M' : gMem} (h : RS M M') : fr M' = fr M := by
  funext v l
  unfold fr nN
  rw [dd_rs h, inB_rs h, h.1]
theorem frv_rs {M M' : gMem} (h : RS M M') : frv M' = frv M := by
  funext v k
  unfold frv
  rw [nr_rs h, nf_rs h, fr_rs h]
theorem RS.tr {M M' M'' : gMem} (h : RS M M') (h2 : RS M' M'') : RS M M'' := ⟨h2.1.trans h.1, h2.2.trans h.2⟩
theorem Aside.rs {M M' : gMem} (h : Aside M M') : RS M M' := ⟨h.2.2.2.1, h.at 229 (by omega)⟩
/-! what the reference's finding needs -/
def InvB (t : Int) (M : gMem) : Prop := (2 ≤ nN M ∧ nN M ≤ 12) ∧ RowOK M 0
theorem InvA.b {t : Int} {M : gMem} (h : InvA t M) : InvB t M := ⟨h.1, h.2.1.2.2.2.2.2.2⟩
theorem InvB.rs {t : Int} {M M' : gMem} (h : InvB t M) (hA : RS M M') : InvB t M' := by
  unfold InvB RowOK nN at h ⊢
  rw [hA.1, hA.2]
  exact h
theorem InvB.cong {t : Int} {M M' : gMem} (h : InvB t M) (hA : Aside M M') : InvB t M' := h.rs hA.rs
theorem InvB.L {t : Int} {M : gMem} (h : InvB t M) : LOK (nN M) (mL M) := by
  have := h.2.1
  intro u v a b c d
  have := this u v a b c d
  dsimp only at this
  rw [Int.zero_add, Int.zero_add] at this
  exact this
theorem InvB.lev {t : Int} {M : gMem} (h : InvB t M) (v : Int) (h0 : 0 ≤ v) (h1 : v < 12) : 0 ≤ M 229 (144 + v) ∧ M 229 (144 + v) ≤ 2 ∧ (nN M ≤ v → M 229 (144 + v) = 0) := by
  have := h.2.2 v h0 h1
  rw [show (0 : Int) + 144 + v = 144 + v by omega] at this
  exact this
/-! what the class's own finding needs -/
def InvC (t : Int) (M : gMem) : Prop := (2 ≤ nN M ∧ nN M ≤ 12) ∧ NetRel M 1 0 ∧ True
theorem InvA.c {t : Int} {M : gMem} (h : InvA t M) : InvC t M := ⟨h.1, h.2.1, trivial⟩
theorem InvC.cong {t : Int} {M M' : gMem} (h : InvC t M) (hA : Aside M M') : InvC t M' :=
  ⟨by unfold nN; rw [hA.2.2.2.1]; exact h.1, h.2.1.cong hA.2.2.2.1 (hA.at 229 (by omega)) (hA.at 1 (by omega)) (hA.at 2 (by omega)) (hA.at 3 (by omega)), trivial⟩
