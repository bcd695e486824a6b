/-! THE TIE between class (cells 0..227) and reference (cells 228..239) -/
abbrev nN (M : gMem) : Int := M 228 2
/-- the lengths, as the reference has them -/
def mL (M : gMem) (u v : Int) : Int := M 229 (12 * u + v)
def RowOK (M : gMem) (o : Int) : Prop := LOK (nN M) (fun u v => M 229 (o + (12 * u + v))) ∧ ∀ v, 0 ≤ v → v < 12 → 0 ≤ M 229 (o + 144 + v) ∧ M 229 (o + 144 + v) ≤ 2 ∧ (nN M ≤ v → M 229 (o + 144 + v) = 0)
/-- a net of the class at cell c is what the reference has at place o of its row -/
def NetRel (M : gMem) (c o : Int) : Prop :=
  M c 0 = nN M ∧ (∀ k, 0 ≤ k → k < 144 → M (c + 1) k = M 229 (o + k)) ∧ (∀ k, 0 ≤ k → k < 12 → M (c + 2) k = M 229 (o + 144 + k)) ∧ M c 2 = M 229 (o + 156) ∧ 2 * M c 1 = cnt (fun k => decide (0 < M 229 (o + k))) 144 ∧ M c 1 ≤ 30 ∧ RowOK M o
/-- bits of a row of numbers: those that aren't -1 -/
def bitsF (f : Int → Int) : Nat → Int
  | 0 => 0
  | k + 1 => bitsF f k + (if f (k : Int) = -1 then 0 else ((2 ^ k : Nat) : Int))
def NoteOK (M : gMem) (q : Int) : Prop :=
  (∀ i, 0 ≤ i → i < 3 → -1 ≤ M (q + 1) i ∧ M (q + 1) i < nN M ∧ -1 ≤ M (q + 2) i ∧ M (q + 2) i ≤ 1188 ∧ (M (q + 1) i = -1 ↔ M (q + 2) i = -1)) ∧ (∀ w, 0 ≤ w → w < 12 → -1 ≤ M (q + 3) w ∧ M (q + 3) w ≤ 1188) ∧ M q 1 = bitsF (M (q + 3)) 12
def NoteRel (M : gMem) (q o : Int) : Prop :=
  (M q 0 = 0 ∨ M q 0 = 1) ∧ M 230 o = M q 0 ∧ (M q 0 = 1 → (∀ i, 0 ≤ i → i < 3 → M (q + 1) i = M 230 (o + 1 + i) ∧ M (q + 2) i = M 230 (o + 4 + i)) ∧ M q 1 = M 230 (o + 7) ∧ (∀ w, 0 ≤ w → w < 12 → M (q + 3) w = M 230 (o + 8 + w)) ∧ NoteOK M q)
def TextRel (M : gMem) : Prop := M 7 0 = M 228 6 ∧ 0 ≤ M 7 0 ∧ M 7 0 ≤ 200 ∧ ∀ i, 0 ≤ i → i < M 7 0 → M 8 i = M 232 i
def PastRel (M : gMem) : Prop := M 9 0 = M 228 1 ∧ 0 ≤ M 9 0 ∧ M 9 0 ≤ 8 ∧ 0 ≤ M 9 1 ∧ M 9 1 < 8 ∧ ∀ i, 0 ≤ i → i < M 9 0 → NetRel M (11 + 3 * ((M 9 1 + 8 - M 9 0 + i) % 8)) (157 + 157 * i)
def SlotRel (M : gMem) (k : Int) : Prop := (M (89 + 53 * k) 0 = 0 ∨ M (89 + 53 * k) 0 = 1) ∧ M 231 k = M (89 + 53 * k) 0 ∧ (M (89 + 53 * k) 0 = 1 → NetRel M (90 + 53 * k) (1413 + 157 * k) ∧ ∀ v, 0 ≤ v → v < 12 → NoteRel M (94 + 53 * k + 4 * v) (240 + 240 * k + 20 * v))
def VerOK (t : Int) (M : gMem) : Prop := (1 ≤ M 1 3 ∧ M 1 3 ≤ 1 + 200 * t) ∧ (0 ≤ M 4 3 ∧ M 4 3 ≤ 1 + 200 * t) ∧ (∀ i, 0 ≤ i → i < 8 → 0 ≤ M (11 + 3 * i) 3 ∧ M (11 + 3 * i) 3 ≤ 1 + 200 * t) ∧ ∀ k, 0 ≤ k → k < 2 → 0 ≤ M (90 + 53 * k) 3 ∧ M (90 + 53 * k) 3 ≤ 1 + 200 * t
def InvA (t : Int) (M : gMem) : Prop :=
  (2 ≤ nN M ∧ nN M ≤ 12) ∧ NetRel M 1 0 ∧ (∀ v, 0 ≤ v → v < 12 → NoteRel M (36 + 4 * v) (20 * v)) ∧ TextRel M ∧ PastRel M ∧ (∀ k, 0 ≤ k → k < 2 → SlotRel M k) ∧ VerOK t M ∧ (∀ k : Nat, k < 15 → M 235 (k : Int) = gwl.getD k 0)
/-- cells that the tie doesn't speak of -/
def scr (c : Int) : Prop := (84 ≤ c ∧ c < 88) ∨ (195 ≤ c ∧ c < 229) ∨ c = 233 ∨ c = 234 ∨ (236 ≤ c ∧ c < 240) ∨ c = 5 ∨ c = 6
/-- what changed is beside the tie -/
def Aside (M M' : gMem) : Prop := (∀ c, ¬ scr c → c ≠ 4 → M' c = M c) ∧ M' 4 3 = M 4 3 ∧ M' 228 1 = M 228 1 ∧ M' 228 2 = M 228 2 ∧ M' 228 6 = M 228 6
theorem Aside.rf {M : gMem} : Aside M M := ⟨fun _ _ _ => rfl, rfl, rfl, rfl, rfl⟩
theorem Aside.tr {M M' M'' : gMem} (h : Aside M M') (h2 : Aside M' M'') : Aside M M'' := ⟨fun c a b => (h2.1 c a b).trans (h.1 c a b), h2.2.1.trans h.2.1, h2.2.2.1.trans h.2.2.1, h2.2.2.2.1.trans h.2.2.2.1, h2.2.2.2.2.trans h.2.2.2.2⟩
theorem NetRel.cong {M M' : gMem} {c o : Int} (h : NetRel M c o) (h0 : M' 228 2 = M 228 2) (h1 : M' 229 = M 229) (h2 : M' c = M c) (h3 : M' (c + 1) = M (c + 1)) (h4 : M' (c + 2) = M (c + 2)) : NetRel M' c o := by
  unfold NetRel RowOK nN at h ⊢
  rw [h0, h1, h2, h3, h4]
  exact h
theorem NoteRel.cong {M M' : gMem} {q o : Int} (h : NoteRel M q o) (h0 : M' 228 2 = M 228 2) (h1 : M' 230 = M 230) (h2 : M' q = M q) (h3 : M' (q + 1) = M (q + 1)) (h4 : M' (q + 2) = M (q + 2)) (h5 : M' (q + 3) = M (q + 3)) : NoteRel M' q o := by
  unfold NoteRel NoteOK nN at h ⊢
  rw [h0, h1, h2, h3, h4, h5]
  exact h
theorem nsc (c : Int) (h : (0 ≤ c ∧ c < 4) ∨ (7 ≤ c ∧ c < 84) ∨ (88 ≤ c ∧ c < 195) ∨ (229 ≤ c ∧ c < 233) ∨ c = 235) : ¬ scr c ∧ c ≠ 4 := by
  unfold scr
  omega
theorem Aside.at {M M' : gMem} (h : Aside M M') (c : Int) (hc : (0 ≤ c ∧ c < 4) ∨ (7 ≤ c ∧ c < 84) ∨ (88 ≤ c ∧ c < 195) ∨ (229 ≤ c ∧ c < 233) ∨ c = 235) : M' c = M c := h.1 c (nsc c hc).1 (nsc c hc).2
theorem InvA.cong {t : Int} {M M' : gMem} (h : InvA t M) (hA : Aside M M') : InvA t M' := by
  obtain ⟨h1, h2, h3, h4, h5, h6, h7, h8⟩ := h
  have a := hA.at
  obtain ⟨-, a4, b1, b2, b6⟩ := hA
  refine ⟨by unfold nN at h1 ⊢; rw [b2]; exact h1, h2.cong b2 (a 229 (by omega)) (a 1 (by omega)) (a 2 (by omega)) (a 3 (by omega)), fun v c d => (h3 v c d).cong b2 (a 230 (by omega)) (a _ (by omega)) (a _ (by omega)) (a _ (by omega)) (a _ (by omega)), ?_, ?_, fun k c d => ?_, ?_, fun k hk => by rw [a 235 (by omega)]; exact h8 k hk⟩
  · unfold TextRel at h4 ⊢
    rw [a 7 (by omega), a 8 (by omega), a 232 (by omega), b6]
    exact h4
  · unfold PastRel at h5 ⊢
    rw [a 9 (by omega), b1]
    obtain ⟨p1, p2, p3, p4, p5, p6⟩ := h5
    refine ⟨p1, p2, p3, p4, p5, fun i c d => (p6 i c d).cong b2 (a 229 (by omega)) (a _ (by omega)) (a _ (by omega)) (a _ (by omega))⟩
  · have h6 := h6 k c d
    unfold SlotRel at h6 ⊢
    rw [a (89 + 53 * k) (by omega), a 231 (by omega)]
    refine ⟨h6.1, h6.2.1, fun e => ⟨(h6.2.2 e).1.cong b2 (a 229 (by omega)) (a _ (by omega)) (a _ (by omega)) (a _ (by omega)), fun v f g => ((h6.2.2 e).2 v f g).cong b2 (a 230 (by omega)) (a _ (by omega)) (a _ (by omega)) (a _ (by omega)) (a _ (by omega))⟩⟩
  · obtain ⟨v1, v2, v3, v4⟩ := h7
    refine ⟨by rw [a 1 (by omega)]; exact v1, by rw [a4]; exact v2, fun i c d => by rw [a _ (by omega)]; exact v3 i c d, fun k c d => by rw [a _ (by omega)]; exact v4 k c d⟩
theorem VerOK.later {t : Int} {M : gMem} (h : VerOK t M) : VerOK (t + 1) M := by
  obtain ⟨v1, v2, v3, v4⟩ := h
  exact ⟨by omega, by omega, fun i c d => by have := v3 i c d; omega, fun i c d => by have := v4 i c d; omega⟩
theorem InvA.later {t : Int} {M : gMem} (h : InvA t M) : InvA (t + 1) M := ⟨h.1, h.2.1, h.2.2.1, h.2.2.2.1, h.2.2.2.2.1, h.2.2.2.2.2.1, h.2.2.2.2.2.2.1.later, h.2.2.2.2.2.2.2⟩
/-- the class's table of distances, kept: it is right if it was made at this version -/
def FarOK (M : gMem) : Prop := M 195 0 = nN M ∧ M 195 1 = M 1 3 ∧ IsD (nN M) (mL M) 1000000 (fun a b => M (197 + a) b)
def FarInv (M : gMem) : Prop := 0 ≤ M 195 1 ∧ M 195 1 ≤ M 1 3 ∧ (M 195 1 = M 1 3 → FarOK M)
theorem InvA.L {t : Int} {M : gMem} (h : InvA t M) : LOK (nN M) (mL M) := by
  have := h.2.1.2.2.2.2.2.2.1
  intro u v a b c d
  have := this u v a b c d
  dsimp only at this
  rw [Int.zero_add, Int.zero_add] at this
  exact this
theorem InvA.lev {t : Int} {M : gMem} (h : InvA t M) (v : Int) (h0 : 0 ≤ v) (h1 : v < 12) : 0 ≤ M 229 (144 + v) ∧ M 229 (144 + v) ≤ 2 ∧ (nN M ≤ v → M 229 (144 + v) = 0) := by
  have := h.2.1.2.2.2.2.2.2.2 v h0 h1
  rw [show (0 : Int) + 144 + v = 144 + v by omega] at this
  exact this
theorem InvA.cLe {t : Int} {M : gMem} (h : InvA t M) (u v : Int) (a : 0 ≤ u) (b : u < 12) (c : 0 ≤ v) (d : v < 12) : cL M 1 u v = mL M u v := by
  show M (1 + 1) (12 * u + v) = M 229 (12 * u + v)
  have := h.2.1.2.1 (12 * u + v) (by omega) (by omega)
  rw [Int.zero_add] at this
  exact this
theorem InvA.L99 {t : Int} {M : gMem} (h : InvA t M) : ∀ u v, 0 ≤ u → u < nN M → 0 ≤ v → v < nN M → mL M u v ≤ 99 := fun u v a b c d => (h.L u v a (by have := h.1; omega) c (by have := h.1; omega)).2.1
theorem p_follow1 {t : Int} {K : gMem → Prop} {M : gMem} (h : InvA t M) (hF : FarInv M) (hK : ∀ M', FarFr 195 M M' → FarOK M' → K M') : wX0_follow 195 1 K M := by
  have hn := h.1
  have hnet := h.2.1
  have e0 : M 1 0 = nN M := hnet.1
  refine p_follow (by omega) (by rw [e0]; exact hn) ?_ (fun q => hK M (fun _ _ => rfl) (hF.2.2 q)) (fun M' h1 h2 h3 h4 => ?_)
  · rw [e0]
    intro u v a b c d
    rw [h.cLe u v a b c d, h.cLe v u c d a b]
    exact h.L u v a b c d
  · rw [e0] at h2 h4
    have f1 : M' 1 = M 1 := h1 1 (by omega)
    have f2 : M' 228 = M 228 := h1 228 (by omega)
    have f3 : M' 229 = M 229 := h1 229 (by omega)
    refine hK M' h1 ⟨by unfold nN; rw [f2]; exact h2, by rw [f1]; exact h3, ?_⟩
    have e : mL M' = mL M := by funext u v; unfold mL; rw [f3]
    unfold nN
    rw [f2, e]
    exact h4.cong (fun u v a b c d => (h.cLe u v a (by omega) c (by omega)).symm)
theorem FarFr.aside {M M' : gMem} (h : FarFr 195 M M') : Aside M M' := ⟨fun c h1 h2 => h c (by unfold scr at h1; omega), by rw [h 4 (by omega)], by rw [h 228 (by omega)], by rw [h 228 (by omega)], by rw [h 228 (by omega)]⟩
theorem FarOK.inv {M : gMem} (h : FarOK M) (hv : 1 ≤ M 1 3) : FarInv M := ⟨by rw [h.2.1]; omega, by rw [h.2.1]; omega, fun _ => h⟩
/-- distance of two nodes -/
noncomputable def dd (M : gMem) (u v : Int) : Int := gdist (nN M) (mL M) u v
theorem dd_cong {M M' : gMem} (h : Aside M M') : dd M' = dd M := by
  funext u v
  unfold dd nN
  have e : mL M' = mL M := by funext u v; unfold mL; rw [h.at 229 (by omega)]
  rw [e, h.2.2.2.1]
theorem p_btw1 {t u v : Int} {K : Int → gMem → Prop} {M : gMem} (h : InvA t M) (hF : FarOK M) (h1 : (0 ≤ u ∧ u < nN M) ∧ 0 ≤ v ∧ v < nN M → K (dd M u v) M) (h2 : ¬ ((0 ≤ u ∧ u < nN M) ∧ 0 ≤ v ∧ v < nN M) → K (-1) M) : wX0_between 195 u v K M := by
  refine p_btw (by rw [hF.1]; exact h.1.2) (fun q => ?_) (fun q => h2 (by rw [hF.1] at q; exact q))
  rw [hF.1] at q
  have := h1 q
  rcases hF.2.2.val h.1.2 h.L99 (by decide) q.1.1 q.1.2 q.2.1 q.2.2 with ⟨a, b, -, -⟩ | ⟨a, b⟩
  · have a : M (197 + u) v < 1000000 := a
    have b : dd M u v = M (197 + u) v := b
    rw [b] at this
    show K (if M (197 + u) v < 1000000 then M (197 + u) v else -1) M
    rw [if_pos a]
    exact this
  · have a : ¬ M (197 + u) v < 1000000 := a
    have b : dd M u v = -1 := b
    rw [b] at this
    show K (if M (197 + u) v < 1000000 then M (197 + u) v else -1) M
    rw [if_neg a]
    exact this
theorem dd_bd {t u v : Int} {M : gMem} (h : InvA t M) {B : Int} {f : Int → Int → Int} (hI : IsD (nN M) (mL M) B f) (hB : 2000 ≤ B) (hu : 0 ≤ u ∧ u < nN M) (hv : 0 ≤ v ∧ v < nN M) : -1 ≤ dd M u v ∧ dd M u v ≤ 1188 := by
  rcases hI.val h.1.2 h.L99 hB hu.1 hu.2 hv.1 hv.2 with ⟨a, b, c, d⟩ | ⟨a, b⟩
  · unfold dd; omega
  · unfold dd; omega
/-- the reference's table, found anew -/
def mFar (M : gMem) : Prop := IsD (nN M) (mL M) 100000 (fun u v => M 236 (12 * u + v))
theorem p_finds0 {t : Int} {K : gMem → Prop} {M : gMem} (h : InvA t M) (hK : ∀ M', Only 236 M M' → mFar M' → K M') : wX10_finds 228 0 K M := by
  refine p_finds h.1 (fun k a b => ?_) (fun M' h1 h2 => hK M' h1 ?_)
  · have := h.L (k / 12) (k % 12) (by omega) (by omega) (by omega) (by omega)
    unfold mL at this
    rw [show 12 * (k / 12) + k % 12 = k by omega] at this
    omega
  · unfold mFar nN
    rw [h1 228 (by decide)]
    have e : mL M' = mL M := by funext u v; unfold mL; rw [h1 229 (by decide)]
    rw [e]
    refine h2.cong (fun u v a b c d => ?_)
    have hn : nN M ≤ 12 := h.1.2
    have := h.L u v a (by unfold nN at hn; omega) c (by unfold nN at hn; omega)
    unfold mLb
    unfold mL at this ⊢
    split
    · rfl
    · omega
theorem Only.aside {c : Int} {M M' : gMem} (h : Only c M M') (hc : c = 233 ∨ c = 234 ∨ (236 ≤ c ∧ c < 240)) : Aside M M' := ⟨fun c' h1 h2 => h c' (fun e => h1 (by subst e; unfold scr; omega)), by rw [h 4 (by omega)], by rw [h 228 (by omega)], by rw [h 228 (by omega)], by rw [h 228 (by omega)]⟩
theorem p_isWay {u v : Int} {K : Int → gMem → Prop} {M : gMem} (hu : 0 ≤ u ∧ u < 12) (hv : 0 ≤ v ∧ v < 12) (h1 : M 236 (12 * u + v) < 100000 → K 1 M) (h2 : ¬ M 236 (12 * u + v) < 100000 → K 0 M) : wX10_isWay 228 u v K M := by
  unfold wX10_isWay
  simp only [Int.reduceAdd]
  exact ⟨⟨by omega, by omega⟩, ⟨by omega, by omega⟩, ⟨by omega, by omega⟩, gK1_r ⟨fun q => ⟨Or.inl rfl, h2 (by omega)⟩, fun q => ⟨Or.inr rfl, h1 (by omega)⟩⟩⟩
theorem p_isNode {u : Int} {K : Int → gMem → Prop} {M : gMem} (hn : 2 ≤ nN M ∧ nN M ≤ 12) (h1 : 0 ≤ u ∧ u < nN M → K 1 M) (h2 : ¬ (0 ≤ u ∧ u < nN M) → K 0 M) : wX10_isNode 228 u K M := by
  unfold wX10_isNode
  unfold nN at hn h1 h2
  exact ⟨⟨by omega, by omega⟩, p_in (fun q => ⟨Or.inr rfl, h1 (by omega)⟩) (fun q => ⟨Or.inl rfl, h2 (by omega)⟩)⟩
theorem mFar.val {t u v : Int} {M : gMem} (h : mFar M) (hI : InvA t M) (hu : 0 ≤ u ∧ u < nN M) (hv : 0 ≤ v ∧ v < nN M) : (M 236 (12 * u + v) < 100000 ∧ dd M u v = M 236 (12 * u + v) ∧ 0 ≤ dd M u v ∧ dd M u v ≤ 1188) ∨ (¬ M 236 (12 * u + v) < 100000 ∧ dd M u v = -1) := by
  rcases IsD.val (show IsD (nN M) (mL M) 100000 (fun u v => M 236 (12 * u + v)) from h) hI.1.2 hI.L99 (by decide) hu.1 hu.2 hv.1 hv.2 with ⟨a, b, c, d⟩ | ⟨a, b⟩
  · have b : dd M u v = M 236 (12 * u + v) := b
    exact Or.inl ⟨a, b, by rw [b]; exact c, by rw [b]; exact d⟩
  · exact Or.inr ⟨a, b⟩
