/-! CALLS, 15: mend -/
theorem frs_of {M M' : gMem} (h : RS M M') {v : Int} (hv : ∀ k, 0 ≤ k → k < 20 → M' 230 (20 * v + k) = M 230 (20 * v + k)) : frs M' v ↔ frs M v := by
  unfold frs
  rw [frv_rs h]
  exact ⟨fun q k a b => by rw [← hv k a b]; exact q k a b, fun q k a b => by rw [hv k a b]; exact q k a b⟩
noncomputable def nfb (M : gMem) (v : Int) : Bool := !(frb M v)
theorem nfb_t {M : gMem} {v : Int} (h : ¬ frs M v) : nfb M v = true := by unfold nfb; rw [frb_f h]; rfl
theorem nfb_f {M : gMem} {v : Int} (h : frs M v) : nfb M v = false := by unfold nfb; rw [frb_t h]; rfl
/-- notes of the class below v are mended -/
def MdC (M : gMem) (v : Int) (M' : gMem) : Prop := (∀ c, c < 36 ∨ (88 ≤ c ∧ c < 195) ∨ 209 ≤ c → M' c = M c) ∧ FarInv M' ∧ (∀ x, 0 ≤ x → x < 12 → (x < v → frs M x) → ∀ c, 36 + 4 * x ≤ c → c < 40 + 4 * x → M' c = M c) ∧ ∀ x, 0 ≤ x → x < v → ¬ frs M x → NoteIs M x M' (36 + 4 * x)
theorem p_mendC {t : Int} {K : Int → gMem → Prop} {M : gMem} (h : Inv t M) (hK : ∀ M', MdC M (nN M) M' → K (cnt (nfb M) (nN M).toNat) M') : wX9_mend 0 K M := by
  unfold wX9_mend
  simp only [Int.reduceAdd]
  have hn := h.1.1
  have e0 : M 1 0 = nN M := h.1.2.1.1
  have ver := h.1.2.2.2.2.2.2.1.1.1
  refine ⟨fun f v M' => 0 ≤ v ∧ v ≤ nN M ∧ MdC M v M' ∧ f = cnt (nfb M) v.toNat, fun f v _ => nN M - v, ⟨by omega, by omega, ⟨fun _ _ => rfl, h.2.1, fun _ _ _ _ _ _ _ => rfl, fun x a b => by omega⟩, rfl⟩, ?_⟩
  intro f v M1 ⟨v0, v1, ⟨a1, a2, a3, a4⟩, hf⟩
  dsimp only
  rw [a1 1 (by omega), e0]
  have hs := cnt_sI (nfb M) v v0
  have hb := cnt_bI (nfb M) v v0
  rw [← hf] at hs hb
  have rs1 : RS M M1 := ⟨by rw [a1 228 (by omega)], a1 229 (by omega)⟩
  have eN : nN M1 = nN M := rs1.1
  have c1 : InvC t M1 := ⟨by rw [eN]; exact hn, h.1.2.1.stay rs1.1 (fun x p q => a1 x (by omega)) (fun k p q => by rw [rs1.2]), trivial⟩
  refine ⟨by omega, fun q => ?_, fun q => ?_⟩
  · have e : v = nN M := by omega
    rw [hf, e]
    subst e
    exact hK M1 ⟨a1, a2, a3, a4⟩
  · have e30 : M1 230 = M 230 := a1 230 (by omega)
    have nr1 : NoteRel M1 (36 + 4 * v) (20 * v) := (h.1.2.2.1 v v0 (by omega)).stay rs1.1 (fun c p r => a3 v v0 (by omega) (fun g => by omega) c p (by omega)) (fun k p r => by rw [e30])
    refine p_isFreshCC c1 a2 (by omega) nr1 (fun M2 r q2 o2 n2 hr => ?_)
    rw [frs_of rs1 (fun k p r => by rw [e30])] at hr
    have f2 : FarInv M2 := o2.inv (by rw [q2 1 (by omega), a1 1 (by omega)]; exact ver)
    refine gK1_r ⟨fun a => ⟨⟨by omega, by omega⟩, ⟨by omega, by omega, ⟨fun c hc => by rw [q2 c (by omega), a1 c hc], f2, fun x x0 x1 hx c p r => ?_, fun x x0 x1 hx => ?_⟩, ?_⟩, by omega⟩, fun a => ⟨⟨by omega, by omega⟩, ?_⟩⟩
    · rw [q2 c (by omega)]
      exact a3 x x0 x1 (fun g => hx (by omega)) c p r
    · have xv : x ≠ v := fun g => hx (by rw [g]; rcases hr with hr | hr; exact hr.2; omega)
      have n := a4 x x0 (by omega) hx
      refine ⟨by rw [q2 _ (by omega)]; exact n.1, fun i p r => ?_, fun w p r => ?_, by rw [q2 _ (by omega)]; exact n.2.2.2⟩
      · rw [q2 _ (by omega), q2 _ (by omega)]; exact n.2.1 i p r
      · rw [q2 _ (by omega)]; exact n.2.2.1 w p r
    · rcases hr with hr | hr
      · rw [hs, nfb_f hr.2]; simp
      · omega
    · have hnf : ¬ frs M v := by
        rcases hr with hr | hr
        · omega
        · exact hr.2
      refine p_copyNote (by omega) (Or.inr n2.1) (fun M3 g1 g2 g3 g4 g5 => ⟨⟨by omega, by omega⟩, ⟨by omega, by omega⟩, ⟨by omega, by omega, ⟨fun c hc => by rw [g1 c (by omega), q2 c (by omega), a1 c hc], ?_, fun x x0 x1 hx c p r => ?_, fun x x0 x1 hx => ?_⟩, ?_⟩, by omega⟩)
      · exact f2.cong (by unfold nN; rw [q2 228 (by omega)]; unfold nN at eN hn; omega) (by rw [g1 1 (by omega)]) (fun c p r => g1 c (by omega)) (by rw [g1 228 (by omega)]) (g1 229 (by omega))
      · have xv : x ≠ v := fun g => hnf (by rw [← g]; exact hx (by omega))
        rw [g1 c (by omega), q2 c (by omega)]
        exact a3 x x0 x1 (fun g => hx (by omega)) c p r
      · by_cases e : x = v
        · subst e
          unfold NoteIs at n2 ⊢
          rw [nr_rs rs1, nf_rs rs1, fr_rs rs1] at n2
          refine ⟨by rw [g2]; exact n2.1, fun i p r => by rw [(g4 i p r).1, (g4 i p r).2]; exact n2.2.1 i p r, fun w p r => by rw [g5 w p r]; exact n2.2.2.1 w p r, by rw [g3]; exact n2.2.2.2⟩
        · have n := a4 x x0 (by omega) hx
          refine ⟨by rw [g1 _ (by omega), q2 _ (by omega)]; exact n.1, fun i p r => ?_, fun w p r => ?_, by rw [g1 _ (by omega), q2 _ (by omega)]; exact n.2.2.2⟩
          · rw [g1 _ (by omega), g1 _ (by omega), q2 _ (by omega), q2 _ (by omega)]; exact n.2.1 i p r
          · rw [g1 _ (by omega), q2 _ (by omega)]; exact n.2.2.1 w p r
      · rw [hs, nfb_t hnf]; simp
/-- notes of the reference below v are mended -/
def MdM (M : gMem) (v : Int) (M' : gMem) : Prop := (∀ c, c ≠ 230 → c ≠ 236 → c ≠ 239 → M' c = M c) ∧ mFar M' ∧ (∀ k, 240 ≤ k → M' 230 k = M 230 k) ∧ (∀ x, 0 ≤ x → x < 12 → (x < v → frs M x) → ∀ k, 0 ≤ k → k < 20 → M' 230 (20 * x + k) = M 230 (20 * x + k)) ∧ ∀ x, 0 ≤ x → x < v → ¬ frs M x → ∀ k, 0 ≤ k → k < 20 → M' 230 (20 * x + k) = frv M x k
theorem p_mendM {t : Int} {K : Int → gMem → Prop} {M : gMem} (h : InvB t M) (hK : ∀ M', MdM M (nN M) M' → K (cnt (nfb M) (nN M).toNat) M') : wX10_mend 228 K M := by
  unfold wX10_mend
  have hn := h.1
  refine p_finds0B h (fun M0 o0 F0 => ?_)
  refine ⟨fun f v M' => 0 ≤ v ∧ v ≤ nN M ∧ MdM M v M' ∧ f = cnt (nfb M) v.toNat, fun f v _ => nN M - v, ⟨by omega, by omega, ⟨fun c _ b _ => o0 c b, F0, fun k _ => by rw [o0 230 (by decide)], fun _ _ _ _ k _ _ => by rw [o0 230 (by decide)], fun x a b => by omega⟩, rfl⟩, ?_⟩
  intro f v M1 ⟨v0, v1, ⟨a1, a2, a5, a3, a4⟩, hf⟩
  dsimp only
  have rs1 : RS M M1 := ⟨by rw [a1 228 (by decide) (by decide) (by decide)], a1 229 (by decide) (by decide) (by decide)⟩
  have eN : nN M1 = nN M := rs1.1
  have e0 : M1 228 2 = nN M := rs1.1
  rw [e0]
  have hs := cnt_sI (nfb M) v v0
  have hb := cnt_bI (nfb M) v v0
  rw [← hf] at hs hb
  refine ⟨by omega, fun q => ?_, fun q => ?_⟩
  · have e : v = nN M := by omega
    rw [hf, e]
    subst e
    exact hK M1 ⟨a1, a2, a5, a3, a4⟩
  · refine p_isFreshMB (h.rs rs1) a2 (by omega) (fun M2 r o2 g2 hr => ?_)
    rw [frs_of rs1 (fun k p r => a3 v v0 (by omega) (fun g => by omega) k p r)] at hr
    have F2 : mFar M2 := a2.cong (o2 236 (by decide)) (by rw [o2 228 (by decide)]) (o2 229 (by decide))
    have rs2 : RS M M2 := rs1.tr ⟨by rw [o2 228 (by decide)], o2 229 (by decide)⟩
    have e30 : M2 230 = M1 230 := o2 230 (by decide)
    refine gK1_r ⟨fun a => ⟨⟨by omega, by omega⟩, ⟨by omega, by omega, ⟨fun c p q r => by rw [o2 c r, a1 c p q r], F2, fun k p => by rw [e30]; exact a5 k p, fun x x0 x1 hx k p r => ?_, fun x x0 x1 hx k p r => ?_⟩, ?_⟩, by omega⟩, fun a => ?_⟩
    · rw [e30]
      exact a3 x x0 x1 (fun g => hx (by omega)) k p r
    · have xv : x ≠ v := fun g => hx (by rw [g]; rcases hr with hr | hr; exact hr.2; omega)
      rw [e30]
      exact a4 x x0 (by omega) hx k p r
    · rcases hr with hr | hr
      · rw [hs, nfb_f hr.2]; simp
      · omega
    · have hnf : ¬ frs M v := by
        rcases hr with hr | hr
        · omega
        · exact hr.2
      have eN2 : nN M2 = nN M := rs2.1
      refine p_writesB (h.rs rs2) F2 (by omega) (fun M3 k1 k2 k3 => ⟨⟨by omega, by omega⟩, ⟨by omega, by omega⟩, ⟨by omega, by omega, ⟨fun c p q r => by rw [k1 c p r, o2 c r, a1 c p q r], ?_, fun k p => by rw [k2 k (by omega), e30]; exact a5 k p, fun x x0 x1 hx k p r => ?_, fun x x0 x1 hx k p r => ?_⟩, ?_⟩, by omega⟩)
      · exact F2.cong (k1 236 (by decide) (by decide)) (by rw [k1 228 (by decide) (by decide)]) (k1 229 (by decide) (by decide))
      · have xv : x ≠ v := fun g => hnf (by rw [← g]; exact hx (by omega))
        rw [k2 _ (by omega), e30]
        exact a3 x x0 x1 (fun g => hx (by omega)) k p r
      · by_cases e : x = v
        · subst e
          rw [k3 k p r, frv_rs rs2]
        · rw [k2 _ (by omega), e30]
          exact a4 x x0 (by omega) hx k p r
      · rw [hs, nfb_t hnf]; simp
theorem c_mend {t : Int} {K1 : Int → gMem → Prop} {M : gMem} (h : Inv t M) (hK : ∀ r M1, Ag t (wX10_mend 228) r M1 → K1 r M1) : wX9_mend 0 K1 M := by
  refine p_mendC h (fun M1 d1 => hK _ _ (fun K2 hk => ?_))
  have hn := h.1.1
  obtain ⟨a1, a2, a3, a4⟩ := d1
  have rs1 : RS M M1 := ⟨by rw [a1 228 (by omega)], a1 229 (by omega)⟩
  have e30 : M1 230 = M 230 := a1 230 (by omega)
  have eN : nN M1 = nN M := rs1.1
  have ef : ∀ x, frs M1 x ↔ frs M x := fun x => frs_of rs1 (fun k p r => by rw [e30])
  have efb : nfb M1 = nfb M := by
    funext x
    by_cases g : frs M x
    · rw [nfb_f g, nfb_f ((ef x).2 g)]
    · rw [nfb_t g, nfb_t (fun q => g ((ef x).1 q))]
  refine p_mendM (h.1.b.rs rs1) (fun M2 d2 => ?_)
  rw [efb, eN]
  obtain ⟨b1, b2, b5, b3, b4⟩ := d2
  rw [eN] at b3 b4
  rw [frv_rs rs1] at b4
  refine hk M2 (Inv.later ?_)
  have m22 : M2 228 2 = M 228 2 := by rw [b1 228 (by decide) (by decide) (by decide)]; exact rs1.1
  have b22 : InvB t M2 := h.1.b.rs ⟨m22, by rw [b1 229 (by decide) (by decide) (by decide)]; exact rs1.2⟩
  have rs2 : RS M M2 := ⟨m22, by rw [b1 229 (by decide) (by decide) (by decide)]; exact rs1.2⟩
  have eN2 : nN M2 = nN M := m22
  have db : ∀ u x, 0 ≤ u → u < nN M → 0 ≤ x → x < nN M → -1 ≤ dd M u x ∧ dd M u x ≤ 1188 := fun u x p q r s => by
    have := b2.valB b22 (u := u) (v := x) (by omega) (by omega)
    rw [dd_rs rs2] at this
    omega
  have F2 : FarInv M2 := a2.cong (by omega) (by rw [b1 1 (by decide) (by decide) (by decide)]) (fun c p q => b1 c (by omega) (by omega) (by omega)) (by rw [b1 228 (by decide) (by decide) (by decide)]) (b1 229 (by decide) (by decide) (by decide))
  refine h.noted m22 (by rw [b1 228 (by decide) (by decide) (by decide), a1 228 (by omega)]) (by rw [b1 228 (by decide) (by decide) (by decide), a1 228 (by omega)]) (fun c hc => by rw [b1 c (by omega) (by omega) (by omega), a1 c (by omega)]) F2 (fun k p q => by rw [b5 k p, e30]) (fun x x0 x1 => ?_)
  by_cases g : x < nN M ∧ ¬ frs M x
  · have n := a4 x x0 g.1 g.2
    refine note_new hn (fun y p q => db x y x0 g.1 p q) m22 ?_ ?_ (fun i p q => ?_) (fun w p q => ?_) (fun k p q => b4 x x0 g.1 (fun r => g.2 ((ef x).1 r)) k p q)
    · rw [b1 _ (by omega) (by omega) (by omega)]; exact n.1
    · rw [b1 _ (by omega) (by omega) (by omega)]; exact n.2.2.2
    · rw [b1 _ (by omega) (by omega) (by omega), b1 _ (by omega) (by omega) (by omega)]; exact n.2.1 i p q
    · rw [b1 _ (by omega) (by omega) (by omega)]; exact n.2.2.1 w p q
  · have fx : x < nN M → frs M x := fun p => Classical.byContradiction (fun r => g ⟨p, r⟩)
    exact (h.1.2.2.1 x x0 x1).stay m22 (fun c p q => by rw [b1 c (by omega) (by omega) (by omega)]; exact a3 x x0 x1 fx c p (by omega)) (fun k p q => by rw [b3 x x0 x1 (fun r => (ef x).2 (fx r)) k p q, e30])
