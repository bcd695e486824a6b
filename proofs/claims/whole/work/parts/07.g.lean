theorem g32_ofNat (n : Nat) : Int32.ofNat n = g32 (n : Int) := Int32.toBitVec_inj.mp (g32_bv n).symm
section GI3
variable {X : gX} {V : gW} {l : Launch} {cc : ByteArray} {nL : Nat} {own : String} {fr lo : Nat} {pc : Nat} {L : List (Nat × gSV)} {st : List gSV} {M : gMem}
-- fields
theorem g_getf (C : gC X V l cc nL own fr lo) {i : Nat} (d : decode cc pc = .ok (.getfield i, 3)) {c : Int} {t : Nat} (hT : gT c t) {Cn : String} {T : u_T} {N : Nat} (hcl : vwCl[t]? = some (Cn, T, N)) (hin : ∀ w ∈ u_ws Cn T N, w ∈ lw_good) (k : Nat) (hk : k < N)
    (hw : Cond.fieldLink own i (T k).1 (T k).2.1 (T k).2.2.1 ∈ lw_good) {fs : List Value} (hfs : gcV V.2.1 t (fun k => g32 (M c (k : Int))) (grB V.2.2.1 t c) = .inr (t, fs)) {q : gSV} (hv : fs[k]? = some (grv V q)) (hq : gOM M → gOK q)
    (kk : gG X V nL (pc + 3) L (q :: st) M) : gG X V nL pc L (gF c :: st) M :=
  fun hL hS hM ls H locs hl hP hV => va_get C.1 C.2.1 C.2.2.2.2.1 hin C.2.2.2.1 C.2.2.2.2.2.1 hP c.toNat ((gws_at hT).trans (by rw [hfs])) hcl k hk (C.2.2.2.2.1 _ hw) (fun _ h => h) hv d (kk hL (gok_n (hq hM) (gok_t hS)) hM ls H locs hl hP hV)
theorem g_putf (C : gC X V l cc nL own fr lo) {i : Nat} (d : decode cc pc = .ok (.putfield i, 3)) {c z : Int} {t : Nat} (hT : gT c t) {Cn : String} {T : u_T} {N : Nat} (hcl : vwCl[t]? = some (Cn, T, N)) (hin : ∀ w ∈ u_ws Cn T N, w ∈ lw_good) (ty0 : Nat → FieldType) (hty : ∀ k, k < N → parseFieldDescriptor (T k).2.2.1 = some (ty0 k)) (hnm : ∀ a, a < N → ∀ b, b < N → a ≠ b → (T a).2.1 ≠ (T b).2.1) (k : Nat) (hk : k < N)
    (hw : Cond.fieldLink own i (T k).1 (T k).2.1 (T k).2.2.1 ∈ lw_good) {fs : List Value} (hfs : gcV V.2.1 t (fun k => g32 (M c (k : Int))) (grB V.2.2.1 t c) = .inr (t, fs)) (hfin : (T k).2.2.2 = false) {ty : FieldType} (hd : parseFieldDescriptor (T k).2.2.1 = some ty) (hn : narrow ty (.int (g32 z)) = .int (g32 z)) (hfit : fits ty (.int (g32 z)) = true) (hl0 : k < fs.length)
    (hx : (.inr (t, fs.set k (.int (g32 z))) : va_E) = gcV V.2.1 t (fun j => g32 (gup M c (k : Int) z c (j : Int))) (grB V.2.2.1 t c))
    (kk : gG X V nL (pc + 3) L st (gup M c (k : Int) z)) : gG X V nL pc L (gI z :: gF c :: st) M := by
  intro hL hS hM ls H locs hl hP hV
  have hz : gR z := gok_c hS
  refine va_put (v := .int (g32 z)) C.1 C.2.1 C.2.2.2.2.1 hin ty0 hty hnm C.2.2.2.1 C.2.2.2.2.2.1 hP (C.2.2.2.2.2.2.1 M) hV c.toNat ((gws_at hT).trans (by rw [hfs])) hcl k hk (C.2.2.2.2.1 _ hw) (fun _ h => h) hfin hd hn hfit hl0 d (fun H1 locs1 hP1 hD1 hV1 => ?_)
  rw [gws_set (M' := gup M c (k : Int) z) hT hx (fun c' h => gup_c M h)] at hP1
  exact kk hL (gok_t (gok_t hS)) (gOM_up hM hz) ls H1 locs1 hl hP1 hV1
-- arrays
theorem g32_ix {i : Int} (h0 : 0 ≤ i) (hi : gR i) : (((g32 i).toNatClampNeg : Nat) : Int) = i := by rw [g32_nat hi]; omega
theorem g_iald (C : gC X V l cc nL own fr lo) (d : decode cc pc = .ok (.iaload, 1)) {c i : Int} {t n : Nat} (hT : gT c t) (he : ∀ cA f r, gcV cA t f r = .inl (cA 1, n, .inl f)) (hi : 0 ≤ i ∧ i < (n : Int)) (kk : gG X V nL (pc + 1) L (gI (M c i) :: st) M) : gG X V nL pc L (gI i :: gF c :: st) M := by
  intro hL hS hM ls H locs hl hP hV
  have hr : gR i := gok_c hS
  have kk := kk hL (gok_n (hM c i) (gok_t (gok_t hS))) hM ls H locs hl hP hV
  refine va_iald (i := g32 i) C.1 C.2.1 C.2.2.2.2.2.1 hP c.toNat 0 ((gws_at hT).trans (by rw [he])) rfl (g32_in hi.1 hi.2 hr) d ?_
  rw [g32_ix hi.1 hr]
  exact kk
theorem g_zald (C : gC X V l cc nL own fr lo) (d : decode cc pc = .ok (.baload, 1)) {c i : Int} {t n : Nat} (hT : gT c t) (he : ∀ cA f r, gcV cA t f r = .inl (cA 2, n, .inl f)) (hi : 0 ≤ i ∧ i < (n : Int)) (kk : gG X V nL (pc + 1) L (gI (M c i) :: st) M) : gG X V nL pc L (gI i :: gF c :: st) M := by
  intro hL hS hM ls H locs hl hP hV
  have hr : gR i := gok_c hS
  have kk := kk hL (gok_n (hM c i) (gok_t (gok_t hS))) hM ls H locs hl hP hV
  refine va_zald (i := g32 i) C.1 C.2.1 C.2.2.2.2.2.1 hP c.toNat 1 ((gws_at hT).trans (by rw [he])) rfl (g32_in hi.1 hi.2 hr) d ?_
  rw [g32_ix hi.1 hr]
  exact kk
theorem g_upd {M : gMem} {c i z : Int} (h0 : 0 ≤ i) (hi : gR i) : upd (fun k : Nat => g32 (M c (k : Int))) (g32 i).toNatClampNeg (g32 z) = fun k : Nat => g32 (gup M c i z c (k : Int)) := by
  funext k
  have e := g32_ix h0 hi
  by_cases h : k = (g32 i).toNatClampNeg
  · subst h
    rw [e, gup_s, pk_us]
  · rw [pk_un h, gup_k M (by omega)]
theorem g_iast (C : gC X V l cc nL own fr lo) (d : decode cc pc = .ok (.iastore, 1)) {c i z : Int} {t n : Nat} (hT : gT c t) (he : ∀ cA f r, gcV cA t f r = .inl (cA 1, n, .inl f)) (hi : 0 ≤ i ∧ i < (n : Int)) (kk : gG X V nL (pc + 1) L st (gup M c i z)) : gG X V nL pc L (gI z :: gI i :: gF c :: st) M := by
  intro hL hS hM ls H locs hl hP hV
  have hz : gR z := gok_c hS
  have hr : gR i := gok_c (gok_t hS)
  refine va_iast (i := g32 i) (x := g32 z) C.1 C.2.1 C.2.2.2.2.2.1 hP (C.2.2.2.2.2.2.1 M) hV c.toNat 0 ((gws_at hT).trans (by rw [he])) rfl (g32_in hi.1 hi.2 hr) d (fun H1 locs1 hP1 hD1 hV1 => ?_)
  rw [gws_set (M' := gup M c i z) hT (by rw [he, g_upd hi.1 hr]) (fun c' h => gup_c M h)] at hP1
  exact kk hL (gok_t (gok_t (gok_t hS))) (gOM_up hM hz) ls H1 locs1 hl hP1 hV1
theorem g_bool {z : Int} (h : z = 0 ∨ z = 1) : vp_nar .boolean (g32 z) = g32 z ∧ narrow .boolean (.int (g32 z)) = .int (g32 z) ∧ fits .boolean (.int (g32 z)) = true := by
  rcases h with rfl | rfl <;> decide +kernel
theorem g_zast (C : gC X V l cc nL own fr lo) (d : decode cc pc = .ok (.bastore, 1)) {c i z : Int} {t n : Nat} (hT : gT c t) (he : ∀ cA f r, gcV cA t f r = .inl (cA 2, n, .inl f)) (hi : 0 ≤ i ∧ i < (n : Int)) (hz : z = 0 ∨ z = 1) (kk : gG X V nL (pc + 1) L st (gup M c i z)) : gG X V nL pc L (gI z :: gI i :: gF c :: st) M := by
  intro hL hS hM ls H locs hl hP hV
  have hzr : gR z := gok_c hS
  have hr : gR i := gok_c (gok_t hS)
  refine va_zast (i := g32 i) (x := g32 z) C.1 C.2.1 C.2.2.2.2.2.1 hP (C.2.2.2.2.2.2.1 M) hV c.toNat 1 ((gws_at hT).trans (by rw [he])) rfl (g32_in hi.1 hi.2 hr) d (fun H1 locs1 hP1 hD1 hV1 => ?_)
  rw [(g_bool hz).1, gws_set (M' := gup M c i z) hT (by rw [he, g_upd hi.1 hr]) (fun c' h => gup_c M h)] at hP1
  exact kk hL (gok_t (gok_t (gok_t hS))) (gOM_up hM hzr) ls H1 locs1 hl hP1 hV1
theorem g_aald (C : gC X V l cc nL own fr lo) (d : decode cc pc = .ok (.aaload, 1)) {c i : Int} {t n kd : Nat} {Cn : String} (hT : gT c t) (he : ∀ cA f r, gcV cA t f r = .inl (cA kd, n, .inr (.inr (.inr (.inr r))))) (t0 : Nat) (ht0 : (gtys V)[t0]? = some (V.2.1 kd, .object Cn)) (ht : ¬ t < 11) {sd : Int} (hs : gst t = sd) (hi : 0 ≤ i ∧ i < (n : Int)) (kk : gG X V nL (pc + 1) L (gF (c + 1 + sd * i) :: st) M) : gG X V nL pc L (gI i :: gF c :: st) M := by
  intro hL hS hM ls H locs hl hP hV
  have hr : gR i := gok_c hS
  have kk := kk hL (gok_n (q := gF (c + 1 + sd * i)) trivial (gok_t (gok_t hS))) hM ls H locs hl hP hV
  refine va_aldq (i := g32 i) C.1 C.2.1 C.2.2.2.2.2.1 hP c.toNat t0 ((gws_at hT).trans (by rw [he])) ht0 (g32_in hi.1 hi.2 hr) d ?_
  unfold grB
  rw [if_neg ht, g32_ix hi.1 hr, hs]
  exact kk
theorem g_aaldA (C : gC X V l cc nL own fr lo) (d : decode cc pc = .ok (.aaload, 1)) {c i : Int} {t n : Nat} (hT : gT c t) (he : ∀ cA f r, gcV cA t f r = .inl (cA 6, n, .inr (.inr (.inr (.inr r))))) (ht : ¬ t < 11) {sd : Int} (hs : gst t = sd) (hi : 0 ≤ i ∧ i < (n : Int)) (kk : gG X V nL (pc + 1) L (gF (c + 1 + sd * i) :: st) M) : gG X V nL pc L (gI i :: gF c :: st) M := by
  intro hL hS hM ls H locs hl hP hV
  have hr : gR i := gok_c hS
  have kk := kk hL (gok_n (q := gF (c + 1 + sd * i)) trivial (gok_t (gok_t hS))) hM ls H locs hl hP hV
  have hin := g32_in hi.1 hi.2 hr
  have hlt : (g32 i).toNatClampNeg < n := Nat.not_le.mp fun q => hin (Or.inr q)
  have ha : (gws V M)[c.toNat]? = some (V.2.2.1 c, .inl (V.2.1 6, n, .inr (.inr (.inr (.inr (grB V.2.2.1 t c)))))) := (gws_at hT).trans (by rw [he])
  have hK := C.2.2.2.2.2.1
  refine W.aald (v := va_rf (grB V.2.2.1 t c (g32 i).toNatClampNeg)) (ty := .array .int) C.1 C.2.1 (hP c.toNat _ ha) ((hK.2 5 _ rfl).1 n (fun j => va_rf (grB V.2.2.1 t c j))) rfl (fun q => by cases q) (by show ¬ (g32 i < 0 ∨ (arrV _ _ _).slots.size ≤ _); rw [arrV_size]; exact hin) (by show (arrV _ _ _).slots[_]? = _; rw [arrV_read _ _ hlt]) rfl rfl d ?_
  unfold grB
  rw [if_neg ht, g32_ix hi.1 hr, hs]
  exact kk
theorem g_alen (C : gC X V l cc nL own fr lo) (d : decode cc pc = .ok (.arraylength, 1)) {c : Int} {t n : Nat} (hT : gT c t) (he : ∀ cA f r, gcV cA t f r = .inl (cA 1, n, .inl f)) (hn : gR (n : Int)) (kk : gG X V nL (pc + 1) L (gI (n : Int) :: st) M) : gG X V nL pc L (gF c :: st) M :=
  fun hL hS hM ls H locs hl hP hV => va_alen (v := g32 (n : Int)) C.1 C.2.1 C.2.2.2.2.2.1 hP c.toNat 0 ((gws_at hT).trans (by rw [he])) rfl (g32_ofNat n) d (kk hL (gok_n hn (gok_t hS)) hM ls H locs hl hP hV)
end GI3
-- contracts
def gPre (V : gW) (M : gMem) (U : State) : Prop := va_P V.1 vwCl (gws V M) U.heap ∧ va_K V.1 vwCl (gtys V) U ∧ gE V U
def gPost (V : gW) (M : gMem) (t : State) : Prop := va_P V.1 vwCl (gws V M) t.heap
abbrev gws' (y : MethodName) (cc : ByteArray) (ml : Nat) (ret : Option FieldType) : List Cond := Cond.code y cc ml ret :: lw_good
abbrev gQi (V : gW) (K : Int → gMem → Prop) : Array Value → State → Outcome → State → Prop := va_Qi (fun (r : Int32) (M' : gMem) => gOM M' ∧ K r.toInt M') (gPost V) (gvA V)
abbrev gQv (V : gW) (K : gMem → Prop) : Array Value → State → Outcome → State → Prop := va_Qv (fun M' : gMem => gOM M' ∧ K M') (gPost V) (gvA V)
def gMi (l : Launch) (V : gW) (y : MethodName) (cc : ByteArray) (ml : Nat) (ret : Option FieldType) (fr lo : Nat) (av : List gSV) (M : gMem) (K : Int → gMem → Prop) : Prop :=
  Met l y (gws' y cc ml ret) { frames := fr, cells := 0, slots := 0, locals := lo } (va_Pc (av.map (grv V)) (gPre V M)) (gQi V K) 0 0 (gvA V)
def gMv (l : Launch) (V : gW) (y : MethodName) (cc : ByteArray) (ml : Nat) (fr lo : Nat) (av : List gSV) (M : gMem) (K : gMem → Prop) : Prop :=
  Met l y (gws' y cc ml none) { frames := fr, cells := 0, slots := 0, locals := lo } (va_Pc (av.map (grv V)) (gPre V M)) (gQv V K) 0 0 (gvA V)
/-- the world's standing: no two cells are one, all may be changed -/
def gD (V : gW) : Prop := ∀ M : gMem, va_D (gvA V) (gws V M)
def gRi (X : gX) (V : gW) (ret : FieldType) (K : Int → gMem → Prop) : Prop := (gxt X).sig.returnType = some ret ∧ (gxt X).locks = false ∧ X.2.2.2.2.2.2.2.2.2.2 = (MQ (gxb X) (gQi V K) (gxa X) (gxs X) 0 0 (gvA V), 0, 0)
def gRv (X : gX) (V : gW) (K : gMem → Prop) : Prop := (gxt X).sig.returnType = none ∧ (gxt X).locks = false ∧ X.2.2.2.2.2.2.2.2.2.2 = (MQ (gxb X) (gQv V K) (gxa X) (gxs X) 0 0 (gvA V), 0, 0)
section GI4
variable {X : gX} {V : gW} {l : Launch} {cc : ByteArray} {nL : Nat} {own : String} {fr lo : Nat} {pc : Nat} {L : List (Nat × gSV)} {st : List gSV} {M : gMem}
theorem g_iret (C : gC X V l cc nL own fr lo) {K : Int → gMem → Prop} (hR : gRi X V .int K) {z : Int} (d : decode cc pc = .ok (.ireturn, 1)) (h : K z M) : gG X V nL pc L [gI z] M := by
  intro hL hS hM ls H locs hl hP hV
  obtain ⟨p, l', e, R, s, m, args, below, meth, c, Q, k, n⟩ := X
  obtain ⟨h1, h2, h3⟩ := hR
  have h4 : (Q, k, n) = (MQ below (gQi V K) args s 0 0 (gvA V), 0, 0) := h3
  cases h4
  have hz : gR z := gok_c hS
  have e1 : (g32 z).toInt = z := g32_toInt hz
  exact W.iret (v := g32 z) C.1 C.2.1 h1 (fun t ht hW => ⟨⟨g32 z, M, rfl, ⟨hM, by rw [e1]; exact h⟩, by show va_P _ _ _ t.heap; rw [ht]; exact hP⟩, hV.F ht⟩) hV.2.2 d h2
theorem g_zret (C : gC X V l cc nL own fr lo) {K : Int → gMem → Prop} (hR : gRi X V .boolean K) {z : Int} (d : decode cc pc = .ok (.ireturn, 1)) (hz01 : z = 0 ∨ z = 1) (h : K z M) : gG X V nL pc L [gI z] M := by
  intro hL hS hM ls H locs hl hP hV
  obtain ⟨p, l', e, R, s, m, args, below, meth, c, Q, k, n⟩ := X
  obtain ⟨h1, h2, h3⟩ := hR
  have h4 : (Q, k, n) = (MQ below (gQi V K) args s 0 0 (gvA V), 0, 0) := h3
  cases h4
  have hz : gR z := gok_c hS
  have e1 : (g32 z).toInt = z := g32_toInt hz
  exact W.zret (v := g32 z) C.1 C.2.1 h1 (g_bool hz01).2.1 (fun t ht hW => ⟨⟨g32 z, M, rfl, ⟨hM, by rw [e1]; exact h⟩, by show va_P _ _ _ t.heap; rw [ht]; exact hP⟩, hV.F ht⟩) hV.2.2 d h2
theorem g_vret (C : gC X V l cc nL own fr lo) {K : gMem → Prop} (hR : gRv X V K) (d : decode cc pc = .ok (.return_, 1)) (h : K M) : gG X V nL pc L [] M := by
  intro hL hS hM ls H locs hl hP hV
  obtain ⟨p, l', e, R, s, m, args, below, meth, c, Q, k, n⟩ := X
  obtain ⟨h1, h2, h3⟩ := hR
  have h4 : (Q, k, n) = (MQ below (gQv V K) args s 0 0 (gvA V), 0, 0) := h3
  cases h4
  exact W.vret C.1 C.2.1 h1 (fun t ht hW => ⟨⟨M, rfl, ⟨hM, h⟩, by show va_P _ _ _ t.heap; rw [ht]; exact hP⟩, hV.F ht⟩) hV.2.2 d h2
end GI4
theorem gMi_of {l : Launch} {V : gW} {y : MethodName} {cc : ByteArray} {ml : Nat} {ret : FieldType} {fr lo : Nat} {av : List gSV} {M : gMem} {K : Int → gMem → Prop} (hD : gD V) (hy : plainName y.cls = true) (hlen : (lg_sl (av.map (grv V))).length ≤ ml) (L0 : List (Nat × gSV)) (hL0 : lv_args 0 (av.map (grv V)) = L0.map (fun q => (q.1, grv V q.2))) (hok : ∀ q ∈ L0, gOK q.2) (hM : gOM M)
    (body : ∀ X : gX, gC X V l cc ml y.cls fr lo → gRi X V ret K → gG X V ml 0 L0 [] M) : gMi l V y cc ml (some ret) fr lo av M K := by
  refine Met.ofW (cc := cc) (maxL := ml) (ret := some ret) hy rfl ?_
  intro p e s m args below meth c s₁ B hml hv
  obtain ⟨rfl, hP, hK, hEE⟩ := hv
  have hts := atoms_spec (ws := gws' y cc ml (some ret)) B.pre
  have hX := body (p, l, e, (headSpec (gws' y cc ml (some ret)) { frames := fr, cells := 0, slots := 0, locals := lo }).room, s, m, (av.map (grv V)).toArray, below, meth, c, MQ below (gQi V K) (av.map (grv V)).toArray s 0 0 (gvA V), 0, 0)
    ⟨B.exec, B.bytes, hml, findClass_of_methodNamed B.named, fun w hw => hts w (List.mem_cons_of_mem _ hw), hK, hD, rfl, rfl, rfl, Nat.le_refl _, Nat.le_refl _, hEE⟩ ⟨B.returns, B.notSynchronized, rfl⟩
  rw [lg_entry_eq]
  have hl := lv_entry (av.map (grv V)) (n := ml) hlen
  rw [hL0] at hl
  exact hX hok (fun q h => by cases h) hM _ _ _ hl hP va_S.rf
theorem gMv_of {l : Launch} {V : gW} {y : MethodName} {cc : ByteArray} {ml : Nat} {fr lo : Nat} {av : List gSV} {M : gMem} {K : gMem → Prop} (hD : gD V) (hy : plainName y.cls = true) (hlen : (lg_sl (av.map (grv V))).length ≤ ml) (L0 : List (Nat × gSV)) (hL0 : lv_args 0 (av.map (grv V)) = L0.map (fun q => (q.1, grv V q.2))) (hok : ∀ q ∈ L0, gOK q.2) (hM : gOM M)
    (body : ∀ X : gX, gC X V l cc ml y.cls fr lo → gRv X V K → gG X V ml 0 L0 [] M) : gMv l V y cc ml fr lo av M K := by
  refine Met.ofW (cc := cc) (maxL := ml) (ret := none) hy rfl ?_
  intro p e s m args below meth c s₁ B hml hv
  obtain ⟨rfl, hP, hK, hEE⟩ := hv
  have hts := atoms_spec (ws := gws' y cc ml none) B.pre
  have hX := body (p, l, e, (headSpec (gws' y cc ml none) { frames := fr, cells := 0, slots := 0, locals := lo }).room, s, m, (av.map (grv V)).toArray, below, meth, c, MQ below (gQv V K) (av.map (grv V)).toArray s 0 0 (gvA V), 0, 0)
    ⟨B.exec, B.bytes, hml, findClass_of_methodNamed B.named, fun w hw => hts w (List.mem_cons_of_mem _ hw), hK, hD, rfl, rfl, rfl, Nat.le_refl _, Nat.le_refl _, hEE⟩ ⟨B.returns, B.notSynchronized, rfl⟩
  rw [lg_entry_eq]
  have hl := lv_entry (av.map (grv V)) (n := ml) hlen
  rw [hL0] at hl
  exact hX hok (fun q h => by cases h) hM _ _ _ hl hP va_S.rf
theorem g_goodIn {y : MethodName} {cc : ByteArray} {ml : Nat} {ret : Option FieldType} (h : Cond.code y cc ml ret ∈ lw_good) : GoodIn lw_good (gws' y cc ml ret) := fun w hw => by
  rcases List.mem_cons.mp hw with rfl | h2
  · exact ⟨h, good_of_word (gtbl_good _ h)⟩
  · exact ⟨h2, good_of_word (gtbl_good _ h2)⟩
theorem gPre_blind {V : gW} {M : gMem} {av : List Value} : FrameBlind (va_Pc av (gPre V M)) := fun a U g mk q => ⟨q.1, q.2.1, va_K.moved (u := U) (U := U.calling g mk a) (Vm.Alike.refl U.vm) q.2.2.1, gE_same (u := U) (U := U.calling g mk a) rfl rfl q.2.2.2⟩
def gYV (y : MethodName) (cc : ByteArray) (ml : Nat) (ret : Option FieldType) (t n : Nat) : Prop :=
  Cond.code y cc ml ret ∈ lw_good ∧ Cond.instanceMethod y ∈ lw_good ∧ Cond.selects y.cls y y ∈ lw_good ∧ Cond.initialized y.cls ∈ lw_good ∧ (y.cls ≠ "java/lang/invoke/MethodHandle" ∧ y.cls ≠ "java/lang/invoke/VarHandle" ∧ (parseMethodDescriptor y.desc).map (fun d => d.parameters.length) = some n) ∧ (∃ q : vw_C, vwCl[t]? = some q ∧ q.1 = y.cls) ∧ ∀ cA f r, ∃ fs, gcV cA t f r = .inr (t, fs)
def gYS (y : MethodName) (cc : ByteArray) (ml : Nat) (ret : Option FieldType) (n : Nat) : Prop :=
  Cond.code y cc ml ret ∈ lw_good ∧ Cond.static y ∈ lw_good ∧ Cond.initialized y.cls ∈ lw_good ∧ (y.cls ≠ "java/lang/invoke/MethodHandle" ∧ y.cls ≠ "java/lang/invoke/VarHandle" ∧ (parseMethodDescriptor y.desc).map (fun d => d.parameters.length) = some n)
/-- memory behind arraycopy, and behind fill -/
def gcp (M : gMem) (c0 c1 m : Int) : gMem := fun c k => if c = c1 ∧ 0 ≤ k ∧ k < m then M c0 k else M c k
def gfl (M : gMem) (c n v : Int) : gMem := fun c' k => if c' = c ∧ 0 ≤ k ∧ k < n then v else M c' k
section GI5
variable {X : gX} {V : gW} {l : Launch} {cc : ByteArray} {nL : Nat} {own : String} {fr lo : Nat} {pc : Nat} {L : List (Nat × gSV)} {st : List gSV} {M : gMem}
variable {i ml fr' lo' t n : Nat} {y : MethodName} {cc' : ByteArray} {ret : Option FieldType} {As : List gSV} {c : Int}
theorem g_callB (C : gC X V l cc nL own fr lo) (hcode : Cond.code y cc' ml ret ∈ lw_good) (hini : Cond.initialized y.cls ∈ lw_good) (hy : y.cls ≠ "java/lang/invoke/MethodHandle" ∧ y.cls ≠ "java/lang/invoke/VarHandle" ∧ (parseMethodDescriptor y.desc).map (fun d => d.parameters.length) = some n) (hw : Cond.methodLink own i y ∈ lw_good) (hroom : fr' + 1 ≤ fr ∧ 8 + (ml + 11) + lo' ≤ lo) :
    CallB (gxR X) (gxs X) (gxa X) own i y cc' ml ret (gws' y cc' ml ret) { frames := fr', cells := 0, slots := 0, locals := lo' } 0 0 n := by
  obtain ⟨-, -, -, -, hts, -, -, -, hfr, hlo, -⟩ := C
  exact callB_of n hts (g_goodIn hcode) rfl rfl rfl (hts _ hini) (hts _ hw) hy (by rw [hfr, hlo]; exact hroom)
theorem g_preV (C : gC X V l cc nL own fr lo) (hY : gYV y cc' ml ret t n) (hT : gT c t) {H : Heap} {locs : List Loc} (hP : va_P V.1 vwCl (gws V M) H) (hV : va_S (gvA V) (gxs X).heap H locs) : PreV (gxs X) H y.cls (V.2.2.1 c) (va_Pc ((gF c :: As).map (grv V)) (gPre V M)) (As.map (grv V)) := by
  obtain ⟨-, -, -, -, -, ⟨q, hq1, hq2⟩, hob⟩ := hY
  obtain ⟨fs, hfs⟩ := hob V.2.1 (fun k => g32 (M c (k : Int))) (grB V.2.2.1 t c)
  refine ⟨gPre_blind, ?_, fun U hU hW => ⟨rfl, by show va_P _ _ _ U.heap; rw [hU]; exact hP, va_K.moved hW.alike C.2.2.2.2.2.1, gE_pass C.2.2.2.2.2.2.2.2.2.2.2.2 hU hV hW⟩⟩
  have h := va_recv C.2.2.2.2.2.1 hP hq1 ((gws_at hT).trans (by rw [hfs]))
  rw [hq2] at h
  exact h
theorem g_st {V : gW} {As st : List gSV} {c : Int} : (As.reverse ++ gF c :: st).map (grv V) = (As.map (grv V)).reverse ++ .ref (V.2.2.1 c) :: st.map (grv V) := by
  rw [List.map_append, List.map_reverse]
  rfl
theorem g_sok {As st : List gSV} {c : Int} (hS : ∀ q ∈ As.reverse ++ gF c :: st, gOK q) : (∀ q ∈ As, gOK q) ∧ ∀ q ∈ st, gOK q := ⟨fun q h => hS q (List.mem_append_left _ (List.mem_reverse.mpr h)), fun q h => hS q (List.mem_append_right _ (List.mem_cons_of_mem _ h))⟩
theorem g_cVi (C : gC X V l cc nL own fr lo) (d : decode cc pc = .ok (.invokevirtual i, 3)) (hY : gYV y cc' ml ret t n) (hw : Cond.methodLink own i y ∈ lw_good) (hroom : fr' + 1 ≤ fr ∧ 8 + (ml + 11) + lo' ≤ lo) (As : List gSV) (hn : As.length = n) (hst : gcat st ≤ 8) (hT : gT c t) {K : Int → gMem → Prop}
    (hM : gOM M → (∀ q ∈ As, gOK q) → gMi l V y cc' ml ret fr' lo' (gF c :: As) M K) (kk : ∀ (r : Int) (M' : gMem), K r M' → gG X V nL (pc + 3) L (gI r :: st) M') : gG X V nL pc L (As.reverse ++ gF c :: st) M := by
  intro hL hS hM0 ls H locs hl hP hV
  have hso := g_sok hS
  have hm := hM hM0 hso.1
  unfold gMi at hm
  have cb : CallB (gxR X) (gxs X) (gxa X) own i y cc' ml ret (gws' y cc' ml ret) { frames := fr', cells := 0, slots := 0, locals := lo' } 0 0 n := g_callB C hY.1 hY.2.2.2.1 hY.2.2.2.2.1 hw hroom
  have hts := C.2.2.2.2.1
  have hlE : gxl X = l := C.2.2.2.2.2.2.2.1
  rw [g_st]
  rw [← hlE] at hm
  refine va_calli (va_runV ⟨C.1, C.2.1, C.2.2.1, C.2.2.2.1, hts⟩ hm ⟨cb, hts _ hY.2.1, hts _ hY.2.2.1⟩ (g_preV C hY hT hP hV) rfl (by rw [List.length_map]; exact hn) hl.1 rfl (lv_room (by rw [gcat_eq]; exact hst)) d ⟨C.2.2.2.2.2.2.2.2.2.2.1, C.2.2.2.2.2.2.2.2.2.2.2.1⟩) hV (fun q _ h => h) (fun q h => h) (fun r M' t' H1 locs1 ht hvm hw2 hB hz1 hk1 hV1 => ?_)
  have hB : va_P V.1 vwCl (gws V M') t'.heap := hB
  rw [ht] at hB
  have g := kk r.toInt M' hw2.2 hL (gok_n (gR_toInt r) hso.2) hw2.1 ls H1 locs1 hl hB hV1
  have e : grv V (gI r.toInt) = .int r := by show Value.int (g32 r.toInt) = _; rw [g32_of]
  rw [List.map_cons, e] at g
  exact g
theorem g_cVv (C : gC X V l cc nL own fr lo) (d : decode cc pc = .ok (.invokevirtual i, 3)) (hY : gYV y cc' ml none t n) (hw : Cond.methodLink own i y ∈ lw_good) (hroom : fr' + 1 ≤ fr ∧ 8 + (ml + 11) + lo' ≤ lo) (As : List gSV) (hn : As.length = n) (hst : gcat st ≤ 8) (hT : gT c t) {K : gMem → Prop}
    (hM : gOM M → (∀ q ∈ As, gOK q) → gMv l V y cc' ml fr' lo' (gF c :: As) M K) (kk : ∀ (M' : gMem), K M' → gG X V nL (pc + 3) L st M') : gG X V nL pc L (As.reverse ++ gF c :: st) M := by
  intro hL hS hM0 ls H locs hl hP hV
  have hso := g_sok hS
  have hm := hM hM0 hso.1
  unfold gMv at hm
  have cb : CallB (gxR X) (gxs X) (gxa X) own i y cc' ml none (gws' y cc' ml none) { frames := fr', cells := 0, slots := 0, locals := lo' } 0 0 n := g_callB C hY.1 hY.2.2.2.1 hY.2.2.2.2.1 hw hroom
  have hts := C.2.2.2.2.1
  have hlE : gxl X = l := C.2.2.2.2.2.2.2.1
  rw [g_st]
  rw [← hlE] at hm
  refine va_callv (va_runV ⟨C.1, C.2.1, C.2.2.1, C.2.2.2.1, hts⟩ hm ⟨cb, hts _ hY.2.1, hts _ hY.2.2.1⟩ (g_preV C hY hT hP hV) rfl (by rw [List.length_map]; exact hn) hl.1 rfl (lv_room (by rw [gcat_eq]; exact hst)) d ⟨C.2.2.2.2.2.2.2.2.2.2.1, C.2.2.2.2.2.2.2.2.2.2.2.1⟩) hV (fun q _ h => h) (fun q h => h) (fun M' t' H1 locs1 ht hvm hw2 hB hz1 hk1 hV1 => ?_)
  have hB : va_P V.1 vwCl (gws V M') t'.heap := hB
  rw [ht] at hB
  exact kk M' hw2.2 hL hso.2 hw2.1 ls H1 locs1 hl hB hV1
theorem g_preS (C : gC X V l cc nL own fr lo) {H : Heap} {locs : List Loc} (hP : va_P V.1 vwCl (gws V M) H) (hV : va_S (gvA V) (gxs X).heap H locs) : PreS (gxs X) H (va_Pc (As.map (grv V)) (gPre V M)) (As.map (grv V)) :=
  ⟨gPre_blind, fun U hU hW => ⟨rfl, by show va_P _ _ _ U.heap; rw [hU]; exact hP, va_K.moved hW.alike C.2.2.2.2.2.1, gE_pass C.2.2.2.2.2.2.2.2.2.2.2.2 hU hV hW⟩⟩
theorem g_sst {V : gW} {As st : List gSV} : (As.reverse ++ st).map (grv V) = (As.map (grv V)).reverse ++ st.map (grv V) := by
  rw [List.map_append, List.map_reverse]
theorem g_ssok {As st : List gSV} (hS : ∀ q ∈ As.reverse ++ st, gOK q) : (∀ q ∈ As, gOK q) ∧ ∀ q ∈ st, gOK q := ⟨fun q h => hS q (List.mem_append_left _ (List.mem_reverse.mpr h)), fun q h => hS q (List.mem_append_right _ h)⟩
theorem g_cSi (C : gC X V l cc nL own fr lo) (d : decode cc pc = .ok (.invokestatic i, 3)) (hY : gYS y cc' ml ret n) (hw : Cond.methodLink own i y ∈ lw_good) (hroom : fr' + 1 ≤ fr ∧ 8 + (ml + 11) + lo' ≤ lo) (As : List gSV) (hn : As.length = n) (hst : gcat st ≤ 8) {K : Int → gMem → Prop}
    (hM : gOM M → (∀ q ∈ As, gOK q) → gMi l V y cc' ml ret fr' lo' As M K) (kk : ∀ (r : Int) (M' : gMem), K r M' → gG X V nL (pc + 3) L (gI r :: st) M') : gG X V nL pc L (As.reverse ++ st) M := by
  intro hL hS hM0 ls H locs hl hP hV
  have hso := g_ssok hS
  have hm := hM hM0 hso.1
  unfold gMi at hm
  have cb : CallB (gxR X) (gxs X) (gxa X) own i y cc' ml ret (gws' y cc' ml ret) { frames := fr', cells := 0, slots := 0, locals := lo' } 0 0 n := g_callB C hY.1 hY.2.2.1 hY.2.2.2 hw hroom
  have hts := C.2.2.2.2.1
  have hlE : gxl X = l := C.2.2.2.2.2.2.2.1
  rw [g_sst]
  rw [← hlE] at hm
  refine va_calli (va_runS ⟨C.1, C.2.1, C.2.2.1, C.2.2.2.1, hts⟩ hm ⟨cb, hts _ hY.2.1⟩ (g_preS C hP hV) rfl (by rw [List.length_map]; exact hn) hl.1 rfl (lv_room (by rw [gcat_eq]; exact hst)) d ⟨C.2.2.2.2.2.2.2.2.2.2.1, C.2.2.2.2.2.2.2.2.2.2.2.1⟩) hV (fun q _ h => h) (fun q h => h) (fun r M' t' H1 locs1 ht hvm hw2 hB hz1 hk1 hV1 => ?_)
  have hB : va_P V.1 vwCl (gws V M') t'.heap := hB
  rw [ht] at hB
  have g := kk r.toInt M' hw2.2 hL (gok_n (gR_toInt r) hso.2) hw2.1 ls H1 locs1 hl hB hV1
  have e : grv V (gI r.toInt) = .int r := by show Value.int (g32 r.toInt) = _; rw [g32_of]
  rw [List.map_cons, e] at g
  exact g
theorem g_cSv (C : gC X V l cc nL own fr lo) (d : decode cc pc = .ok (.invokestatic i, 3)) (hY : gYS y cc' ml none n) (hw : Cond.methodLink own i y ∈ lw_good) (hroom : fr' + 1 ≤ fr ∧ 8 + (ml + 11) + lo' ≤ lo) (As : List gSV) (hn : As.length = n) (hst : gcat st ≤ 8) {K : gMem → Prop}
    (hM : gOM M → (∀ q ∈ As, gOK q) → gMv l V y cc' ml fr' lo' As M K) (kk : ∀ (M' : gMem), K M' → gG X V nL (pc + 3) L st M') : gG X V nL pc L (As.reverse ++ st) M := by
  intro hL hS hM0 ls H locs hl hP hV
  have hso := g_ssok hS
  have hm := hM hM0 hso.1
  unfold gMv at hm
  have cb : CallB (gxR X) (gxs X) (gxa X) own i y cc' ml none (gws' y cc' ml none) { frames := fr', cells := 0, slots := 0, locals := lo' } 0 0 n := g_callB C hY.1 hY.2.2.1 hY.2.2.2 hw hroom
  have hts := C.2.2.2.2.1
  have hlE : gxl X = l := C.2.2.2.2.2.2.2.1
  rw [g_sst]
  rw [← hlE] at hm
  refine va_callv (va_runS ⟨C.1, C.2.1, C.2.2.1, C.2.2.2.1, hts⟩ hm ⟨cb, hts _ hY.2.1⟩ (g_preS C hP hV) rfl (by rw [List.length_map]; exact hn) hl.1 rfl (lv_room (by rw [gcat_eq]; exact hst)) d ⟨C.2.2.2.2.2.2.2.2.2.2.1, C.2.2.2.2.2.2.2.2.2.2.2.1⟩) hV (fun q _ h => h) (fun q h => h) (fun M' t' H1 locs1 ht hvm hw2 hB hz1 hk1 hV1 => ?_)
  have hB : va_P V.1 vwCl (gws V M') t'.heap := hB
  rw [ht] at hB
  exact kk M' hw2.2 hL hso.2 hw2.1 ls H1 locs1 hl hB hV1
theorem g_cNi {host : String} (C : gC X V l cc nL own fr lo) (d : decode cc pc = .ok (.invokestatic i, 3)) (hY : gYS y cc' ml ret n) (hw : va_Nw (.methodLinkNest own i y host) (gxs X)) (hroom : fr' + 1 ≤ fr ∧ 8 + (ml + 11) + lo' ≤ lo) (As : List gSV) (hn : As.length = n) (hst : gcat st ≤ 8) {K : Int → gMem → Prop}
    (hM : gOM M → (∀ q ∈ As, gOK q) → gMi l V y cc' ml ret fr' lo' As M K) (kk : ∀ (r : Int) (M' : gMem), K r M' → gG X V nL (pc + 3) L (gI r :: st) M') : gG X V nL pc L (As.reverse ++ st) M := by
  intro hL hS hM0 ls H locs hl hP hV
  have hso := g_ssok hS
  have hm := hM hM0 hso.1
  unfold gMi at hm
  have hts := C.2.2.2.2.1
  have hfr : (gxR X).frames = fr := C.2.2.2.2.2.2.2.2.1
  have hlo : (gxR X).locals = lo := C.2.2.2.2.2.2.2.2.2.1
  have cb : va_CN (gxR X) (gxs X) (gxa X) own i y host cc' ml ret (gws' y cc' ml ret) { frames := fr', cells := 0, slots := 0, locals := lo' } 0 0 n := va_cnB n hts (g_goodIn hY.1) rfl rfl rfl hw (hts _ hY.2.2.1) hY.2.2.2 (by rw [hfr, hlo]; exact hroom)
  have hlE : gxl X = l := C.2.2.2.2.2.2.2.1
  rw [g_sst]
  rw [← hlE] at hm
  refine va_calli (va_runSN ⟨C.1, C.2.1, C.2.2.1, C.2.2.2.1, hts⟩ hm ⟨cb, hts _ hY.2.1, trivial⟩ (g_preS C hP hV) rfl (by rw [List.length_map]; exact hn) hl.1 rfl (lv_room (by rw [gcat_eq]; exact hst)) d ⟨C.2.2.2.2.2.2.2.2.2.2.1, C.2.2.2.2.2.2.2.2.2.2.2.1⟩) hV (fun q _ h => h) (fun q h => h) (fun r M' t' H1 locs1 ht hvm hw2 hB hz1 hk1 hV1 => ?_)
  have hB : va_P V.1 vwCl (gws V M') t'.heap := hB
  rw [ht] at hB
  have g := kk r.toInt M' hw2.2 hL (gok_n (gR_toInt r) hso.2) hw2.1 ls H1 locs1 hl hB hV1
  have e : grv V (gI r.toInt) = .int r := by show Value.int (g32 r.toInt) = _; rw [g32_of]
  rw [List.map_cons, e] at g
  exact g
/-- Math.min -/
theorem g_min (C : gC X V l cc nL own fr lo) (d : decode cc pc = .ok (.invokestatic i, 3)) (hw : Cond.methodLink own i Lib.Math.min.name ∈ lw_good) (hs : Cond.static Lib.Math.min.name ∈ lw_good) (hini : Cond.initialized "java/lang/Math" ∈ lw_good) (hcode : Cond.code Lib.Math.min.name Lib.Math.min.code 2 (some .int) ∈ lw_good) (hroom : 1 ≤ fr ∧ gcat st + 13 ≤ lo) {a b : Int} (kk : gG X V nL (pc + 3) L (gI (if b < a then b else a) :: st) M) : gG X V nL pc L (gI b :: gI a :: st) M := by
  intro hL hS hM0 ls H locs hl hP hV
  have hb : gR b := gok_c hS
  have ha : gR a := gok_c (gok_t hS)
  have hts := C.2.2.2.2.1
  have hfr : (gxR X).frames = fr := C.2.2.2.2.2.2.2.2.1
  have hlo : (gxR X).locals = lo := C.2.2.2.2.2.2.2.2.2.1
  have kk := kk hL (gok_n (show gR (if b < a then b else a) by split <;> assumption) (gok_t (gok_t hS))) hM0 ls H locs hl hP hV
  refine va_mmin (x := g32 a) (y := g32 b) C.1 C.2.1 (C.2.2.1.trans hl.1.symm) C.2.2.2.1 (hts _ hw) (hts _ hs) (hts _ hini) (hts _ hcode) (by rw [hfr]; exact hroom.1) (by rw [hlo, gcat_eq]; exact hroom.2) C.2.2.2.2.2.2.2.2.2.2.1 C.2.2.2.2.2.2.2.2.2.2.2.1 d ?_
  have e : (if g32 b < g32 a then g32 b else g32 a) = g32 (if b < a then b else a) := by
    by_cases h : b < a
    · rw [if_pos h, if_pos ((g32_lt hb ha).mpr h)]
    · rw [if_neg h, if_neg (fun q => h ((g32_lt hb ha).mp q))]
  rw [e]
  exact kk
/-- System.arraycopy of a whole row of ints, from 0 to 0 -/
theorem g_copy (C : gC X V l cc nL own fr lo) (d : decode cc pc = .ok (.invokestatic i, 3)) (hw : Cond.methodLink own i arraycopyName ∈ lw_good) (hnat : Cond.native arraycopyName ∈ lw_good) (hs : Cond.static arraycopyName ∈ lw_good) (hini : Cond.initialized "java/lang/System" ∈ lw_good) (hroom : 1 ≤ fr ∧ gcat st + (nativeFrameWords "java/lang/System" "arraycopy" 5 + 11) ≤ lo) {c0 c1 m : Int} {t0 t1 n0 n1 : Nat} (hT0 : gT c0 t0) (he0 : ∀ cA f r, gcV cA t0 f r = .inl (cA 1, n0, .inl f)) (hT1 : gT c1 t1) (he1 : ∀ cA f r, gcV cA t1 f r = .inl (cA 1, n1, .inl f)) (hm : 0 ≤ m ∧ m ≤ (n0 : Int) ∧ m ≤ (n1 : Int))
    (kk : gG X V nL (pc + 3) L st (gcp M c0 c1 m)) : gG X V nL pc L (gI m :: gI 0 :: gF c1 :: gI 0 :: gF c0 :: st) M := by
  intro hL hS hM0 ls H locs hl hP hV
  have hmr : gR m := gok_c hS
  have hts := C.2.2.2.2.1
  have hfr : (gxR X).frames = fr := C.2.2.2.2.2.2.2.2.1
  have hlo : (gxR X).locals = lo := C.2.2.2.2.2.2.2.2.2.1
  have e0 : (g32 0).toNatClampNeg = 0 := by decide
  have em : (g32 m).toNatClampNeg = m.toNat := g32_nat hmr
  refine va_copyi (sp := g32 0) (dp := g32 0) (n := g32 m) (ty := .int) C.1 C.2.1 (C.2.2.1.trans hl.1.symm) C.2.2.2.1 (hts _ hw) (hts _ hnat) (hts _ hs) (hts _ hini) C.2.2.2.2.2.1 hP (C.2.2.2.2.2.2.1 M) hV c0.toNat c1.toNat 0 0 ((gws_at hT0).trans (by rw [he0])) ((gws_at hT1).trans (by rw [he1])) rfl rfl rfl (by decide) (by decide) (fun h => by have := (g32_lt hmr gR_0).mp h; omega) (by rw [e0, em]; omega) (by rw [e0, em]; omega) (fun _ _ => rfl) (by rw [hfr]; exact hroom.1) (by rw [hlo, gcat_eq]; exact hroom.2) d (fun H1 locs1 hP1 hD1 hV1 => ?_)
  have hx : (.inl (V.2.1 1, n1, .inl (va_cpy (fun k : Nat => g32 (M c0 (k : Int))) (fun k : Nat => g32 (M c1 (k : Int))) (g32 0).toNatClampNeg (g32 0).toNatClampNeg (g32 m).toNatClampNeg)) : va_E) = gcV V.2.1 t1 (fun k : Nat => g32 ((fun (c k : Int) => if c = c1 ∧ 0 ≤ k ∧ k < m then M c0 k else M c k) c1 (k : Int))) (grB V.2.2.1 t1 c1) := by
    rw [he1, e0, em]
    congr 4
    funext k
    unfold va_cpy
    by_cases h : k < m.toNat
    · rw [if_pos (by omega)]
      show g32 (M c0 ((0 + (k - 0) : Nat) : Int)) = g32 (if c1 = c1 ∧ 0 ≤ (k : Int) ∧ (k : Int) < m then M c0 (k : Int) else M c1 (k : Int))
      rw [if_pos ⟨rfl, by omega, by omega⟩, show (0 + (k - 0) : Nat) = k by omega]
    · rw [if_neg (by omega)]
      show g32 (M c1 (k : Int)) = g32 (if c1 = c1 ∧ 0 ≤ (k : Int) ∧ (k : Int) < m then M c0 (k : Int) else M c1 (k : Int))
      rw [if_neg (by omega)]
  rw [gws_set (M' := fun c k => if c = c1 ∧ 0 ≤ k ∧ k < m then M c0 k else M c k) hT1 hx (fun c' h => by funext k; rw [if_neg (fun q => h q.1)])] at hP1
  exact kk hL (gok_t (gok_t (gok_t (gok_t (gok_t hS))))) (fun c k => by show gR (if _ then _ else _); split <;> exact hM0 _ _) ls H1 locs1 hl hP1 hV1
end GI5
