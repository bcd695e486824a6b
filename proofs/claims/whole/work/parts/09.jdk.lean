/-! members of the JDK -/
def gones (x : Int) : Int := x % 2 + x / 2 % 2 + x / 4 % 2 + x / 8 % 2 + x / 16 % 2 + x / 32 % 2 + x / 64 % 2 + x / 128 % 2 + x / 256 % 2 + x / 512 % 2 + x / 1024 % 2 + x / 2048 % 2
theorem ykJ7_fill : gYS yJ7_fill_53178 cJ7_fill_53178 4 none 2 := ⟨wd_482, wd_481, wd_86, ⟨by decide, by decide, by decide +kernel⟩⟩
theorem ykJ6_bits : gYS yJ6_bitCount_0f7a4 cJ6_bitCount_0f7a4 1 (some .int) 1 := ⟨wd_764, wd_763, wd_88, ⟨by decide, by decide, by decide +kernel⟩⟩
theorem gmin_s : Cond.static Lib.Math.min.name ∈ lw_good := wd_565
theorem gmin_i : Cond.initialized "java/lang/Math" ∈ lw_good := wd_87
theorem gmin_c : Cond.code Lib.Math.min.name Lib.Math.min.code 2 (some .int) ∈ lw_good := List.mem_filter.mpr ⟨List.mem_of_getElem? (i := 566) (by decide +kernel), rfl⟩
theorem gcpy_n : Cond.native arraycopyName ∈ lw_good := wd_398
theorem gcpy_s : Cond.static arraycopyName ∈ lw_good := wd_397
theorem gcpy_i : Cond.initialized "java/lang/System" ∈ lw_good := wd_81
theorem gfl_0 (M : gMem) (c v : Int) : gfl M c 0 v = M := by
  funext c' k
  unfold gfl
  rw [if_neg (by omega)]
theorem gfl_s (M : gMem) (c i v : Int) (h : 0 ≤ i) : gup (gfl M c i v) c i v = gfl M c (i + 1) v := by
  funext c' k
  unfold gup gfl
  by_cases h1 : c' = c
  · by_cases h2 : k = i
    · rw [if_pos h1, if_pos h2, if_pos (by omega)]
    · rw [if_pos h1, if_neg h2]
      by_cases h3 : 0 ≤ k ∧ k < i
      · rw [if_pos (by omega), if_pos (by omega)]
      · rw [if_neg (by omega), if_neg (by omega)]
  · rw [if_neg h1, if_neg (by omega), if_neg (by omega)]
theorem sJ7_fill {l : Launch} {V : gW} (hD : gD V) (c v : Int) {t n : Nat} (M0 : gMem) (K : gMem → Prop) (hT : gT c t) (he : ∀ cA f r, gcV cA t f r = .inl (cA 1, n, .inl f)) (hn : n ≤ 2000) (h : K (gfl M0 c (n : Int) v)) (hM : gOM M0) (ho : ∀ q ∈ ([gF c, gI v] : List gSV), gOK q) : gMv l V yJ7_fill_53178 cJ7_fill_53178 4 0 0 [gF c, gI v] M0 K := by
  refine gMv_of hD (by decide) (Nat.le_of_ble_eq_true rfl) [(0, gF c), (1, gI v)] rfl (gok_L rfl ho) hM (fun X C hR => ?_)
  have hrn : gR (n : Int) := ⟨by omega, by omega⟩
  refine g_iconst C dJ7_fill_53178_0 ⟨by decide, by decide⟩ ?_
  refine g_istoren C [(2, gI 0), (0, gF c), (1, gI v)] dJ7_fill_53178_1 (by decide) rfl ?_
  refine g_aloadn C dJ7_fill_53178_2 1 rfl ?_
  refine g_alen C dJ7_fill_53178_3 hT he hrn ?_
  refine g_istoren C [(3, gI (n : Int)), (2, gI 0), (0, gF c), (1, gI v)] dJ7_fill_53178_4 (by decide) rfl ?_
  have key : ∀ (k : Nat) (i : Int), 0 ≤ i → i + k = n → gG X V 4 5 [(3, gI (n : Int)), (2, gI i), (0, gF c), (1, gI v)] [] (gfl M0 c i v) := by
    intro k
    induction k with
    | zero =>
      intro i h0 hi
      have e : i = n := by omega
      subst e
      refine g_iloadn C dJ7_fill_53178_5 1 rfl ?_
      refine g_iloadn C dJ7_fill_53178_6 0 rfl ?_
      refine g_ic_ge (t := 20) C dJ7_fill_53178_7 (by decide) (fun c => ?_) (fun c => absurd (Int.le_refl _) c)
      exact g_vret C hR dJ7_fill_53178_20 h
    | succ k ih =>
      intro i h0 hi
      refine g_iloadn C dJ7_fill_53178_5 1 rfl ?_
      refine g_iloadn C dJ7_fill_53178_6 0 rfl ?_
      refine g_ic_ge (t := 20) C dJ7_fill_53178_7 (by decide) (fun c => absurd c (by omega)) (fun _ => ?_)
      refine g_aloadn C dJ7_fill_53178_10 2 rfl ?_
      refine g_iloadn C dJ7_fill_53178_11 1 rfl ?_
      refine g_iloadn C dJ7_fill_53178_12 3 rfl ?_
      refine g_iast C dJ7_fill_53178_13 hT he ⟨h0, by omega⟩ ?_
      refine g_iinc C [(2, gI (i + 1)), (3, gI (n : Int)), (0, gF c), (1, gI v)] dJ7_fill_53178_14 1 rfl (by decide) ⟨by omega, by omega⟩ rfl ?_
      refine g_goto (t := 5) C dJ7_fill_53178_17 (by decide) ?_
      refine g_sub [(3, gI (n : Int)), (2, gI (i + 1)), (0, gF c), (1, gI v)] [1, 0, 2, 3] rfl ?_
      rw [gfl_s M0 c i v h0]
      exact ih (i + 1) (by omega) (by omega)
  have := key n 0 (Int.le_refl 0) (by omega)
  rw [gfl_0] at this
  exact this
section GJ
variable {X : gX} {V : gW} {l : Launch} {cc : ByteArray} {nL : Nat} {own : String} {fr lo : Nat} {pc : Nat} {L : List (Nat × gSV)} {st : List gSV} {M : gMem} {i : Nat}
theorem g_fill (C : gC X V l cc nL own fr lo) (d : decode cc pc = .ok (.invokestatic i, 3)) (hw : Cond.methodLink own i yJ7_fill_53178 ∈ lw_good) (hroom : 0 + 1 ≤ fr ∧ 8 + (4 + 11) + 0 ≤ lo) (hst : gcat st ≤ 8) (hD : gD V) {c v : Int} {t n : Nat} (hT : gT c t) (he : ∀ cA f r, gcV cA t f r = .inl (cA 1, n, .inl f)) (hn : n ≤ 2000) (kk : gG X V nL (pc + 3) L st (gfl M c (n : Int) v)) : gG X V nL pc L (gI v :: gF c :: st) M :=
  g_cSv (st := st) C d ykJ7_fill hw hroom [gF c, gI v] rfl hst (fun hM ho => sJ7_fill hD c v M (fun M' => M' = gfl M c (n : Int) v) hT he hn rfl hM ho) (fun M' h => by rw [h]; exact kk)
end GJ
def bc1 (x : Int32) : Int32 := x - ((x.toUInt32 >>> ((g32 1).toUInt32 &&& Int32.toUInt32 31)).toInt32 &&& 1431655765)
def bc2 (x : Int32) : Int32 := (x &&& 858993459) + ((x.toUInt32 >>> ((g32 2).toUInt32 &&& Int32.toUInt32 31)).toInt32 &&& 858993459)
def bc3 (x : Int32) : Int32 := (x + (x.toUInt32 >>> ((g32 4).toUInt32 &&& Int32.toUInt32 31)).toInt32) &&& 252645135
def bc4 (x : Int32) : Int32 := x + (x.toUInt32 >>> ((g32 8).toUInt32 &&& Int32.toUInt32 31)).toInt32
def bc5 (x : Int32) : Int32 := x + (x.toUInt32 >>> ((g32 16).toUInt32 &&& Int32.toUInt32 31)).toInt32
theorem bc_sq : ∀ a : Nat, a < 64 → ∀ b : Nat, b < 64 → bc5 (bc4 (bc3 (bc2 (bc1 (g32 ((64 * a + b : Nat) : Int)))))) &&& 63 = g32 (gones ((64 * a + b : Nat) : Int)) := by decide +kernel
theorem bc_all (n : Nat) (h : n < 4096) : bc5 (bc4 (bc3 (bc2 (bc1 (g32 (n : Int)))))) &&& 63 = g32 (gones (n : Int)) := by
  have := bc_sq (n / 64) (by omega) (n % 64) (by omega)
  rw [show 64 * (n / 64) + n % 64 = n by omega] at this
  exact this
set_option maxRecDepth 100000 in
theorem sJ6_bits {l : Launch} {V : gW} (hD : gD V) (x : Int) (M0 : gMem) (K : Int → gMem → Prop) (hx : 0 ≤ x ∧ x < 4096) (h : K (gones x) M0) (hM : gOM M0) (ho : ∀ q ∈ ([gI x] : List gSV), gOK q) : gMi l V yJ6_bitCount_0f7a4 cJ6_bitCount_0f7a4 1 (some .int) 0 0 [gI x] M0 K := by
  obtain ⟨n, rfl⟩ : ∃ n : Nat, x = (n : Int) := ⟨x.toNat, by omega⟩
  refine gMi_of hD (by decide) (Nat.le_of_ble_eq_true rfl) [(0, gI (n : Int))] rfl (gok_L rfl ho) hM (fun X C hR => ?_)
  intro hL hS hM1 ls H locs hl hP hV
  have hl : lv_has ls 1 [(0, .int (g32 (n : Int)))] := hl
  have hx0 := C.1
  have hb := C.2.1
  have hown := C.2.2.2.1
  have hts := C.2.2.2.2.1
  refine lv_iload_n hx0 hb dJ6_bitCount_0f7a4_0 rfl (lv_at hl 0 rfl) ?_
  refine lv_iload_n hx0 hb dJ6_bitCount_0f7a4_1 rfl (lv_at hl 0 rfl) ?_
  refine lv_iconst (v := g32 1) hx0 hb dJ6_bitCount_0f7a4_2 rfl ?_
  refine lv_iushr hx0 hb dJ6_bitCount_0f7a4_3 rfl ?_
  refine lv_ldcw hx0 hb hown (hts (.constant "java/lang/Integer" 265 1431655765) wd_765) dJ6_bitCount_0f7a4_4 ?_
  refine lv_iand hx0 hb dJ6_bitCount_0f7a4_7 ?_
  refine lv_isub hx0 hb dJ6_bitCount_0f7a4_8 ?_
  refine lv_topi (fun x1 e1 => ?_)
  refine lv_istore_n (lv' := [(0, .int x1)]) hx0 hb dJ6_bitCount_0f7a4_9 rfl hl (by decide) rfl (fun ls hl => ?_)
  refine lv_iload_n hx0 hb dJ6_bitCount_0f7a4_10 rfl (lv_at hl 0 rfl) ?_
  refine lv_ldcw hx0 hb hown (hts (.constant "java/lang/Integer" 266 858993459) wd_766) dJ6_bitCount_0f7a4_11 ?_
  refine lv_iand hx0 hb dJ6_bitCount_0f7a4_14 ?_
  refine lv_iload_n hx0 hb dJ6_bitCount_0f7a4_15 rfl (lv_at hl 0 rfl) ?_
  refine lv_iconst (v := g32 2) hx0 hb dJ6_bitCount_0f7a4_16 rfl ?_
  refine lv_iushr hx0 hb dJ6_bitCount_0f7a4_17 rfl ?_
  refine lv_ldcw hx0 hb hown (hts (.constant "java/lang/Integer" 266 858993459) wd_766) dJ6_bitCount_0f7a4_18 ?_
  refine lv_iand hx0 hb dJ6_bitCount_0f7a4_21 ?_
  refine lv_iadd hx0 hb dJ6_bitCount_0f7a4_22 ?_
  refine lv_topi (fun x2 e2 => ?_)
  refine lv_istore_n (lv' := [(0, .int x2)]) hx0 hb dJ6_bitCount_0f7a4_23 rfl hl (by decide) rfl (fun ls hl => ?_)
  refine lv_iload_n hx0 hb dJ6_bitCount_0f7a4_24 rfl (lv_at hl 0 rfl) ?_
  refine lv_iload_n hx0 hb dJ6_bitCount_0f7a4_25 rfl (lv_at hl 0 rfl) ?_
  refine lv_iconst (v := g32 4) hx0 hb dJ6_bitCount_0f7a4_26 rfl ?_
  refine lv_iushr hx0 hb dJ6_bitCount_0f7a4_27 rfl ?_
  refine lv_iadd hx0 hb dJ6_bitCount_0f7a4_28 ?_
  refine lv_ldcw hx0 hb hown (hts (.constant "java/lang/Integer" 267 252645135) wd_767) dJ6_bitCount_0f7a4_29 ?_
  refine lv_iand hx0 hb dJ6_bitCount_0f7a4_32 ?_
  refine lv_topi (fun x3 e3 => ?_)
  refine lv_istore_n (lv' := [(0, .int x3)]) hx0 hb dJ6_bitCount_0f7a4_33 rfl hl (by decide) rfl (fun ls hl => ?_)
  refine lv_iload_n hx0 hb dJ6_bitCount_0f7a4_34 rfl (lv_at hl 0 rfl) ?_
  refine lv_iload_n hx0 hb dJ6_bitCount_0f7a4_35 rfl (lv_at hl 0 rfl) ?_
  refine lv_bipush (v := g32 8) hx0 hb dJ6_bitCount_0f7a4_36 (by decide +kernel) ?_
  refine lv_iushr hx0 hb dJ6_bitCount_0f7a4_38 rfl ?_
  refine lv_iadd hx0 hb dJ6_bitCount_0f7a4_39 ?_
  refine lv_topi (fun x4 e4 => ?_)
  refine lv_istore_n (lv' := [(0, .int x4)]) hx0 hb dJ6_bitCount_0f7a4_40 rfl hl (by decide) rfl (fun ls hl => ?_)
  refine lv_iload_n hx0 hb dJ6_bitCount_0f7a4_41 rfl (lv_at hl 0 rfl) ?_
  refine lv_iload_n hx0 hb dJ6_bitCount_0f7a4_42 rfl (lv_at hl 0 rfl) ?_
  refine lv_bipush (v := g32 16) hx0 hb dJ6_bitCount_0f7a4_43 (by decide +kernel) ?_
  refine lv_iushr hx0 hb dJ6_bitCount_0f7a4_45 rfl ?_
  refine lv_iadd hx0 hb dJ6_bitCount_0f7a4_46 ?_
  refine lv_topi (fun x5 e5 => ?_)
  refine lv_istore_n (lv' := [(0, .int x5)]) hx0 hb dJ6_bitCount_0f7a4_47 rfl hl (by decide) rfl (fun ls hl => ?_)
  refine lv_iload_n hx0 hb dJ6_bitCount_0f7a4_48 rfl (lv_at hl 0 rfl) ?_
  refine lv_bipush (v := 63) hx0 hb dJ6_bitCount_0f7a4_49 (by decide +kernel) ?_
  refine lv_iand hx0 hb dJ6_bitCount_0f7a4_51 ?_
  have e : x5 &&& 63 = g32 (gones (n : Int)) := by
    rw [← bc_all n (by omega), e5, e4, e3, e2, e1]
    rfl
  rw [e]
  have hg : gR (gones (n : Int)) := by unfold gones; exact ⟨by omega, by omega⟩
  exact g_iret C hR dJ6_bitCount_0f7a4_52 h (L := []) (fun q h => by cases h) (gok_n hg (fun q h => by cases h)) hM ls H locs (lv_sub hl [] rfl) hP hV
section GJ2
variable {X : gX} {V : gW} {l : Launch} {cc : ByteArray} {nL : Nat} {own : String} {fr lo : Nat} {pc : Nat} {L : List (Nat × gSV)} {st : List gSV} {M : gMem} {i : Nat}
theorem g_bits (C : gC X V l cc nL own fr lo) (d : decode cc pc = .ok (.invokestatic i, 3)) (hw : Cond.methodLink own i yJ6_bitCount_0f7a4 ∈ lw_good) (hroom : 0 + 1 ≤ fr ∧ 8 + (1 + 11) + 0 ≤ lo) (hst : gcat st ≤ 8) (hD : gD V) {x : Int} (hx : 0 ≤ x ∧ x < 4096) (kk : gG X V nL (pc + 3) L (gI (gones x) :: st) M) : gG X V nL pc L (gI x :: st) M :=
  g_cSi (st := st) C d ykJ6_bits hw hroom [gI x] rfl hst (fun hM ho => sJ6_bits hD x M (fun r M' => r = gones x ∧ M' = M) hx ⟨rfl, rfl⟩ hM ho) (fun r M' h => by rw [h.1, h.2]; exact kk)
end GJ2
