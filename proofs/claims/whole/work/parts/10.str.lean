/-! the texts of the class: length() and charAt() -/
def gsn (s : Int) : Int := (gsl.getD s.toNat 0 : Nat)
def gsc (s k : Int) : Int := ((gsb.getD s.toNat []).getD k.toNat 0).toInt
theorem gs_all : ∀ i : Nat, i < 3 → gsl.getD i 0 ≤ 99 ∧ ∀ j : Nat, j < gsl.getD i 0 → ((((gsb.getD i []).getD j 0) &&& 255).toUInt32 % 65536).toInt32 = (gsb.getD i []).getD j 0 ∧ narrow .char (.int ((gsb.getD i []).getD j 0)) = .int ((gsb.getD i []).getD j 0) := by decide +kernel
theorem ykJ0_coder : Cond.code yJ0_coder_7d493 cJ0_coder_7d493 1 (some .byte) ∈ lw_good := wd_427
theorem ykJ0_isLatin1 : Cond.code yJ0_isLatin1_aae02 cJ0_isLatin1_aae02 1 (some .boolean) ∈ lw_good := wd_437
section GS
variable {X : gX} {V : gW} {l : Launch} {cc : ByteArray} {nL : Nat} {own : String} {fr lo : Nat} {pc : Nat} {L : List (Nat × gSV)} {st : List gSV} {M : gMem} {i : Nat}
theorem g_nret {ty : FieldType} (C : gC X V l cc nL own fr lo) {K : Int → gMem → Prop} (hR : gRi X V ty K) {z : Int} (d : decode cc pc = .ok (.ireturn, 1)) (hn : narrow ty (.int (g32 z)) = .int (g32 z)) (h : K z M) : gG X V nL pc L [gI z] M := by
  intro hL hS hM ls H locs hl hP hV
  obtain ⟨p, l', e, R, s, m, args, below, meth, c, Q, k, n⟩ := X
  obtain ⟨h1, h2, h3⟩ := hR
  have h4 : (Q, k, n) = (MQ below (gQi V K) args s 0 0 (gvA V), 0, 0) := h3
  cases h4
  have hz : gR z := gok_c hS
  have e1 : (g32 z).toInt = z := g32_toInt hz
  exact W.zret (v := g32 z) C.1 C.2.1 h1 hn (fun t ht hW => ⟨⟨g32 z, M, rfl, ⟨hM, by rw [e1]; exact h⟩, by show va_P _ _ _ t.heap; rw [ht]; exact hP⟩, hV.F ht⟩) hV.2.2 d h2
abbrev gsA (V : gW) (k : Nat) : gSV := gB ((gvk V k : Nat) : Int)
abbrev gsV (V : gW) (k : Nat) : gSV := gB ((gvv V k : Nat) : Int)
theorem gs_rv (V : gW) (k : Nat) : grv V (gsA V k) = .ref (gvk V k) := rfl
theorem g_compact (C : gC X V l cc nL own fr lo) (d : decode cc pc = .ok (.getstatic i, 3)) (hw : Cond.fieldLink own i "java/lang/String" "COMPACT_STRINGS" "Z" ∈ lw_good) (kk : gG X V nL (pc + 3) L (gI 1 :: st) M) : gG X V nL pc L st M :=
  fun hL hS hM ls H locs hl hP hV => va_gets C.1 C.2.1 (gE_z C.2.2.2.2.2.2.2.2.2.2.2.2) hV C.2.2.2.1 (C.2.2.2.2.1 _ hw) (fun _ h => h) d (kk hL (gok_n (show gR 1 from ⟨by decide, by decide⟩) hS) hM ls H locs hl hP hV)
theorem g_siobe (C : gC X V l cc nL own fr lo) (d : decode cc pc = .ok (.getstatic i, 3)) (hw : Cond.fieldLink own i "jdk/internal/util/Preconditions" "SIOOBE_FORMATTER" "Ljava/util/function/BiFunction;" ∈ lw_good) (kk : ∀ q : gSV, (q.1 = 3 ∨ q.1 = 4) → gG X V nL (pc + 3) L (q :: st) M) : gG X V nL pc L st M := by
  intro hL hS hM ls H locs hl hP hV
  rcases gE_q C.2.2.2.2.2.2.2.2.2.2.2.2 with h | ⟨t, h⟩
  · exact va_gets C.1 C.2.1 h hV C.2.2.2.1 (C.2.2.2.2.1 _ hw) (fun _ h => h) d (kk (4, 0) (Or.inr rfl) hL (gok_n trivial hS) hM ls H locs hl hP hV)
  · exact va_gets C.1 C.2.1 h hV C.2.2.2.1 (C.2.2.2.2.1 _ hw) (fun _ h => h) d (kk (gB (t : Int)) (Or.inl rfl) hL (gok_n trivial hS) hM ls H locs hl hP hV)
theorem g_scoder (C : gC X V l cc nL own fr lo) {k : Nat} (hk : k < 3) (d : decode cc pc = .ok (.getfield i, 3)) (hw : Cond.fieldLink own i "java/lang/String" "coder" "B" ∈ lw_good) (kk : gG X V nL (pc + 3) L (gI 0 :: st) M) : gG X V nL pc L (gsA V k :: st) M :=
  fun hL hS hM ls H locs hl hP hV => vk_getf C.1 C.2.1 ((gE_s C.2.2.2.2.2.2.2.2.2.2.2.2).1 k hk).2.1 hV C.2.2.2.1 (C.2.2.2.2.1 _ hw) (fun _ h => h) d (kk hL (gok_n gR_0 (gok_t hS)) hM ls H locs hl hP hV)
theorem g_svalue (C : gC X V l cc nL own fr lo) {k : Nat} (hk : k < 3) (d : decode cc pc = .ok (.getfield i, 3)) (hw : Cond.fieldLink own i "java/lang/String" "value" "[B" ∈ lw_good) (kk : gG X V nL (pc + 3) L (gsV V k :: st) M) : gG X V nL pc L (gsA V k :: st) M :=
  fun hL hS hM ls H locs hl hP hV => vk_getf C.1 C.2.1 ((gE_s C.2.2.2.2.2.2.2.2.2.2.2.2).1 k hk).2.2.1 hV C.2.2.2.1 (C.2.2.2.2.1 _ hw) (fun _ h => h) d (kk hL (gok_n (q := gsV V k) trivial (gok_t hS)) hM ls H locs hl hP hV)
theorem g_sblen (C : gC X V l cc nL own fr lo) {k : Nat} (hk : k < 3) (d : decode cc pc = .ok (.arraylength, 1)) (kk : gG X V nL (pc + 1) L (gI (gsn (k : Int)) :: st) M) : gG X V nL pc L (gsV V k :: st) M := by
  intro hL hS hM ls H locs hl hP hV
  have h9 := (gs_all k hk).1
  have hr : gR (gsn (k : Int)) := by unfold gsn; rw [Int.toNat_natCast]; exact ⟨by omega, by omega⟩
  refine va_tlen C.1 C.2.1 ((gE_s C.2.2.2.2.2.2.2.2.2.2.2.2).1 k hk).2.2.2 hV (v := g32 (gsn (k : Int))) ?_ d (kk hL (gok_n hr (gok_t hS)) hM ls H locs hl hP hV)
  unfold gsn
  rw [Int.toNat_natCast]
  exact g32_ofNat _
theorem g_sbald (C : gC X V l cc nL own fr lo) {k : Nat} (hk : k < 3) {j : Int} (hj : 0 ≤ j ∧ j < gsn (k : Int)) (d : decode cc pc = .ok (.baload, 1)) (kk : gG X V nL (pc + 1) L (gI (gsc (k : Int) j) :: st) M) : gG X V nL pc L (gI j :: gsV V k :: st) M := by
  intro hL hS hM ls H locs hl hP hV
  have hr : gR j := gok_c hS
  have hj2 : j < ((gsl.getD k 0 : Nat) : Int) := by have := hj.2; unfold gsn at this; rw [Int.toNat_natCast] at this; exact this
  have kk := kk hL (gok_n (gR_toInt _) (gok_t (gok_t hS))) hM ls H locs hl hP hV
  refine va_tb (i := g32 j) C.1 C.2.1 ((gE_s C.2.2.2.2.2.2.2.2.2.2.2.2).1 k hk).2.2.2 hV (g32_in hj.1 hj2 hr) (v := grv V (gI (gsc (k : Int) j))) ?_ d kk
  show Value.int _ = Value.int (g32 (gsc (k : Int) j))
  unfold gsc
  rw [g32_of, g32_nat hr, Int.toNat_natCast]
/-- a call on a text -/
theorem g_cR {ml fr' lo' n k : Nat} {y : MethodName} {cc' : ByteArray} {ret : Option FieldType} (C : gC X V l cc nL own fr lo) (d : decode cc pc = .ok (.invokevirtual i, 3)) (hk : k < 3) (hyc : y.cls = "java/lang/String") (hcode : Cond.code y cc' ml ret ∈ lw_good) (hinst : Cond.instanceMethod y ∈ lw_good) (hsel : Cond.selects y.cls y y ∈ lw_good) (hini : Cond.initialized y.cls ∈ lw_good) (hy : y.cls ≠ "java/lang/invoke/MethodHandle" ∧ y.cls ≠ "java/lang/invoke/VarHandle" ∧ (parseMethodDescriptor y.desc).map (fun d => d.parameters.length) = some n)
    (hw : Cond.methodLink own i y ∈ lw_good) (hroom : fr' + 1 ≤ fr ∧ 8 + (ml + 11) + lo' ≤ lo) (As : List gSV) (hn : As.length = n) (hst : gcat st ≤ 8) {K : Int → gMem → Prop}
    (hM : gOM M → (∀ q ∈ As, gOK q) → gMi l V y cc' ml ret fr' lo' (gsA V k :: As) M K) (kk : ∀ (r : Int) (M' : gMem), K r M' → gG X V nL (pc + 3) L (gI r :: st) M') : gG X V nL pc L (As.reverse ++ gsA V k :: st) M := by
  intro hL hS hM0 ls H locs hl hP hV
  have hso : (∀ q ∈ As, gOK q) ∧ ∀ q ∈ st, gOK q := ⟨fun q h => hS q (List.mem_append_left _ (List.mem_reverse.mpr h)), fun q h => hS q (List.mem_append_right _ (List.mem_cons_of_mem _ h))⟩
  have hm := hM hM0 hso.1
  unfold gMi at hm
  have cb : CallB (gxR X) (gxs X) (gxa X) own i y cc' ml ret (gws' y cc' ml ret) { frames := fr', cells := 0, slots := 0, locals := lo' } 0 0 n := g_callB C hcode hini hy hw hroom
  have hts := C.2.2.2.2.1
  have hlE : gxl X = l := C.2.2.2.2.2.2.2.1
  have e0 : (As.reverse ++ gsA V k :: st).map (grv V) = (As.map (grv V)).reverse ++ .ref (gvk V k) :: st.map (grv V) := by
    rw [List.map_append, List.map_reverse]
    rfl
  rw [e0]
  rw [← hlE] at hm
  have hpre : PreV (gxs X) H y.cls (gvk V k) (va_Pc ((gsA V k :: As).map (grv V)) (gPre V M)) (As.map (grv V)) := by
    refine ⟨gPre_blind, ?_, fun U hU hW => ⟨rfl, by show va_P _ _ _ U.heap; rw [hU]; exact hP, va_K.moved hW.alike C.2.2.2.2.2.1, gE_pass C.2.2.2.2.2.2.2.2.2.2.2.2 hU hV hW⟩⟩
    rw [hyc]
    exact vk_recv (gE_s C.2.2.2.2.2.2.2.2.2.2.2.2) hk hV
  refine va_calli (va_runV ⟨C.1, C.2.1, C.2.2.1, C.2.2.2.1, hts⟩ hm ⟨cb, hts _ hinst, hts _ hsel⟩ hpre rfl (by rw [List.length_map]; exact hn) hl.1 rfl (lv_room (by rw [gcat_eq]; exact hst)) d ⟨C.2.2.2.2.2.2.2.2.2.2.1, C.2.2.2.2.2.2.2.2.2.2.2.1⟩) hV (fun q _ h => h) (fun q h => h) (fun r M' t' H1 locs1 ht hvm hw2 hB hz1 hk1 hV1 => ?_)
  have hB : va_P V.1 vwCl (gws V M') t'.heap := hB
  rw [ht] at hB
  have g := kk r.toInt M' hw2.2 hL (gok_n (gR_toInt r) hso.2) hw2.1 ls H1 locs1 hl hB hV1
  have e : grv V (gI r.toInt) = .int r := by show Value.int (g32 r.toInt) = _; rw [g32_of]
  rw [List.map_cons, e] at g
  exact g
theorem g_ldcS_0 (C : gC X V l cc nL "BunchNotes$Text" fr lo) (d : decode cc pc = .ok (.ldc 46, 2)) (kk : gG X V nL (pc + 2) L (gB ((gvk V (0 : Int).toNat : Nat) : Int) :: st) M) : gG X V nL pc L st M :=
  fun hL hS hM ls H locs hl hP hV => va_ldcS C.1 C.2.1 C.2.2.2.1 (gE_r0 C.2.2.2.2.2.2.2.2.2.2.2.2) d (kk hL (gok_n (q := gsA V 0) trivial hS) hM ls H locs hl hP hV)
theorem g_ldcS_1 (C : gC X V l cc nL "BunchNotes$Text" fr lo) (d : decode cc pc = .ok (.ldc 55, 2)) (kk : gG X V nL (pc + 2) L (gB ((gvk V (1 : Int).toNat : Nat) : Int) :: st) M) : gG X V nL pc L st M :=
  fun hL hS hM ls H locs hl hP hV => va_ldcS C.1 C.2.1 C.2.2.2.1 (gE_r1 C.2.2.2.2.2.2.2.2.2.2.2.2) d (kk hL (gok_n (q := gsA V 1) trivial hS) hM ls H locs hl hP hV)
theorem g_ldcS_2 (C : gC X V l cc nL "BunchNotes$Text" fr lo) (d : decode cc pc = .ok (.ldc 60, 2)) (kk : gG X V nL (pc + 2) L (gB ((gvk V (2 : Int).toNat : Nat) : Int) :: st) M) : gG X V nL pc L st M :=
  fun hL hS hM ls H locs hl hP hV => va_ldcS C.1 C.2.1 C.2.2.2.1 (gE_r2 C.2.2.2.2.2.2.2.2.2.2.2.2) d (kk hL (gok_n (q := gsA V 2) trivial hS) hM ls H locs hl hP hV)
end GS
theorem gokB {V : gW} {k : Nat} : ∀ q ∈ ([gsA V k] : List gSV), gOK q := gok_n (q := gsA V k) trivial (fun q h => by cases h)
theorem sJ0_coder {l : Launch} {V : gW} (hD : gD V) {k : Nat} (hk : k < 3) (M0 : gMem) (K : Int → gMem → Prop) (h : K 0 M0) (hM : gOM M0) : gMi l V yJ0_coder_7d493 cJ0_coder_7d493 1 (some .byte) 0 0 [gsA V k] M0 K := by
  refine gMi_of hD (by decide) (Nat.le_of_ble_eq_true rfl) [(0, gsA V k)] rfl (gok_L rfl gokB) hM (fun X C hR => ?_)
  refine g_compact C dJ0_coder_7d493_0 wd_428 ?_
  refine g_if_eq (t := 13) C dJ0_coder_7d493_3 (by decide) (fun c => absurd c (by decide)) (fun _ => ?_)
  refine g_aloadnB C dJ0_coder_7d493_6 0 rfl ?_
  refine g_scoder C hk dJ0_coder_7d493_7 wd_1227 ?_
  refine g_goto (t := 14) C dJ0_coder_7d493_10 (by decide) ?_
  exact g_nret C hR dJ0_coder_7d493_14 (by decide +kernel) h
theorem sJ0_isLatin1 {l : Launch} {V : gW} (hD : gD V) {k : Nat} (hk : k < 3) (M0 : gMem) (K : Int → gMem → Prop) (h : K 1 M0) (hM : gOM M0) : gMi l V yJ0_isLatin1_aae02 cJ0_isLatin1_aae02 1 (some .boolean) 0 0 [gsA V k] M0 K := by
  refine gMi_of hD (by decide) (Nat.le_of_ble_eq_true rfl) [(0, gsA V k)] rfl (gok_L rfl gokB) hM (fun X C hR => ?_)
  refine g_compact C dJ0_isLatin1_aae02_0 wd_428 ?_
  refine g_if_eq (t := 17) C dJ0_isLatin1_aae02_3 (by decide) (fun c => absurd c (by decide)) (fun _ => ?_)
  refine g_aloadnB C dJ0_isLatin1_aae02_6 0 rfl ?_
  refine g_scoder C hk dJ0_isLatin1_aae02_7 wd_1227 ?_
  refine g_if_ne (t := 17) C dJ0_isLatin1_aae02_10 (by decide) (fun c => absurd rfl c) (fun _ => ?_)
  refine g_iconst C dJ0_isLatin1_aae02_13 ⟨by decide, by decide⟩ ?_
  refine g_goto (t := 18) C dJ0_isLatin1_aae02_14 (by decide) ?_
  exact g_zret C hR dJ0_isLatin1_aae02_18 (Or.inr rfl) h
theorem sJ0_length {l : Launch} {V : gW} (hD : gD V) {k : Nat} (hk : k < 3) (M0 : gMem) (K : Int → gMem → Prop) (h : K (gsn (k : Int)) M0) (hM : gOM M0) : gMi l V yJ0_length_8abf5 cJ0_length_8abf5 1 (some .int) 1 20 [gsA V k] M0 K := by
  refine gMi_of hD (by decide) (Nat.le_of_ble_eq_true rfl) [(0, gsA V k)] rfl (gok_L rfl gokB) hM (fun X C hR => ?_)
  have h9 := (gs_all k hk).1
  have h0 : 0 ≤ gsn (k : Int) := by unfold gsn; omega
  refine g_aloadnB C dJ0_length_8abf5_0 0 rfl ?_
  refine g_svalue C hk dJ0_length_8abf5_1 wd_1226 ?_
  refine g_sblen C hk dJ0_length_8abf5_4 ?_
  refine g_aloadnB C dJ0_length_8abf5_5 0 rfl ?_
  refine g_cR (st := [gI (gsn (k : Int))]) (K := fun r M' => r = 0 ∧ M' = M0) C dJ0_length_8abf5_6 hk rfl ykJ0_coder wd_425 wd_426 wd_82 ⟨by decide, by decide, by decide +kernel⟩ wd_424 ⟨by decide, by decide⟩ [] rfl (Nat.le_of_ble_eq_true rfl) (fun hM _ => sJ0_coder hD hk M0 _ ⟨rfl, rfl⟩ hM) (fun r M' hr => ?_)
  obtain ⟨rfl, rfl⟩ := hr
  refine g_ishr C dJ0_length_8abf5_9 ⟨h0, by decide, by decide⟩ ?_
  have e : gsn (k : Int) / gpw 0 = gsn (k : Int) := Int.ediv_one _
  rw [e]
  exact g_iret C hR dJ0_length_8abf5_10 h
theorem sJ3_check {l : Launch} {V : gW} (hD : gD V) (a b : Int) (q : gSV) (hq : q.1 = 3 ∨ q.1 = 4) (hab : 0 ≤ a ∧ a < b) (M0 : gMem) (K : Int → gMem → Prop) (h : K a M0) (hM : gOM M0) (ho : ∀ x ∈ ([gI a, gI b, q] : List gSV), gOK x) : gMi l V yJ3_checkIndex_8e157 cJ3_checkIndex_8e157 3 (some .int) 0 0 [gI a, gI b, q] M0 K := by
  have e1 : (lg_sl ([gI a, gI b, q].map (grv V))).length ≤ 3 := by
    obtain ⟨t, z⟩ := q
    rcases hq with rfl | rfl <;> exact Nat.le_of_ble_eq_true rfl
  have e2 : lv_args 0 ([gI a, gI b, q].map (grv V)) = ([(0, gI a), (1, gI b), (2, q)] : List (Nat × gSV)).map (fun q => (q.1, grv V q.2)) := by
    obtain ⟨t, z⟩ := q
    rcases hq with rfl | rfl <;> rfl
  refine gMi_of hD (by decide) e1 [(0, gI a), (1, gI b), (2, q)] e2 (gok_L rfl ho) hM (fun X C hR => ?_)
  refine g_iloadn C dJ3_checkIndex_8e157_0 0 rfl ?_
  refine g_if_lt (t := 9) C dJ3_checkIndex_8e157_1 (by decide) (fun c => absurd c (by omega)) (fun _ => ?_)
  refine g_iloadn C dJ3_checkIndex_8e157_4 0 rfl ?_
  refine g_iloadn C dJ3_checkIndex_8e157_5 1 rfl ?_
  refine g_ic_lt (t := 16) C dJ3_checkIndex_8e157_6 (by decide) (fun _ => ?_) (fun c => absurd hab.2 c)
  refine g_iloadn C dJ3_checkIndex_8e157_16 0 rfl ?_
  exact g_iret C hR dJ3_checkIndex_8e157_17 h
theorem ykJ3_check : gYS yJ3_checkIndex_8e157 cJ3_checkIndex_8e157 3 (some .int) 3 := ⟨wd_448, wd_447, wd_84, ⟨by decide, by decide, by decide +kernel⟩⟩
theorem sJ0_check {l : Launch} {V : gW} (hD : gD V) (a b : Int) (hab : 0 ≤ a ∧ a < b) (M0 : gMem) (K : gMem → Prop) (h : K M0) (hM : gOM M0) (ho : ∀ x ∈ ([gI a, gI b] : List gSV), gOK x) : gMv l V yJ0_checkIndex_df160 cJ0_checkIndex_df160 2 1 22 [gI a, gI b] M0 K := by
  refine gMv_of hD (by decide) (Nat.le_of_ble_eq_true rfl) [(0, gI a), (1, gI b)] rfl (gok_L rfl ho) hM (fun X C hR => ?_)
  refine g_iloadn C dJ0_checkIndex_df160_0 0 rfl ?_
  refine g_iloadn C dJ0_checkIndex_df160_1 1 rfl ?_
  refine g_siobe C dJ0_checkIndex_df160_2 wd_444 (fun q hq => ?_)
  refine g_cSi (st := []) (K := fun r M' => M' = M0) C dJ0_checkIndex_df160_5 ykJ3_check wd_446 ⟨by decide, by decide⟩ [gI a, gI b, q] rfl (Nat.le_of_ble_eq_true rfl) (fun hM ho => sJ3_check hD a b q hq hab M0 _ rfl hM ho) (fun r M' hr => ?_)
  subst hr
  refine g_pop C dJ0_checkIndex_df160_8 (fun e => by cases e) ?_
  exact g_vret C hR dJ0_checkIndex_df160_9 h
theorem ykJ0_check : gYS yJ0_checkIndex_df160 cJ0_checkIndex_df160 2 none 2 := ⟨wd_443, wd_442, wd_82, ⟨by decide, by decide, by decide +kernel⟩⟩
theorem sJ1_charAt {l : Launch} {V : gW} (hD : gD V) {k : Nat} (hk : k < 3) (j : Int) (hj : 0 ≤ j ∧ j < gsn (k : Int)) (M0 : gMem) (K : Int → gMem → Prop) (h : K (gsc (k : Int) j) M0) (hM : gOM M0) (ho : ∀ x ∈ ([gsV V k, gI j] : List gSV), gOK x) : gMi l V yJ1_charAt_3b067 cJ1_charAt_3b067 2 (some .char) 2 43 [gsV V k, gI j] M0 K := by
  refine gMi_of hD (by decide) (Nat.le_of_ble_eq_true rfl) [(0, gsV V k), (1, gI j)] rfl (gok_L rfl ho) hM (fun X C hR => ?_)
  refine g_iloadn C dJ1_charAt_3b067_0 1 rfl ?_
  refine g_aloadnB C dJ1_charAt_3b067_1 0 rfl ?_
  refine g_sblen C hk dJ1_charAt_3b067_2 ?_
  refine g_cSv (st := []) (K := fun M' => M' = M0) C dJ1_charAt_3b067_3 ykJ0_check wd_441 ⟨by decide, by decide⟩ [gI j, gI (gsn (k : Int))] rfl (Nat.le_of_ble_eq_true rfl) (fun hM ho => sJ0_check hD j (gsn (k : Int)) hj M0 _ rfl hM ho) (fun M' hr => ?_)
  subst hr
  refine g_aloadnB C dJ1_charAt_3b067_6 0 rfl ?_
  refine g_iloadn C dJ1_charAt_3b067_7 1 rfl ?_
  refine g_sbald C hk hj dJ1_charAt_3b067_8 ?_
  intro hL hS hM1 ls H locs hl hP hV
  obtain ⟨n, rfl⟩ : ∃ n : Nat, j = (n : Int) := ⟨j.toNat, by omega⟩
  have hn : n < gsl.getD k 0 := by have := hj.2; unfold gsn at this; rw [Int.toNat_natCast] at this; omega
  have hx := (gs_all k hk).2 n hn
  have hc : g32 (gsc (k : Int) (n : Int)) = (gsb.getD k []).getD n 0 := by unfold gsc; rw [g32_of, Int.toNat_natCast, Int.toNat_natCast]
  refine lv_sipush (v := 255) C.1 C.2.1 dJ1_charAt_3b067_9 (by decide +kernel) ?_
  refine lv_iand (x := g32 (gsc (k : Int) (n : Int))) C.1 C.2.1 dJ1_charAt_3b067_12 ?_
  refine lv_i2c C.1 C.2.1 dJ1_charAt_3b067_13 (v := g32 (gsc (k : Int) (n : Int))) (by rw [hc]; exact hx.1) ?_
  exact g_nret (L := []) C hR dJ1_charAt_3b067_14 (by rw [hc]; exact hx.2) h (fun q h => by cases h) (gok_n (gR_toInt _) (fun q h => by cases h)) hM1 ls H locs (lv_sub hl [] rfl) hP hV
theorem ykJ1_charAt : gYS yJ1_charAt_3b067 cJ1_charAt_3b067 2 (some .char) 2 := ⟨wd_440, wd_439, wd_83, ⟨by decide, by decide, by decide +kernel⟩⟩
theorem gs_char {k : Nat} (hk : k < 3) {j : Int} (hj : 0 ≤ j ∧ j < gsn (k : Int)) : narrow .char (.int (g32 (gsc (k : Int) j))) = .int (g32 (gsc (k : Int) j)) := by
  obtain ⟨n, rfl⟩ : ∃ n : Nat, j = (n : Int) := ⟨j.toNat, by omega⟩
  have hn : n < gsl.getD k 0 := by have := hj.2; unfold gsn at this; rw [Int.toNat_natCast] at this; omega
  have hc : g32 (gsc (k : Int) (n : Int)) = (gsb.getD k []).getD n 0 := by unfold gsc; rw [g32_of, Int.toNat_natCast, Int.toNat_natCast]
  rw [hc]
  exact ((gs_all k hk).2 n hn).2
theorem sJ0_charAt {l : Launch} {V : gW} (hD : gD V) {k : Nat} (hk : k < 3) (j : Int) (hj : 0 ≤ j ∧ j < gsn (k : Int)) (M0 : gMem) (K : Int → gMem → Prop) (h : K (gsc (k : Int) j) M0) (hM : gOM M0) (ho : ∀ x ∈ ([gI j] : List gSV), gOK x) : gMi l V yJ0_charAt_5068e cJ0_charAt_5068e 2 (some .char) 3 64 [gsA V k, gI j] M0 K := by
  refine gMi_of hD (by decide) (Nat.le_of_ble_eq_true rfl) [(0, gsA V k), (1, gI j)] rfl (gok_L rfl (gok_n (q := gsA V k) trivial ho)) hM (fun X C hR => ?_)
  refine g_aloadnB C dJ0_charAt_5068e_0 0 rfl ?_
  refine g_cR (st := []) (K := fun r M' => r = 1 ∧ M' = M0) C dJ0_charAt_5068e_1 hk rfl ykJ0_isLatin1 wd_435 wd_436 wd_82 ⟨by decide, by decide, by decide +kernel⟩ wd_434 ⟨by decide, by decide⟩ [] rfl (Nat.le_of_ble_eq_true rfl) (fun hM _ => sJ0_isLatin1 hD hk M0 _ ⟨rfl, rfl⟩ hM) (fun r M' hr => ?_)
  obtain ⟨rfl, rfl⟩ := hr
  refine g_if_eq (t := 16) C dJ0_charAt_5068e_4 (by decide) (fun c => absurd c (by decide)) (fun _ => ?_)
  refine g_aloadnB C dJ0_charAt_5068e_7 0 rfl ?_
  refine g_svalue C hk dJ0_charAt_5068e_8 wd_1226 ?_
  refine g_iloadn C dJ0_charAt_5068e_11 1 rfl ?_
  refine g_cSi (st := []) (K := fun r M'' => r = gsc (k : Int) j ∧ M'' = M') C dJ0_charAt_5068e_12 ykJ1_charAt wd_438 ⟨by decide, by decide⟩ [gsV V k, gI j] rfl (Nat.le_of_ble_eq_true rfl) (fun hM ho => sJ1_charAt hD hk j hj M' _ ⟨rfl, rfl⟩ hM ho) (fun r M'' hr => ?_)
  obtain ⟨rfl, rfl⟩ := hr
  exact g_nret C hR dJ0_charAt_5068e_15 (gs_char hk hj) h
section GS2
variable {X : gX} {V : gW} {l : Launch} {cc : ByteArray} {nL : Nat} {own : String} {fr lo : Nat} {pc : Nat} {L : List (Nat × gSV)} {st : List gSV} {M : gMem} {i : Nat} {s : Int}
theorem g_slen (C : gC X V l cc nL own fr lo) (d : decode cc pc = .ok (.invokevirtual i, 3)) (hw : Cond.methodLink own i yJ0_length_8abf5 ∈ lw_good) (hroom : 1 + 1 ≤ fr ∧ 8 + (1 + 11) + 20 ≤ lo) (hst : gcat st ≤ 8) (hD : gD V) (hs : 0 ≤ s ∧ s < 3) (kk : gG X V nL (pc + 3) L (gI (gsn s) :: st) M) : gG X V nL pc L (gB ((gvk V s.toNat : Nat) : Int) :: st) M := by
  obtain ⟨k, rfl⟩ : ∃ k : Nat, s = (k : Int) := ⟨s.toNat, by omega⟩
  rw [Int.toNat_natCast]
  exact g_cR (st := st) (k := k) (K := fun r M' => r = gsn (k : Int) ∧ M' = M) C d (by omega) rfl wd_423 wd_421 wd_422 wd_82 ⟨by decide, by decide, by decide +kernel⟩ hw hroom [] rfl hst (fun hM _ => sJ0_length hD (by omega) M _ ⟨rfl, rfl⟩ hM) (fun r M' hr => by rw [hr.1, hr.2]; exact kk)
theorem g_schar (C : gC X V l cc nL own fr lo) (d : decode cc pc = .ok (.invokevirtual i, 3)) (hw : Cond.methodLink own i yJ0_charAt_5068e ∈ lw_good) (hroom : 3 + 1 ≤ fr ∧ 8 + (2 + 11) + 64 ≤ lo) (hst : gcat st ≤ 8) (hD : gD V) (hs : 0 ≤ s ∧ s < 3) {j : Int} (hj : 0 ≤ j ∧ j < gsn s) (kk : gG X V nL (pc + 3) L (gI (gsc s j) :: st) M) : gG X V nL pc L (gI j :: gB ((gvk V s.toNat : Nat) : Int) :: st) M := by
  obtain ⟨k, rfl⟩ : ∃ k : Nat, s = (k : Int) := ⟨s.toNat, by omega⟩
  rw [Int.toNat_natCast]
  exact g_cR (n := 1) (st := st) (k := k) (K := fun r M' => r = gsc (k : Int) j ∧ M' = M) C d (by omega) rfl wd_433 wd_431 wd_432 wd_82 ⟨by decide, by decide, by decide +kernel⟩ hw hroom [gI j] rfl hst (fun hM ho => sJ0_charAt hD (by omega) j hj M _ ⟨rfl, rfl⟩ hM ho) (fun r M' hr => by rw [hr.1, hr.2]; exact kk)
end GS2
