set_option maxRecDepth 100000 in
set_option maxHeartbeats 4000000 in
theorem sX10_in {l : Launch} {V : gW} (hD : gD V) (a1 a2 a3 : Int) (M0 : gMem) (K : Int → gMem → Prop) (h : wX10_in a1 a2 a3 K M0) (hM : gOM M0) (ho : ∀ q ∈ ([gJ a1, gJ a2, gJ a3] : List gSV), gOK q) : gMi l V yX10_in cX10_in 6 (some .boolean) 0 0 [gJ a1, gJ a2, gJ a3] M0 K := by
  refine gMi_of hD (by decide) (Nat.le_of_ble_eq_true rfl) [(0, gJ a1), (2, gJ a2), (4, gJ a3)] rfl (gok_L rfl ho) hM (fun X C hR => ?_)
  unfold wX10_in at h
  refine g_lloadn C dX10_in_0 0 rfl ?_
  refine g_lloadn C dX10_in_1 1 rfl ?_
  refine g_lcmp C dX10_in_2 ?_
  obtain ⟨P3, h, hP3⟩ := h
  have J4 : ∀ (x1 : Int) (M2 : gMem), P3 x1 M2 → gG X V 6 18 [] [gI x1] M2 := by
    intro x1 M2 h
    replace h := hP3 x1 M2 h
    exact g_zret C hR dX10_in_18 h.1 h.2
  obtain ⟨P6, h, hP6⟩ := h
  have J7 : ∀ (M5 : gMem), P6 M5 → gG X V 6 17 [] [] M5 := by
    intro M5 h
    replace h := hP6 M5 h
    refine g_iconst C dX10_in_17 gRc_0 ?_
    exact J4 0 M5 h
  refine g_if_lt (t := 17) C dX10_in_3 (by decide) (fun c8 => ?_) (fun c8 => ?_)
  · replace h := h.1 c8
    refine g_sub [] [] rfl ?_
    exact J7 M0 h
  · replace h := h.2 c8
    refine g_lloadn C dX10_in_6 0 rfl ?_
    refine g_lload C dX10_in_7 2 rfl ?_
    refine g_lcmp C dX10_in_9 ?_
    refine g_if_gt (t := 17) C dX10_in_10 (by decide) (fun c9 => ?_) (fun c9 => ?_)
    · replace h := h.1 c9
      refine g_sub [] [] rfl ?_
      exact J7 M0 h
    · replace h := h.2 c9
      refine g_iconst C dX10_in_13 gRc_1 ?_
      refine g_goto (t := 18) C dX10_in_14 (by decide) ?_
      refine g_sub [] [] rfl ?_
      exact J4 1 M0 h

set_option maxRecDepth 100000 in
set_option maxHeartbeats 4000000 in
theorem sX10_isNode {l : Launch} {V : gW} (hD : gD V) (c0 a1 : Int) (M0 : gMem) (K : Int → gMem → Prop) (hT0 : gT c0 10) (h : wX10_isNode c0 a1 K M0) (hM : gOM M0) (ho : ∀ q ∈ ([gI a1] : List gSV), gOK q) : gMi l V yX10_isNode cX10_isNode 2 (some .boolean) 1 25 [gF c0, gI a1] M0 K := by
  refine gMi_of hD (by decide) (Nat.le_of_ble_eq_true rfl) [(0, gF c0), (1, gI a1)] rfl (gok_L rfl (gok_n (q := gF c0) trivial ho)) hM (fun X C hR => ?_)
  unfold wX10_isNode at h
  refine g_iloadn C dX10_isNode_0 1 rfl ?_
  refine g_i2l C dX10_isNode_1 ?_
  refine g_lconst C dX10_isNode_2 (by decide) (show gOK (gJ 0) from ⟨by decide, by decide⟩) ?_
  refine g_aloadn C dX10_isNode_3 0 rfl ?_
  refine gf_10_2 C dX10_isNode_4 wd_857 hT0 ?_
  refine g_iconst C dX10_isNode_7 gRc_1 ?_
  refine g_isub C dX10_isNode_8 h.1 ?_
  replace h := h.2
  refine g_i2l C dX10_isNode_9 ?_
  refine g_cSi (st := []) C dX10_isNode_10 ykX10_in wd_937 ⟨by decide, by decide⟩ [gJ a1, gJ 0, gJ ((M0 c0 2) - 1)] rfl (Nat.le_of_ble_eq_true rfl) (fun hM ho => sX10_in hD a1 0 ((M0 c0 2) - 1) M0 _  h hM ho) (fun r2 M1 h => ?_)
  exact g_zret C hR dX10_isNode_13 h.1 h.2

set_option maxRecDepth 100000 in
set_option maxHeartbeats 4000000 in
theorem sX10_has {l : Launch} {V : gW} (hD : gD V) (a1 a2 : Int) (M0 : gMem) (K : Int → gMem → Prop) (h : wX10_has a1 a2 K M0) (hM : gOM M0) (ho : ∀ q ∈ ([gI a1, gI a2] : List gSV), gOK q) : gMi l V yX10_has cX10_has 2 (some .boolean) 0 0 [gI a1, gI a2] M0 K := by
  refine gMi_of hD (by decide) (Nat.le_of_ble_eq_true rfl) [(0, gI a1), (1, gI a2)] rfl (gok_L rfl ho) hM (fun X C hR => ?_)
  unfold wX10_has at h
  refine g_iloadn C dX10_has_0 0 rfl ?_
  refine g_iloadn C dX10_has_1 1 rfl ?_
  refine g_ishr C dX10_has_2 h.1 ?_
  replace h := h.2
  refine g_iconst C dX10_has_3 gRc_1 ?_
  refine g_iandM C 1 2 dX10_has_4 (by decide) rfl rfl ?_
  refine g_iconst C dX10_has_5 gRc_1 ?_
  obtain ⟨P3, h, hP3⟩ := h
  have J4 : ∀ (x1 : Int) (M2 : gMem), P3 x1 M2 → gG X V 2 14 [] [gI x1] M2 := by
    intro x1 M2 h
    replace h := hP3 x1 M2 h
    exact g_zret C hR dX10_has_14 h.1 h.2
  refine g_ic_ne (t := 13) C dX10_has_6 (by decide) (fun c5 => ?_) (fun c5 => ?_)
  · replace h := h.1 c5
    refine g_iconst C dX10_has_13 gRc_0 ?_
    refine g_sub [] [] rfl ?_
    exact J4 0 M0 h
  · replace h := h.2 c5
    refine g_iconst C dX10_has_9 gRc_1 ?_
    refine g_goto (t := 14) C dX10_has_10 (by decide) ?_
    refine g_sub [] [] rfl ?_
    exact J4 1 M0 h

set_option maxRecDepth 100000 in
set_option maxHeartbeats 4000000 in
theorem sX10_ones {l : Launch} {V : gW} (hD : gD V) (a1 : Int) (M0 : gMem) (K : Int → gMem → Prop) (h : wX10_ones a1 K M0) (hM : gOM M0) (ho : ∀ q ∈ ([gI a1] : List gSV), gOK q) : gMi l V yX10_ones cX10_ones 3 (some .int) 0 0 [gI a1] M0 K := by
  refine gMi_of hD (by decide) (Nat.le_of_ble_eq_true rfl) [(0, gI a1)] rfl (gok_L rfl ho) hM (fun X C hR => ?_)
  unfold wX10_ones at h
  refine g_iconst C dX10_ones_0 gRc_0 ?_
  refine g_istoren C [(1, gI 0), (0, gI a1)] dX10_ones_1 (by decide) rfl ?_
  refine g_iconst C dX10_ones_2 gRc_0 ?_
  refine g_istoren C [(2, gI 0), (1, gI 0), (0, gI a1)] dX10_ones_3 (by decide) rfl ?_
  refine g_sub [(0, gI a1), (1, gI 0), (2, gI 0)] [2, 1, 0] rfl ?_
  refine gL2_go (Gd := fun (v1 : Int) (v2 : Int) (M3 : gMem) => gG X V 3 4 [(0, gI a1), (1, gI v1), (2, gI v2)] [] M3) (fun rec4 hrec4 v1 v2 M3 h => ?_) h
  refine g_iloadn C dX10_ones_4 2 rfl ?_
  refine g_bipush C dX10_ones_5 gRc_12 gRb_12 ?_
  refine g_ic_ge (t := 24) C dX10_ones_7 (by decide) (fun c5 => ?_) (fun c5 => ?_)
  · replace h := h.1 c5
    refine g_iloadn C dX10_ones_24 1 rfl ?_
    exact g_iret C hR dX10_ones_25 h
  · replace h := h.2 c5
    refine g_iloadn C dX10_ones_10 1 rfl ?_
    refine g_iloadn C dX10_ones_11 0 rfl ?_
    refine g_iloadn C dX10_ones_12 2 rfl ?_
    refine g_ishr C dX10_ones_13 h.1 ?_
    replace h := h.2
    refine g_iconst C dX10_ones_14 gRc_1 ?_
    refine g_iandM C 1 2 dX10_ones_15 (by decide) rfl rfl ?_
    refine g_iadd C dX10_ones_16 h.1 ?_
    replace h := h.2
    obtain ⟨v6, ev6⟩ : ∃ x : Int, x = (v1 + ((a1 / gpw v2) % 2)) := ⟨_, rfl⟩
    refine g_nm ev6 ?_
    replace h := h v6 ev6
    refine g_istoren C [(1, gI v6), (0, gI a1), (2, gI v2)] dX10_ones_17 (by decide) rfl ?_
    refine g_iinc C [(2, gI (v2 + 1)), (1, gI v6), (0, gI a1)] dX10_ones_18 2 rfl (by decide) h.1 rfl ?_
    replace h := h.2
    refine g_goto (t := 4) C dX10_ones_21 (by decide) ?_
    refine g_sub [(0, gI a1), (1, gI v6), (2, gI (v2 + 1))] [2, 1, 0] rfl ?_
    exact hrec4 v6 (v2 + 1) M3 h

set_option maxRecDepth 100000 in
set_option maxHeartbeats 4000000 in
theorem sX10_length {l : Launch} {V : gW} (hD : gD V) (c0 a1 a2 : Int) (M0 : gMem) (K : Int → gMem → Prop) (hT0 : gT c0 10) (h : wX10_length c0 a1 a2 K M0) (hM : gOM M0) (ho : ∀ q ∈ ([gI a1, gI a2] : List gSV), gOK q) : gMi l V yX10_length cX10_length 3 (some .int) 0 0 [gF c0, gI a1, gI a2] M0 K := by
  refine gMi_of hD (by decide) (Nat.le_of_ble_eq_true rfl) [(0, gF c0), (1, gI a1), (2, gI a2)] rfl (gok_L rfl (gok_n (q := gF c0) trivial ho)) hM (fun X C hR => ?_)
  unfold wX10_length at h
  refine g_aloadn C dX10_length_0 0 rfl ?_
  refine gf_10_0 C dX10_length_1 wd_855 hT0 ?_
  refine g_bipush C dX10_length_4 gRc_12 gRb_12 ?_
  refine g_iloadn C dX10_length_6 1 rfl ?_
  refine g_imul C dX10_length_7 h.1 ?_
  replace h := h.2
  refine g_iloadn C dX10_length_8 2 rfl ?_
  refine g_iadd C dX10_length_9 h.1 ?_
  replace h := h.2
  refine g_iald C dX10_length_10 (gt_10_0 hT0) gce_11727 h.1 ?_
  replace h := h.2
  exact g_iret C hR dX10_length_11 h

set_option maxRecDepth 100000 in
set_option maxHeartbeats 4000000 in
theorem sX10_lies {l : Launch} {V : gW} (hD : gD V) (c0 a1 a2 a3 : Int) (M0 : gMem) (K : gMem → Prop) (hT0 : gT c0 10) (h : wX10_lies c0 a1 a2 a3 K M0) (hM : gOM M0) (ho : ∀ q ∈ ([gI a1, gI a2, gI a3] : List gSV), gOK q) : gMv l V yX10_lies cX10_lies 4 0 0 [gF c0, gI a1, gI a2, gI a3] M0 K := by
  refine gMv_of hD (by decide) (Nat.le_of_ble_eq_true rfl) [(0, gF c0), (1, gI a1), (2, gI a2), (3, gI a3)] rfl (gok_L rfl (gok_n (q := gF c0) trivial ho)) hM (fun X C hR => ?_)
  unfold wX10_lies at h
  refine g_aloadn C dX10_lies_0 0 rfl ?_
  refine gf_10_0 C dX10_lies_1 wd_855 hT0 ?_
  refine g_bipush C dX10_lies_4 gRc_12 gRb_12 ?_
  refine g_iloadn C dX10_lies_6 1 rfl ?_
  refine g_imul C dX10_lies_7 h.1 ?_
  replace h := h.2
  refine g_iloadn C dX10_lies_8 2 rfl ?_
  refine g_iadd C dX10_lies_9 h.1 ?_
  replace h := h.2
  refine g_iloadn C dX10_lies_10 3 rfl ?_
  refine g_iast C dX10_lies_11 (gt_10_0 hT0) gce_11727 h.1 ?_
  replace h := h.2
  obtain ⟨M1, eM1⟩ : ∃ x : gMem, x = gup M0 (c0 + 1) ((12 * a1) + a2) a3 := ⟨_, rfl⟩
  refine g_nmM eM1 ?_
  replace h := h M1 eM1
  refine g_aloadn C dX10_lies_12 0 rfl ?_
  refine gf_10_0 C dX10_lies_13 wd_855 hT0 ?_
  refine g_bipush C dX10_lies_16 gRc_12 gRb_12 ?_
  refine g_iloadn C dX10_lies_18 2 rfl ?_
  refine g_imul C dX10_lies_19 h.1 ?_
  replace h := h.2
  refine g_iloadn C dX10_lies_20 1 rfl ?_
  refine g_iadd C dX10_lies_21 h.1 ?_
  replace h := h.2
  refine g_iloadn C dX10_lies_22 3 rfl ?_
  refine g_iast C dX10_lies_23 (gt_10_0 hT0) gce_11727 h.1 ?_
  replace h := h.2
  obtain ⟨M2, eM2⟩ : ∃ x : gMem, x = gup M1 (c0 + 1) ((12 * a2) + a1) a3 := ⟨_, rfl⟩
  refine g_nmM eM2 ?_
  replace h := h M2 eM2
  exact g_vret C hR dX10_lies_24 h

set_option maxRecDepth 100000 in
set_option maxHeartbeats 4000000 in
theorem sX10_links {l : Launch} {V : gW} (hD : gD V) (c0 : Int) (M0 : gMem) (K : Int → gMem → Prop) (hT0 : gT c0 10) (h : wX10_links c0 K M0) (hM : gOM M0) (ho : ∀ q ∈ ([] : List gSV), gOK q) : gMi l V yX10_links cX10_links 3 (some .int) 0 0 [gF c0] M0 K := by
  refine gMi_of hD (by decide) (Nat.le_of_ble_eq_true rfl) [(0, gF c0)] rfl (gok_L rfl (gok_n (q := gF c0) trivial ho)) hM (fun X C hR => ?_)
  unfold wX10_links at h
  refine g_iconst C dX10_links_0 gRc_0 ?_
  refine g_istoren C [(1, gI 0), (0, gF c0)] dX10_links_1 (by decide) rfl ?_
  refine g_iconst C dX10_links_2 gRc_0 ?_
  refine g_istoren C [(2, gI 0), (1, gI 0), (0, gF c0)] dX10_links_3 (by decide) rfl ?_
  refine g_sub [(0, gF c0), (1, gI 0), (2, gI 0)] [2, 1, 0] rfl ?_
  refine gL2_go (Gd := fun (v1 : Int) (v2 : Int) (M3 : gMem) => gG X V 3 4 [(0, gF c0), (1, gI v1), (2, gI v2)] [] M3) (fun rec4 hrec4 v1 v2 M3 h => ?_) h
  refine g_iloadn C dX10_links_4 2 rfl ?_
  refine g_sipush C dX10_links_5 gRc_144 gRs_144 ?_
  refine g_ic_ge (t := 34) C dX10_links_8 (by decide) (fun c5 => ?_) (fun c5 => ?_)
  · replace h := h.1 c5
    refine g_iloadn C dX10_links_34 1 rfl ?_
    refine g_iconst C dX10_links_35 gRc_2 ?_
    refine g_idiv C dX10_links_36 h.1 ?_
    replace h := h.2
    exact g_iret C hR dX10_links_37 h
  · replace h := h.2 c5
    refine g_iloadn C dX10_links_11 1 rfl ?_
    refine g_aloadn C dX10_links_12 0 rfl ?_
    refine gf_10_0 C dX10_links_13 wd_855 hT0 ?_
    refine g_iloadn C dX10_links_16 2 rfl ?_
    refine g_iald C dX10_links_17 (gt_10_0 hT0) gce_11727 h.1 ?_
    replace h := h.2
    obtain ⟨P8, h, hP8⟩ := h
    have J9 : ∀ (x6 : Int) (M7 : gMem), P8 x6 M7 → gG X V 3 26 [(0, gF c0), (2, gI v2)] [gI x6, gI v1] M7 := by
      intro x6 M7 h
      replace h := hP8 x6 M7 h
      refine g_iadd C dX10_links_26 h.1 ?_
      replace h := h.2
      obtain ⟨v10, ev10⟩ : ∃ x : Int, x = (v1 + x6) := ⟨_, rfl⟩
      refine g_nm ev10 ?_
      replace h := h v10 ev10
      refine g_istoren C [(1, gI v10), (0, gF c0), (2, gI v2)] dX10_links_27 (by decide) rfl ?_
      refine g_iinc C [(2, gI (v2 + 1)), (1, gI v10), (0, gF c0)] dX10_links_28 2 rfl (by decide) h.1 rfl ?_
      replace h := h.2
      refine g_goto (t := 4) C dX10_links_31 (by decide) ?_
      refine g_sub [(0, gF c0), (1, gI v10), (2, gI (v2 + 1))] [2, 1, 0] rfl ?_
      exact hrec4 v10 (v2 + 1) M7 h
    refine g_if_le (t := 25) C dX10_links_18 (by decide) (fun c11 => ?_) (fun c11 => ?_)
    · replace h := h.1 c11
      refine g_iconst C dX10_links_25 gRc_0 ?_
      refine g_sub [(0, gF c0), (2, gI v2)] [0, 2] rfl ?_
      exact J9 0 M3 h
    · replace h := h.2 c11
      refine g_iconst C dX10_links_21 gRc_1 ?_
      refine g_goto (t := 26) C dX10_links_22 (by decide) ?_
      refine g_sub [(0, gF c0), (2, gI v2)] [0, 2] rfl ?_
      exact J9 1 M3 h

set_option maxRecDepth 100000 in
set_option maxHeartbeats 4000000 in
theorem sX10_pairOf {l : Launch} {V : gW} (hD : gD V) (c0 a1 : Int) (M0 : gMem) (K : Int → gMem → Prop) (hT0 : gT c0 10) (h : wX10_pairOf c0 a1 K M0) (hM : gOM M0) (ho : ∀ q ∈ ([gI a1] : List gSV), gOK q) : gMi l V yX10_pairOf cX10_pairOf 4 (some .int) 0 0 [gF c0, gI a1] M0 K := by
  refine gMi_of hD (by decide) (Nat.le_of_ble_eq_true rfl) [(0, gF c0), (1, gI a1)] rfl (gok_L rfl (gok_n (q := gF c0) trivial ho)) hM (fun X C hR => ?_)
  unfold wX10_pairOf at h
  refine g_iloadn C dX10_pairOf_0 1 rfl ?_
  refine g_istoren C [(2, gI a1), (0, gF c0), (1, gI a1)] dX10_pairOf_1 (by decide) rfl ?_
  refine g_iconst C dX10_pairOf_2 gRc_0 ?_
  refine g_istoren C [(3, gI 0), (2, gI a1), (0, gF c0), (1, gI a1)] dX10_pairOf_3 (by decide) rfl ?_
  refine g_sub [(0, gF c0), (1, gI a1), (2, gI a1), (3, gI 0)] [2, 3, 1, 0] rfl ?_
  refine gL2_go (Gd := fun (v1 : Int) (v2 : Int) (M3 : gMem) => gG X V 4 4 [(0, gF c0), (1, gI a1), (2, gI v1), (3, gI v2)] [] M3) (fun rec4 hrec4 v1 v2 M3 h => ?_) h
  refine g_iloadn C dX10_pairOf_4 3 rfl ?_
  refine g_sipush C dX10_pairOf_5 gRc_144 gRs_144 ?_
  obtain ⟨P6, h, hP6⟩ := h
  have J7 : ∀ (M5 : gMem), P6 M5 → gG X V 4 50 [] [] M5 := by
    intro M5 h
    replace h := hP6 M5 h
    refine g_iconst C dX10_pairOf_50 gRc_m1 ?_
    exact g_iret C hR dX10_pairOf_51 h
  refine g_ic_ge (t := 50) C dX10_pairOf_8 (by decide) (fun c8 => ?_) (fun c8 => ?_)
  · replace h := h.1 c8
    refine g_sub [] [] rfl ?_
    exact J7 M3 h
  · replace h := h.2 c8
    refine g_iloadn C dX10_pairOf_11 1 rfl ?_
    refine g_if_lt (t := 50) C dX10_pairOf_12 (by decide) (fun c9 => ?_) (fun c9 => ?_)
    · replace h := h.1 c9
      refine g_sub [] [] rfl ?_
      exact J7 M3 h
    · replace h := h.2 c9
      refine g_iloadn C dX10_pairOf_15 3 rfl ?_
      refine g_bipush C dX10_pairOf_16 gRc_12 gRb_12 ?_
      refine g_idiv C dX10_pairOf_18 h.1 ?_
      replace h := h.2
      refine g_iloadn C dX10_pairOf_19 3 rfl ?_
      refine g_bipush C dX10_pairOf_20 gRc_12 gRb_12 ?_
      refine g_irem C dX10_pairOf_22 h.1 ?_
      replace h := h.2
      obtain ⟨P12, h, hP12⟩ := h
      have J13 : ∀ (v10 : Int) (M11 : gMem), P12 v10 M11 → gG X V 4 44 [(0, gF c0), (1, gI a1), (2, gI v10), (3, gI v2)] [] M11 := by
        intro v10 M11 h
        replace h := hP12 v10 M11 h
        refine g_iinc C [(3, gI (v2 + 1)), (0, gF c0), (1, gI a1), (2, gI v10)] dX10_pairOf_44 3 rfl (by decide) h.1 rfl ?_
        replace h := h.2
        refine g_goto (t := 4) C dX10_pairOf_47 (by decide) ?_
        refine g_sub [(0, gF c0), (1, gI a1), (2, gI v10), (3, gI (v2 + 1))] [1, 2, 3, 0] rfl ?_
        exact hrec4 v10 (v2 + 1) M11 h
      refine g_ic_ge (t := 44) C dX10_pairOf_23 (by decide) (fun c14 => ?_) (fun c14 => ?_)
      · replace h := h.1 c14
        exact J13 v1 M3 h
      · replace h := h.2 c14
        refine g_aloadn C dX10_pairOf_26 0 rfl ?_
        refine gf_10_0 C dX10_pairOf_27 wd_855 hT0 ?_
        refine g_iloadn C dX10_pairOf_30 3 rfl ?_
        refine g_iald C dX10_pairOf_31 (gt_10_0 hT0) gce_11727 h.1 ?_
        replace h := h.2
        refine g_if_le (t := 44) C dX10_pairOf_32 (by decide) (fun c15 => ?_) (fun c15 => ?_)
        · replace h := h.1 c15
          exact J13 v1 M3 h
        · replace h := h.2 c15
          refine g_iloadn C dX10_pairOf_35 2 rfl ?_
          refine g_if_ne (t := 41) C dX10_pairOf_36 (by decide) (fun c16 => ?_) (fun c16 => ?_)
          · replace h := h.1 c16
            refine g_iinc C [(2, gI (v1 + (-1))), (0, gF c0), (1, gI a1), (3, gI v2)] dX10_pairOf_41 2 rfl (by decide) h.1 rfl ?_
            replace h := h.2
            refine g_sub [(0, gF c0), (1, gI a1), (2, gI (v1 + (-1))), (3, gI v2)] [1, 2, 0, 3] rfl ?_
            exact J13 (v1 + (-1)) M3 h
          · replace h := h.2 c16
            refine g_iloadn C dX10_pairOf_39 3 rfl ?_
            exact g_iret C hR dX10_pairOf_40 h

set_option maxRecDepth 100000 in
set_option maxHeartbeats 4000000 in
theorem sX10_type {l : Launch} {V : gW} (hD : gD V) (c0 a1 : Int) (M0 : gMem) (K : Int → gMem → Prop) (hT0 : gT c0 10) (h : wX10_type c0 a1 K M0) (hM : gOM M0) (ho : ∀ q ∈ ([gI a1] : List gSV), gOK q) : gMi l V yX10_type cX10_type 2 (some .int) 1 25 [gF c0, gI a1] M0 K := by
  refine gMi_of hD (by decide) (Nat.le_of_ble_eq_true rfl) [(0, gF c0), (1, gI a1)] rfl (gok_L rfl (gok_n (q := gF c0) trivial ho)) hM (fun X C hR => ?_)
  unfold wX10_type at h
  refine g_iloadn C dX10_type_0 1 rfl ?_
  refine g_i2l C dX10_type_1 ?_
  refine g_lconst C dX10_type_2 (by decide) (show gOK (gJ 0) from ⟨by decide, by decide⟩) ?_
  refine g_ldc2 C dX10_type_3 wd_936 (by decide) (show gOK (gJ 255) from ⟨by decide, by decide⟩) ?_
  refine g_cSi (st := []) C dX10_type_6 ykX10_in wd_937 ⟨by decide, by decide⟩ [gJ a1, gJ 0, gJ 255] rfl (Nat.le_of_ble_eq_true rfl) (fun hM ho => sX10_in hD a1 0 255 M0 _  h hM ho) (fun r2 M1 h => ?_)
  refine g_if_ne (t := 15) C dX10_type_9 (by decide) (fun c3 => ?_) (fun c3 => ?_)
  · replace h := h.1 c3
    refine g_aloadn C dX10_type_15 0 rfl ?_
    refine gf_10_6 C dX10_type_16 wd_861 hT0 ?_
    refine g_sipush C dX10_type_19 gRc_200 gRs_200 ?_
    refine g_ic_ne (t := 28) C dX10_type_22 (by decide) (fun c4 => ?_) (fun c4 => ?_)
    · replace h := h.1 c4
      refine g_aloadn C dX10_type_28 0 rfl ?_
      refine gf_10_5 C dX10_type_29 wd_860 hT0 ?_
      refine g_aloadn C dX10_type_32 0 rfl ?_
      refine gf_10_6 C dX10_type_33 wd_861 hT0 ?_
      refine g_iloadn C dX10_type_36 1 rfl ?_
      refine g_iast C dX10_type_37 (gt_10_5 hT0) gce_10200 h.1 ?_
      replace h := h.2
      obtain ⟨M5, eM5⟩ : ∃ x : gMem, x = gup M1 (c0 + 4) (M1 c0 6) a1 := ⟨_, rfl⟩
      refine g_nmM eM5 ?_
      replace h := h M5 eM5
      refine g_aloadn C dX10_type_38 0 rfl ?_
      refine g_dup C dX10_type_39 (fun e => by cases e) ?_
      refine gf_10_6 C dX10_type_40 wd_861 hT0 ?_
      refine g_iconst C dX10_type_43 gRc_1 ?_
      refine g_iadd C dX10_type_44 h.1 ?_
      replace h := h.2
      refine gp_10_6 C dX10_type_45 wd_861 hT0 ?_
      obtain ⟨M6, eM6⟩ : ∃ x : gMem, x = gup M5 c0 6 ((M5 c0 6) + 1) := ⟨_, rfl⟩
      refine g_nmM eM6 ?_
      replace h := h M6 eM6
      refine g_aloadn C dX10_type_48 0 rfl ?_
      refine gf_10_6 C dX10_type_49 wd_861 hT0 ?_
      exact g_iret C hR dX10_type_52 h
    · replace h := h.2 c4
      refine g_bipush C dX10_type_25 gRc_m5 gRb_m5 ?_
      exact g_iret C hR dX10_type_27 h
  · replace h := h.2 c3
    refine g_bipush C dX10_type_12 gRc_m3 gRb_m3 ?_
    exact g_iret C hR dX10_type_14 h

set_option maxRecDepth 100000 in
set_option maxHeartbeats 4000000 in
theorem sX10_erase {l : Launch} {V : gW} (hD : gD V) (c0 : Int) (M0 : gMem) (K : Int → gMem → Prop) (hT0 : gT c0 10) (h : wX10_erase c0 K M0) (hM : gOM M0) (ho : ∀ q ∈ ([] : List gSV), gOK q) : gMi l V yX10_erase cX10_erase 2 (some .int) 0 0 [gF c0] M0 K := by
  refine gMi_of hD (by decide) (Nat.le_of_ble_eq_true rfl) [(0, gF c0)] rfl (gok_L rfl (gok_n (q := gF c0) trivial ho)) hM (fun X C hR => ?_)
  unfold wX10_erase at h
  refine g_aloadn C dX10_erase_0 0 rfl ?_
  refine gf_10_6 C dX10_erase_1 wd_861 hT0 ?_
  obtain ⟨v1, ev1⟩ : ∃ x : Int, x = (M0 c0 6) := ⟨_, rfl⟩
  refine g_nm ev1 ?_
  replace h := h v1 ev1
  refine g_istoren C [(1, gI v1), (0, gF c0)] dX10_erase_4 (by decide) rfl ?_
  refine g_aloadn C dX10_erase_5 1 rfl ?_
  refine g_iconst C dX10_erase_6 gRc_0 ?_
  refine gp_10_6 C dX10_erase_7 wd_861 hT0 ?_
  obtain ⟨M2, eM2⟩ : ∃ x : gMem, x = gup M0 c0 6 0 := ⟨_, rfl⟩
  refine g_nmM eM2 ?_
  replace h := h M2 eM2
  refine g_iloadn C dX10_erase_10 0 rfl ?_
  exact g_iret C hR dX10_erase_11 h

set_option maxRecDepth 100000 in
set_option maxHeartbeats 4000000 in
theorem sX10_isSmall {l : Launch} {V : gW} (hD : gD V) (a1 : Int) (M0 : gMem) (K : Int → gMem → Prop) (h : wX10_isSmall a1 K M0) (hM : gOM M0) (ho : ∀ q ∈ ([gI a1] : List gSV), gOK q) : gMi l V yX10_isSmall cX10_isSmall 1 (some .boolean) 1 25 [gI a1] M0 K := by
  refine gMi_of hD (by decide) (Nat.le_of_ble_eq_true rfl) [(0, gI a1)] rfl (gok_L rfl ho) hM (fun X C hR => ?_)
  unfold wX10_isSmall at h
  refine g_iloadn C dX10_isSmall_0 0 rfl ?_
  refine g_i2l C dX10_isSmall_1 ?_
  refine g_ldc2 C dX10_isSmall_2 wd_963 (by decide) (show gOK (gJ 97) from ⟨by decide, by decide⟩) ?_
  refine g_ldc2 C dX10_isSmall_5 wd_964 (by decide) (show gOK (gJ 122) from ⟨by decide, by decide⟩) ?_
  refine g_cSi (st := []) C dX10_isSmall_8 ykX10_in wd_937 ⟨by decide, by decide⟩ [gJ a1, gJ 97, gJ 122] rfl (Nat.le_of_ble_eq_true rfl) (fun hM ho => sX10_in hD a1 97 122 M0 _  h hM ho) (fun r2 M1 h => ?_)
  exact g_zret C hR dX10_isSmall_11 h.1 h.2

set_option maxRecDepth 100000 in
set_option maxHeartbeats 4000000 in
theorem sX10_isDigit {l : Launch} {V : gW} (hD : gD V) (a1 : Int) (M0 : gMem) (K : Int → gMem → Prop) (h : wX10_isDigit a1 K M0) (hM : gOM M0) (ho : ∀ q ∈ ([gI a1] : List gSV), gOK q) : gMi l V yX10_isDigit cX10_isDigit 1 (some .boolean) 1 25 [gI a1] M0 K := by
  refine gMi_of hD (by decide) (Nat.le_of_ble_eq_true rfl) [(0, gI a1)] rfl (gok_L rfl ho) hM (fun X C hR => ?_)
  unfold wX10_isDigit at h
  refine g_iloadn C dX10_isDigit_0 0 rfl ?_
  refine g_i2l C dX10_isDigit_1 ?_
  refine g_ldc2 C dX10_isDigit_2 wd_968 (by decide) (show gOK (gJ 48) from ⟨by decide, by decide⟩) ?_
  refine g_ldc2 C dX10_isDigit_5 wd_969 (by decide) (show gOK (gJ 57) from ⟨by decide, by decide⟩) ?_
  refine g_cSi (st := []) C dX10_isDigit_8 ykX10_in wd_937 ⟨by decide, by decide⟩ [gJ a1, gJ 48, gJ 57] rfl (Nat.le_of_ble_eq_true rfl) (fun hM ho => sX10_in hD a1 48 57 M0 _  h hM ho) (fun r2 M1 h => ?_)
  exact g_zret C hR dX10_isDigit_11 h.1 h.2

set_option maxRecDepth 100000 in
set_option maxHeartbeats 4000000 in
theorem sX10_nextToken {l : Launch} {V : gW} (hD : gD V) (c0 : Int) (M0 : gMem) (K : gMem → Prop) (hT0 : gT c0 10) (h : wX10_nextToken c0 K M0) (hM : gOM M0) (ho : ∀ q ∈ ([] : List gSV), gOK q) : gMv l V yX10_nextToken cX10_nextToken 1 2 45 [gF c0] M0 K := by
  refine gMv_of hD (by decide) (Nat.le_of_ble_eq_true rfl) [(0, gF c0)] rfl (gok_L rfl (gok_n (q := gF c0) trivial ho)) hM (fun X C hR => ?_)
  unfold wX10_nextToken at h
  refine g_aloadn C dX10_nextToken_0 0 rfl ?_
  refine g_aloadn C dX10_nextToken_1 0 rfl ?_
  refine gf_10_8 C dX10_nextToken_2 wd_863 hT0 ?_
  refine gp_10_7 C dX10_nextToken_5 wd_862 hT0 ?_
  obtain ⟨M1, eM1⟩ : ∃ x : gMem, x = gup M0 c0 7 (M0 c0 8) := ⟨_, rfl⟩
  refine g_nmM eM1 ?_
  replace h := h M1 eM1
  refine gL0_go (Gd := fun (M2 : gMem) => gG X V 1 8 [(0, gF c0)] [] M2) (fun rec3 hrec3 M2 h => ?_) h
  refine g_aloadn C dX10_nextToken_8 0 rfl ?_
  refine gf_10_7 C dX10_nextToken_9 wd_862 hT0 ?_
  refine g_aloadn C dX10_nextToken_12 0 rfl ?_
  refine gf_10_6 C dX10_nextToken_13 wd_861 hT0 ?_
  obtain ⟨P5, h, hP5⟩ := h
  have J6 : ∀ (M4 : gMem), P5 M4 → gG X V 1 46 [(0, gF c0)] [] M4 := by
    intro M4 h
    replace h := hP5 M4 h
    refine g_aloadn C dX10_nextToken_46 0 rfl ?_
    refine g_aloadn C dX10_nextToken_47 0 rfl ?_
    refine gf_10_7 C dX10_nextToken_48 wd_862 hT0 ?_
    refine g_aloadn C dX10_nextToken_51 0 rfl ?_
    refine gf_10_6 C dX10_nextToken_52 wd_861 hT0 ?_
    obtain ⟨P9, h, hP9⟩ := h
    have J10 : ∀ (x7 : Int) (M8 : gMem), P9 x7 M8 → gG X V 1 71 [(0, gF c0)] [gI x7, gF c0] M8 := by
      intro x7 M8 h
      replace h := hP9 x7 M8 h
      refine gp_10_8 C dX10_nextToken_71 wd_863 hT0 ?_
      obtain ⟨M11, eM11⟩ : ∃ x : gMem, x = gup M8 c0 8 x7 := ⟨_, rfl⟩
      refine g_nmM eM11 ?_
      replace h := h M11 eM11
      refine g_aloadn C dX10_nextToken_74 0 rfl ?_
      refine gf_10_7 C dX10_nextToken_75 wd_862 hT0 ?_
      refine g_aloadn C dX10_nextToken_78 0 rfl ?_
      refine gf_10_6 C dX10_nextToken_79 wd_861 hT0 ?_
      obtain ⟨P13, h, hP13⟩ := h
      have J14 : ∀ (M12 : gMem), P13 M12 → gG X V 1 204 [] [] M12 := by
        intro M12 h
        replace h := hP13 M12 h
        exact g_vret C hR dX10_nextToken_204 h
      obtain ⟨P16, h, hP16⟩ := h
      have J17 : ∀ (M15 : gMem), P16 M15 → gG X V 1 139 [(0, gF c0)] [] M15 := by
        intro M15 h
        replace h := hP16 M15 h
        refine g_aloadn C dX10_nextToken_139 0 rfl ?_
        refine gf_10_7 C dX10_nextToken_140 wd_862 hT0 ?_
        refine g_aloadn C dX10_nextToken_143 0 rfl ?_
        refine gf_10_6 C dX10_nextToken_144 wd_861 hT0 ?_
        refine g_ic_ge (t := 204) C dX10_nextToken_147 (by decide) (fun c18 => ?_) (fun c18 => ?_)
        · replace h := h.1 c18
          refine g_sub [] [] rfl ?_
          exact J14 M15 h
        · replace h := h.2 c18
          refine g_aloadn C dX10_nextToken_150 0 rfl ?_
          refine gf_10_5 C dX10_nextToken_151 wd_860 hT0 ?_
          refine g_aloadn C dX10_nextToken_154 0 rfl ?_
          refine gf_10_7 C dX10_nextToken_155 wd_862 hT0 ?_
          refine g_iald C dX10_nextToken_158 (gt_10_5 hT0) gce_10200 h.1 ?_
          replace h := h.2
          refine g_cSi (st := []) C dX10_nextToken_159 ykX10_isDigit wd_965 ⟨by decide, by decide⟩ [gI (M15 (c0 + 4) (M15 c0 7))] rfl (Nat.le_of_ble_eq_true rfl) (fun hM ho => sX10_isDigit hD (M15 (c0 + 4) (M15 c0 7)) M15 _  h hM ho) (fun r20 M19 h => ?_)
          refine g_if_eq (t := 204) C dX10_nextToken_162 (by decide) (fun c21 => ?_) (fun c21 => ?_)
          · replace h := h.1 c21
            refine g_sub [] [] rfl ?_
            exact J14 M19 h
          · replace h := h.2 c21
            refine gL0_go (Gd := fun (M22 : gMem) => gG X V 1 165 [(0, gF c0)] [] M22) (fun rec23 hrec23 M22 h => ?_) h
            refine g_aloadn C dX10_nextToken_165 0 rfl ?_
            refine gf_10_8 C dX10_nextToken_166 wd_863 hT0 ?_
            refine g_aloadn C dX10_nextToken_169 0 rfl ?_
            refine gf_10_6 C dX10_nextToken_170 wd_861 hT0 ?_
            refine g_ic_ge (t := 204) C dX10_nextToken_173 (by decide) (fun c24 => ?_) (fun c24 => ?_)
            · replace h := h.1 c24
              refine g_sub [] [] rfl ?_
              exact J14 M22 h
            · replace h := h.2 c24
              refine g_aloadn C dX10_nextToken_176 0 rfl ?_
              refine gf_10_5 C dX10_nextToken_177 wd_860 hT0 ?_
              refine g_aloadn C dX10_nextToken_180 0 rfl ?_
              refine gf_10_8 C dX10_nextToken_181 wd_863 hT0 ?_
              refine g_iald C dX10_nextToken_184 (gt_10_5 hT0) gce_10200 h.1 ?_
              replace h := h.2
              refine g_cSi (st := []) C dX10_nextToken_185 ykX10_isDigit wd_965 ⟨by decide, by decide⟩ [gI (M22 (c0 + 4) (M22 c0 8))] rfl (Nat.le_of_ble_eq_true rfl) (fun hM ho => sX10_isDigit hD (M22 (c0 + 4) (M22 c0 8)) M22 _  h hM ho) (fun r26 M25 h => ?_)
              refine g_if_eq (t := 204) C dX10_nextToken_188 (by decide) (fun c27 => ?_) (fun c27 => ?_)
              · replace h := h.1 c27
                refine g_sub [] [] rfl ?_
                exact J14 M25 h
              · replace h := h.2 c27
                refine g_aloadn C dX10_nextToken_191 0 rfl ?_
                refine g_dup C dX10_nextToken_192 (fun e => by cases e) ?_
                refine gf_10_8 C dX10_nextToken_193 wd_863 hT0 ?_
                refine g_iconst C dX10_nextToken_196 gRc_1 ?_
                refine g_iadd C dX10_nextToken_197 h.1 ?_
                replace h := h.2
                refine gp_10_8 C dX10_nextToken_198 wd_863 hT0 ?_
                obtain ⟨M28, eM28⟩ : ∃ x : gMem, x = gup M25 c0 8 ((M25 c0 8) + 1) := ⟨_, rfl⟩
                refine g_nmM eM28 ?_
                replace h := h M28 eM28
                refine g_goto (t := 165) C dX10_nextToken_201 (by decide) ?_
                exact hrec23 M28 h
      refine g_ic_ge (t := 139) C dX10_nextToken_82 (by decide) (fun c29 => ?_) (fun c29 => ?_)
      · replace h := h.1 c29
        exact J17 M11 h
      · replace h := h.2 c29
        refine g_aloadn C dX10_nextToken_85 0 rfl ?_
        refine gf_10_5 C dX10_nextToken_86 wd_860 hT0 ?_
        refine g_aloadn C dX10_nextToken_89 0 rfl ?_
        refine gf_10_7 C dX10_nextToken_90 wd_862 hT0 ?_
        refine g_iald C dX10_nextToken_93 (gt_10_5 hT0) gce_10200 h.1 ?_
        replace h := h.2
        refine g_cSi (st := []) C dX10_nextToken_94 ykX10_isSmall wd_960 ⟨by decide, by decide⟩ [gI (M11 (c0 + 4) (M11 c0 7))] rfl (Nat.le_of_ble_eq_true rfl) (fun hM ho => sX10_isSmall hD (M11 (c0 + 4) (M11 c0 7)) M11 _  h hM ho) (fun r31 M30 h => ?_)
        refine g_if_eq (t := 139) C dX10_nextToken_97 (by decide) (fun c32 => ?_) (fun c32 => ?_)
        · replace h := h.1 c32
          exact J17 M30 h
        · replace h := h.2 c32
          refine gL0_go (Gd := fun (M33 : gMem) => gG X V 1 100 [(0, gF c0)] [] M33) (fun rec34 hrec34 M33 h => ?_) h
          refine g_aloadn C dX10_nextToken_100 0 rfl ?_
          refine gf_10_8 C dX10_nextToken_101 wd_863 hT0 ?_
          refine g_aloadn C dX10_nextToken_104 0 rfl ?_
          refine gf_10_6 C dX10_nextToken_105 wd_861 hT0 ?_
          refine g_ic_ge (t := 204) C dX10_nextToken_108 (by decide) (fun c35 => ?_) (fun c35 => ?_)
          · replace h := h.1 c35
            refine g_sub [] [] rfl ?_
            exact J14 M33 h
          · replace h := h.2 c35
            refine g_aloadn C dX10_nextToken_111 0 rfl ?_
            refine gf_10_5 C dX10_nextToken_112 wd_860 hT0 ?_
            refine g_aloadn C dX10_nextToken_115 0 rfl ?_
            refine gf_10_8 C dX10_nextToken_116 wd_863 hT0 ?_
            refine g_iald C dX10_nextToken_119 (gt_10_5 hT0) gce_10200 h.1 ?_
            replace h := h.2
            refine g_cSi (st := []) C dX10_nextToken_120 ykX10_isSmall wd_960 ⟨by decide, by decide⟩ [gI (M33 (c0 + 4) (M33 c0 8))] rfl (Nat.le_of_ble_eq_true rfl) (fun hM ho => sX10_isSmall hD (M33 (c0 + 4) (M33 c0 8)) M33 _  h hM ho) (fun r37 M36 h => ?_)
            refine g_if_eq (t := 204) C dX10_nextToken_123 (by decide) (fun c38 => ?_) (fun c38 => ?_)
            · replace h := h.1 c38
              refine g_sub [] [] rfl ?_
              exact J14 M36 h
            · replace h := h.2 c38
              refine g_aloadn C dX10_nextToken_126 0 rfl ?_
              refine g_dup C dX10_nextToken_127 (fun e => by cases e) ?_
              refine gf_10_8 C dX10_nextToken_128 wd_863 hT0 ?_
              refine g_iconst C dX10_nextToken_131 gRc_1 ?_
              refine g_iadd C dX10_nextToken_132 h.1 ?_
              replace h := h.2
              refine gp_10_8 C dX10_nextToken_133 wd_863 hT0 ?_
              obtain ⟨M39, eM39⟩ : ∃ x : gMem, x = gup M36 c0 8 ((M36 c0 8) + 1) := ⟨_, rfl⟩
              refine g_nmM eM39 ?_
              replace h := h M39 eM39
              refine g_goto (t := 100) C dX10_nextToken_136 (by decide) ?_
              exact hrec34 M39 h
    refine g_ic_ge (t := 67) C dX10_nextToken_55 (by decide) (fun c40 => ?_) (fun c40 => ?_)
    · replace h := h.1 c40
      refine g_aloadn C dX10_nextToken_67 0 rfl ?_
      refine gf_10_7 C dX10_nextToken_68 wd_862 hT0 ?_
      exact J10 (M4 c0 7) M4 h
    · replace h := h.2 c40
      refine g_aloadn C dX10_nextToken_58 0 rfl ?_
      refine gf_10_7 C dX10_nextToken_59 wd_862 hT0 ?_
      refine g_iconst C dX10_nextToken_62 gRc_1 ?_
      refine g_iadd C dX10_nextToken_63 h.1 ?_
      replace h := h.2
      refine g_goto (t := 71) C dX10_nextToken_64 (by decide) ?_
      exact J10 ((M4 c0 7) + 1) M4 h
  refine g_ic_ge (t := 46) C dX10_nextToken_16 (by decide) (fun c41 => ?_) (fun c41 => ?_)
  · replace h := h.1 c41
    exact J6 M2 h
  · replace h := h.2 c41
    refine g_aloadn C dX10_nextToken_19 0 rfl ?_
    refine gf_10_5 C dX10_nextToken_20 wd_860 hT0 ?_
    refine g_aloadn C dX10_nextToken_23 0 rfl ?_
    refine gf_10_7 C dX10_nextToken_24 wd_862 hT0 ?_
    refine g_iald C dX10_nextToken_27 (gt_10_5 hT0) gce_10200 h.1 ?_
    replace h := h.2
    refine g_bipush C dX10_nextToken_28 gRc_32 gRb_32 ?_
    refine g_ic_ne (t := 46) C dX10_nextToken_30 (by decide) (fun c42 => ?_) (fun c42 => ?_)
    · replace h := h.1 c42
      exact J6 M2 h
    · replace h := h.2 c42
      refine g_aloadn C dX10_nextToken_33 0 rfl ?_
      refine g_dup C dX10_nextToken_34 (fun e => by cases e) ?_
      refine gf_10_7 C dX10_nextToken_35 wd_862 hT0 ?_
      refine g_iconst C dX10_nextToken_38 gRc_1 ?_
      refine g_iadd C dX10_nextToken_39 h.1 ?_
      replace h := h.2
      refine gp_10_7 C dX10_nextToken_40 wd_862 hT0 ?_
      obtain ⟨M43, eM43⟩ : ∃ x : gMem, x = gup M2 c0 7 ((M2 c0 7) + 1) := ⟨_, rfl⟩
      refine g_nmM eM43 ?_
      replace h := h M43 eM43
      refine g_goto (t := 8) C dX10_nextToken_43 (by decide) ?_
      exact hrec3 M43 h

set_option maxRecDepth 100000 in
set_option maxHeartbeats 4000000 in
theorem sX10_wordHere {l : Launch} {V : gW} (hD : gD V) (c0 : Int) (M0 : gMem) (K : Int → gMem → Prop) (hT0 : gT c0 10) (h : wX10_wordHere c0 K M0) (hM : gOM M0) (ho : ∀ q ∈ ([] : List gSV), gOK q) : gMi l V yX10_wordHere cX10_wordHere 4 (some .int) 0 0 [gF c0] M0 K := by
  refine gMi_of hD (by decide) (Nat.le_of_ble_eq_true rfl) [(0, gF c0)] rfl (gok_L rfl (gok_n (q := gF c0) trivial ho)) hM (fun X C hR => ?_)
  unfold wX10_wordHere at h
  refine g_iconst C dX10_wordHere_0 gRc_0 ?_
  refine g_istoren C [(1, gI 0), (0, gF c0)] dX10_wordHere_1 (by decide) rfl ?_
  refine g_sub [(0, gF c0), (1, gI 0)] [1, 0] rfl ?_
  refine gL1_go (Gd := fun (v1 : Int) (M2 : gMem) => gG X V 4 2 [(0, gF c0), (1, gI v1)] [] M2) (fun rec3 hrec3 v1 M2 h => ?_) h
  refine g_iloadn C dX10_wordHere_2 1 rfl ?_
  refine g_iconst C dX10_wordHere_3 gRc_2 ?_
  refine g_ic_gt (t := 114) C dX10_wordHere_4 (by decide) (fun c4 => ?_) (fun c4 => ?_)
  · replace h := h.1 c4
    refine g_iconst C dX10_wordHere_114 gRc_m1 ?_
    exact g_iret C hR dX10_wordHere_115 h
  · replace h := h.2 c4
    refine g_aloadn C dX10_wordHere_7 0 rfl ?_
    refine gf_10_8 C dX10_wordHere_8 wd_863 hT0 ?_
    refine g_aloadn C dX10_wordHere_11 0 rfl ?_
    refine gf_10_7 C dX10_wordHere_12 wd_862 hT0 ?_
    obtain ⟨P7, h, hP7⟩ := h
    have J8 : ∀ (x5 : Int) (M6 : gMem), P7 x5 M6 → gG X V 4 37 [(0, gF c0), (1, gI v1)] [gI x5] M6 := by
      intro x5 M6 h
      replace h := hP7 x5 M6 h
      refine g_istoren C [(2, gI x5), (0, gF c0), (1, gI v1)] dX10_wordHere_37 (by decide) rfl ?_
      refine g_iconst C dX10_wordHere_38 gRc_0 ?_
      refine g_istoren C [(3, gI 0), (2, gI x5), (0, gF c0), (1, gI v1)] dX10_wordHere_39 (by decide) rfl ?_
      refine g_sub [(0, gF c0), (1, gI v1), (2, gI x5), (3, gI 0)] [2, 3, 1, 0] rfl ?_
      refine gL2_go (Gd := fun (v9 : Int) (v10 : Int) (M11 : gMem) => gG X V 4 40 [(0, gF c0), (1, gI v1), (2, gI v9), (3, gI v10)] [] M11) (fun rec12 hrec12 v9 v10 M11 h => ?_) h
      refine g_iloadn C dX10_wordHere_40 3 rfl ?_
      refine g_iconst C dX10_wordHere_41 gRc_5 ?_
      obtain ⟨P14, h, hP14⟩ := h
      have J15 : ∀ (M13 : gMem), P14 M13 → gG X V 4 102 [(0, gF c0), (1, gI v1), (2, gI v9)] [] M13 := by
        intro M13 h
        replace h := hP14 M13 h
        refine g_iloadn C dX10_wordHere_102 2 rfl ?_
        refine g_if_eq (t := 108) C dX10_wordHere_103 (by decide) (fun c16 => ?_) (fun c16 => ?_)
        · replace h := h.1 c16
          refine g_iinc C [(1, gI (v1 + 1)), (0, gF c0), (2, gI v9)] dX10_wordHere_108 1 rfl (by decide) h.1 rfl ?_
          replace h := h.2
          refine g_goto (t := 2) C dX10_wordHere_111 (by decide) ?_
          refine g_sub [(0, gF c0), (1, gI (v1 + 1))] [1, 0] rfl ?_
          exact hrec3 (v1 + 1) M13 h
        · replace h := h.2 c16
          refine g_iloadn C dX10_wordHere_106 1 rfl ?_
          exact g_iret C hR dX10_wordHere_107 h
      refine g_ic_ge (t := 102) C dX10_wordHere_42 (by decide) (fun c17 => ?_) (fun c17 => ?_)
      · replace h := h.1 c17
        refine g_sub [(0, gF c0), (1, gI v1), (2, gI v9)] [0, 1, 2] rfl ?_
        exact J15 M11 h
      · replace h := h.2 c17
        refine g_iloadn C dX10_wordHere_45 2 rfl ?_
        refine g_if_eq (t := 102) C dX10_wordHere_46 (by decide) (fun c18 => ?_) (fun c18 => ?_)
        · replace h := h.1 c18
          refine g_sub [(0, gF c0), (1, gI v1), (2, gI v9)] [0, 1, 2] rfl ?_
          exact J15 M11 h
        · replace h := h.2 c18
          refine g_aloadn C dX10_wordHere_49 0 rfl ?_
          refine gf_10_15 C dX10_wordHere_50 wd_870 hT0 ?_
          refine g_iconst C dX10_wordHere_53 gRc_5 ?_
          refine g_iloadn C dX10_wordHere_54 1 rfl ?_
          refine g_imul C dX10_wordHere_55 h.1 ?_
          replace h := h.2
          refine g_iloadn C dX10_wordHere_56 3 rfl ?_
          refine g_iadd C dX10_wordHere_57 h.1 ?_
          replace h := h.2
          refine g_iald C dX10_wordHere_58 (gt_10_15 hT0) gce_10015 h.1 ?_
          replace h := h.2
          refine g_aloadn C dX10_wordHere_59 0 rfl ?_
          refine gf_10_7 C dX10_wordHere_60 wd_862 hT0 ?_
          refine g_iloadn C dX10_wordHere_63 3 rfl ?_
          refine g_iadd C dX10_wordHere_64 h.1 ?_
          replace h := h.2
          refine g_aloadn C dX10_wordHere_65 0 rfl ?_
          refine gf_10_8 C dX10_wordHere_66 wd_863 hT0 ?_
          obtain ⟨P21, h, hP21⟩ := h
          have J22 : ∀ (x19 : Int) (M20 : gMem), P21 x19 M20 → gG X V 4 87 [(0, gF c0), (1, gI v1), (3, gI v10)] [gI x19, gI (M11 (c0 + 7) ((5 * v1) + v10))] M20 := by
            intro x19 M20 h
            replace h := hP21 x19 M20 h
            obtain ⟨P25, h, hP25⟩ := h
            have J26 : ∀ (x23 : Int) (M24 : gMem), P25 x23 M24 → gG X V 4 95 [(0, gF c0), (1, gI v1), (3, gI v10)] [gI x23] M24 := by
              intro x23 M24 h
              replace h := hP25 x23 M24 h
              refine g_istoren C [(2, gI x23), (0, gF c0), (1, gI v1), (3, gI v10)] dX10_wordHere_95 (by decide) rfl ?_
              refine g_iinc C [(3, gI (v10 + 1)), (2, gI x23), (0, gF c0), (1, gI v1)] dX10_wordHere_96 3 rfl (by decide) h.1 rfl ?_
              replace h := h.2
              refine g_goto (t := 40) C dX10_wordHere_99 (by decide) ?_
              refine g_sub [(0, gF c0), (1, gI v1), (2, gI x23), (3, gI (v10 + 1))] [2, 3, 1, 0] rfl ?_
              exact hrec12 x23 (v10 + 1) M24 h
            refine g_ic_ne (t := 94) C dX10_wordHere_87 (by decide) (fun c27 => ?_) (fun c27 => ?_)
            · replace h := h.1 c27
              refine g_iconst C dX10_wordHere_94 gRc_0 ?_
              exact J26 0 M20 h
            · replace h := h.2 c27
              refine g_iconst C dX10_wordHere_90 gRc_1 ?_
              refine g_goto (t := 95) C dX10_wordHere_91 (by decide) ?_
              exact J26 1 M20 h
          refine g_ic_ge (t := 86) C dX10_wordHere_69 (by decide) (fun c28 => ?_) (fun c28 => ?_)
          · replace h := h.1 c28
            refine g_iconst C dX10_wordHere_86 gRc_0 ?_
            refine g_sub [(0, gF c0), (1, gI v1), (3, gI v10)] [0, 1, 3] rfl ?_
            exact J22 0 M11 h
          · replace h := h.2 c28
            refine g_aloadn C dX10_wordHere_72 0 rfl ?_
            refine gf_10_5 C dX10_wordHere_73 wd_860 hT0 ?_
            refine g_aloadn C dX10_wordHere_76 0 rfl ?_
            refine gf_10_7 C dX10_wordHere_77 wd_862 hT0 ?_
            refine g_iloadn C dX10_wordHere_80 3 rfl ?_
            refine g_iadd C dX10_wordHere_81 h.1 ?_
            replace h := h.2
            refine g_iald C dX10_wordHere_82 (gt_10_5 hT0) gce_10200 h.1 ?_
            replace h := h.2
            refine g_goto (t := 87) C dX10_wordHere_83 (by decide) ?_
            refine g_sub [(0, gF c0), (1, gI v1), (3, gI v10)] [0, 1, 3] rfl ?_
            exact J22 (M11 (c0 + 4) ((M11 c0 7) + v10)) M11 h
    obtain ⟨P30, h, hP30⟩ := h
    have J31 : ∀ (M29 : gMem), P30 M29 → gG X V 4 36 [(0, gF c0), (1, gI v1)] [] M29 := by
      intro M29 h
      replace h := hP30 M29 h
      refine g_iconst C dX10_wordHere_36 gRc_0 ?_
      exact J8 0 M29 h
    refine g_ic_le (t := 36) C dX10_wordHere_15 (by decide) (fun c32 => ?_) (fun c32 => ?_)
    · replace h := h.1 c32
      exact J31 M2 h
    · replace h := h.2 c32
      refine g_aloadn C dX10_wordHere_18 0 rfl ?_
      refine gf_10_8 C dX10_wordHere_19 wd_863 hT0 ?_
      refine g_aloadn C dX10_wordHere_22 0 rfl ?_
      refine gf_10_7 C dX10_wordHere_23 wd_862 hT0 ?_
      refine g_isub C dX10_wordHere_26 h.1 ?_
      replace h := h.2
      refine g_bipush C dX10_wordHere_27 gRc_6 gRb_6 ?_
      refine g_ic_ge (t := 36) C dX10_wordHere_29 (by decide) (fun c33 => ?_) (fun c33 => ?_)
      · replace h := h.1 c33
        exact J31 M2 h
      · replace h := h.2 c33
        refine g_iconst C dX10_wordHere_32 gRc_1 ?_
        refine g_goto (t := 37) C dX10_wordHere_33 (by decide) ?_
        exact J8 1 M2 h

set_option maxRecDepth 100000 in
set_option maxHeartbeats 4000000 in
theorem sX10_numberHere {l : Launch} {V : gW} (hD : gD V) (c0 : Int) (M0 : gMem) (K : Int → gMem → Prop) (hT0 : gT c0 10) (h : wX10_numberHere c0 K M0) (hM : gOM M0) (ho : ∀ q ∈ ([] : List gSV), gOK q) : gMi l V yX10_numberHere cX10_numberHere 3 (some .int) 2 45 [gF c0] M0 K := by
  refine gMi_of hD (by decide) (Nat.le_of_ble_eq_true rfl) [(0, gF c0)] rfl (gok_L rfl (gok_n (q := gF c0) trivial ho)) hM (fun X C hR => ?_)
  unfold wX10_numberHere at h
  refine g_aloadn C dX10_numberHere_0 0 rfl ?_
  refine gf_10_7 C dX10_numberHere_1 wd_862 hT0 ?_
  refine g_aloadn C dX10_numberHere_4 0 rfl ?_
  refine gf_10_6 C dX10_numberHere_5 wd_861 hT0 ?_
  obtain ⟨P2, h, hP2⟩ := h
  have J3 : ∀ (M1 : gMem), P2 M1 → gG X V 3 39 [] [] M1 := by
    intro M1 h
    replace h := hP2 M1 h
    refine g_iconst C dX10_numberHere_39 gRc_m1 ?_
    exact g_iret C hR dX10_numberHere_40 h
  refine g_ic_eq (t := 39) C dX10_numberHere_8 (by decide) (fun c4 => ?_) (fun c4 => ?_)
  · replace h := h.1 c4
    refine g_sub [] [] rfl ?_
    exact J3 M0 h
  · replace h := h.2 c4
    refine g_aloadn C dX10_numberHere_11 0 rfl ?_
    refine gf_10_5 C dX10_numberHere_12 wd_860 hT0 ?_
    refine g_aloadn C dX10_numberHere_15 0 rfl ?_
    refine gf_10_7 C dX10_numberHere_16 wd_862 hT0 ?_
    refine g_iald C dX10_numberHere_19 (gt_10_5 hT0) gce_10200 h.1 ?_
    replace h := h.2
    refine g_cSi (st := []) C dX10_numberHere_20 ykX10_isDigit wd_965 ⟨by decide, by decide⟩ [gI (M0 (c0 + 4) (M0 c0 7))] rfl (Nat.le_of_ble_eq_true rfl) (fun hM ho => sX10_isDigit hD (M0 (c0 + 4) (M0 c0 7)) M0 _  h hM ho) (fun r6 M5 h => ?_)
    refine g_if_eq (t := 39) C dX10_numberHere_23 (by decide) (fun c7 => ?_) (fun c7 => ?_)
    · replace h := h.1 c7
      refine g_sub [] [] rfl ?_
      exact J3 M5 h
    · replace h := h.2 c7
      refine g_aloadn C dX10_numberHere_26 0 rfl ?_
      refine gf_10_8 C dX10_numberHere_27 wd_863 hT0 ?_
      refine g_aloadn C dX10_numberHere_30 0 rfl ?_
      refine gf_10_7 C dX10_numberHere_31 wd_862 hT0 ?_
      refine g_isub C dX10_numberHere_34 h.1 ?_
      replace h := h.2
      refine g_iconst C dX10_numberHere_35 gRc_2 ?_
      refine g_ic_le (t := 41) C dX10_numberHere_36 (by decide) (fun c8 => ?_) (fun c8 => ?_)
      · replace h := h.1 c8
        refine g_iconst C dX10_numberHere_41 gRc_0 ?_
        refine g_istoren C [(1, gI 0), (0, gF c0)] dX10_numberHere_42 (by decide) rfl ?_
        refine g_aloadn C dX10_numberHere_43 1 rfl ?_
        refine gf_10_7 C dX10_numberHere_44 wd_862 hT0 ?_
        obtain ⟨v9, ev9⟩ : ∃ x : Int, x = (M5 c0 7) := ⟨_, rfl⟩
        refine g_nm ev9 ?_
        replace h := h v9 ev9
        refine g_istoren C [(2, gI v9), (1, gI 0), (0, gF c0)] dX10_numberHere_47 (by decide) rfl ?_
        refine g_sub [(0, gF c0), (1, gI 0), (2, gI v9)] [2, 1, 0] rfl ?_
        refine gL2_go (Gd := fun (v10 : Int) (v11 : Int) (M12 : gMem) => gG X V 3 48 [(0, gF c0), (1, gI v10), (2, gI v11)] [] M12) (fun rec13 hrec13 v10 v11 M12 h => ?_) h
        refine g_iloadn C dX10_numberHere_48 2 rfl ?_
        refine g_aloadn C dX10_numberHere_49 0 rfl ?_
        refine gf_10_8 C dX10_numberHere_50 wd_863 hT0 ?_
        refine g_ic_ge (t := 77) C dX10_numberHere_53 (by decide) (fun c14 => ?_) (fun c14 => ?_)
        · replace h := h.1 c14
          refine g_iloadn C dX10_numberHere_77 1 rfl ?_
          exact g_iret C hR dX10_numberHere_78 h
        · replace h := h.2 c14
          refine g_bipush C dX10_numberHere_56 gRc_10 gRb_10 ?_
          refine g_iloadn C dX10_numberHere_58 1 rfl ?_
          refine g_imul C dX10_numberHere_59 h.1 ?_
          replace h := h.2
          refine g_aloadn C dX10_numberHere_60 0 rfl ?_
          refine gf_10_5 C dX10_numberHere_61 wd_860 hT0 ?_
          refine g_iloadn C dX10_numberHere_64 2 rfl ?_
          refine g_iald C dX10_numberHere_65 (gt_10_5 hT0) gce_10200 h.1 ?_
          replace h := h.2
          refine g_iadd C dX10_numberHere_66 h.1 ?_
          replace h := h.2
          refine g_bipush C dX10_numberHere_67 gRc_48 gRb_48 ?_
          refine g_isub C dX10_numberHere_69 h.1 ?_
          replace h := h.2
          obtain ⟨v15, ev15⟩ : ∃ x : Int, x = (((10 * v10) + (M12 (c0 + 4) v11)) - 48) := ⟨_, rfl⟩
          refine g_nm ev15 ?_
          replace h := h v15 ev15
          refine g_istoren C [(1, gI v15), (0, gF c0), (2, gI v11)] dX10_numberHere_70 (by decide) rfl ?_
          refine g_iinc C [(2, gI (v11 + 1)), (1, gI v15), (0, gF c0)] dX10_numberHere_71 2 rfl (by decide) h.1 rfl ?_
          replace h := h.2
          refine g_goto (t := 48) C dX10_numberHere_74 (by decide) ?_
          refine g_sub [(0, gF c0), (1, gI v15), (2, gI (v11 + 1))] [2, 1, 0] rfl ?_
          exact hrec13 v15 (v11 + 1) M12 h
      · replace h := h.2 c8
        refine g_sub [] [] rfl ?_
        exact J3 M5 h

set_option maxRecDepth 100000 in
set_option maxHeartbeats 4000000 in
theorem sX10_number {l : Launch} {V : gW} (hD : gD V) (c0 a1 a2 a3 : Int) (M0 : gMem) (K : Int → gMem → Prop) (hT0 : gT c0 10) (h : wX10_number c0 a1 a2 a3 K M0) (hM : gOM M0) (ho : ∀ q ∈ ([gI a1, gI a2, gI a3] : List gSV), gOK q) : gMi l V yX10_number cX10_number 5 (some .boolean) 3 67 [gF c0, gI a1, gI a2, gI a3] M0 K := by
  refine gMi_of hD (by decide) (Nat.le_of_ble_eq_true rfl) [(0, gF c0), (1, gI a1), (2, gI a2), (3, gI a3)] rfl (gok_L rfl (gok_n (q := gF c0) trivial ho)) hM (fun X C hR => ?_)
  unfold wX10_number at h
  refine g_aloadn C dX10_number_0 0 rfl ?_
  refine g_cVi (st := []) C dX10_number_1 ykX10_numberHere wd_982 ⟨by decide, by decide⟩ [] rfl (Nat.le_of_ble_eq_true rfl) hT0 (fun hM ho => sX10_numberHere hD c0 M0 _ hT0 h hM ho) (fun r2 M1 h => ?_)
  refine g_istore C [(4, gI r2), (0, gF c0), (1, gI a1), (2, gI a2), (3, gI a3)] dX10_number_4 (by decide) rfl ?_
  refine g_iload C dX10_number_6 0 rfl ?_
  obtain ⟨P4, h, hP4⟩ := h
  have J5 : ∀ (M3 : gMem), P4 M3 → gG X V 5 24 [] [] M3 := by
    intro M3 h
    replace h := hP4 M3 h
    refine g_iconst C dX10_number_24 gRc_0 ?_
    exact g_zret C hR dX10_number_25 (Or.inl rfl) h
  refine g_if_lt (t := 24) C dX10_number_8 (by decide) (fun c6 => ?_) (fun c6 => ?_)
  · replace h := h.1 c6
    refine g_sub [] [] rfl ?_
    exact J5 M1 h
  · replace h := h.2 c6
    refine g_iload C dX10_number_11 0 rfl ?_
    refine g_i2l C dX10_number_13 ?_
    refine g_iloadn C dX10_number_14 3 rfl ?_
    refine g_i2l C dX10_number_15 ?_
    refine g_iloadn C dX10_number_16 4 rfl ?_
    refine g_i2l C dX10_number_17 ?_
    refine g_cSi (st := []) C dX10_number_18 ykX10_in wd_937 ⟨by decide, by decide⟩ [gJ r2, gJ a2, gJ a3] rfl (Nat.le_of_ble_eq_true rfl) (fun hM ho => sX10_in hD r2 a2 a3 M1 _  h hM ho) (fun r8 M7 h => ?_)
    refine g_if_ne (t := 26) C dX10_number_21 (by decide) (fun c9 => ?_) (fun c9 => ?_)
    · replace h := h.1 c9
      refine g_aloadn C dX10_number_26 1 rfl ?_
      refine gf_10_14 C dX10_number_27 wd_869 hT0 ?_
      refine g_iloadn C dX10_number_30 2 rfl ?_
      refine g_iload C dX10_number_31 0 rfl ?_
      refine g_iast C dX10_number_33 (gt_10_14 hT0) gce_10003 h.1 ?_
      replace h := h.2
      obtain ⟨M10, eM10⟩ : ∃ x : gMem, x = gup M7 (c0 + 6) a1 r2 := ⟨_, rfl⟩
      refine g_nmM eM10 ?_
      replace h := h M10 eM10
      refine g_aloadn C dX10_number_34 1 rfl ?_
      refine g_cVv (st := []) C dX10_number_35 ykX10_nextToken wd_956 ⟨by decide, by decide⟩ [] rfl (Nat.le_of_ble_eq_true rfl) hT0 (fun hM ho => sX10_nextToken hD c0 M10 _ hT0 h hM ho) (fun M11 h => ?_)
      refine g_iconst C dX10_number_38 gRc_1 ?_
      exact g_zret C hR dX10_number_39 (Or.inr rfl) h
    · replace h := h.2 c9
      refine g_sub [] [] rfl ?_
      exact J5 M7 h

set_option maxRecDepth 100000 in
set_option maxHeartbeats 4000000 in
theorem sX10_otherNode {l : Launch} {V : gW} (hD : gD V) (c0 : Int) (M0 : gMem) (K : Int → gMem → Prop) (hT0 : gT c0 10) (h : wX10_otherNode c0 K M0) (hM : gOM M0) (ho : ∀ q ∈ ([] : List gSV), gOK q) : gMi l V yX10_otherNode cX10_otherNode 4 (some .boolean) 4 91 [gF c0] M0 K := by
  refine gMi_of hD (by decide) (Nat.le_of_ble_eq_true rfl) [(0, gF c0)] rfl (gok_L rfl (gok_n (q := gF c0) trivial ho)) hM (fun X C hR => ?_)
  unfold wX10_otherNode at h
  refine g_aloadn C dX10_otherNode_0 0 rfl ?_
  refine gf_10_14 C dX10_otherNode_1 wd_869 hT0 ?_
  refine g_iconst C dX10_otherNode_4 gRc_0 ?_
  refine g_iald C dX10_otherNode_5 (gt_10_14 hT0) gce_10003 h.1 ?_
  replace h := h.2
  obtain ⟨v1, ev1⟩ : ∃ x : Int, x = (M0 (c0 + 6) 0) := ⟨_, rfl⟩
  refine g_nm ev1 ?_
  replace h := h v1 ev1
  refine g_istoren C [(1, gI v1), (0, gF c0)] dX10_otherNode_6 (by decide) rfl ?_
  refine g_aloadn C dX10_otherNode_7 1 rfl ?_
  refine g_cVi (st := []) C dX10_otherNode_8 ykX10_numberHere wd_982 ⟨by decide, by decide⟩ [] rfl (Nat.le_of_ble_eq_true rfl) hT0 (fun hM ho => sX10_numberHere hD c0 M0 _ hT0 h hM ho) (fun r3 M2 h => ?_)
  refine g_istoren C [(2, gI r3), (1, gI v1), (0, gF c0)] dX10_otherNode_11 (by decide) rfl ?_
  refine g_iloadn C dX10_otherNode_12 0 rfl ?_
  refine g_i2l C dX10_otherNode_13 ?_
  refine g_lconst C dX10_otherNode_14 (by decide) (show gOK (gJ 0) from ⟨by decide, by decide⟩) ?_
  refine g_aloadn C dX10_otherNode_15 2 rfl ?_
  refine gf_10_9 C dX10_otherNode_16 wd_864 hT0 ?_
  refine g_iconst C dX10_otherNode_19 gRc_1 ?_
  refine g_isub C dX10_otherNode_20 h.1 ?_
  replace h := h.2
  refine g_i2l C dX10_otherNode_21 ?_
  refine g_cSi (st := []) C dX10_otherNode_22 ykX10_in wd_937 ⟨by decide, by decide⟩ [gJ r3, gJ 0, gJ ((M2 c0 9) - 1)] rfl (Nat.le_of_ble_eq_true rfl) (fun hM ho => sX10_in hD r3 0 ((M2 c0 9) - 1) M2 _  h hM ho) (fun r5 M4 h => ?_)
  obtain ⟨P8, h, hP8⟩ := h
  have J9 : ∀ (x6 : Int) (M7 : gMem), P8 x6 M7 → gG X V 4 61 [(0, gF c0)] [gI x6] M7 := by
    intro x6 M7 h
    replace h := hP8 x6 M7 h
    refine g_istoren C [(3, gI x6), (0, gF c0)] dX10_otherNode_61 (by decide) rfl ?_
    refine g_iloadn C dX10_otherNode_62 0 rfl ?_
    obtain ⟨P12, h, hP12⟩ := h
    have J13 : ∀ (x10 : Int) (M11 : gMem), P12 x10 M11 → gG X V 4 86 [] [gI x10] M11 := by
      intro x10 M11 h
      replace h := hP12 x10 M11 h
      exact g_zret C hR dX10_otherNode_86 h.1 h.2
    obtain ⟨P15, h, hP15⟩ := h
    have J16 : ∀ (M14 : gMem), P15 M14 → gG X V 4 85 [] [] M14 := by
      intro M14 h
      replace h := hP15 M14 h
      refine g_iconst C dX10_otherNode_85 gRc_0 ?_
      exact J13 0 M14 h
    refine g_if_eq (t := 85) C dX10_otherNode_63 (by decide) (fun c17 => ?_) (fun c17 => ?_)
    · replace h := h.1 c17
      refine g_sub [] [] rfl ?_
      exact J16 M7 h
    · replace h := h.2 c17
      refine g_aloadn C dX10_otherNode_66 1 rfl ?_
      refine g_iconst C dX10_otherNode_67 gRc_1 ?_
      refine g_iconst C dX10_otherNode_68 gRc_0 ?_
      refine g_aloadn C dX10_otherNode_69 1 rfl ?_
      refine gf_10_9 C dX10_otherNode_70 wd_864 hT0 ?_
      refine g_iconst C dX10_otherNode_73 gRc_1 ?_
      refine g_isub C dX10_otherNode_74 h.1 ?_
      replace h := h.2
      refine g_cVi (st := []) C dX10_otherNode_75 ykX10_number wd_978 ⟨by decide, by decide⟩ [gI 1, gI 0, gI ((M7 c0 9) - 1)] rfl (Nat.le_of_ble_eq_true rfl) hT0 (fun hM ho => sX10_number hD c0 1 0 ((M7 c0 9) - 1) M7 _ hT0 h hM ho) (fun r19 M18 h => ?_)
      refine g_if_eq (t := 85) C dX10_otherNode_78 (by decide) (fun c20 => ?_) (fun c20 => ?_)
      · replace h := h.1 c20
        refine g_sub [] [] rfl ?_
        exact J16 M18 h
      · replace h := h.2 c20
        refine g_iconst C dX10_otherNode_81 gRc_1 ?_
        refine g_goto (t := 86) C dX10_otherNode_82 (by decide) ?_
        refine g_sub [] [] rfl ?_
        exact J13 1 M18 h
  obtain ⟨P22, h, hP22⟩ := h
  have J23 : ∀ (M21 : gMem), P22 M21 → gG X V 4 60 [(0, gF c0)] [] M21 := by
    intro M21 h
    replace h := hP22 M21 h
    refine g_iconst C dX10_otherNode_60 gRc_0 ?_
    exact J9 0 M21 h
  refine g_if_eq (t := 60) C dX10_otherNode_25 (by decide) (fun c24 => ?_) (fun c24 => ?_)
  · replace h := h.1 c24
    refine g_sub [(0, gF c0)] [2] rfl ?_
    exact J23 M4 h
  · replace h := h.2 c24
    refine g_iloadn C dX10_otherNode_28 0 rfl ?_
    refine g_iloadn C dX10_otherNode_29 1 rfl ?_
    refine g_ic_eq (t := 60) C dX10_otherNode_30 (by decide) (fun c25 => ?_) (fun c25 => ?_)
    · replace h := h.1 c25
      refine g_sub [(0, gF c0)] [2] rfl ?_
      exact J23 M4 h
    · replace h := h.2 c25
      refine g_aloadn C dX10_otherNode_33 2 rfl ?_
      refine gf_10_10 C dX10_otherNode_34 wd_865 hT0 ?_
      refine g_bipush C dX10_otherNode_37 gRc_12 gRb_12 ?_
      refine g_iloadn C dX10_otherNode_39 1 rfl ?_
      refine g_imul C dX10_otherNode_40 h.1 ?_
      replace h := h.2
      refine g_iloadn C dX10_otherNode_41 0 rfl ?_
      refine g_iadd C dX10_otherNode_42 h.1 ?_
      replace h := h.2
      refine g_zald C dX10_otherNode_43 (gt_10_10 hT0) gce_20144 h.1 ?_
      replace h := h.2
      obtain ⟨P27, h, hP27⟩ := h
      have J28 : ∀ (M26 : gMem), P27 M26 → gG X V 4 56 [(0, gF c0)] [] M26 := by
        intro M26 h
        replace h := hP27 M26 h
        refine g_iconst C dX10_otherNode_56 gRc_1 ?_
        refine g_goto (t := 61) C dX10_otherNode_57 (by decide) ?_
        exact J9 1 M26 h
      refine g_if_ne (t := 56) C dX10_otherNode_44 (by decide) (fun c29 => ?_) (fun c29 => ?_)
      · replace h := h.1 c29
        refine g_sub [(0, gF c0)] [2] rfl ?_
        exact J28 M4 h
      · replace h := h.2 c29
        refine g_aloadn C dX10_otherNode_47 2 rfl ?_
        refine gf_10_11 C dX10_otherNode_48 wd_866 hT0 ?_
        refine g_bipush C dX10_otherNode_51 gRc_30 gRb_30 ?_
        refine g_ic_ge (t := 60) C dX10_otherNode_53 (by decide) (fun c30 => ?_) (fun c30 => ?_)
        · replace h := h.1 c30
          refine g_sub [(0, gF c0)] [2] rfl ?_
          exact J23 M4 h
        · replace h := h.2 c30
          refine g_sub [(0, gF c0)] [2] rfl ?_
          exact J28 M4 h

set_option maxRecDepth 100000 in
set_option maxHeartbeats 4000000 in
theorem sX10_tellsNet {l : Launch} {V : gW} (hD : gD V) (c0 : Int) (M0 : gMem) (K : gMem → Prop) (hT0 : gT c0 10) (h : wX10_tellsNet c0 K M0) (hM : gOM M0) (ho : ∀ q ∈ ([] : List gSV), gOK q) : gMv l V yX10_tellsNet cX10_tellsNet 2 0 0 [gF c0] M0 K := by
  refine gMv_of hD (by decide) (Nat.le_of_ble_eq_true rfl) [(0, gF c0)] rfl (gok_L rfl (gok_n (q := gF c0) trivial ho)) hM (fun X C hR => ?_)
  unfold wX10_tellsNet at h
  refine g_aloadn C dX10_tellsNet_0 0 rfl ?_
  refine g_aloadn C dX10_tellsNet_1 0 rfl ?_
  refine gf_10_14 C dX10_tellsNet_2 wd_869 hT0 ?_
  refine g_iconst C dX10_tellsNet_5 gRc_0 ?_
  refine g_iald C dX10_tellsNet_6 (gt_10_14 hT0) gce_10003 h.1 ?_
  replace h := h.2
  refine gp_10_9 C dX10_tellsNet_7 wd_864 hT0 ?_
  obtain ⟨M1, eM1⟩ : ∃ x : gMem, x = gup M0 c0 9 (M0 (c0 + 6) 0) := ⟨_, rfl⟩
  refine g_nmM eM1 ?_
  replace h := h M1 eM1
  refine g_aloadn C dX10_tellsNet_10 0 rfl ?_
  refine g_iconst C dX10_tellsNet_11 gRc_0 ?_
  refine gp_10_11 C dX10_tellsNet_12 wd_866 hT0 ?_
  obtain ⟨M2, eM2⟩ : ∃ x : gMem, x = gup M1 c0 11 0 := ⟨_, rfl⟩
  refine g_nmM eM2 ?_
  replace h := h M2 eM2
  refine g_iconst C dX10_tellsNet_15 gRc_0 ?_
  refine g_istoren C [(1, gI 0), (0, gF c0)] dX10_tellsNet_16 (by decide) rfl ?_
  refine g_sub [(0, gF c0), (1, gI 0)] [1, 0] rfl ?_
  refine gL1_go (Gd := fun (v3 : Int) (M4 : gMem) => gG X V 2 17 [(0, gF c0), (1, gI v3)] [] M4) (fun rec5 hrec5 v3 M4 h => ?_) h
  refine g_iloadn C dX10_tellsNet_17 1 rfl ?_
  refine g_sipush C dX10_tellsNet_18 gRc_144 gRs_144 ?_
  refine g_ic_ge (t := 37) C dX10_tellsNet_21 (by decide) (fun c6 => ?_) (fun c6 => ?_)
  · replace h := h.1 c6
    exact g_vret C hR dX10_tellsNet_37 h
  · replace h := h.2 c6
    refine g_aloadn C dX10_tellsNet_24 0 rfl ?_
    refine gf_10_10 C dX10_tellsNet_25 wd_865 hT0 ?_
    refine g_iloadn C dX10_tellsNet_28 1 rfl ?_
    refine g_iconst C dX10_tellsNet_29 gRc_0 ?_
    refine g_zast C dX10_tellsNet_30 (gt_10_10 hT0) gce_20144 h.1 (Or.inl rfl) ?_
    replace h := h.2
    obtain ⟨M7, eM7⟩ : ∃ x : gMem, x = gup M4 (c0 + 5) v3 0 := ⟨_, rfl⟩
    refine g_nmM eM7 ?_
    replace h := h M7 eM7
    refine g_iinc C [(1, gI (v3 + 1)), (0, gF c0)] dX10_tellsNet_31 1 rfl (by decide) h.1 rfl ?_
    replace h := h.2
    refine g_goto (t := 17) C dX10_tellsNet_34 (by decide) ?_
    refine g_sub [(0, gF c0), (1, gI (v3 + 1))] [1, 0] rfl ?_
    exact hrec5 (v3 + 1) M7 h

set_option maxRecDepth 100000 in
set_option maxHeartbeats 4000000 in
theorem sX10_tellsLink {l : Launch} {V : gW} (hD : gD V) (c0 : Int) (M0 : gMem) (K : gMem → Prop) (hT0 : gT c0 10) (h : wX10_tellsLink c0 K M0) (hM : gOM M0) (ho : ∀ q ∈ ([] : List gSV), gOK q) : gMv l V yX10_tellsLink cX10_tellsLink 3 0 0 [gF c0] M0 K := by
  refine gMv_of hD (by decide) (Nat.le_of_ble_eq_true rfl) [(0, gF c0)] rfl (gok_L rfl (gok_n (q := gF c0) trivial ho)) hM (fun X C hR => ?_)
  unfold wX10_tellsLink at h
  refine g_aloadn C dX10_tellsLink_0 0 rfl ?_
  refine gf_10_14 C dX10_tellsLink_1 wd_869 hT0 ?_
  refine g_iconst C dX10_tellsLink_4 gRc_0 ?_
  refine g_iald C dX10_tellsLink_5 (gt_10_14 hT0) gce_10003 h.1 ?_
  replace h := h.2
  obtain ⟨v1, ev1⟩ : ∃ x : Int, x = (M0 (c0 + 6) 0) := ⟨_, rfl⟩
  refine g_nm ev1 ?_
  replace h := h v1 ev1
  refine g_istoren C [(1, gI v1), (0, gF c0)] dX10_tellsLink_6 (by decide) rfl ?_
  refine g_aloadn C dX10_tellsLink_7 1 rfl ?_
  refine gf_10_14 C dX10_tellsLink_8 wd_869 hT0 ?_
  refine g_iconst C dX10_tellsLink_11 gRc_1 ?_
  refine g_iald C dX10_tellsLink_12 (gt_10_14 hT0) gce_10003 h.1 ?_
  replace h := h.2
  obtain ⟨v2, ev2⟩ : ∃ x : Int, x = (M0 (c0 + 6) 1) := ⟨_, rfl⟩
  refine g_nm ev2 ?_
  replace h := h v2 ev2
  refine g_istoren C [(2, gI v2), (1, gI v1), (0, gF c0)] dX10_tellsLink_13 (by decide) rfl ?_
  refine g_aloadn C dX10_tellsLink_14 2 rfl ?_
  refine g_dup C dX10_tellsLink_15 (fun e => by cases e) ?_
  refine gf_10_11 C dX10_tellsLink_16 wd_866 hT0 ?_
  refine g_aloadn C dX10_tellsLink_19 2 rfl ?_
  refine gf_10_10 C dX10_tellsLink_20 wd_865 hT0 ?_
  refine g_bipush C dX10_tellsLink_23 gRc_12 gRb_12 ?_
  refine g_iloadn C dX10_tellsLink_25 1 rfl ?_
  refine g_imul C dX10_tellsLink_26 h.1 ?_
  replace h := h.2
  refine g_iloadn C dX10_tellsLink_27 0 rfl ?_
  refine g_iadd C dX10_tellsLink_28 h.1 ?_
  replace h := h.2
  refine g_zald C dX10_tellsLink_29 (gt_10_10 hT0) gce_20144 h.1 ?_
  replace h := h.2
  obtain ⟨P5, h, hP5⟩ := h
  have J6 : ∀ (x3 : Int) (M4 : gMem), P5 x3 M4 → gG X V 3 38 [(0, gF c0), (1, gI v1), (2, gI v2)] [gI x3, gI (M0 c0 11), gF c0] M4 := by
    intro x3 M4 h
    replace h := hP5 x3 M4 h
    refine g_iadd C dX10_tellsLink_38 h.1 ?_
    replace h := h.2
    refine gp_10_11 C dX10_tellsLink_39 wd_866 hT0 ?_
    obtain ⟨M7, eM7⟩ : ∃ x : gMem, x = gup M4 c0 11 ((M0 c0 11) + x3) := ⟨_, rfl⟩
    refine g_nmM eM7 ?_
    replace h := h M7 eM7
    refine g_aloadn C dX10_tellsLink_42 0 rfl ?_
    refine gf_10_10 C dX10_tellsLink_43 wd_865 hT0 ?_
    refine g_bipush C dX10_tellsLink_46 gRc_12 gRb_12 ?_
    refine g_iloadn C dX10_tellsLink_48 1 rfl ?_
    refine g_imul C dX10_tellsLink_49 h.1 ?_
    replace h := h.2
    refine g_iloadn C dX10_tellsLink_50 2 rfl ?_
    refine g_iadd C dX10_tellsLink_51 h.1 ?_
    replace h := h.2
    refine g_iconst C dX10_tellsLink_52 gRc_1 ?_
    refine g_zast C dX10_tellsLink_53 (gt_10_10 hT0) gce_20144 h.1 (Or.inr rfl) ?_
    replace h := h.2
    obtain ⟨M8, eM8⟩ : ∃ x : gMem, x = gup M7 (c0 + 5) ((12 * v1) + v2) 1 := ⟨_, rfl⟩
    refine g_nmM eM8 ?_
    replace h := h M8 eM8
    refine g_aloadn C dX10_tellsLink_54 0 rfl ?_
    refine gf_10_10 C dX10_tellsLink_55 wd_865 hT0 ?_
    refine g_bipush C dX10_tellsLink_58 gRc_12 gRb_12 ?_
    refine g_iloadn C dX10_tellsLink_60 2 rfl ?_
    refine g_imul C dX10_tellsLink_61 h.1 ?_
    replace h := h.2
    refine g_iloadn C dX10_tellsLink_62 1 rfl ?_
    refine g_iadd C dX10_tellsLink_63 h.1 ?_
    replace h := h.2
    refine g_iconst C dX10_tellsLink_64 gRc_1 ?_
    refine g_zast C dX10_tellsLink_65 (gt_10_10 hT0) gce_20144 h.1 (Or.inr rfl) ?_
    replace h := h.2
    obtain ⟨M9, eM9⟩ : ∃ x : gMem, x = gup M8 (c0 + 5) ((12 * v2) + v1) 1 := ⟨_, rfl⟩
    refine g_nmM eM9 ?_
    replace h := h M9 eM9
    exact g_vret C hR dX10_tellsLink_66 h
  refine g_if_eq (t := 37) C dX10_tellsLink_30 (by decide) (fun c10 => ?_) (fun c10 => ?_)
  · replace h := h.1 c10
    refine g_iconst C dX10_tellsLink_37 gRc_1 ?_
    refine g_sub [(0, gF c0), (1, gI v1), (2, gI v2)] [2, 1, 0] rfl ?_
    exact J6 1 M0 h
  · replace h := h.2 c10
    refine g_iconst C dX10_tellsLink_33 gRc_0 ?_
    refine g_goto (t := 38) C dX10_tellsLink_34 (by decide) ?_
    refine g_sub [(0, gF c0), (1, gI v1), (2, gI v2)] [2, 1, 0] rfl ?_
    exact J6 0 M0 h

set_option maxRecDepth 100000 in
set_option maxHeartbeats 4000000 in
theorem sX10_does {l : Launch} {V : gW} (hD : gD V) (c0 a1 : Int) (M0 : gMem) (K : gMem → Prop) (hT0 : gT c0 10) (h : wX10_does c0 a1 K M0) (hM : gOM M0) (ho : ∀ q ∈ ([gI a1] : List gSV), gOK q) : gMv l V yX10_does cX10_does 3 1 23 [gF c0, gI a1] M0 K := by
  refine gMv_of hD (by decide) (Nat.le_of_ble_eq_true rfl) [(0, gF c0), (1, gI a1)] rfl (gok_L rfl (gok_n (q := gF c0) trivial ho)) hM (fun X C hR => ?_)
  unfold wX10_does at h
  refine g_iloadn C dX10_does_0 1 rfl ?_
  obtain ⟨P2, h, hP2⟩ := h
  have J3 : ∀ (M1 : gMem), P2 M1 → gG X V 3 112 [] [] M1 := by
    intro M1 h
    replace h := hP2 M1 h
    exact g_vret C hR dX10_does_112 h
  refine g_if_ne (t := 61) C dX10_does_1 (by decide) (fun c4 => ?_) (fun c4 => ?_)
  · replace h := h.1 c4
    refine g_iloadn C dX10_does_61 1 rfl ?_
    refine g_iconst C dX10_does_62 gRc_1 ?_
    refine g_ic_ne (t := 91) C dX10_does_63 (by decide) (fun c5 => ?_) (fun c5 => ?_)
    · replace h := h.1 c5
      refine g_aloadn C dX10_does_91 0 rfl ?_
      refine gf_10_0 C dX10_does_92 wd_855 hT0 ?_
      refine g_sipush C dX10_does_95 gRc_144 gRs_144 ?_
      refine g_aloadn C dX10_does_98 0 rfl ?_
      refine gf_10_14 C dX10_does_99 wd_869 hT0 ?_
      refine g_iconst C dX10_does_102 gRc_0 ?_
      refine g_iald C dX10_does_103 (gt_10_14 hT0) gce_10003 h.1 ?_
      replace h := h.2
      refine g_iadd C dX10_does_104 h.1 ?_
      replace h := h.2
      refine g_aloadn C dX10_does_105 0 rfl ?_
      refine gf_10_14 C dX10_does_106 wd_869 hT0 ?_
      refine g_iconst C dX10_does_109 gRc_1 ?_
      refine g_iald C dX10_does_110 (gt_10_14 hT0) gce_10003 h.1 ?_
      replace h := h.2
      refine g_iast C dX10_does_111 (gt_10_0 hT0) gce_11727 h.1 ?_
      replace h := h.2
      obtain ⟨M6, eM6⟩ : ∃ x : gMem, x = gup M0 (c0 + 1) (144 + (M0 (c0 + 6) 0)) (M0 (c0 + 6) 1) := ⟨_, rfl⟩
      refine g_nmM eM6 ?_
      replace h := h M6 eM6
      refine g_sub [] [] rfl ?_
      exact J3 M6 h
    · replace h := h.2 c5
      refine g_aloadn C dX10_does_66 0 rfl ?_
      refine g_aloadn C dX10_does_67 0 rfl ?_
      refine gf_10_14 C dX10_does_68 wd_869 hT0 ?_
      refine g_iconst C dX10_does_71 gRc_0 ?_
      refine g_iald C dX10_does_72 (gt_10_14 hT0) gce_10003 h.1 ?_
      replace h := h.2
      refine g_aloadn C dX10_does_73 0 rfl ?_
      refine gf_10_14 C dX10_does_74 wd_869 hT0 ?_
      refine g_iconst C dX10_does_77 gRc_1 ?_
      refine g_iald C dX10_does_78 (gt_10_14 hT0) gce_10003 h.1 ?_
      replace h := h.2
      refine g_aloadn C dX10_does_79 0 rfl ?_
      refine gf_10_14 C dX10_does_80 wd_869 hT0 ?_
      refine g_iconst C dX10_does_83 gRc_2 ?_
      refine g_iald C dX10_does_84 (gt_10_14 hT0) gce_10003 h.1 ?_
      replace h := h.2
      refine g_cVv (st := []) C dX10_does_85 ykX10_lies wd_1002 ⟨by decide, by decide⟩ [gI (M0 (c0 + 6) 0), gI (M0 (c0 + 6) 1), gI (M0 (c0 + 6) 2)] rfl (Nat.le_of_ble_eq_true rfl) hT0 (fun hM ho => sX10_lies hD c0 (M0 (c0 + 6) 0) (M0 (c0 + 6) 1) (M0 (c0 + 6) 2) M0 _ hT0 h hM ho) (fun M7 h => ?_)
      refine g_goto (t := 112) C dX10_does_88 (by decide) ?_
      refine g_sub [] [] rfl ?_
      exact J3 M7 h
  · replace h := h.2 c4
    refine g_aloadn C dX10_does_4 0 rfl ?_
    refine g_aloadn C dX10_does_5 0 rfl ?_
    refine gf_10_14 C dX10_does_6 wd_869 hT0 ?_
    refine g_iconst C dX10_does_9 gRc_0 ?_
    refine g_iald C dX10_does_10 (gt_10_14 hT0) gce_10003 h.1 ?_
    replace h := h.2
    refine gp_10_2 C dX10_does_11 wd_857 hT0 ?_
    obtain ⟨M8, eM8⟩ : ∃ x : gMem, x = gup M0 c0 2 (M0 (c0 + 6) 0) := ⟨_, rfl⟩
    refine g_nmM eM8 ?_
    replace h := h M8 eM8
    refine g_iconst C dX10_does_14 gRc_0 ?_
    refine g_istoren C [(2, gI 0), (0, gF c0), (1, gI a1)] dX10_does_15 (by decide) rfl ?_
    refine g_sub [(0, gF c0), (2, gI 0)] [1, 0] rfl ?_
    refine gL1_go (Gd := fun (v9 : Int) (M10 : gMem) => gG X V 3 16 [(0, gF c0), (2, gI v9)] [] M10) (fun rec11 hrec11 v9 M10 h => ?_) h
    refine g_iloadn C dX10_does_16 1 rfl ?_
    refine g_sipush C dX10_does_17 gRc_156 gRs_156 ?_
    refine g_ic_ge (t := 36) C dX10_does_20 (by decide) (fun c12 => ?_) (fun c12 => ?_)
    · replace h := h.1 c12
      refine g_iconst C dX10_does_36 gRc_0 ?_
      refine g_istoren C [(2, gI 0), (0, gF c0)] dX10_does_37 (by decide) rfl ?_
      refine g_sub [(0, gF c0), (2, gI 0)] [1, 0] rfl ?_
      refine gL1_go (Gd := fun (v13 : Int) (M14 : gMem) => gG X V 3 38 [(0, gF c0), (2, gI v13)] [] M14) (fun rec15 hrec15 v13 M14 h => ?_) h
      refine g_iloadn C dX10_does_38 1 rfl ?_
      refine g_sipush C dX10_does_39 gRc_240 gRs_240 ?_
      refine g_ic_ge (t := 58) C dX10_does_42 (by decide) (fun c16 => ?_) (fun c16 => ?_)
      · replace h := h.1 c16
        refine g_goto (t := 112) C dX10_does_58 (by decide) ?_
        refine g_sub [] [] rfl ?_
        exact J3 M14 h
      · replace h := h.2 c16
        refine g_aloadn C dX10_does_45 0 rfl ?_
        refine gf_10_3 C dX10_does_46 wd_858 hT0 ?_
        refine g_iloadn C dX10_does_49 1 rfl ?_
        refine g_iconst C dX10_does_50 gRc_0 ?_
        refine g_iast C dX10_does_51 (gt_10_3 hT0) gce_10720 h.1 ?_
        replace h := h.2
        obtain ⟨M17, eM17⟩ : ∃ x : gMem, x = gup M14 (c0 + 2) v13 0 := ⟨_, rfl⟩
        refine g_nmM eM17 ?_
        replace h := h M17 eM17
        refine g_iinc C [(2, gI (v13 + 1)), (0, gF c0)] dX10_does_52 1 rfl (by decide) h.1 rfl ?_
        replace h := h.2
        refine g_goto (t := 38) C dX10_does_55 (by decide) ?_
        refine g_sub [(0, gF c0), (2, gI (v13 + 1))] [1, 0] rfl ?_
        exact hrec15 (v13 + 1) M17 h
    · replace h := h.2 c12
      refine g_aloadn C dX10_does_23 0 rfl ?_
      refine gf_10_0 C dX10_does_24 wd_855 hT0 ?_
      refine g_iloadn C dX10_does_27 1 rfl ?_
      refine g_iconst C dX10_does_28 gRc_0 ?_
      refine g_iast C dX10_does_29 (gt_10_0 hT0) gce_11727 h.1 ?_
      replace h := h.2
      obtain ⟨M18, eM18⟩ : ∃ x : gMem, x = gup M10 (c0 + 1) v9 0 := ⟨_, rfl⟩
      refine g_nmM eM18 ?_
      replace h := h M18 eM18
      refine g_iinc C [(2, gI (v9 + 1)), (0, gF c0)] dX10_does_30 1 rfl (by decide) h.1 rfl ?_
      replace h := h.2
      refine g_goto (t := 16) C dX10_does_33 (by decide) ?_
      refine g_sub [(0, gF c0), (2, gI (v9 + 1))] [1, 0] rfl ?_
      exact hrec11 (v9 + 1) M18 h
