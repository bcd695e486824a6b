set_option maxRecDepth 100000 in
set_option maxHeartbeats 4000000 in
theorem sX6_tell {l : Launch} {V : gW} (hD : gD V) (c0 a1 a2 a3 : Int) (M0 : gMem) (K : gMem → Prop) (hT0 : gT c0 6) (hT1 : gT a1 30012) (h : wX6_tell c0 a1 a2 a3 K M0) (hM : gOM M0) (ho : ∀ q ∈ ([gF a1, gI a2, gI a3] : List gSV), gOK q) : gMv l V yX6_tell cX6_tell 8 3 65 [gF c0, gF a1, gI a2, gI a3] M0 K := by
  refine gMv_of hD (by decide) (Nat.le_of_ble_eq_true rfl) [(0, gF c0), (1, gF a1), (2, gI a2), (3, gI a3)] rfl (gok_L rfl (gok_n (q := gF c0) trivial ho)) hM (fun X C hR => ?_)
  unfold wX6_tell at h
  refine g_iloadn C dX6_tell_0 2 rfl ?_
  refine g_istore C [(4, gI a2), (0, gF c0), (1, gF a1), (2, gI a2), (3, gI a3)] dX6_tell_1 (by decide) rfl ?_
  refine g_iloadn C dX6_tell_3 4 rfl ?_
  refine g_istore C [(5, gI a3), (4, gI a2), (0, gF c0), (1, gF a1), (2, gI a2), (3, gI a3)] dX6_tell_4 (by decide) rfl ?_
  refine g_iconst C dX6_tell_6 gRc_0 ?_
  refine g_istore C [(6, gI 0), (5, gI a3), (4, gI a2), (0, gF c0), (1, gF a1), (2, gI a2), (3, gI a3)] dX6_tell_7 (by decide) rfl ?_
  refine g_sub [(0, gF c0), (1, gF a1), (4, gI a2), (5, gI a3), (6, gI 0)] [3, 4, 2, 1, 0] rfl ?_
  refine gL3_go (Gd := fun (v1 : Int) (v2 : Int) (v3 : Int) (M4 : gMem) => gG X V 8 9 [(0, gF c0), (1, gF a1), (4, gI v1), (5, gI v2), (6, gI v3)] [] M4) (fun rec5 hrec5 v1 v2 v3 M4 h => ?_) h
  refine g_iload C dX6_tell_9 4 rfl ?_
  refine g_iconst C dX6_tell_11 gRc_3 ?_
  refine g_ic_ge (t := 61) C dX6_tell_12 (by decide) (fun c6 => ?_) (fun c6 => ?_)
  · replace h := h.1 c6
    exact g_vret C hR dX6_tell_61 h
  · replace h := h.2 c6
    refine g_aloadn C dX6_tell_15 0 rfl ?_
    refine g_iload C dX6_tell_16 4 rfl ?_
    refine gp_6_3 C dX6_tell_18 wd_296 hT0 ?_
    obtain ⟨M7, eM7⟩ : ∃ x : gMem, x = gup M4 c0 3 v3 := ⟨_, rfl⟩
    refine g_nmM eM7 ?_
    replace h := h M7 eM7
    refine g_aloadn C dX6_tell_21 0 rfl ?_
    refine g_aloadn C dX6_tell_22 0 rfl ?_
    refine g_aloadn C dX6_tell_23 1 rfl ?_
    refine g_iload C dX6_tell_24 2 rfl ?_
    refine g_iload C dX6_tell_26 3 rfl ?_
    refine g_cVi (st := [gF c0]) C dX6_tell_28 ykX6_look wd_801 ⟨by decide, by decide⟩ [gF a1, gI v1, gI v2] rfl (Nat.le_of_ble_eq_true rfl) hT0 (fun hM ho => sX6_look hD c0 a1 v1 v2 M7 _ hT0 hT1 h hM ho) (fun r9 M8 h => ?_)
    refine gp_6_0 C dX6_tell_31 wd_290 hT0 ?_
    obtain ⟨M10, eM10⟩ : ∃ x : gMem, x = gup M8 c0 0 r9 := ⟨_, rfl⟩
    refine g_nmM eM10 ?_
    replace h := h M10 eM10
    refine g_aloadn C dX6_tell_34 0 rfl ?_
    refine gf_6_0 C dX6_tell_35 wd_290 hT0 ?_
    refine g_iconst C dX6_tell_38 gRc_3 ?_
    refine g_ic_eq (t := 43) C dX6_tell_39 (by decide) (fun c11 => ?_) (fun c11 => ?_)
    · replace h := h.1 c11
      refine g_iload C dX6_tell_43 2 rfl ?_
      refine g_istore C [(7, gI v1), (0, gF c0), (1, gF a1), (4, gI v1), (5, gI v2), (6, gI v3)] dX6_tell_45 (by decide) rfl ?_
      refine g_iload C dX6_tell_47 4 rfl ?_
      refine g_istore C [(4, gI v2), (7, gI v1), (0, gF c0), (1, gF a1), (5, gI v2), (6, gI v3)] dX6_tell_49 (by decide) rfl ?_
      refine g_iload C dX6_tell_51 1 rfl ?_
      refine g_istore C [(5, gI v1), (4, gI v2), (7, gI v1), (0, gF c0), (1, gF a1), (6, gI v3)] dX6_tell_53 (by decide) rfl ?_
      refine g_iinc C [(6, gI (v3 + 1)), (5, gI v1), (4, gI v2), (7, gI v1), (0, gF c0), (1, gF a1)] dX6_tell_55 5 rfl (by decide) h.1 rfl ?_
      replace h := h.2
      refine g_goto (t := 9) C dX6_tell_58 (by decide) ?_
      refine g_sub [(0, gF c0), (1, gF a1), (4, gI v2), (5, gI v1), (6, gI (v3 + 1))] [4, 5, 2, 1, 0] rfl ?_
      exact hrec5 v2 v1 (v3 + 1) M10 h
    · replace h := h.2 c11
      exact g_vret C hR dX6_tell_42 h

set_option maxRecDepth 100000 in
set_option maxHeartbeats 4000000 in
theorem sX9_told {l : Launch} {V : gW} (hD : gD V) (c0 a1 a2 a3 : Int) (M0 : gMem) (K : Int → gMem → Prop) (hT0 : gT c0 9) (h : wX9_told c0 a1 a2 a3 K M0) (hM : gOM M0) (ho : ∀ q ∈ ([gI a1, gI a2, gI a3] : List gSV), gOK q) : gMi l V yX9_told cX9_told 4 (some .int) 4 92 [gF c0, gI a1, gI a2, gI a3] M0 K := by
  refine gMi_of hD (by decide) (Nat.le_of_ble_eq_true rfl) [(0, gF c0), (1, gI a1), (2, gI a2), (3, gI a3)] rfl (gok_L rfl (gok_n (q := gF c0) trivial ho)) hM (fun X C hR => ?_)
  unfold wX9_told at h
  refine g_aloadn C dX9_told_0 0 rfl ?_
  refine g_iloadn C dX9_told_1 1 rfl ?_
  refine g_iloadn C dX9_told_2 2 rfl ?_
  refine g_cVi (st := []) C dX9_told_3 ykX9_bothThere wd_554 ⟨by decide, by decide⟩ [gI a1, gI a2] rfl (Nat.le_of_ble_eq_true rfl) hT0 (fun hM ho => sX9_bothThere hD c0 a1 a2 M0 _ hT0 h hM ho) (fun r2 M1 h => ?_)
  refine g_if_ne (t := 12) C dX9_told_6 (by decide) (fun c3 => ?_) (fun c3 => ?_)
  · replace h := h.1 c3
    refine g_iloadn C dX9_told_12 3 rfl ?_
    obtain ⟨P5, h, hP5⟩ := h
    have J6 : ∀ (M4 : gMem), P5 M4 → gG X V 4 21 [] [] M4 := by
      intro M4 h
      replace h := hP5 M4 h
      refine g_bipush C dX9_told_21 gRc_m3 gRb_m3 ?_
      exact g_iret C hR dX9_told_23 h
    refine g_if_lt (t := 21) C dX9_told_13 (by decide) (fun c7 => ?_) (fun c7 => ?_)
    · replace h := h.1 c7
      refine g_sub [] [] rfl ?_
      exact J6 M1 h
    · replace h := h.2 c7
      refine g_iloadn C dX9_told_16 3 rfl ?_
      refine g_iconst C dX9_told_17 gRc_2 ?_
      refine g_ic_le (t := 24) C dX9_told_18 (by decide) (fun c8 => ?_) (fun c8 => ?_)
      · replace h := h.1 c8
        refine g_aloadn C dX9_told_24 0 rfl ?_
        refine gf_9_9 C dX9_told_25 wd_347 hT0 ?_
        refine g_aloadn C dX9_told_28 0 rfl ?_
        refine gf_9_4 C dX9_told_29 wd_342 hT0 ?_
        refine g_iloadn C dX9_told_32 1 rfl ?_
        refine g_iloadn C dX9_told_33 2 rfl ?_
        refine g_cVv (st := []) C dX9_told_34 ykX6_tell wd_797 ⟨by decide, by decide⟩ [gF (c0 + 35), gI a1, gI a2] rfl (Nat.le_of_ble_eq_true rfl) (gt_9_9 hT0) (fun hM ho => sX6_tell hD (c0 + 226) (c0 + 35) a1 a2 M1 _ (gt_9_9 hT0) (gt_9_4 hT0) h hM ho) (fun M9 h => ?_)
        refine g_aloadn C dX9_told_37 0 rfl ?_
        refine gf_9_9 C dX9_told_38 wd_347 hT0 ?_
        refine gf_6_0 C dX9_told_41 wd_291 (gt_9_9 hT0) ?_
        refine g_if_eq (t := 49) C dX9_told_44 (by decide) (fun c10 => ?_) (fun c10 => ?_)
        · replace h := h.1 c10
          refine g_iloadn C dX9_told_49 3 rfl ?_
          refine g_if_ne (t := 61) C dX9_told_50 (by decide) (fun c11 => ?_) (fun c11 => ?_)
          · replace h := h.1 c11
            refine g_iloadn C dX9_told_61 3 rfl ?_
            refine g_iconst C dX9_told_62 gRc_1 ?_
            obtain ⟨P14, h, hP14⟩ := h
            have J15 : ∀ (x12 : Int) (M13 : gMem), P14 x12 M13 → gG X V 4 83 [] [gI x12] M13 := by
              intro x12 M13 h
              replace h := hP14 x12 M13 h
              exact g_iret C hR dX9_told_83 h
            refine g_ic_ne (t := 76) C dX9_told_63 (by decide) (fun c16 => ?_) (fun c16 => ?_)
            · replace h := h.1 c16
              refine g_aloadn C dX9_told_76 0 rfl ?_
              refine gf_9_9 C dX9_told_77 wd_347 hT0 ?_
              refine gf_6_3 C dX9_told_80 wd_297 (gt_9_9 hT0) ?_
              refine g_sub [] [] rfl ?_
              exact J15 (M9 (c0 + 226) 3) M9 h
            · replace h := h.2 c16
              refine g_aloadn C dX9_told_66 0 rfl ?_
              refine gf_9_9 C dX9_told_67 wd_347 hT0 ?_
              refine gf_6_2 C dX9_told_70 wd_295 (gt_9_9 hT0) ?_
              refine g_goto (t := 83) C dX9_told_73 (by decide) ?_
              refine g_sub [] [] rfl ?_
              exact J15 (M9 (c0 + 226) 2) M9 h
          · replace h := h.2 c11
            refine g_aloadn C dX9_told_53 0 rfl ?_
            refine gf_9_9 C dX9_told_54 wd_347 hT0 ?_
            refine gf_6_1 C dX9_told_57 wd_293 (gt_9_9 hT0) ?_
            exact g_iret C hR dX9_told_60 h
        · replace h := h.2 c10
          refine g_iconst C dX9_told_47 gRc_m1 ?_
          exact g_iret C hR dX9_told_48 h
      · replace h := h.2 c8
        refine g_sub [] [] rfl ?_
        exact J6 M1 h
  · replace h := h.2 c3
    refine g_bipush C dX9_told_9 gRc_m2 gRb_m2 ?_
    exact g_iret C hR dX9_told_11 h

set_option maxRecDepth 100000 in
set_option maxHeartbeats 4000000 in
theorem sX9_why {l : Launch} {V : gW} (hD : gD V) (c0 a1 a2 a3 : Int) (M0 : gMem) (K : Int → gMem → Prop) (hT0 : gT c0 9) (h : wX9_why c0 a1 a2 a3 K M0) (hM : gOM M0) (ho : ∀ q ∈ ([gI a1, gI a2, gI a3] : List gSV), gOK q) : gMi l V yX9_why cX9_why 4 (some .int) 4 92 [gF c0, gI a1, gI a2, gI a3] M0 K := by
  refine gMi_of hD (by decide) (Nat.le_of_ble_eq_true rfl) [(0, gF c0), (1, gI a1), (2, gI a2), (3, gI a3)] rfl (gok_L rfl (gok_n (q := gF c0) trivial ho)) hM (fun X C hR => ?_)
  unfold wX9_why at h
  refine g_aloadn C dX9_why_0 0 rfl ?_
  refine g_iloadn C dX9_why_1 1 rfl ?_
  refine g_iloadn C dX9_why_2 2 rfl ?_
  refine g_cVi (st := []) C dX9_why_3 ykX9_bothThere wd_554 ⟨by decide, by decide⟩ [gI a1, gI a2] rfl (Nat.le_of_ble_eq_true rfl) hT0 (fun hM ho => sX9_bothThere hD c0 a1 a2 M0 _ hT0 h hM ho) (fun r2 M1 h => ?_)
  refine g_if_ne (t := 12) C dX9_why_6 (by decide) (fun c3 => ?_) (fun c3 => ?_)
  · replace h := h.1 c3
    refine g_iloadn C dX9_why_12 3 rfl ?_
    obtain ⟨P5, h, hP5⟩ := h
    have J6 : ∀ (M4 : gMem), P5 M4 → gG X V 4 21 [] [] M4 := by
      intro M4 h
      replace h := hP5 M4 h
      refine g_bipush C dX9_why_21 gRc_m3 gRb_m3 ?_
      exact g_iret C hR dX9_why_23 h
    refine g_if_lt (t := 21) C dX9_why_13 (by decide) (fun c7 => ?_) (fun c7 => ?_)
    · replace h := h.1 c7
      refine g_sub [] [] rfl ?_
      exact J6 M1 h
    · replace h := h.2 c7
      refine g_iloadn C dX9_why_16 3 rfl ?_
      refine g_iconst C dX9_why_17 gRc_2 ?_
      refine g_ic_le (t := 24) C dX9_why_18 (by decide) (fun c8 => ?_) (fun c8 => ?_)
      · replace h := h.1 c8
        refine g_aloadn C dX9_why_24 0 rfl ?_
        refine gf_9_9 C dX9_why_25 wd_347 hT0 ?_
        refine g_aloadn C dX9_why_28 0 rfl ?_
        refine gf_9_4 C dX9_why_29 wd_342 hT0 ?_
        refine g_iloadn C dX9_why_32 1 rfl ?_
        refine g_iloadn C dX9_why_33 2 rfl ?_
        refine g_cVv (st := []) C dX9_why_34 ykX6_tell wd_797 ⟨by decide, by decide⟩ [gF (c0 + 35), gI a1, gI a2] rfl (Nat.le_of_ble_eq_true rfl) (gt_9_9 hT0) (fun hM ho => sX6_tell hD (c0 + 226) (c0 + 35) a1 a2 M1 _ (gt_9_9 hT0) (gt_9_4 hT0) h hM ho) (fun M9 h => ?_)
        refine g_aloadn C dX9_why_37 0 rfl ?_
        refine gf_9_9 C dX9_why_38 wd_347 hT0 ?_
        refine gf_6_0 C dX9_why_41 wd_291 (gt_9_9 hT0) ?_
        refine g_if_ne (t := 49) C dX9_why_44 (by decide) (fun c10 => ?_) (fun c10 => ?_)
        · replace h := h.1 c10
          refine g_iloadn C dX9_why_49 3 rfl ?_
          refine g_if_ne (t := 61) C dX9_why_50 (by decide) (fun c11 => ?_) (fun c11 => ?_)
          · replace h := h.1 c11
            refine g_iloadn C dX9_why_61 3 rfl ?_
            refine g_iconst C dX9_why_62 gRc_1 ?_
            obtain ⟨P14, h, hP14⟩ := h
            have J15 : ∀ (x12 : Int) (M13 : gMem), P14 x12 M13 → gG X V 4 83 [] [gI x12] M13 := by
              intro x12 M13 h
              replace h := hP14 x12 M13 h
              exact g_iret C hR dX9_why_83 h
            refine g_ic_ne (t := 76) C dX9_why_63 (by decide) (fun c16 => ?_) (fun c16 => ?_)
            · replace h := h.1 c16
              refine g_aloadn C dX9_why_76 0 rfl ?_
              refine gf_9_9 C dX9_why_77 wd_347 hT0 ?_
              refine gf_6_4 C dX9_why_80 wd_299 (gt_9_9 hT0) ?_
              refine g_sub [] [] rfl ?_
              exact J15 (M9 (c0 + 226) 4) M9 h
            · replace h := h.2 c16
              refine g_aloadn C dX9_why_66 0 rfl ?_
              refine gf_9_9 C dX9_why_67 wd_347 hT0 ?_
              refine gf_6_3 C dX9_why_70 wd_297 (gt_9_9 hT0) ?_
              refine g_goto (t := 83) C dX9_why_73 (by decide) ?_
              refine g_sub [] [] rfl ?_
              exact J15 (M9 (c0 + 226) 3) M9 h
          · replace h := h.2 c11
            refine g_aloadn C dX9_why_53 0 rfl ?_
            refine gf_9_9 C dX9_why_54 wd_347 hT0 ?_
            refine gf_6_0 C dX9_why_57 wd_291 (gt_9_9 hT0) ?_
            exact g_iret C hR dX9_why_60 h
        · replace h := h.2 c10
          refine g_iconst C dX9_why_47 gRc_m1 ?_
          exact g_iret C hR dX9_why_48 h
      · replace h := h.2 c8
        refine g_sub [] [] rfl ?_
        exact J6 M1 h
  · replace h := h.2 c3
    refine g_bipush C dX9_why_9 gRc_m2 gRb_m2 ?_
    exact g_iret C hR dX9_why_11 h

set_option maxRecDepth 100000 in
set_option maxHeartbeats 4000000 in
theorem sX9_stepsBetween {l : Launch} {V : gW} (hD : gD V) (c0 a1 a2 : Int) (M0 : gMem) (K : Int → gMem → Prop) (hT0 : gT c0 9) (h : wX9_stepsBetween c0 a1 a2 K M0) (hM : gOM M0) (ho : ∀ q ∈ ([gI a1, gI a2] : List gSV), gOK q) : gMi l V yX9_stepsBetween cX9_stepsBetween 5 (some .int) 4 119 [gF c0, gI a1, gI a2] M0 K := by
  refine gMi_of hD (by decide) (Nat.le_of_ble_eq_true rfl) [(0, gF c0), (1, gI a1), (2, gI a2)] rfl (gok_L rfl (gok_n (q := gF c0) trivial ho)) hM (fun X C hR => ?_)
  unfold wX9_stepsBetween at h
  refine g_iloadn C dX9_stepsBetween_0 1 rfl ?_
  refine g_istoren C [(3, gI a1), (0, gF c0), (1, gI a1), (2, gI a2)] dX9_stepsBetween_1 (by decide) rfl ?_
  refine g_iconst C dX9_stepsBetween_2 gRc_0 ?_
  refine g_istore C [(4, gI 0), (3, gI a1), (0, gF c0), (1, gI a1), (2, gI a2)] dX9_stepsBetween_3 (by decide) rfl ?_
  refine g_sub [(0, gF c0), (2, gI a2), (3, gI a1), (4, gI 0)] [2, 4, 1, 0] rfl ?_
  refine gL2_go (Gd := fun (v1 : Int) (v2 : Int) (M3 : gMem) => gG X V 5 5 [(0, gF c0), (2, gI a2), (3, gI v1), (4, gI v2)] [] M3) (fun rec4 hrec4 v1 v2 M3 h => ?_) h
  refine g_iload C dX9_stepsBetween_5 3 rfl ?_
  refine g_bipush C dX9_stepsBetween_7 gRc_12 gRb_12 ?_
  obtain ⟨P6, h, hP6⟩ := h
  have J7 : ∀ (M5 : gMem), P6 M5 → gG X V 5 35 [(4, gI v2)] [] M5 := by
    intro M5 h
    replace h := hP6 M5 h
    refine g_iload C dX9_stepsBetween_35 0 rfl ?_
    exact g_iret C hR dX9_stepsBetween_37 h
  refine g_ic_ge (t := 35) C dX9_stepsBetween_9 (by decide) (fun c8 => ?_) (fun c8 => ?_)
  · replace h := h.1 c8
    refine g_sub [(4, gI v2)] [3] rfl ?_
    exact J7 M3 h
  · replace h := h.2 c8
    refine g_iloadn C dX9_stepsBetween_12 2 rfl ?_
    refine g_iloadn C dX9_stepsBetween_13 1 rfl ?_
    refine g_ic_eq (t := 35) C dX9_stepsBetween_14 (by decide) (fun c9 => ?_) (fun c9 => ?_)
    · replace h := h.1 c9
      refine g_sub [(4, gI v2)] [3] rfl ?_
      exact J7 M3 h
    · replace h := h.2 c9
      refine g_iloadn C dX9_stepsBetween_17 2 rfl ?_
      refine g_iconst C dX9_stepsBetween_18 gRc_m1 ?_
      refine g_ic_eq (t := 35) C dX9_stepsBetween_19 (by decide) (fun c10 => ?_) (fun c10 => ?_)
      · replace h := h.1 c10
        refine g_sub [(4, gI v2)] [3] rfl ?_
        exact J7 M3 h
      · replace h := h.2 c10
        refine g_aloadn C dX9_stepsBetween_22 0 rfl ?_
        refine g_iloadn C dX9_stepsBetween_23 2 rfl ?_
        refine g_iloadn C dX9_stepsBetween_24 1 rfl ?_
        refine g_cVi (st := []) C dX9_stepsBetween_25 ykX9_stepTowards wd_731 ⟨by decide, by decide⟩ [gI v1, gI a2] rfl (Nat.le_of_ble_eq_true rfl) hT0 (fun hM ho => sX9_stepTowards hD c0 v1 a2 M3 _ hT0 h hM ho) (fun r12 M11 h => ?_)
        refine g_istoren C [(3, gI r12), (0, gF c0), (2, gI a2), (4, gI v2)] dX9_stepsBetween_28 (by decide) rfl ?_
        refine g_iinc C [(4, gI (v2 + 1)), (3, gI r12), (0, gF c0), (2, gI a2)] dX9_stepsBetween_29 3 rfl (by decide) h.1 rfl ?_
        replace h := h.2
        refine g_goto (t := 5) C dX9_stepsBetween_32 (by decide) ?_
        refine g_sub [(0, gF c0), (2, gI a2), (3, gI r12), (4, gI (v2 + 1))] [2, 3, 1, 0] rfl ?_
        exact hrec4 r12 (v2 + 1) M11 h

set_option maxRecDepth 100000 in
set_option maxHeartbeats 4000000 in
theorem sX9_nodeAfter {l : Launch} {V : gW} (hD : gD V) (c0 a1 a2 a3 : Int) (M0 : gMem) (K : Int → gMem → Prop) (hT0 : gT c0 9) (h : wX9_nodeAfter c0 a1 a2 a3 K M0) (hM : gOM M0) (ho : ∀ q ∈ ([gI a1, gI a2, gI a3] : List gSV), gOK q) : gMi l V yX9_nodeAfter cX9_nodeAfter 6 (some .int) 4 119 [gF c0, gI a1, gI a2, gI a3] M0 K := by
  refine gMi_of hD (by decide) (Nat.le_of_ble_eq_true rfl) [(0, gF c0), (1, gI a1), (2, gI a2), (3, gI a3)] rfl (gok_L rfl (gok_n (q := gF c0) trivial ho)) hM (fun X C hR => ?_)
  unfold wX9_nodeAfter at h
  refine g_iloadn C dX9_nodeAfter_0 1 rfl ?_
  refine g_istore C [(4, gI a1), (0, gF c0), (1, gI a1), (2, gI a2), (3, gI a3)] dX9_nodeAfter_1 (by decide) rfl ?_
  refine g_iconst C dX9_nodeAfter_3 gRc_0 ?_
  refine g_istore C [(5, gI 0), (4, gI a1), (0, gF c0), (1, gI a1), (2, gI a2), (3, gI a3)] dX9_nodeAfter_4 (by decide) rfl ?_
  refine g_sub [(0, gF c0), (2, gI a2), (3, gI a3), (4, gI a1), (5, gI 0)] [2, 4, 5, 1, 0] rfl ?_
  refine gL2_go (Gd := fun (v1 : Int) (v2 : Int) (M3 : gMem) => gG X V 6 6 [(0, gF c0), (2, gI a2), (3, gI a3), (4, gI v1), (5, gI v2)] [] M3) (fun rec4 hrec4 v1 v2 M3 h => ?_) h
  refine g_iload C dX9_nodeAfter_6 4 rfl ?_
  refine g_iloadn C dX9_nodeAfter_8 2 rfl ?_
  obtain ⟨P6, h, hP6⟩ := h
  have J7 : ∀ (M5 : gMem), P6 M5 → gG X V 6 40 [(4, gI v1)] [] M5 := by
    intro M5 h
    replace h := hP6 M5 h
    refine g_iload C dX9_nodeAfter_40 0 rfl ?_
    exact g_iret C hR dX9_nodeAfter_42 h
  refine g_ic_ge (t := 40) C dX9_nodeAfter_9 (by decide) (fun c8 => ?_) (fun c8 => ?_)
  · replace h := h.1 c8
    refine g_sub [(4, gI v1)] [3] rfl ?_
    exact J7 M3 h
  · replace h := h.2 c8
    refine g_iload C dX9_nodeAfter_12 4 rfl ?_
    refine g_bipush C dX9_nodeAfter_14 gRc_12 gRb_12 ?_
    refine g_ic_ge (t := 40) C dX9_nodeAfter_16 (by decide) (fun c9 => ?_) (fun c9 => ?_)
    · replace h := h.1 c9
      refine g_sub [(4, gI v1)] [3] rfl ?_
      exact J7 M3 h
    · replace h := h.2 c9
      refine g_iload C dX9_nodeAfter_19 3 rfl ?_
      refine g_iconst C dX9_nodeAfter_21 gRc_m1 ?_
      refine g_ic_eq (t := 40) C dX9_nodeAfter_22 (by decide) (fun c10 => ?_) (fun c10 => ?_)
      · replace h := h.1 c10
        refine g_sub [(4, gI v1)] [3] rfl ?_
        exact J7 M3 h
      · replace h := h.2 c10
        refine g_aloadn C dX9_nodeAfter_25 0 rfl ?_
        refine g_iload C dX9_nodeAfter_26 3 rfl ?_
        refine g_iloadn C dX9_nodeAfter_28 1 rfl ?_
        refine g_cVi (st := []) C dX9_nodeAfter_29 ykX9_stepTowards wd_731 ⟨by decide, by decide⟩ [gI v1, gI a2] rfl (Nat.le_of_ble_eq_true rfl) hT0 (fun hM ho => sX9_stepTowards hD c0 v1 a2 M3 _ hT0 h hM ho) (fun r12 M11 h => ?_)
        refine g_istore C [(4, gI r12), (0, gF c0), (2, gI a2), (3, gI a3), (5, gI v2)] dX9_nodeAfter_32 (by decide) rfl ?_
        refine g_iinc C [(5, gI (v2 + 1)), (4, gI r12), (0, gF c0), (2, gI a2), (3, gI a3)] dX9_nodeAfter_34 4 rfl (by decide) h.1 rfl ?_
        replace h := h.2
        refine g_goto (t := 6) C dX9_nodeAfter_37 (by decide) ?_
        refine g_sub [(0, gF c0), (2, gI a2), (3, gI a3), (4, gI r12), (5, gI (v2 + 1))] [2, 3, 4, 1, 0] rfl ?_
        exact hrec4 r12 (v2 + 1) M11 h

set_option maxRecDepth 100000 in
set_option maxHeartbeats 4000000 in
theorem sX9_route {l : Launch} {V : gW} (hD : gD V) (c0 a1 a2 a3 : Int) (M0 : gMem) (K : Int → gMem → Prop) (hT0 : gT c0 9) (h : wX9_route c0 a1 a2 a3 K M0) (hM : gOM M0) (ho : ∀ q ∈ ([gI a1, gI a2, gI a3] : List gSV), gOK q) : gMi l V yX9_route cX9_route 6 (some .int) 5 144 [gF c0, gI a1, gI a2, gI a3] M0 K := by
  refine gMi_of hD (by decide) (Nat.le_of_ble_eq_true rfl) [(0, gF c0), (1, gI a1), (2, gI a2), (3, gI a3)] rfl (gok_L rfl (gok_n (q := gF c0) trivial ho)) hM (fun X C hR => ?_)
  unfold wX9_route at h
  refine g_aloadn C dX9_route_0 0 rfl ?_
  refine g_iloadn C dX9_route_1 1 rfl ?_
  refine g_iloadn C dX9_route_2 2 rfl ?_
  refine g_cVi (st := []) C dX9_route_3 ykX9_bothThere wd_554 ⟨by decide, by decide⟩ [gI a1, gI a2] rfl (Nat.le_of_ble_eq_true rfl) hT0 (fun hM ho => sX9_bothThere hD c0 a1 a2 M0 _ hT0 h hM ho) (fun r2 M1 h => ?_)
  refine g_if_ne (t := 12) C dX9_route_6 (by decide) (fun c3 => ?_) (fun c3 => ?_)
  · replace h := h.1 c3
    refine g_aloadn C dX9_route_12 0 rfl ?_
    refine gf_9_9 C dX9_route_13 wd_347 hT0 ?_
    refine g_aloadn C dX9_route_16 0 rfl ?_
    refine gf_9_4 C dX9_route_17 wd_342 hT0 ?_
    refine g_iloadn C dX9_route_20 1 rfl ?_
    refine g_iloadn C dX9_route_21 2 rfl ?_
    refine g_cVv (st := []) C dX9_route_22 ykX6_tell wd_797 ⟨by decide, by decide⟩ [gF (c0 + 35), gI a1, gI a2] rfl (Nat.le_of_ble_eq_true rfl) (gt_9_9 hT0) (fun hM ho => sX6_tell hD (c0 + 226) (c0 + 35) a1 a2 M1 _ (gt_9_9 hT0) (gt_9_4 hT0) h hM ho) (fun M4 h => ?_)
    refine g_aloadn C dX9_route_25 0 rfl ?_
    refine gf_9_9 C dX9_route_26 wd_347 hT0 ?_
    refine gf_6_0 C dX9_route_29 wd_291 (gt_9_9 hT0) ?_
    refine g_if_eq (t := 38) C dX9_route_32 (by decide) (fun c5 => ?_) (fun c5 => ?_)
    · replace h := h.1 c5
      refine g_aloadn C dX9_route_38 0 rfl ?_
      refine gf_9_9 C dX9_route_39 wd_347 hT0 ?_
      refine gf_6_2 C dX9_route_42 wd_295 (gt_9_9 hT0) ?_
      obtain ⟨v6, ev6⟩ : ∃ x : Int, x = (M4 (c0 + 226) 2) := ⟨_, rfl⟩
      refine g_nm ev6 ?_
      replace h := h v6 ev6
      refine g_istore C [(4, gI v6), (0, gF c0), (1, gI a1), (2, gI a2), (3, gI a3)] dX9_route_45 (by decide) rfl ?_
      refine g_aloadn C dX9_route_47 1 rfl ?_
      refine gf_9_7 C dX9_route_48 wd_345 hT0 ?_
      refine g_aloadn C dX9_route_51 1 rfl ?_
      refine gf_9_0 C dX9_route_52 wd_338 hT0 ?_
      refine g_cVv (st := []) C dX9_route_55 ykX0_follow wd_672 ⟨by decide, by decide⟩ [gF (c0 + 1)] rfl (Nat.le_of_ble_eq_true rfl) (gt_9_7 hT0) (fun hM ho => sX0_follow hD (c0 + 195) (c0 + 1) M4 _ (gt_9_7 hT0) (gt_9_0 hT0) h hM ho) (fun M7 h => ?_)
      refine g_aloadn C dX9_route_58 1 rfl ?_
      refine gf_9_7 C dX9_route_59 wd_345 hT0 ?_
      refine g_iloadn C dX9_route_62 2 rfl ?_
      refine g_iload C dX9_route_63 0 rfl ?_
      refine g_cVi (st := []) C dX9_route_65 ykX0_between wd_679 ⟨by decide, by decide⟩ [gI a1, gI v6] rfl (Nat.le_of_ble_eq_true rfl) (gt_9_7 hT0) (fun hM ho => sX0_between hD (c0 + 195) a1 v6 M7 _ (gt_9_7 hT0) h hM ho) (fun r9 M8 h => ?_)
      refine g_iconst C dX9_route_68 gRc_m1 ?_
      obtain ⟨P11, h, hP11⟩ := h
      have J12 : ∀ (M10 : gMem), P11 M10 → gG X V 6 86 [] [] M10 := by
        intro M10 h
        replace h := hP11 M10 h
        refine g_bipush C dX9_route_86 gRc_m4 gRb_m4 ?_
        exact g_iret C hR dX9_route_88 h
      refine g_ic_eq (t := 86) C dX9_route_69 (by decide) (fun c13 => ?_) (fun c13 => ?_)
      · replace h := h.1 c13
        refine g_sub [] [] rfl ?_
        exact J12 M8 h
      · replace h := h.2 c13
        refine g_aloadn C dX9_route_72 1 rfl ?_
        refine gf_9_7 C dX9_route_73 wd_345 hT0 ?_
        refine g_iload C dX9_route_76 0 rfl ?_
        refine g_iloadn C dX9_route_78 3 rfl ?_
        refine g_cVi (st := []) C dX9_route_79 ykX0_between wd_679 ⟨by decide, by decide⟩ [gI v6, gI a2] rfl (Nat.le_of_ble_eq_true rfl) (gt_9_7 hT0) (fun hM ho => sX0_between hD (c0 + 195) v6 a2 M8 _ (gt_9_7 hT0) h hM ho) (fun r15 M14 h => ?_)
        refine g_iconst C dX9_route_82 gRc_m1 ?_
        refine g_ic_ne (t := 89) C dX9_route_83 (by decide) (fun c16 => ?_) (fun c16 => ?_)
        · replace h := h.1 c16
          refine g_iloadn C dX9_route_89 4 rfl ?_
          refine g_if_ge (t := 95) C dX9_route_90 (by decide) (fun c17 => ?_) (fun c17 => ?_)
          · replace h := h.1 c17
            refine g_aloadn C dX9_route_95 1 rfl ?_
            refine g_iloadn C dX9_route_96 2 rfl ?_
            refine g_iload C dX9_route_97 0 rfl ?_
            refine g_cVi (st := []) C dX9_route_99 ykX9_stepsBetween wd_817 ⟨by decide, by decide⟩ [gI a1, gI v6] rfl (Nat.le_of_ble_eq_true rfl) hT0 (fun hM ho => sX9_stepsBetween hD c0 a1 v6 M14 _ hT0 h hM ho) (fun r19 M18 h => ?_)
            refine g_istore C [(5, gI r19), (4, gI v6), (0, gF c0), (1, gI a1), (2, gI a2), (3, gI a3)] dX9_route_102 (by decide) rfl ?_
            refine g_iloadn C dX9_route_104 5 rfl ?_
            refine g_iload C dX9_route_105 0 rfl ?_
            refine g_ic_gt (t := 119) C dX9_route_107 (by decide) (fun c20 => ?_) (fun c20 => ?_)
            · replace h := h.1 c20
              refine g_iloadn C dX9_route_119 5 rfl ?_
              refine g_iload C dX9_route_120 0 rfl ?_
              refine g_isub C dX9_route_122 h.1 ?_
              replace h := h.2
              refine g_aloadn C dX9_route_123 2 rfl ?_
              refine g_iload C dX9_route_124 1 rfl ?_
              refine g_iloadn C dX9_route_126 4 rfl ?_
              refine g_cVi (st := [gI (a3 - r19)]) C dX9_route_127 ykX9_stepsBetween wd_817 ⟨by decide, by decide⟩ [gI v6, gI a2] rfl (Nat.le_of_ble_eq_true rfl) hT0 (fun hM ho => sX9_stepsBetween hD c0 v6 a2 M18 _ hT0 h hM ho) (fun r22 M21 h => ?_)
              obtain ⟨P25, h, hP25⟩ := h
              have J26 : ∀ (x23 : Int) (M24 : gMem), P25 x23 M24 → gG X V 6 148 [] [gI x23] M24 := by
                intro x23 M24 h
                replace h := hP25 x23 M24 h
                exact g_iret C hR dX9_route_148 h
              refine g_ic_gt (t := 147) C dX9_route_130 (by decide) (fun c27 => ?_) (fun c27 => ?_)
              · replace h := h.1 c27
                refine g_iconst C dX9_route_147 gRc_m1 ?_
                refine g_sub [] [] rfl ?_
                exact J26 (-1) M21 h
              · replace h := h.2 c27
                refine g_aloadn C dX9_route_133 2 rfl ?_
                refine g_iload C dX9_route_134 1 rfl ?_
                refine g_iloadn C dX9_route_136 4 rfl ?_
                refine g_iloadn C dX9_route_137 5 rfl ?_
                refine g_iload C dX9_route_138 0 rfl ?_
                refine g_isub C dX9_route_140 h.1 ?_
                replace h := h.2
                refine g_cVi (st := []) C dX9_route_141 ykX9_nodeAfter wd_821 ⟨by decide, by decide⟩ [gI v6, gI a2, gI (a3 - r19)] rfl (Nat.le_of_ble_eq_true rfl) hT0 (fun hM ho => sX9_nodeAfter hD c0 v6 a2 (a3 - r19) M21 _ hT0 h hM ho) (fun r29 M28 h => ?_)
                refine g_goto (t := 148) C dX9_route_144 (by decide) ?_
                refine g_sub [] [] rfl ?_
                exact J26 r29 M28 h
            · replace h := h.2 c20
              refine g_aloadn C dX9_route_110 2 rfl ?_
              refine g_iloadn C dX9_route_111 3 rfl ?_
              refine g_iload C dX9_route_112 1 rfl ?_
              refine g_iloadn C dX9_route_114 5 rfl ?_
              refine g_cVi (st := []) C dX9_route_115 ykX9_nodeAfter wd_821 ⟨by decide, by decide⟩ [gI a1, gI v6, gI a3] rfl (Nat.le_of_ble_eq_true rfl) hT0 (fun hM ho => sX9_nodeAfter hD c0 a1 v6 a3 M18 _ hT0 h hM ho) (fun r31 M30 h => ?_)
              exact g_iret C hR dX9_route_118 h
          · replace h := h.2 c17
            refine g_iconst C dX9_route_93 gRc_m1 ?_
            exact g_iret C hR dX9_route_94 h
        · replace h := h.2 c16
          refine g_sub [] [] rfl ?_
          exact J12 M14 h
    · replace h := h.2 c5
      refine g_bipush C dX9_route_35 gRc_m4 gRb_m4 ?_
      exact g_iret C hR dX9_route_37 h
  · replace h := h.2 c3
    refine g_bipush C dX9_route_9 gRc_m2 gRb_m2 ?_
    exact g_iret C hR dX9_route_11 h

set_option maxRecDepth 100000 in
set_option maxHeartbeats 4000000 in
theorem sX9_weighTold {l : Launch} {V : gW} (hD : gD V) (c0 : Int) (M0 : gMem) (K : Int → gMem → Prop) (hT0 : gT c0 9) (h : wX9_weighTold c0 K M0) (hM : gOM M0) (ho : ∀ q ∈ ([] : List gSV), gOK q) : gMi l V yX9_weighTold cX9_weighTold 5 (some .int) 4 93 [gF c0] M0 K := by
  refine gMi_of hD (by decide) (Nat.le_of_ble_eq_true rfl) [(0, gF c0)] rfl (gok_L rfl (gok_n (q := gF c0) trivial ho)) hM (fun X C hR => ?_)
  unfold wX9_weighTold at h
  refine g_aloadn C dX9_weighTold_0 0 rfl ?_
  refine gf_9_7 C dX9_weighTold_1 wd_345 hT0 ?_
  refine g_aloadn C dX9_weighTold_4 0 rfl ?_
  refine gf_9_0 C dX9_weighTold_5 wd_338 hT0 ?_
  refine g_cVv (st := []) C dX9_weighTold_8 ykX0_follow wd_672 ⟨by decide, by decide⟩ [gF (c0 + 1)] rfl (Nat.le_of_ble_eq_true rfl) (gt_9_7 hT0) (fun hM ho => sX0_follow hD (c0 + 195) (c0 + 1) M0 _ (gt_9_7 hT0) (gt_9_0 hT0) h hM ho) (fun M1 h => ?_)
  refine g_aloadn C dX9_weighTold_11 0 rfl ?_
  refine gf_9_10 C dX9_weighTold_12 wd_348 hT0 ?_
  refine g_cVv (st := []) C dX9_weighTold_15 ykX4_clear wd_747 ⟨by decide, by decide⟩ [] rfl (Nat.le_of_ble_eq_true rfl) (gt_9_10 hT0) (fun hM ho => sX4_clear hD (c0 + 227) M1 _ (gt_9_10 hT0) h hM ho) (fun M2 h => ?_)
  refine g_iconst C dX9_weighTold_18 gRc_0 ?_
  refine g_istoren C [(1, gI 0), (0, gF c0)] dX9_weighTold_19 (by decide) rfl ?_
  refine g_iconst C dX9_weighTold_20 gRc_0 ?_
  refine g_istoren C [(2, gI 0), (1, gI 0), (0, gF c0)] dX9_weighTold_21 (by decide) rfl ?_
  refine g_sub [(0, gF c0), (1, gI 0), (2, gI 0)] [2, 1, 0] rfl ?_
  refine gL2_go (Gd := fun (v3 : Int) (v4 : Int) (M5 : gMem) => gG X V 5 22 [(0, gF c0), (1, gI v3), (2, gI v4)] [] M5) (fun rec6 hrec6 v3 v4 M5 h => ?_) h
  refine g_iloadn C dX9_weighTold_22 2 rfl ?_
  refine g_aloadn C dX9_weighTold_23 0 rfl ?_
  refine gf_9_0 C dX9_weighTold_24 wd_338 hT0 ?_
  refine gf_1_0 C dX9_weighTold_27 wd_108 (gt_9_0 hT0) ?_
  refine g_ic_ge (t := 127) C dX9_weighTold_30 (by decide) (fun c7 => ?_) (fun c7 => ?_)
  · replace h := h.1 c7
    refine g_iloadn C dX9_weighTold_127 1 rfl ?_
    exact g_iret C hR dX9_weighTold_128 h
  · replace h := h.2 c7
    refine g_iloadn C dX9_weighTold_33 2 rfl ?_
    refine g_iconst C dX9_weighTold_34 gRc_1 ?_
    refine g_iadd C dX9_weighTold_35 h.1 ?_
    replace h := h.2
    obtain ⟨v8, ev8⟩ : ∃ x : Int, x = (v4 + 1) := ⟨_, rfl⟩
    refine g_nm ev8 ?_
    replace h := h v8 ev8
    refine g_istoren C [(3, gI v8), (0, gF c0), (1, gI v3), (2, gI v4)] dX9_weighTold_36 (by decide) rfl ?_
    refine g_sub [(0, gF c0), (1, gI v3), (2, gI v4), (3, gI v8)] [1, 2, 3, 0] rfl ?_
    refine gL2_go (Gd := fun (v9 : Int) (v10 : Int) (M11 : gMem) => gG X V 5 37 [(0, gF c0), (1, gI v9), (2, gI v4), (3, gI v10)] [] M11) (fun rec12 hrec12 v9 v10 M11 h => ?_) h
    refine g_iloadn C dX9_weighTold_37 3 rfl ?_
    refine g_aloadn C dX9_weighTold_38 0 rfl ?_
    refine gf_9_0 C dX9_weighTold_39 wd_338 hT0 ?_
    refine gf_1_0 C dX9_weighTold_42 wd_108 (gt_9_0 hT0) ?_
    refine g_ic_ge (t := 121) C dX9_weighTold_45 (by decide) (fun c13 => ?_) (fun c13 => ?_)
    · replace h := h.1 c13
      refine g_iinc C [(2, gI (v4 + 1)), (0, gF c0), (1, gI v9), (3, gI v10)] dX9_weighTold_121 2 rfl (by decide) h.1 rfl ?_
      replace h := h.2
      refine g_goto (t := 22) C dX9_weighTold_124 (by decide) ?_
      refine g_sub [(0, gF c0), (1, gI v9), (2, gI (v4 + 1))] [1, 2, 0] rfl ?_
      exact hrec6 v9 (v4 + 1) M11 h
    · replace h := h.2 c13
      refine g_aloadn C dX9_weighTold_48 0 rfl ?_
      refine gf_9_7 C dX9_weighTold_49 wd_345 hT0 ?_
      refine g_iloadn C dX9_weighTold_52 2 rfl ?_
      refine g_iloadn C dX9_weighTold_53 3 rfl ?_
      refine g_cVi (st := []) C dX9_weighTold_54 ykX0_between wd_679 ⟨by decide, by decide⟩ [gI v4, gI v10] rfl (Nat.le_of_ble_eq_true rfl) (gt_9_7 hT0) (fun hM ho => sX0_between hD (c0 + 195) v4 v10 M11 _ (gt_9_7 hT0) h hM ho) (fun r15 M14 h => ?_)
      refine g_istore C [(4, gI r15), (0, gF c0), (1, gI v9), (2, gI v4), (3, gI v10)] dX9_weighTold_57 (by decide) rfl ?_
      refine g_iload C dX9_weighTold_59 0 rfl ?_
      refine g_iconst C dX9_weighTold_61 gRc_m1 ?_
      obtain ⟨P18, h, hP18⟩ := h
      have J19 : ∀ (v16 : Int) (M17 : gMem), P18 v16 M17 → gG X V 5 115 [(0, gF c0), (1, gI v16), (2, gI v4), (3, gI v10)] [] M17 := by
        intro v16 M17 h
        replace h := hP18 v16 M17 h
        refine g_iinc C [(3, gI (v10 + 1)), (0, gF c0), (1, gI v16), (2, gI v4)] dX9_weighTold_115 3 rfl (by decide) h.1 rfl ?_
        replace h := h.2
        refine g_goto (t := 37) C dX9_weighTold_118 (by decide) ?_
        refine g_sub [(0, gF c0), (1, gI v16), (2, gI v4), (3, gI (v10 + 1))] [1, 2, 3, 0] rfl ?_
        exact hrec12 v16 (v10 + 1) M17 h
      refine g_ic_ne (t := 68) C dX9_weighTold_62 (by decide) (fun c20 => ?_) (fun c20 => ?_)
      · replace h := h.1 c20
        refine g_aloadn C dX9_weighTold_68 1 rfl ?_
        refine gf_9_9 C dX9_weighTold_69 wd_347 hT0 ?_
        refine g_aloadn C dX9_weighTold_72 1 rfl ?_
        refine gf_9_4 C dX9_weighTold_73 wd_342 hT0 ?_
        refine g_iloadn C dX9_weighTold_76 3 rfl ?_
        refine g_iloadn C dX9_weighTold_77 4 rfl ?_
        refine g_cVv (st := []) C dX9_weighTold_78 ykX6_tell wd_797 ⟨by decide, by decide⟩ [gF (c0 + 35), gI v4, gI v10] rfl (Nat.le_of_ble_eq_true rfl) (gt_9_9 hT0) (fun hM ho => sX6_tell hD (c0 + 226) (c0 + 35) v4 v10 M14 _ (gt_9_9 hT0) (gt_9_4 hT0) h hM ho) (fun M21 h => ?_)
        refine g_aloadn C dX9_weighTold_81 1 rfl ?_
        refine gf_9_9 C dX9_weighTold_82 wd_347 hT0 ?_
        refine gf_6_0 C dX9_weighTold_85 wd_291 (gt_9_9 hT0) ?_
        refine g_if_ne (t := 112) C dX9_weighTold_88 (by decide) (fun c22 => ?_) (fun c22 => ?_)
        · replace h := h.1 c22
          refine g_iinc C [(1, gI (v9 + 1)), (4, gI r15), (0, gF c0), (2, gI v4), (3, gI v10)] dX9_weighTold_112 2 rfl (by decide) h.1 rfl ?_
          replace h := h.2
          refine g_sub [(0, gF c0), (1, gI (v9 + 1)), (2, gI v4), (3, gI v10)] [2, 0, 3, 4] rfl ?_
          exact J19 (v9 + 1) M21 h
        · replace h := h.2 c22
          refine g_aloadn C dX9_weighTold_91 1 rfl ?_
          refine gf_9_10 C dX9_weighTold_92 wd_348 hT0 ?_
          refine g_aloadn C dX9_weighTold_95 1 rfl ?_
          refine gf_9_9 C dX9_weighTold_96 wd_347 hT0 ?_
          refine gf_6_1 C dX9_weighTold_99 wd_293 (gt_9_9 hT0) ?_
          refine g_iload C dX9_weighTold_102 0 rfl ?_
          refine g_iloadn C dX9_weighTold_104 3 rfl ?_
          refine g_iloadn C dX9_weighTold_105 4 rfl ?_
          refine g_cVv (st := []) C dX9_weighTold_106 ykX4_offer wd_751 ⟨by decide, by decide⟩ [gI (M21 (c0 + 226) 1), gI r15, gI v4, gI v10] rfl (Nat.le_of_ble_eq_true rfl) (gt_9_10 hT0) (fun hM ho => sX4_offer hD (c0 + 227) (M21 (c0 + 226) 1) r15 v4 v10 M21 _ (gt_9_10 hT0) h hM ho) (fun M23 h => ?_)
          refine g_goto (t := 115) C dX9_weighTold_109 (by decide) ?_
          refine g_sub [(0, gF c0), (1, gI v9), (2, gI v4), (3, gI v10)] [1, 2, 3, 4] rfl ?_
          exact J19 v9 M23 h
      · replace h := h.2 c20
        refine g_goto (t := 115) C dX9_weighTold_65 (by decide) ?_
        refine g_sub [(0, gF c0), (1, gI v9), (2, gI v4), (3, gI v10)] [1, 2, 3, 4] rfl ?_
        exact J19 v9 M14 h

set_option maxRecDepth 100000 in
set_option maxHeartbeats 4000000 in
theorem sX9_pairs {l : Launch} {V : gW} (hD : gD V) (c0 a1 : Int) (M0 : gMem) (K : Int → gMem → Prop) (hT0 : gT c0 9) (h : wX9_pairs c0 a1 K M0) (hM : gOM M0) (ho : ∀ q ∈ ([gI a1] : List gSV), gOK q) : gMi l V yX9_pairs cX9_pairs 3 (some .int) 5 117 [gF c0, gI a1] M0 K := by
  refine gMi_of hD (by decide) (Nat.le_of_ble_eq_true rfl) [(0, gF c0), (1, gI a1)] rfl (gok_L rfl (gok_n (q := gF c0) trivial ho)) hM (fun X C hR => ?_)
  unfold wX9_pairs at h
  refine g_iloadn C dX9_pairs_0 1 rfl ?_
  obtain ⟨P2, h, hP2⟩ := h
  have J3 : ∀ (M1 : gMem), P2 M1 → gG X V 3 9 [] [] M1 := by
    intro M1 h
    replace h := hP2 M1 h
    refine g_bipush C dX9_pairs_9 gRc_m3 gRb_m3 ?_
    exact g_iret C hR dX9_pairs_11 h
  refine g_if_lt (t := 9) C dX9_pairs_1 (by decide) (fun c4 => ?_) (fun c4 => ?_)
  · replace h := h.1 c4
    refine g_sub [] [] rfl ?_
    exact J3 M0 h
  · replace h := h.2 c4
    refine g_iloadn C dX9_pairs_4 1 rfl ?_
    refine g_iconst C dX9_pairs_5 gRc_3 ?_
    refine g_ic_le (t := 12) C dX9_pairs_6 (by decide) (fun c5 => ?_) (fun c5 => ?_)
    · replace h := h.1 c5
      refine g_aloadn C dX9_pairs_12 0 rfl ?_
      refine g_cVi (st := []) C dX9_pairs_13 ykX9_weighTold wd_829 ⟨by decide, by decide⟩ [] rfl (Nat.le_of_ble_eq_true rfl) hT0 (fun hM ho => sX9_weighTold hD c0 M0 _ hT0 h hM ho) (fun r7 M6 h => ?_)
      refine g_istoren C [(2, gI r7), (0, gF c0), (1, gI a1)] dX9_pairs_16 (by decide) rfl ?_
      refine g_iloadn C dX9_pairs_17 2 rfl ?_
      refine g_iconst C dX9_pairs_18 gRc_3 ?_
      refine g_ic_ne (t := 24) C dX9_pairs_19 (by decide) (fun c8 => ?_) (fun c8 => ?_)
      · replace h := h.1 c8
        refine g_iloadn C dX9_pairs_24 2 rfl ?_
        refine g_iconst C dX9_pairs_25 gRc_2 ?_
        refine g_ic_ne (t := 37) C dX9_pairs_26 (by decide) (fun c9 => ?_) (fun c9 => ?_)
        · replace h := h.1 c9
          refine g_aloadn C dX9_pairs_37 1 rfl ?_
          refine gf_9_10 C dX9_pairs_38 wd_348 hT0 ?_
          refine gf_4_4 C dX9_pairs_41 wd_326 (gt_9_10 hT0) ?_
          refine g_if_ne (t := 49) C dX9_pairs_44 (by decide) (fun c10 => ?_) (fun c10 => ?_)
          · replace h := h.1 c10
            refine g_iloadn C dX9_pairs_49 2 rfl ?_
            obtain ⟨P13, h, hP13⟩ := h
            have J14 : ∀ (x11 : Int) (M12 : gMem), P13 x11 M12 → gG X V 3 70 [] [gI x11] M12 := by
              intro x11 M12 h
              replace h := hP13 x11 M12 h
              exact g_iret C hR dX9_pairs_70 h
            refine g_if_ne (t := 63) C dX9_pairs_50 (by decide) (fun c15 => ?_) (fun c15 => ?_)
            · replace h := h.1 c15
              refine g_aloadn C dX9_pairs_63 1 rfl ?_
              refine gf_9_10 C dX9_pairs_64 wd_348 hT0 ?_
              refine gf_4_3 C dX9_pairs_67 wd_324 (gt_9_10 hT0) ?_
              refine g_sub [] [] rfl ?_
              exact J14 (M6 (c0 + 227) 3) M6 h
            · replace h := h.2 c15
              refine g_aloadn C dX9_pairs_53 1 rfl ?_
              refine gf_9_10 C dX9_pairs_54 wd_348 hT0 ?_
              refine gf_4_2 C dX9_pairs_57 wd_322 (gt_9_10 hT0) ?_
              refine g_goto (t := 70) C dX9_pairs_60 (by decide) ?_
              refine g_sub [] [] rfl ?_
              exact J14 (M6 (c0 + 227) 2) M6 h
          · replace h := h.2 c10
            refine g_iconst C dX9_pairs_47 gRc_m1 ?_
            exact g_iret C hR dX9_pairs_48 h
        · replace h := h.2 c9
          refine g_aloadn C dX9_pairs_29 1 rfl ?_
          refine gf_9_10 C dX9_pairs_30 wd_348 hT0 ?_
          refine gf_4_4 C dX9_pairs_33 wd_326 (gt_9_10 hT0) ?_
          exact g_iret C hR dX9_pairs_36 h
      · replace h := h.2 c8
        refine g_iloadn C dX9_pairs_22 0 rfl ?_
        exact g_iret C hR dX9_pairs_23 h
    · replace h := h.2 c5
      refine g_sub [] [] rfl ?_
      exact J3 M0 h

set_option maxRecDepth 100000 in
set_option maxHeartbeats 4000000 in
theorem sX9_parts {l : Launch} {V : gW} (hD : gD V) (c0 : Int) (M0 : gMem) (K : Int → gMem → Prop) (hT0 : gT c0 9) (h : wX9_parts c0 K M0) (hM : gOM M0) (ho : ∀ q ∈ ([] : List gSV), gOK q) : gMi l V yX9_parts cX9_parts 4 (some .int) 3 93 [gF c0] M0 K := by
  refine gMi_of hD (by decide) (Nat.le_of_ble_eq_true rfl) [(0, gF c0)] rfl (gok_L rfl (gok_n (q := gF c0) trivial ho)) hM (fun X C hR => ?_)
  unfold wX9_parts at h
  refine g_aloadn C dX9_parts_0 0 rfl ?_
  refine gf_9_7 C dX9_parts_1 wd_345 hT0 ?_
  refine g_aloadn C dX9_parts_4 0 rfl ?_
  refine gf_9_0 C dX9_parts_5 wd_338 hT0 ?_
  refine g_cVv (st := []) C dX9_parts_8 ykX0_follow wd_672 ⟨by decide, by decide⟩ [gF (c0 + 1)] rfl (Nat.le_of_ble_eq_true rfl) (gt_9_7 hT0) (fun hM ho => sX0_follow hD (c0 + 195) (c0 + 1) M0 _ (gt_9_7 hT0) (gt_9_0 hT0) h hM ho) (fun M1 h => ?_)
  refine g_iconst C dX9_parts_11 gRc_0 ?_
  refine g_istoren C [(1, gI 0), (0, gF c0)] dX9_parts_12 (by decide) rfl ?_
  refine g_iconst C dX9_parts_13 gRc_0 ?_
  refine g_istoren C [(2, gI 0), (1, gI 0), (0, gF c0)] dX9_parts_14 (by decide) rfl ?_
  refine g_sub [(0, gF c0), (1, gI 0), (2, gI 0)] [2, 1, 0] rfl ?_
  refine gL2_go (Gd := fun (v2 : Int) (v3 : Int) (M4 : gMem) => gG X V 4 15 [(0, gF c0), (1, gI v2), (2, gI v3)] [] M4) (fun rec5 hrec5 v2 v3 M4 h => ?_) h
  refine g_iloadn C dX9_parts_15 2 rfl ?_
  refine g_aloadn C dX9_parts_16 0 rfl ?_
  refine gf_9_0 C dX9_parts_17 wd_338 hT0 ?_
  refine gf_1_0 C dX9_parts_20 wd_108 (gt_9_0 hT0) ?_
  refine g_ic_ge (t := 66) C dX9_parts_23 (by decide) (fun c6 => ?_) (fun c6 => ?_)
  · replace h := h.1 c6
    refine g_iloadn C dX9_parts_66 1 rfl ?_
    exact g_iret C hR dX9_parts_67 h
  · replace h := h.2 c6
    refine g_iconst C dX9_parts_26 gRc_0 ?_
    refine g_istoren C [(3, gI 0), (0, gF c0), (1, gI v2), (2, gI v3)] dX9_parts_27 (by decide) rfl ?_
    refine g_sub [(0, gF c0), (1, gI v2), (2, gI v3), (3, gI 0)] [1, 2, 3, 0] rfl ?_
    refine gL1_go (Gd := fun (v7 : Int) (M8 : gMem) => gG X V 4 28 [(0, gF c0), (1, gI v2), (2, gI v3), (3, gI v7)] [] M8) (fun rec9 hrec9 v7 M8 h => ?_) h
    refine g_iloadn C dX9_parts_28 3 rfl ?_
    refine g_iloadn C dX9_parts_29 2 rfl ?_
    obtain ⟨P11, h, hP11⟩ := h
    have J12 : ∀ (M10 : gMem), P11 M10 → gG X V 4 52 [(0, gF c0), (1, gI v2), (2, gI v3), (3, gI v7)] [] M10 := by
      intro M10 h
      replace h := hP11 M10 h
      refine g_iloadn C dX9_parts_52 3 rfl ?_
      refine g_iloadn C dX9_parts_53 2 rfl ?_
      obtain ⟨P15, h, hP15⟩ := h
      have J16 : ∀ (v13 : Int) (M14 : gMem), P15 v13 M14 → gG X V 4 60 [(0, gF c0), (1, gI v13), (2, gI v3)] [] M14 := by
        intro v13 M14 h
        replace h := hP15 v13 M14 h
        refine g_iinc C [(2, gI (v3 + 1)), (0, gF c0), (1, gI v13)] dX9_parts_60 2 rfl (by decide) h.1 rfl ?_
        replace h := h.2
        refine g_goto (t := 15) C dX9_parts_63 (by decide) ?_
        refine g_sub [(0, gF c0), (1, gI v13), (2, gI (v3 + 1))] [1, 2, 0] rfl ?_
        exact hrec5 v13 (v3 + 1) M14 h
      refine g_ic_ne (t := 60) C dX9_parts_54 (by decide) (fun c17 => ?_) (fun c17 => ?_)
      · replace h := h.1 c17
        refine g_sub [(0, gF c0), (1, gI v2), (2, gI v3)] [0, 1, 2] rfl ?_
        exact J16 v2 M10 h
      · replace h := h.2 c17
        refine g_iinc C [(1, gI (v2 + 1)), (0, gF c0), (2, gI v3), (3, gI v7)] dX9_parts_57 1 rfl (by decide) h.1 rfl ?_
        replace h := h.2
        refine g_sub [(0, gF c0), (1, gI (v2 + 1)), (2, gI v3)] [1, 0, 2] rfl ?_
        exact J16 (v2 + 1) M10 h
    refine g_ic_ge (t := 52) C dX9_parts_30 (by decide) (fun c18 => ?_) (fun c18 => ?_)
    · replace h := h.1 c18
      exact J12 M8 h
    · replace h := h.2 c18
      refine g_aloadn C dX9_parts_33 0 rfl ?_
      refine gf_9_7 C dX9_parts_34 wd_345 hT0 ?_
      refine g_iloadn C dX9_parts_37 3 rfl ?_
      refine g_iloadn C dX9_parts_38 2 rfl ?_
      refine g_cVi (st := []) C dX9_parts_39 ykX0_between wd_679 ⟨by decide, by decide⟩ [gI v7, gI v3] rfl (Nat.le_of_ble_eq_true rfl) (gt_9_7 hT0) (fun hM ho => sX0_between hD (c0 + 195) v7 v3 M8 _ (gt_9_7 hT0) h hM ho) (fun r20 M19 h => ?_)
      refine g_iconst C dX9_parts_42 gRc_m1 ?_
      refine g_ic_ne (t := 52) C dX9_parts_43 (by decide) (fun c21 => ?_) (fun c21 => ?_)
      · replace h := h.1 c21
        exact J12 M19 h
      · replace h := h.2 c21
        refine g_iinc C [(3, gI (v7 + 1)), (0, gF c0), (1, gI v2), (2, gI v3)] dX9_parts_46 3 rfl (by decide) h.1 rfl ?_
        replace h := h.2
        refine g_goto (t := 28) C dX9_parts_49 (by decide) ?_
        refine g_sub [(0, gF c0), (1, gI v2), (2, gI v3), (3, gI (v7 + 1))] [1, 2, 3, 0] rfl ?_
        exact hrec9 (v7 + 1) M19 h

set_option maxRecDepth 100000 in
set_option maxHeartbeats 4000000 in
theorem sX9_freshNotes {l : Launch} {V : gW} (hD : gD V) (c0 : Int) (M0 : gMem) (K : Int → gMem → Prop) (hT0 : gT c0 9) (h : wX9_freshNotes c0 K M0) (hM : gOM M0) (ho : ∀ q ∈ ([] : List gSV), gOK q) : gMi l V yX9_freshNotes cX9_freshNotes 3 (some .int) 5 135 [gF c0] M0 K := by
  refine gMi_of hD (by decide) (Nat.le_of_ble_eq_true rfl) [(0, gF c0)] rfl (gok_L rfl (gok_n (q := gF c0) trivial ho)) hM (fun X C hR => ?_)
  unfold wX9_freshNotes at h
  refine g_iconst C dX9_freshNotes_0 gRc_0 ?_
  refine g_istoren C [(1, gI 0), (0, gF c0)] dX9_freshNotes_1 (by decide) rfl ?_
  refine g_iconst C dX9_freshNotes_2 gRc_0 ?_
  refine g_istoren C [(2, gI 0), (1, gI 0), (0, gF c0)] dX9_freshNotes_3 (by decide) rfl ?_
  refine g_sub [(0, gF c0), (1, gI 0), (2, gI 0)] [2, 1, 0] rfl ?_
  refine gL2_go (Gd := fun (v1 : Int) (v2 : Int) (M3 : gMem) => gG X V 3 4 [(0, gF c0), (1, gI v1), (2, gI v2)] [] M3) (fun rec4 hrec4 v1 v2 M3 h => ?_) h
  refine g_iloadn C dX9_freshNotes_4 2 rfl ?_
  refine g_aloadn C dX9_freshNotes_5 0 rfl ?_
  refine gf_9_0 C dX9_freshNotes_6 wd_338 hT0 ?_
  refine gf_1_0 C dX9_freshNotes_9 wd_108 (gt_9_0 hT0) ?_
  refine g_ic_ge (t := 32) C dX9_freshNotes_12 (by decide) (fun c5 => ?_) (fun c5 => ?_)
  · replace h := h.1 c5
    refine g_iloadn C dX9_freshNotes_32 1 rfl ?_
    exact g_iret C hR dX9_freshNotes_33 h
  · replace h := h.2 c5
    refine g_aloadn C dX9_freshNotes_15 0 rfl ?_
    refine g_iloadn C dX9_freshNotes_16 2 rfl ?_
    refine g_cVi (st := []) C dX9_freshNotes_17 ykX9_isFresh wd_772 ⟨by decide, by decide⟩ [gI v2] rfl (Nat.le_of_ble_eq_true rfl) hT0 (fun hM ho => sX9_isFresh hD c0 v2 M3 _ hT0 h hM ho) (fun r7 M6 h => ?_)
    obtain ⟨P10, h, hP10⟩ := h
    have J11 : ∀ (v8 : Int) (M9 : gMem), P10 v8 M9 → gG X V 3 26 [(0, gF c0), (1, gI v8), (2, gI v2)] [] M9 := by
      intro v8 M9 h
      replace h := hP10 v8 M9 h
      refine g_iinc C [(2, gI (v2 + 1)), (0, gF c0), (1, gI v8)] dX9_freshNotes_26 2 rfl (by decide) h.1 rfl ?_
      replace h := h.2
      refine g_goto (t := 4) C dX9_freshNotes_29 (by decide) ?_
      refine g_sub [(0, gF c0), (1, gI v8), (2, gI (v2 + 1))] [1, 2, 0] rfl ?_
      exact hrec4 v8 (v2 + 1) M9 h
    refine g_if_eq (t := 26) C dX9_freshNotes_20 (by decide) (fun c12 => ?_) (fun c12 => ?_)
    · replace h := h.1 c12
      exact J11 v1 M6 h
    · replace h := h.2 c12
      refine g_iinc C [(1, gI (v1 + 1)), (0, gF c0), (2, gI v2)] dX9_freshNotes_23 1 rfl (by decide) h.1 rfl ?_
      replace h := h.2
      refine g_sub [(0, gF c0), (1, gI (v1 + 1)), (2, gI v2)] [1, 0, 2] rfl ?_
      exact J11 (v1 + 1) M6 h

set_option maxRecDepth 100000 in
set_option maxHeartbeats 4000000 in
theorem sX9_nodesInNotes {l : Launch} {V : gW} (hD : gD V) (c0 : Int) (M0 : gMem) (K : Int → gMem → Prop) (hT0 : gT c0 9) (h : wX9_nodesInNotes c0 K M0) (hM : gOM M0) (ho : ∀ q ∈ ([] : List gSV), gOK q) : gMi l V yX9_nodesInNotes cX9_nodesInNotes 3 (some .int) 1 20 [gF c0] M0 K := by
  refine gMi_of hD (by decide) (Nat.le_of_ble_eq_true rfl) [(0, gF c0)] rfl (gok_L rfl (gok_n (q := gF c0) trivial ho)) hM (fun X C hR => ?_)
  unfold wX9_nodesInNotes at h
  refine g_iconst C dX9_nodesInNotes_0 gRc_0 ?_
  refine g_istoren C [(1, gI 0), (0, gF c0)] dX9_nodesInNotes_1 (by decide) rfl ?_
  refine g_iconst C dX9_nodesInNotes_2 gRc_0 ?_
  refine g_istoren C [(2, gI 0), (1, gI 0), (0, gF c0)] dX9_nodesInNotes_3 (by decide) rfl ?_
  refine g_sub [(0, gF c0), (1, gI 0), (2, gI 0)] [2, 1, 0] rfl ?_
  refine gL2_go (Gd := fun (v1 : Int) (v2 : Int) (M3 : gMem) => gG X V 3 4 [(0, gF c0), (1, gI v1), (2, gI v2)] [] M3) (fun rec4 hrec4 v1 v2 M3 h => ?_) h
  refine g_iloadn C dX9_nodesInNotes_4 2 rfl ?_
  refine g_aloadn C dX9_nodesInNotes_5 0 rfl ?_
  refine gf_9_0 C dX9_nodesInNotes_6 wd_338 hT0 ?_
  refine gf_1_0 C dX9_nodesInNotes_9 wd_108 (gt_9_0 hT0) ?_
  refine g_ic_ge (t := 48) C dX9_nodesInNotes_12 (by decide) (fun c5 => ?_) (fun c5 => ?_)
  · replace h := h.1 c5
    refine g_iloadn C dX9_nodesInNotes_48 1 rfl ?_
    exact g_iret C hR dX9_nodesInNotes_49 h
  · replace h := h.2 c5
    refine g_aloadn C dX9_nodesInNotes_15 0 rfl ?_
    refine gf_9_4 C dX9_nodesInNotes_16 wd_342 hT0 ?_
    refine g_iloadn C dX9_nodesInNotes_19 2 rfl ?_
    have hb6 := h.1
    replace h := h.2
    refine g_aald C dX9_nodesInNotes_20 (gt_9_4 hT0) gce_30012 2 rfl (by decide) rfl hb6 ?_
    refine gf_2_0 C dX9_nodesInNotes_21 wd_195 (gta_30012 (gt_9_4 hT0) hb6) ?_
    obtain ⟨P9, h, hP9⟩ := h
    have J10 : ∀ (v7 : Int) (M8 : gMem), P9 v7 M8 → gG X V 3 42 [(0, gF c0), (1, gI v7), (2, gI v2)] [] M8 := by
      intro v7 M8 h
      replace h := hP9 v7 M8 h
      refine g_iinc C [(2, gI (v2 + 1)), (0, gF c0), (1, gI v7)] dX9_nodesInNotes_42 2 rfl (by decide) h.1 rfl ?_
      replace h := h.2
      refine g_goto (t := 4) C dX9_nodesInNotes_45 (by decide) ?_
      refine g_sub [(0, gF c0), (1, gI v7), (2, gI (v2 + 1))] [1, 2, 0] rfl ?_
      exact hrec4 v7 (v2 + 1) M8 h
    refine g_if_eq (t := 42) C dX9_nodesInNotes_24 (by decide) (fun c11 => ?_) (fun c11 => ?_)
    · replace h := h.1 c11
      exact J10 v1 M3 h
    · replace h := h.2 c11
      refine g_iloadn C dX9_nodesInNotes_27 1 rfl ?_
      refine g_aloadn C dX9_nodesInNotes_28 0 rfl ?_
      refine gf_9_4 C dX9_nodesInNotes_29 wd_342 hT0 ?_
      refine g_iloadn C dX9_nodesInNotes_32 2 rfl ?_
      have hb12 := h.1
      replace h := h.2
      refine g_aald C dX9_nodesInNotes_33 (gt_9_4 hT0) gce_30012 2 rfl (by decide) rfl hb12 ?_
      refine gf_2_1 C dX9_nodesInNotes_34 wd_197 (gta_30012 (gt_9_4 hT0) hb12) ?_
      refine g_bits C dX9_nodesInNotes_37 wd_762 ⟨by decide, by decide⟩ (Nat.le_of_ble_eq_true rfl) hD h.1 ?_
      replace h := h.2
      refine g_iadd C dX9_nodesInNotes_40 h.1 ?_
      replace h := h.2
      obtain ⟨v13, ev13⟩ : ∃ x : Int, x = (v1 + (gones (M3 ((c0 + 35) + 1 + 4 * v2) 1))) := ⟨_, rfl⟩
      refine g_nm ev13 ?_
      replace h := h v13 ev13
      refine g_istoren C [(1, gI v13), (0, gF c0), (2, gI v2)] dX9_nodesInNotes_41 (by decide) rfl ?_
      refine g_sub [(0, gF c0), (1, gI v13), (2, gI v2)] [1, 0, 2] rfl ?_
      exact J10 v13 M3 h

set_option maxRecDepth 100000 in
set_option maxHeartbeats 4000000 in
theorem sX9_count {l : Launch} {V : gW} (hD : gD V) (c0 a1 : Int) (M0 : gMem) (K : Int → gMem → Prop) (hT0 : gT c0 9) (h : wX9_count c0 a1 K M0) (hM : gOM M0) (ho : ∀ q ∈ ([gI a1] : List gSV), gOK q) : gMi l V yX9_count cX9_count 2 (some .int) 6 157 [gF c0, gI a1] M0 K := by
  refine gMi_of hD (by decide) (Nat.le_of_ble_eq_true rfl) [(0, gF c0), (1, gI a1)] rfl (gok_L rfl (gok_n (q := gF c0) trivial ho)) hM (fun X C hR => ?_)
  unfold wX9_count at h
  refine g_iloadn C dX9_count_0 1 rfl ?_
  obtain ⟨P2, h, hP2⟩ := h
  have J3 : ∀ (M1 : gMem), P2 M1 → gG X V 2 124 [(0, gF c0), (1, gI a1)] [] M1 := by
    intro M1 h
    replace h := hP2 M1 h
    refine g_aloadn C dX9_count_124 0 rfl ?_
    refine gf_9_0 C dX9_count_125 wd_338 hT0 ?_
    refine g_iloadn C dX9_count_128 1 rfl ?_
    refine g_bipush C dX9_count_129 gRc_9 gRb_9 ?_
    refine g_isub C dX9_count_131 h.1 ?_
    replace h := h.2
    refine g_cVi (st := []) C dX9_count_132 ykX1_nodesOfLevel wd_586 ⟨by decide, by decide⟩ [gI (a1 - 9)] rfl (Nat.le_of_ble_eq_true rfl) (gt_9_0 hT0) (fun hM ho => sX1_nodesOfLevel hD (c0 + 1) (a1 - 9) M1 _ (gt_9_0 hT0) h hM ho) (fun r5 M4 h => ?_)
    exact g_iret C hR dX9_count_135 h
  refine g_switch (t := 136) C dX9_count_1 (by decide) (fun c => ?_) (fun c1 c2 => ?_)
  · replace h := h.2.2.2.2.2.2.2.2.2.2.2.2 c
    refine g_bipush C dX9_count_136 gRc_m3 gRb_m3 ?_
    exact g_iret C hR dX9_count_138 h
  · obtain ⟨q14, eq14⟩ : ∃ q14 : Nat, a1 = 0 + (q14 : Int) := ⟨(a1 - 0).toNat, by omega⟩
    match q14, eq14 with
    | 0, eq14 =>
      refine ⟨_, 64, by rw [eq14]; rfl, by decide, ?_⟩
      replace h := h.1 (by omega)
      refine g_aloadn C dX9_count_64 0 rfl ?_
      refine gf_9_0 C dX9_count_65 wd_338 hT0 ?_
      refine gf_1_0 C dX9_count_68 wd_108 (gt_9_0 hT0) ?_
      exact g_iret C hR dX9_count_71 h
    | 1, eq14 =>
      refine ⟨_, 72, by rw [eq14]; rfl, by decide, ?_⟩
      replace h := h.2.1 (by omega)
      refine g_aloadn C dX9_count_72 0 rfl ?_
      refine gf_9_0 C dX9_count_73 wd_338 hT0 ?_
      refine gf_1_1 C dX9_count_76 wd_110 (gt_9_0 hT0) ?_
      exact g_iret C hR dX9_count_79 h
    | 2, eq14 =>
      refine ⟨_, 80, by rw [eq14]; rfl, by decide, ?_⟩
      replace h := h.2.2.1 (by omega)
      refine g_aloadn C dX9_count_80 0 rfl ?_
      refine g_cVi (st := []) C dX9_count_81 ykX9_parts wd_837 ⟨by decide, by decide⟩ [] rfl (Nat.le_of_ble_eq_true rfl) hT0 (fun hM ho => sX9_parts hD c0 M0 _ hT0 h hM ho) (fun r7 M6 h => ?_)
      exact g_iret C hR dX9_count_84 h
    | 3, eq14 =>
      refine ⟨_, 85, by rw [eq14]; rfl, by decide, ?_⟩
      replace h := h.2.2.2.1 (by omega)
      refine g_aloadn C dX9_count_85 0 rfl ?_
      refine g_cVi (st := []) C dX9_count_86 ykX9_writtenNotes wd_660 ⟨by decide, by decide⟩ [] rfl (Nat.le_of_ble_eq_true rfl) hT0 (fun hM ho => sX9_writtenNotes hD c0 M0 _ hT0 h hM ho) (fun r9 M8 h => ?_)
      exact g_iret C hR dX9_count_89 h
    | 4, eq14 =>
      refine ⟨_, 90, by rw [eq14]; rfl, by decide, ?_⟩
      replace h := h.2.2.2.2.1 (by omega)
      refine g_aloadn C dX9_count_90 0 rfl ?_
      refine g_cVi (st := []) C dX9_count_91 ykX9_freshNotes wd_841 ⟨by decide, by decide⟩ [] rfl (Nat.le_of_ble_eq_true rfl) hT0 (fun hM ho => sX9_freshNotes hD c0 M0 _ hT0 h hM ho) (fun r11 M10 h => ?_)
      exact g_iret C hR dX9_count_94 h
    | 5, eq14 =>
      refine ⟨_, 95, by rw [eq14]; rfl, by decide, ?_⟩
      replace h := h.2.2.2.2.2.1 (by omega)
      refine g_aloadn C dX9_count_95 0 rfl ?_
      refine g_cVi (st := []) C dX9_count_96 ykX9_nodesInNotes wd_845 ⟨by decide, by decide⟩ [] rfl (Nat.le_of_ble_eq_true rfl) hT0 (fun hM ho => sX9_nodesInNotes hD c0 M0 _ hT0 h hM ho) (fun r13 M12 h => ?_)
      exact g_iret C hR dX9_count_99 h
    | 6, eq14 =>
      refine ⟨_, 100, by rw [eq14]; rfl, by decide, ?_⟩
      replace h := h.2.2.2.2.2.2.1 (by omega)
      refine g_aloadn C dX9_count_100 0 rfl ?_
      refine gf_9_3 C dX9_count_101 wd_341 hT0 ?_
      refine gf_3_0 C dX9_count_104 wd_173 (gt_9_3 hT0) ?_
      exact g_iret C hR dX9_count_107 h
    | 7, eq14 =>
      refine ⟨_, 108, by rw [eq14]; rfl, by decide, ?_⟩
      replace h := h.2.2.2.2.2.2.2.1 (by omega)
      refine g_aloadn C dX9_count_108 0 rfl ?_
      refine gf_9_2 C dX9_count_109 wd_340 hT0 ?_
      refine gf_7_0 C dX9_count_112 wd_139 (gt_9_2 hT0) ?_
      exact g_iret C hR dX9_count_115 h
    | 8, eq14 =>
      refine ⟨_, 116, by rw [eq14]; rfl, by decide, ?_⟩
      replace h := h.2.2.2.2.2.2.2.2.1 (by omega)
      refine g_aloadn C dX9_count_116 0 rfl ?_
      refine gf_9_0 C dX9_count_117 wd_338 hT0 ?_
      refine gf_1_2 C dX9_count_120 wd_112 (gt_9_0 hT0) ?_
      exact g_iret C hR dX9_count_123 h
    | 9, eq14 =>
      refine ⟨_, 124, by rw [eq14]; rfl, by decide, ?_⟩
      replace h := h.2.2.2.2.2.2.2.2.2.1 (by omega)
      exact J3 M0 h
    | 10, eq14 =>
      refine ⟨_, 124, by rw [eq14]; rfl, by decide, ?_⟩
      replace h := h.2.2.2.2.2.2.2.2.2.2.1 (by omega)
      exact J3 M0 h
    | 11, eq14 =>
      refine ⟨_, 124, by rw [eq14]; rfl, by decide, ?_⟩
      replace h := h.2.2.2.2.2.2.2.2.2.2.2.1 (by omega)
      exact J3 M0 h
    | q14 + 12, eq14 => exact absurd eq14 (by omega)
