set_option maxRecDepth 100000 in
set_option maxHeartbeats 4000000 in
theorem sX9_nearest {l : Launch} {V : gW} (hD : gD V) (c0 a1 a2 a3 : Int) (M0 : gMem) (K : Int → gMem → Prop) (hT0 : gT c0 9) (h : wX9_nearest c0 a1 a2 a3 K M0) (hM : gOM M0) (ho : ∀ q ∈ ([gI a1, gI a2, gI a3] : List gSV), gOK q) : gMi l V yX9_nearest cX9_nearest 4 (some .int) 4 114 [gF c0, gI a1, gI a2, gI a3] M0 K := by
  refine gMi_of hD (by decide) (Nat.le_of_ble_eq_true rfl) [(0, gF c0), (1, gI a1), (2, gI a2), (3, gI a3)] rfl (gok_L rfl (gok_n (q := gF c0) trivial ho)) hM (fun X C hR => ?_)
  unfold wX9_nearest at h
  refine g_aloadn C dX9_nearest_0 0 rfl ?_
  refine gf_9_0 C dX9_nearest_1 wd_338 hT0 ?_
  refine g_iloadn C dX9_nearest_4 1 rfl ?_
  refine g_cVi (st := []) C dX9_nearest_5 ykX1_has wd_545 ⟨by decide, by decide⟩ [gI a1] rfl (Nat.le_of_ble_eq_true rfl) (gt_9_0 hT0) (fun hM ho => sX1_has hD (c0 + 1) a1 M0 _ (gt_9_0 hT0) h hM ho) (fun r2 M1 h => ?_)
  refine g_if_ne (t := 14) C dX9_nearest_8 (by decide) (fun c3 => ?_) (fun c3 => ?_)
  · replace h := h.1 c3
    refine g_iloadn C dX9_nearest_14 2 rfl ?_
    obtain ⟨P5, h, hP5⟩ := h
    have J6 : ∀ (M4 : gMem), P5 M4 → gG X V 4 32 [] [] M4 := by
      intro M4 h
      replace h := hP5 M4 h
      refine g_bipush C dX9_nearest_32 gRc_m3 gRb_m3 ?_
      exact g_iret C hR dX9_nearest_34 h
    refine g_if_lt (t := 32) C dX9_nearest_15 (by decide) (fun c7 => ?_) (fun c7 => ?_)
    · replace h := h.1 c7
      refine g_sub [] [] rfl ?_
      exact J6 M1 h
    · replace h := h.2 c7
      refine g_iloadn C dX9_nearest_18 2 rfl ?_
      refine g_iconst C dX9_nearest_19 gRc_3 ?_
      refine g_ic_ge (t := 32) C dX9_nearest_20 (by decide) (fun c8 => ?_) (fun c8 => ?_)
      · replace h := h.1 c8
        refine g_sub [] [] rfl ?_
        exact J6 M1 h
      · replace h := h.2 c8
        refine g_iloadn C dX9_nearest_23 3 rfl ?_
        refine g_if_lt (t := 32) C dX9_nearest_24 (by decide) (fun c9 => ?_) (fun c9 => ?_)
        · replace h := h.1 c9
          refine g_sub [] [] rfl ?_
          exact J6 M1 h
        · replace h := h.2 c9
          refine g_iloadn C dX9_nearest_27 3 rfl ?_
          refine g_iconst C dX9_nearest_28 gRc_1 ?_
          refine g_ic_le (t := 35) C dX9_nearest_29 (by decide) (fun c10 => ?_) (fun c10 => ?_)
          · replace h := h.1 c10
            refine g_aloadn C dX9_nearest_35 0 rfl ?_
            refine g_iloadn C dX9_nearest_36 1 rfl ?_
            refine g_cVv (st := []) C dX9_nearest_37 ykX9_writeDraft wd_684 ⟨by decide, by decide⟩ [gI a1] rfl (Nat.le_of_ble_eq_true rfl) hT0 (fun hM ho => sX9_writeDraft hD c0 a1 M1 _ hT0 h hM ho) (fun M11 h => ?_)
            refine g_iloadn C dX9_nearest_40 3 rfl ?_
            obtain ⟨P14, h, hP14⟩ := h
            have J15 : ∀ (x12 : Int) (M13 : gMem), P14 x12 M13 → gG X V 4 63 [] [gI x12] M13 := by
              intro x12 M13 h
              replace h := hP14 x12 M13 h
              exact g_iret C hR dX9_nearest_63 h
            refine g_if_ne (t := 55) C dX9_nearest_41 (by decide) (fun c16 => ?_) (fun c16 => ?_)
            · replace h := h.1 c16
              refine g_aloadn C dX9_nearest_55 0 rfl ?_
              refine gf_9_5 C dX9_nearest_56 wd_343 hT0 ?_
              refine g_iloadn C dX9_nearest_59 2 rfl ?_
              refine g_cVi (st := []) C dX9_nearest_60 ykX2_nearestFarAt wd_710 ⟨by decide, by decide⟩ [gI a2] rfl (Nat.le_of_ble_eq_true rfl) (gt_9_5 hT0) (fun hM ho => sX2_nearestFarAt hD (c0 + 84) a2 M11 _ (gt_9_5 hT0) h hM ho) (fun r18 M17 h => ?_)
              refine g_sub [] [] rfl ?_
              exact J15 r18 M17 h
            · replace h := h.2 c16
              refine g_aloadn C dX9_nearest_44 0 rfl ?_
              refine gf_9_5 C dX9_nearest_45 wd_343 hT0 ?_
              refine g_iloadn C dX9_nearest_48 2 rfl ?_
              refine g_cVi (st := []) C dX9_nearest_49 ykX2_nearestAt wd_706 ⟨by decide, by decide⟩ [gI a2] rfl (Nat.le_of_ble_eq_true rfl) (gt_9_5 hT0) (fun hM ho => sX2_nearestAt hD (c0 + 84) a2 M11 _ (gt_9_5 hT0) h hM ho) (fun r20 M19 h => ?_)
              refine g_goto (t := 63) C dX9_nearest_52 (by decide) ?_
              refine g_sub [] [] rfl ?_
              exact J15 r20 M19 h
          · replace h := h.2 c10
            refine g_sub [] [] rfl ?_
            exact J6 M1 h
  · replace h := h.2 c3
    refine g_bipush C dX9_nearest_11 gRc_m2 gRb_m2 ?_
    exact g_iret C hR dX9_nearest_13 h

set_option maxRecDepth 100000 in
set_option maxHeartbeats 4000000 in
theorem sX2_farOf {l : Launch} {V : gW} (hD : gD V) (c0 a1 : Int) (M0 : gMem) (K : Int → gMem → Prop) (hT0 : gT c0 2) (h : wX2_farOf c0 a1 K M0) (hM : gOM M0) (ho : ∀ q ∈ ([gI a1] : List gSV), gOK q) : gMi l V yX2_farOf cX2_farOf 2 (some .int) 0 0 [gF c0, gI a1] M0 K := by
  refine gMi_of hD (by decide) (Nat.le_of_ble_eq_true rfl) [(0, gF c0), (1, gI a1)] rfl (gok_L rfl (gok_n (q := gF c0) trivial ho)) hM (fun X C hR => ?_)
  unfold wX2_farOf at h
  refine g_aloadn C dX2_farOf_0 0 rfl ?_
  refine gf_2_0 C dX2_farOf_1 wd_194 hT0 ?_
  obtain ⟨P3, h, hP3⟩ := h
  have J4 : ∀ (x1 : Int) (M2 : gMem), P3 x1 M2 → gG X V 2 27 [] [gI x1] M2 := by
    intro x1 M2 h
    replace h := hP3 x1 M2 h
    exact g_iret C hR dX2_farOf_27 h
  obtain ⟨P6, h, hP6⟩ := h
  have J7 : ∀ (M5 : gMem), P6 M5 → gG X V 2 26 [] [] M5 := by
    intro M5 h
    replace h := hP6 M5 h
    refine g_iconst C dX2_farOf_26 gRc_m1 ?_
    exact J4 (-1) M5 h
  refine g_if_eq (t := 26) C dX2_farOf_4 (by decide) (fun c8 => ?_) (fun c8 => ?_)
  · replace h := h.1 c8
    refine g_sub [] [] rfl ?_
    exact J7 M0 h
  · replace h := h.2 c8
    refine g_iloadn C dX2_farOf_7 1 rfl ?_
    refine g_if_lt (t := 26) C dX2_farOf_8 (by decide) (fun c9 => ?_) (fun c9 => ?_)
    · replace h := h.1 c9
      refine g_sub [] [] rfl ?_
      exact J7 M0 h
    · replace h := h.2 c9
      refine g_iloadn C dX2_farOf_11 1 rfl ?_
      refine g_bipush C dX2_farOf_12 gRc_12 gRb_12 ?_
      refine g_ic_ge (t := 26) C dX2_farOf_14 (by decide) (fun c10 => ?_) (fun c10 => ?_)
      · replace h := h.1 c10
        refine g_sub [] [] rfl ?_
        exact J7 M0 h
      · replace h := h.2 c10
        refine g_aloadn C dX2_farOf_17 0 rfl ?_
        refine gf_2_4 C dX2_farOf_18 wd_200 hT0 ?_
        refine g_iloadn C dX2_farOf_21 1 rfl ?_
        refine g_iald C dX2_farOf_22 (gt_2_4 hT0) gce_10012 h.1 ?_
        replace h := h.2
        refine g_goto (t := 27) C dX2_farOf_23 (by decide) ?_
        refine g_sub [] [] rfl ?_
        exact J4 (M0 (c0 + 3) a1) M0 h

set_option maxRecDepth 100000 in
set_option maxHeartbeats 4000000 in
theorem sX2_holds {l : Launch} {V : gW} (hD : gD V) (c0 a1 : Int) (M0 : gMem) (K : Int → gMem → Prop) (hT0 : gT c0 2) (h : wX2_holds c0 a1 K M0) (hM : gOM M0) (ho : ∀ q ∈ ([gI a1] : List gSV), gOK q) : gMi l V yX2_holds cX2_holds 2 (some .boolean) 1 21 [gF c0, gI a1] M0 K := by
  refine gMi_of hD (by decide) (Nat.le_of_ble_eq_true rfl) [(0, gF c0), (1, gI a1)] rfl (gok_L rfl (gok_n (q := gF c0) trivial ho)) hM (fun X C hR => ?_)
  unfold wX2_holds at h
  refine g_aloadn C dX2_holds_0 0 rfl ?_
  refine g_iloadn C dX2_holds_1 1 rfl ?_
  refine g_cVi (st := []) C dX2_holds_2 ykX2_farOf wd_723 ⟨by decide, by decide⟩ [gI a1] rfl (Nat.le_of_ble_eq_true rfl) hT0 (fun hM ho => sX2_farOf hD c0 a1 M0 _ hT0 h hM ho) (fun r2 M1 h => ?_)
  refine g_iconst C dX2_holds_5 gRc_m1 ?_
  obtain ⟨P5, h, hP5⟩ := h
  have J6 : ∀ (x3 : Int) (M4 : gMem), P5 x3 M4 → gG X V 2 14 [] [gI x3] M4 := by
    intro x3 M4 h
    replace h := hP5 x3 M4 h
    exact g_zret C hR dX2_holds_14 h.1 h.2
  refine g_ic_eq (t := 13) C dX2_holds_6 (by decide) (fun c7 => ?_) (fun c7 => ?_)
  · replace h := h.1 c7
    refine g_iconst C dX2_holds_13 gRc_0 ?_
    refine g_sub [] [] rfl ?_
    exact J6 0 M1 h
  · replace h := h.2 c7
    refine g_iconst C dX2_holds_9 gRc_1 ?_
    refine g_goto (t := 14) C dX2_holds_10 (by decide) ?_
    refine g_sub [] [] rfl ?_
    exact J6 1 M1 h

set_option maxRecDepth 100000 in
set_option maxHeartbeats 4000000 in
theorem sX9_clusterOf {l : Launch} {V : gW} (hD : gD V) (c0 a1 : Int) (M0 : gMem) (K : Int → gMem → Prop) (hT0 : gT c0 9) (h : wX9_clusterOf c0 a1 K M0) (hM : gOM M0) (ho : ∀ q ∈ ([gI a1] : List gSV), gOK q) : gMi l V yX9_clusterOf cX9_clusterOf 4 (some .int) 4 114 [gF c0, gI a1] M0 K := by
  refine gMi_of hD (by decide) (Nat.le_of_ble_eq_true rfl) [(0, gF c0), (1, gI a1)] rfl (gok_L rfl (gok_n (q := gF c0) trivial ho)) hM (fun X C hR => ?_)
  unfold wX9_clusterOf at h
  refine g_iconst C dX9_clusterOf_0 gRc_0 ?_
  refine g_istoren C [(2, gI 0), (0, gF c0), (1, gI a1)] dX9_clusterOf_1 (by decide) rfl ?_
  refine g_iconst C dX9_clusterOf_2 gRc_0 ?_
  refine g_istoren C [(3, gI 0), (2, gI 0), (0, gF c0), (1, gI a1)] dX9_clusterOf_3 (by decide) rfl ?_
  refine g_sub [(0, gF c0), (1, gI a1), (2, gI 0), (3, gI 0)] [2, 3, 1, 0] rfl ?_
  refine gL2_go (Gd := fun (v1 : Int) (v2 : Int) (M3 : gMem) => gG X V 4 4 [(0, gF c0), (1, gI a1), (2, gI v1), (3, gI v2)] [] M3) (fun rec4 hrec4 v1 v2 M3 h => ?_) h
  refine g_iloadn C dX9_clusterOf_4 3 rfl ?_
  refine g_aloadn C dX9_clusterOf_5 0 rfl ?_
  refine gf_9_0 C dX9_clusterOf_6 wd_338 hT0 ?_
  refine gf_1_0 C dX9_clusterOf_9 wd_108 (gt_9_0 hT0) ?_
  refine g_ic_ge (t := 43) C dX9_clusterOf_12 (by decide) (fun c5 => ?_) (fun c5 => ?_)
  · replace h := h.1 c5
    refine g_iloadn C dX9_clusterOf_43 2 rfl ?_
    exact g_iret C hR dX9_clusterOf_44 h
  · replace h := h.2 c5
    refine g_aloadn C dX9_clusterOf_15 0 rfl ?_
    refine g_iloadn C dX9_clusterOf_16 3 rfl ?_
    refine g_cVv (st := []) C dX9_clusterOf_17 ykX9_writeDraft wd_684 ⟨by decide, by decide⟩ [gI v2] rfl (Nat.le_of_ble_eq_true rfl) hT0 (fun hM ho => sX9_writeDraft hD c0 v2 M3 _ hT0 h hM ho) (fun M6 h => ?_)
    refine g_aloadn C dX9_clusterOf_20 0 rfl ?_
    refine gf_9_5 C dX9_clusterOf_21 wd_343 hT0 ?_
    refine g_iloadn C dX9_clusterOf_24 1 rfl ?_
    refine g_cVi (st := []) C dX9_clusterOf_25 ykX2_holds wd_719 ⟨by decide, by decide⟩ [gI a1] rfl (Nat.le_of_ble_eq_true rfl) (gt_9_5 hT0) (fun hM ho => sX2_holds hD (c0 + 84) a1 M6 _ (gt_9_5 hT0) h hM ho) (fun r8 M7 h => ?_)
    obtain ⟨P11, h, hP11⟩ := h
    have J12 : ∀ (v9 : Int) (M10 : gMem), P11 v9 M10 → gG X V 4 37 [(0, gF c0), (1, gI a1), (2, gI v9), (3, gI v2)] [] M10 := by
      intro v9 M10 h
      replace h := hP11 v9 M10 h
      refine g_iinc C [(3, gI (v2 + 1)), (0, gF c0), (1, gI a1), (2, gI v9)] dX9_clusterOf_37 3 rfl (by decide) h.1 rfl ?_
      replace h := h.2
      refine g_goto (t := 4) C dX9_clusterOf_40 (by decide) ?_
      refine g_sub [(0, gF c0), (1, gI a1), (2, gI v9), (3, gI (v2 + 1))] [1, 2, 3, 0] rfl ?_
      exact hrec4 v9 (v2 + 1) M10 h
    refine g_if_eq (t := 37) C dX9_clusterOf_28 (by decide) (fun c13 => ?_) (fun c13 => ?_)
    · replace h := h.1 c13
      exact J12 v1 M7 h
    · replace h := h.2 c13
      refine g_iloadn C dX9_clusterOf_31 2 rfl ?_
      refine g_iconst C dX9_clusterOf_32 gRc_1 ?_
      refine g_iloadn C dX9_clusterOf_33 3 rfl ?_
      refine g_ishl C dX9_clusterOf_34 h.1 ?_
      replace h := h.2
      refine g_ior C dX9_clusterOf_35 h.1 ?_
      replace h := h.2
      obtain ⟨v14, ev14⟩ : ∃ x : Int, x = gor v1 (gpw v2) := ⟨_, rfl⟩
      refine g_nm ev14 ?_
      replace h := h v14 ev14
      refine g_istoren C [(2, gI v14), (0, gF c0), (1, gI a1), (3, gI v2)] dX9_clusterOf_36 (by decide) rfl ?_
      refine g_sub [(0, gF c0), (1, gI a1), (2, gI v14), (3, gI v2)] [1, 2, 0, 3] rfl ?_
      exact J12 v14 M7 h

set_option maxRecDepth 100000 in
set_option maxHeartbeats 4000000 in
theorem sX9_bunch {l : Launch} {V : gW} (hD : gD V) (c0 a1 a2 : Int) (M0 : gMem) (K : Int → gMem → Prop) (hT0 : gT c0 9) (h : wX9_bunch c0 a1 a2 K M0) (hM : gOM M0) (ho : ∀ q ∈ ([gI a1, gI a2] : List gSV), gOK q) : gMi l V yX9_bunch cX9_bunch 3 (some .int) 5 137 [gF c0, gI a1, gI a2] M0 K := by
  refine gMi_of hD (by decide) (Nat.le_of_ble_eq_true rfl) [(0, gF c0), (1, gI a1), (2, gI a2)] rfl (gok_L rfl (gok_n (q := gF c0) trivial ho)) hM (fun X C hR => ?_)
  unfold wX9_bunch at h
  refine g_aloadn C dX9_bunch_0 0 rfl ?_
  refine gf_9_0 C dX9_bunch_1 wd_338 hT0 ?_
  refine g_iloadn C dX9_bunch_4 1 rfl ?_
  refine g_cVi (st := []) C dX9_bunch_5 ykX1_has wd_545 ⟨by decide, by decide⟩ [gI a1] rfl (Nat.le_of_ble_eq_true rfl) (gt_9_0 hT0) (fun hM ho => sX1_has hD (c0 + 1) a1 M0 _ (gt_9_0 hT0) h hM ho) (fun r2 M1 h => ?_)
  refine g_if_ne (t := 14) C dX9_bunch_8 (by decide) (fun c3 => ?_) (fun c3 => ?_)
  · replace h := h.1 c3
    refine g_iloadn C dX9_bunch_14 2 rfl ?_
    obtain ⟨P5, h, hP5⟩ := h
    have J6 : ∀ (M4 : gMem), P5 M4 → gG X V 3 23 [] [] M4 := by
      intro M4 h
      replace h := hP5 M4 h
      refine g_bipush C dX9_bunch_23 gRc_m3 gRb_m3 ?_
      exact g_iret C hR dX9_bunch_25 h
    refine g_if_lt (t := 23) C dX9_bunch_15 (by decide) (fun c7 => ?_) (fun c7 => ?_)
    · replace h := h.1 c7
      refine g_sub [] [] rfl ?_
      exact J6 M1 h
    · replace h := h.2 c7
      refine g_iloadn C dX9_bunch_18 2 rfl ?_
      refine g_iconst C dX9_bunch_19 gRc_1 ?_
      refine g_ic_le (t := 26) C dX9_bunch_20 (by decide) (fun c8 => ?_) (fun c8 => ?_)
      · replace h := h.1 c8
        refine g_iloadn C dX9_bunch_26 2 rfl ?_
        refine g_iconst C dX9_bunch_27 gRc_1 ?_
        refine g_ic_ne (t := 37) C dX9_bunch_28 (by decide) (fun c9 => ?_) (fun c9 => ?_)
        · replace h := h.1 c9
          refine g_aloadn C dX9_bunch_37 0 rfl ?_
          refine g_iloadn C dX9_bunch_38 1 rfl ?_
          refine g_cVv (st := []) C dX9_bunch_39 ykX9_writeDraft wd_684 ⟨by decide, by decide⟩ [gI a1] rfl (Nat.le_of_ble_eq_true rfl) hT0 (fun hM ho => sX9_writeDraft hD c0 a1 M1 _ hT0 h hM ho) (fun M10 h => ?_)
          refine g_aloadn C dX9_bunch_42 0 rfl ?_
          refine gf_9_5 C dX9_bunch_43 wd_343 hT0 ?_
          refine gf_2_1 C dX9_bunch_46 wd_197 (gt_9_5 hT0) ?_
          exact g_iret C hR dX9_bunch_49 h
        · replace h := h.2 c9
          refine g_aloadn C dX9_bunch_31 0 rfl ?_
          refine g_iloadn C dX9_bunch_32 1 rfl ?_
          refine g_cVi (st := []) C dX9_bunch_33 ykX9_clusterOf wd_715 ⟨by decide, by decide⟩ [gI a1] rfl (Nat.le_of_ble_eq_true rfl) hT0 (fun hM ho => sX9_clusterOf hD c0 a1 M1 _ hT0 h hM ho) (fun r12 M11 h => ?_)
          exact g_iret C hR dX9_bunch_36 h
      · replace h := h.2 c8
        refine g_sub [] [] rfl ?_
        exact J6 M1 h
  · replace h := h.2 c3
    refine g_bipush C dX9_bunch_11 gRc_m2 gRb_m2 ?_
    exact g_iret C hR dX9_bunch_13 h

set_option maxRecDepth 100000 in
set_option maxHeartbeats 4000000 in
theorem sX9_stepTowards {l : Launch} {V : gW} (hD : gD V) (c0 a1 a2 : Int) (M0 : gMem) (K : Int → gMem → Prop) (hT0 : gT c0 9) (h : wX9_stepTowards c0 a1 a2 K M0) (hM : gOM M0) (ho : ∀ q ∈ ([gI a1, gI a2] : List gSV), gOK q) : gMi l V yX9_stepTowards cX9_stepTowards 7 (some .int) 3 93 [gF c0, gI a1, gI a2] M0 K := by
  refine gMi_of hD (by decide) (Nat.le_of_ble_eq_true rfl) [(0, gF c0), (1, gI a1), (2, gI a2)] rfl (gok_L rfl (gok_n (q := gF c0) trivial ho)) hM (fun X C hR => ?_)
  unfold wX9_stepTowards at h
  refine g_aloadn C dX9_stepTowards_0 0 rfl ?_
  refine gf_9_7 C dX9_stepTowards_1 wd_345 hT0 ?_
  refine g_aloadn C dX9_stepTowards_4 0 rfl ?_
  refine gf_9_0 C dX9_stepTowards_5 wd_338 hT0 ?_
  refine g_cVv (st := []) C dX9_stepTowards_8 ykX0_follow wd_672 ⟨by decide, by decide⟩ [gF (c0 + 1)] rfl (Nat.le_of_ble_eq_true rfl) (gt_9_7 hT0) (fun hM ho => sX0_follow hD (c0 + 195) (c0 + 1) M0 _ (gt_9_7 hT0) (gt_9_0 hT0) h hM ho) (fun M1 h => ?_)
  refine g_aloadn C dX9_stepTowards_11 0 rfl ?_
  refine gf_9_7 C dX9_stepTowards_12 wd_345 hT0 ?_
  refine g_iloadn C dX9_stepTowards_15 1 rfl ?_
  refine g_iloadn C dX9_stepTowards_16 2 rfl ?_
  refine g_cVi (st := []) C dX9_stepTowards_17 ykX0_between wd_679 ⟨by decide, by decide⟩ [gI a1, gI a2] rfl (Nat.le_of_ble_eq_true rfl) (gt_9_7 hT0) (fun hM ho => sX0_between hD (c0 + 195) a1 a2 M1 _ (gt_9_7 hT0) h hM ho) (fun r3 M2 h => ?_)
  refine g_istoren C [(3, gI r3), (0, gF c0), (1, gI a1), (2, gI a2)] dX9_stepTowards_20 (by decide) rfl ?_
  refine g_iloadn C dX9_stepTowards_21 2 rfl ?_
  refine g_iloadn C dX9_stepTowards_22 3 rfl ?_
  obtain ⟨P5, h, hP5⟩ := h
  have J6 : ∀ (M4 : gMem), P5 M4 → gG X V 7 31 [] [] M4 := by
    intro M4 h
    replace h := hP5 M4 h
    refine g_iconst C dX9_stepTowards_31 gRc_m1 ?_
    exact g_iret C hR dX9_stepTowards_32 h
  refine g_ic_eq (t := 31) C dX9_stepTowards_23 (by decide) (fun c7 => ?_) (fun c7 => ?_)
  · replace h := h.1 c7
    refine g_sub [] [] rfl ?_
    exact J6 M2 h
  · replace h := h.2 c7
    refine g_iloadn C dX9_stepTowards_26 0 rfl ?_
    refine g_iconst C dX9_stepTowards_27 gRc_m1 ?_
    refine g_ic_ne (t := 33) C dX9_stepTowards_28 (by decide) (fun c8 => ?_) (fun c8 => ?_)
    · replace h := h.1 c8
      refine g_iconst C dX9_stepTowards_33 gRc_0 ?_
      refine g_istore C [(4, gI 0), (3, gI r3), (0, gF c0), (1, gI a1), (2, gI a2)] dX9_stepTowards_34 (by decide) rfl ?_
      refine g_sub [(0, gF c0), (1, gI a1), (2, gI a2), (3, gI r3), (4, gI 0)] [2, 3, 4, 1, 0] rfl ?_
      refine gL1_go (Gd := fun (v9 : Int) (M10 : gMem) => gG X V 7 36 [(0, gF c0), (1, gI a1), (2, gI a2), (3, gI r3), (4, gI v9)] [] M10) (fun rec11 hrec11 v9 M10 h => ?_) h
      refine g_iload C dX9_stepTowards_36 4 rfl ?_
      refine g_aloadn C dX9_stepTowards_38 0 rfl ?_
      refine gf_9_0 C dX9_stepTowards_39 wd_338 hT0 ?_
      refine gf_1_0 C dX9_stepTowards_42 wd_108 (gt_9_0 hT0) ?_
      refine g_ic_ge (t := 101) C dX9_stepTowards_45 (by decide) (fun c12 => ?_) (fun c12 => ?_)
      · replace h := h.1 c12
        refine g_iconst C dX9_stepTowards_101 gRc_m1 ?_
        exact g_iret C hR dX9_stepTowards_102 h
      · replace h := h.2 c12
        refine g_aloadn C dX9_stepTowards_48 0 rfl ?_
        refine gf_9_0 C dX9_stepTowards_49 wd_338 hT0 ?_
        refine g_iloadn C dX9_stepTowards_52 1 rfl ?_
        refine g_iload C dX9_stepTowards_53 4 rfl ?_
        refine g_cVi (st := []) C dX9_stepTowards_55 ykX1_lengthOf wd_537 ⟨by decide, by decide⟩ [gI a1, gI v9] rfl (Nat.le_of_ble_eq_true rfl) (gt_9_0 hT0) (fun hM ho => sX1_lengthOf hD (c0 + 1) a1 v9 M10 _ (gt_9_0 hT0) h hM ho) (fun r14 M13 h => ?_)
        refine g_istore C [(5, gI r14), (0, gF c0), (1, gI a1), (2, gI a2), (3, gI r3), (4, gI v9)] dX9_stepTowards_58 (by decide) rfl ?_
        refine g_aloadn C dX9_stepTowards_60 1 rfl ?_
        refine gf_9_7 C dX9_stepTowards_61 wd_345 hT0 ?_
        refine g_iload C dX9_stepTowards_64 5 rfl ?_
        refine g_iloadn C dX9_stepTowards_66 3 rfl ?_
        refine g_cVi (st := []) C dX9_stepTowards_67 ykX0_between wd_679 ⟨by decide, by decide⟩ [gI v9, gI a2] rfl (Nat.le_of_ble_eq_true rfl) (gt_9_7 hT0) (fun hM ho => sX0_between hD (c0 + 195) v9 a2 M13 _ (gt_9_7 hT0) h hM ho) (fun r16 M15 h => ?_)
        refine g_istore C [(6, gI r16), (5, gI r14), (0, gF c0), (1, gI a1), (2, gI a2), (3, gI r3), (4, gI v9)] dX9_stepTowards_70 (by decide) rfl ?_
        refine g_iload C dX9_stepTowards_72 1 rfl ?_
        obtain ⟨P18, h, hP18⟩ := h
        have J19 : ∀ (M17 : gMem), P18 M17 → gG X V 7 95 [(0, gF c0), (1, gI a1), (2, gI a2), (3, gI r3), (4, gI v9)] [] M17 := by
          intro M17 h
          replace h := hP18 M17 h
          refine g_iinc C [(4, gI (v9 + 1)), (0, gF c0), (1, gI a1), (2, gI a2), (3, gI r3)] dX9_stepTowards_95 4 rfl (by decide) h.1 rfl ?_
          replace h := h.2
          refine g_goto (t := 36) C dX9_stepTowards_98 (by decide) ?_
          refine g_sub [(0, gF c0), (1, gI a1), (2, gI a2), (3, gI r3), (4, gI (v9 + 1))] [1, 2, 3, 4, 0] rfl ?_
          exact hrec11 (v9 + 1) M17 h
        refine g_if_le (t := 95) C dX9_stepTowards_74 (by decide) (fun c20 => ?_) (fun c20 => ?_)
        · replace h := h.1 c20
          refine g_sub [(0, gF c0), (1, gI a1), (2, gI a2), (3, gI r3), (4, gI v9)] [2, 3, 4, 5, 6] rfl ?_
          exact J19 M15 h
        · replace h := h.2 c20
          refine g_iload C dX9_stepTowards_77 0 rfl ?_
          refine g_iconst C dX9_stepTowards_79 gRc_m1 ?_
          refine g_ic_eq (t := 95) C dX9_stepTowards_80 (by decide) (fun c21 => ?_) (fun c21 => ?_)
          · replace h := h.1 c21
            refine g_sub [(0, gF c0), (1, gI a1), (2, gI a2), (3, gI r3), (4, gI v9)] [2, 3, 4, 5, 6] rfl ?_
            exact J19 M15 h
          · replace h := h.2 c21
            refine g_iload C dX9_stepTowards_83 1 rfl ?_
            refine g_iload C dX9_stepTowards_85 0 rfl ?_
            refine g_iadd C dX9_stepTowards_87 h.1 ?_
            replace h := h.2
            refine g_iloadn C dX9_stepTowards_88 5 rfl ?_
            refine g_ic_ne (t := 95) C dX9_stepTowards_89 (by decide) (fun c22 => ?_) (fun c22 => ?_)
            · replace h := h.1 c22
              refine g_sub [(0, gF c0), (1, gI a1), (2, gI a2), (3, gI r3), (4, gI v9)] [2, 3, 4, 5, 6] rfl ?_
              exact J19 M15 h
            · replace h := h.2 c22
              refine g_iload C dX9_stepTowards_92 6 rfl ?_
              exact g_iret C hR dX9_stepTowards_94 h
    · replace h := h.2 c8
      refine g_sub [] [] rfl ?_
      exact J6 M2 h

set_option maxRecDepth 100000 in
set_option maxHeartbeats 4000000 in
theorem sX9_next {l : Launch} {V : gW} (hD : gD V) (c0 a1 a2 : Int) (M0 : gMem) (K : Int → gMem → Prop) (hT0 : gT c0 9) (h : wX9_next c0 a1 a2 K M0) (hM : gOM M0) (ho : ∀ q ∈ ([gI a1, gI a2] : List gSV), gOK q) : gMi l V yX9_next cX9_next 3 (some .int) 4 119 [gF c0, gI a1, gI a2] M0 K := by
  refine gMi_of hD (by decide) (Nat.le_of_ble_eq_true rfl) [(0, gF c0), (1, gI a1), (2, gI a2)] rfl (gok_L rfl (gok_n (q := gF c0) trivial ho)) hM (fun X C hR => ?_)
  unfold wX9_next at h
  refine g_aloadn C dX9_next_0 0 rfl ?_
  refine g_iloadn C dX9_next_1 1 rfl ?_
  refine g_iloadn C dX9_next_2 2 rfl ?_
  refine g_cVi (st := []) C dX9_next_3 ykX9_bothThere wd_554 ⟨by decide, by decide⟩ [gI a1, gI a2] rfl (Nat.le_of_ble_eq_true rfl) hT0 (fun hM ho => sX9_bothThere hD c0 a1 a2 M0 _ hT0 h hM ho) (fun r2 M1 h => ?_)
  refine g_if_ne (t := 12) C dX9_next_6 (by decide) (fun c3 => ?_) (fun c3 => ?_)
  · replace h := h.1 c3
    refine g_aloadn C dX9_next_12 0 rfl ?_
    refine g_iloadn C dX9_next_13 1 rfl ?_
    refine g_iloadn C dX9_next_14 2 rfl ?_
    refine g_cVi (st := []) C dX9_next_15 ykX9_stepTowards wd_731 ⟨by decide, by decide⟩ [gI a1, gI a2] rfl (Nat.le_of_ble_eq_true rfl) hT0 (fun hM ho => sX9_stepTowards hD c0 a1 a2 M1 _ hT0 h hM ho) (fun r5 M4 h => ?_)
    exact g_iret C hR dX9_next_18 h
  · replace h := h.2 c3
    refine g_bipush C dX9_next_9 gRc_m2 gRb_m2 ?_
    exact g_iret C hR dX9_next_11 h

set_option maxRecDepth 100000 in
set_option maxHeartbeats 4000000 in
theorem sX9_thinned {l : Launch} {V : gW} (hD : gD V) (c0 a1 a2 : Int) (M0 : gMem) (K : Int → gMem → Prop) (hT0 : gT c0 9) (h : wX9_thinned c0 a1 a2 K M0) (hM : gOM M0) (ho : ∀ q ∈ ([gI a1, gI a2] : List gSV), gOK q) : gMi l V yX9_thinned cX9_thinned 4 (some .int) 6 140 [gF c0, gI a1, gI a2] M0 K := by
  refine gMi_of hD (by decide) (Nat.le_of_ble_eq_true rfl) [(0, gF c0), (1, gI a1), (2, gI a2)] rfl (gok_L rfl (gok_n (q := gF c0) trivial ho)) hM (fun X C hR => ?_)
  unfold wX9_thinned at h
  refine g_iloadn C dX9_thinned_0 1 rfl ?_
  refine g_iconst C dX9_thinned_1 gRc_1 ?_
  obtain ⟨P2, h, hP2⟩ := h
  have J3 : ∀ (M1 : gMem), P2 M1 → gG X V 4 11 [] [] M1 := by
    intro M1 h
    replace h := hP2 M1 h
    refine g_bipush C dX9_thinned_11 gRc_m3 gRb_m3 ?_
    exact g_iret C hR dX9_thinned_13 h
  refine g_ic_lt (t := 11) C dX9_thinned_2 (by decide) (fun c4 => ?_) (fun c4 => ?_)
  · replace h := h.1 c4
    refine g_sub [] [] rfl ?_
    exact J3 M0 h
  · replace h := h.2 c4
    refine g_iloadn C dX9_thinned_5 1 rfl ?_
    refine g_bipush C dX9_thinned_6 gRc_9 gRb_9 ?_
    refine g_ic_le (t := 14) C dX9_thinned_8 (by decide) (fun c5 => ?_) (fun c5 => ?_)
    · replace h := h.1 c5
      refine g_aloadn C dX9_thinned_14 0 rfl ?_
      refine gf_9_0 C dX9_thinned_15 wd_338 hT0 ?_
      refine g_iloadn C dX9_thinned_18 2 rfl ?_
      refine g_cVi (st := []) C dX9_thinned_19 ykX1_cellOfLink wd_533 ⟨by decide, by decide⟩ [gI a2] rfl (Nat.le_of_ble_eq_true rfl) (gt_9_0 hT0) (fun hM ho => sX1_cellOfLink hD (c0 + 1) a2 M0 _ (gt_9_0 hT0) h hM ho) (fun r7 M6 h => ?_)
      refine g_istoren C [(3, gI r7), (0, gF c0), (1, gI a1), (2, gI a2)] dX9_thinned_22 (by decide) rfl ?_
      refine g_iloadn C dX9_thinned_23 3 rfl ?_
      refine g_iconst C dX9_thinned_24 gRc_m1 ?_
      obtain ⟨P9, h, hP9⟩ := h
      have J10 : ∀ (M8 : gMem), P9 M8 → gG X V 4 36 [(0, gF c0), (1, gI a1), (2, gI a2), (3, gI r7)] [] M8 := by
        intro M8 h
        replace h := hP9 M8 h
        refine g_aloadn C dX9_thinned_36 0 rfl ?_
        refine gf_9_8 C dX9_thinned_37 wd_346 hT0 ?_
        refine g_aloadn C dX9_thinned_40 0 rfl ?_
        refine gf_9_0 C dX9_thinned_41 wd_338 hT0 ?_
        refine g_iloadn C dX9_thinned_44 1 rfl ?_
        refine g_cVv (st := []) C dX9_thinned_45 ykX8_follow wd_594 ⟨by decide, by decide⟩ [gF (c0 + 1), gI a1] rfl (Nat.le_of_ble_eq_true rfl) (gt_9_8 hT0) (fun hM ho => sX8_follow hD (c0 + 209) (c0 + 1) a1 M8 _ (gt_9_8 hT0) (gt_9_0 hT0) h hM ho) (fun M11 h => ?_)
        refine g_iloadn C dX9_thinned_48 2 rfl ?_
        refine g_iconst C dX9_thinned_49 gRc_m1 ?_
        refine g_ic_ne (t := 61) C dX9_thinned_50 (by decide) (fun c12 => ?_) (fun c12 => ?_)
        · replace h := h.1 c12
          refine g_aloadn C dX9_thinned_61 0 rfl ?_
          refine gf_9_8 C dX9_thinned_62 wd_346 hT0 ?_
          refine g_iloadn C dX9_thinned_65 3 rfl ?_
          refine g_bipush C dX9_thinned_66 gRc_12 gRb_12 ?_
          refine g_idiv C dX9_thinned_68 h.1 ?_
          replace h := h.2
          refine g_iloadn C dX9_thinned_69 3 rfl ?_
          refine g_bipush C dX9_thinned_70 gRc_12 gRb_12 ?_
          refine g_irem C dX9_thinned_72 h.1 ?_
          replace h := h.2
          refine g_cVi (st := []) C dX9_thinned_73 ykX8_takes wd_636 ⟨by decide, by decide⟩ [gI (r7 / 12), gI (r7 % 12)] rfl (Nat.le_of_ble_eq_true rfl) (gt_9_8 hT0) (fun hM ho => sX8_takes hD (c0 + 209) (r7 / 12) (r7 % 12) M11 _ (gt_9_8 hT0) h hM ho) (fun r14 M13 h => ?_)
          obtain ⟨P17, h, hP17⟩ := h
          have J18 : ∀ (x15 : Int) (M16 : gMem), P17 x15 M16 → gG X V 4 84 [] [gI x15] M16 := by
            intro x15 M16 h
            replace h := hP17 x15 M16 h
            exact g_iret C hR dX9_thinned_84 h
          refine g_if_eq (t := 83) C dX9_thinned_76 (by decide) (fun c19 => ?_) (fun c19 => ?_)
          · replace h := h.1 c19
            refine g_iconst C dX9_thinned_83 gRc_0 ?_
            refine g_sub [] [] rfl ?_
            exact J18 0 M13 h
          · replace h := h.2 c19
            refine g_iconst C dX9_thinned_79 gRc_1 ?_
            refine g_goto (t := 84) C dX9_thinned_80 (by decide) ?_
            refine g_sub [] [] rfl ?_
            exact J18 1 M13 h
        · replace h := h.2 c12
          refine g_aloadn C dX9_thinned_53 0 rfl ?_
          refine gf_9_8 C dX9_thinned_54 wd_346 hT0 ?_
          refine gf_8_0 C dX9_thinned_57 wd_261 (gt_9_8 hT0) ?_
          exact g_iret C hR dX9_thinned_60 h
      refine g_ic_eq (t := 36) C dX9_thinned_25 (by decide) (fun c20 => ?_) (fun c20 => ?_)
      · replace h := h.1 c20
        refine g_sub [(0, gF c0), (1, gI a1), (2, gI a2), (3, gI r7)] [1, 2, 3, 0] rfl ?_
        exact J10 M6 h
      · replace h := h.2 c20
        refine g_iloadn C dX9_thinned_28 0 rfl ?_
        refine g_iconst C dX9_thinned_29 gRc_m1 ?_
        refine g_ic_ne (t := 36) C dX9_thinned_30 (by decide) (fun c21 => ?_) (fun c21 => ?_)
        · replace h := h.1 c21
          refine g_sub [(0, gF c0), (1, gI a1), (2, gI a2), (3, gI r7)] [1, 2, 3, 0] rfl ?_
          exact J10 M6 h
        · replace h := h.2 c21
          refine g_bipush C dX9_thinned_33 gRc_m2 gRb_m2 ?_
          exact g_iret C hR dX9_thinned_35 h
    · replace h := h.2 c5
      refine g_sub [] [] rfl ?_
      exact J3 M0 h

set_option maxRecDepth 100000 in
set_option maxHeartbeats 4000000 in
theorem sX4_clear {l : Launch} {V : gW} (hD : gD V) (c0 : Int) (M0 : gMem) (K : gMem → Prop) (hT0 : gT c0 4) (h : wX4_clear c0 K M0) (hM : gOM M0) (ho : ∀ q ∈ ([] : List gSV), gOK q) : gMv l V yX4_clear cX4_clear 1 0 0 [gF c0] M0 K := by
  refine gMv_of hD (by decide) (Nat.le_of_ble_eq_true rfl) [(0, gF c0)] rfl (gok_L rfl (gok_n (q := gF c0) trivial ho)) hM (fun X C hR => ?_)
  unfold wX4_clear at h
  refine g_aloadn C dX4_clear_0 0 rfl ?_
  refine g_iconst C dX4_clear_1 gRc_0 ?_
  refine gp_4_4 C dX4_clear_2 wd_325 hT0 ?_
  obtain ⟨M1, eM1⟩ : ∃ x : gMem, x = gup M0 c0 4 0 := ⟨_, rfl⟩
  refine g_nmM eM1 ?_
  replace h := h M1 eM1
  exact g_vret C hR dX4_clear_5 h

set_option maxRecDepth 100000 in
set_option maxHeartbeats 4000000 in
theorem sX4_offer {l : Launch} {V : gW} (hD : gD V) (c0 a1 a2 a3 a4 : Int) (M0 : gMem) (K : gMem → Prop) (hT0 : gT c0 4) (h : wX4_offer c0 a1 a2 a3 a4 K M0) (hM : gOM M0) (ho : ∀ q ∈ ([gI a1, gI a2, gI a3, gI a4] : List gSV), gOK q) : gMv l V yX4_offer cX4_offer 5 0 0 [gF c0, gI a1, gI a2, gI a3, gI a4] M0 K := by
  refine gMv_of hD (by decide) (Nat.le_of_ble_eq_true rfl) [(0, gF c0), (1, gI a1), (2, gI a2), (3, gI a3), (4, gI a4)] rfl (gok_L rfl (gok_n (q := gF c0) trivial ho)) hM (fun X C hR => ?_)
  unfold wX4_offer at h
  refine g_aloadn C dX4_offer_0 0 rfl ?_
  refine gf_4_4 C dX4_offer_1 wd_325 hT0 ?_
  obtain ⟨P2, h, hP2⟩ := h
  have J3 : ∀ (M1 : gMem), P2 M1 → gG X V 5 43 [(0, gF c0)] [] M1 := by
    intro M1 h
    replace h := hP2 M1 h
    refine g_aloadn C dX4_offer_43 0 rfl ?_
    refine g_dup C dX4_offer_44 (fun e => by cases e) ?_
    refine gf_4_4 C dX4_offer_45 wd_325 hT0 ?_
    refine g_iconst C dX4_offer_48 gRc_1 ?_
    refine g_iadd C dX4_offer_49 h.1 ?_
    replace h := h.2
    refine gp_4_4 C dX4_offer_50 wd_325 hT0 ?_
    obtain ⟨M4, eM4⟩ : ∃ x : gMem, x = gup M1 c0 4 ((M1 c0 4) + 1) := ⟨_, rfl⟩
    refine g_nmM eM4 ?_
    replace h := h M4 eM4
    exact g_vret C hR dX4_offer_53 h
  obtain ⟨P6, h, hP6⟩ := h
  have J7 : ∀ (M5 : gMem), P6 M5 → gG X V 5 22 [(0, gF c0), (1, gI a1), (2, gI a2), (3, gI a3), (4, gI a4)] [] M5 := by
    intro M5 h
    replace h := hP6 M5 h
    refine g_aloadn C dX4_offer_22 0 rfl ?_
    refine g_iloadn C dX4_offer_23 1 rfl ?_
    refine gp_4_0 C dX4_offer_24 wd_317 hT0 ?_
    obtain ⟨M8, eM8⟩ : ∃ x : gMem, x = gup M5 c0 0 a1 := ⟨_, rfl⟩
    refine g_nmM eM8 ?_
    replace h := h M8 eM8
    refine g_aloadn C dX4_offer_27 0 rfl ?_
    refine g_iloadn C dX4_offer_28 2 rfl ?_
    refine gp_4_1 C dX4_offer_29 wd_319 hT0 ?_
    obtain ⟨M9, eM9⟩ : ∃ x : gMem, x = gup M8 c0 1 a2 := ⟨_, rfl⟩
    refine g_nmM eM9 ?_
    replace h := h M9 eM9
    refine g_aloadn C dX4_offer_32 0 rfl ?_
    refine g_iloadn C dX4_offer_33 3 rfl ?_
    refine gp_4_2 C dX4_offer_34 wd_321 hT0 ?_
    obtain ⟨M10, eM10⟩ : ∃ x : gMem, x = gup M9 c0 2 a3 := ⟨_, rfl⟩
    refine g_nmM eM10 ?_
    replace h := h M10 eM10
    refine g_aloadn C dX4_offer_37 0 rfl ?_
    refine g_iload C dX4_offer_38 4 rfl ?_
    refine gp_4_3 C dX4_offer_40 wd_323 hT0 ?_
    obtain ⟨M11, eM11⟩ : ∃ x : gMem, x = gup M10 c0 3 a4 := ⟨_, rfl⟩
    refine g_nmM eM11 ?_
    replace h := h M11 eM11
    refine g_sub [(0, gF c0)] [0] rfl ?_
    exact J3 M11 h
  refine g_if_eq (t := 22) C dX4_offer_4 (by decide) (fun c12 => ?_) (fun c12 => ?_)
  · replace h := h.1 c12
    exact J7 M0 h
  · replace h := h.2 c12
    refine g_iloadn C dX4_offer_7 1 rfl ?_
    refine g_aloadn C dX4_offer_8 0 rfl ?_
    refine gf_4_1 C dX4_offer_9 wd_319 hT0 ?_
    refine g_imul C dX4_offer_12 h.1 ?_
    replace h := h.2
    refine g_aloadn C dX4_offer_13 0 rfl ?_
    refine gf_4_0 C dX4_offer_14 wd_317 hT0 ?_
    refine g_iloadn C dX4_offer_17 2 rfl ?_
    refine g_imul C dX4_offer_18 h.1 ?_
    replace h := h.2
    refine g_ic_le (t := 43) C dX4_offer_19 (by decide) (fun c13 => ?_) (fun c13 => ?_)
    · replace h := h.1 c13
      refine g_sub [(0, gF c0)] [0] rfl ?_
      exact J3 M0 h
    · replace h := h.2 c13
      exact J7 M0 h

set_option maxRecDepth 100000 in
set_option maxHeartbeats 4000000 in
theorem sX9_weighThinned {l : Launch} {V : gW} (hD : gD V) (c0 a1 : Int) (M0 : gMem) (K : gMem → Prop) (hT0 : gT c0 9) (h : wX9_weighThinned c0 a1 K M0) (hM : gOM M0) (ho : ∀ q ∈ ([gI a1] : List gSV), gOK q) : gMv l V yX9_weighThinned cX9_weighThinned 5 6 140 [gF c0, gI a1] M0 K := by
  refine gMv_of hD (by decide) (Nat.le_of_ble_eq_true rfl) [(0, gF c0), (1, gI a1)] rfl (gok_L rfl (gok_n (q := gF c0) trivial ho)) hM (fun X C hR => ?_)
  unfold wX9_weighThinned at h
  refine g_aloadn C dX9_weighThinned_0 0 rfl ?_
  refine gf_9_7 C dX9_weighThinned_1 wd_345 hT0 ?_
  refine g_aloadn C dX9_weighThinned_4 0 rfl ?_
  refine gf_9_0 C dX9_weighThinned_5 wd_338 hT0 ?_
  refine g_cVv (st := []) C dX9_weighThinned_8 ykX0_follow wd_672 ⟨by decide, by decide⟩ [gF (c0 + 1)] rfl (Nat.le_of_ble_eq_true rfl) (gt_9_7 hT0) (fun hM ho => sX0_follow hD (c0 + 195) (c0 + 1) M0 _ (gt_9_7 hT0) (gt_9_0 hT0) h hM ho) (fun M1 h => ?_)
  refine g_aloadn C dX9_weighThinned_11 0 rfl ?_
  refine gf_9_8 C dX9_weighThinned_12 wd_346 hT0 ?_
  refine g_aloadn C dX9_weighThinned_15 0 rfl ?_
  refine gf_9_0 C dX9_weighThinned_16 wd_338 hT0 ?_
  refine g_iloadn C dX9_weighThinned_19 1 rfl ?_
  refine g_cVv (st := []) C dX9_weighThinned_20 ykX8_follow wd_594 ⟨by decide, by decide⟩ [gF (c0 + 1), gI a1] rfl (Nat.le_of_ble_eq_true rfl) (gt_9_8 hT0) (fun hM ho => sX8_follow hD (c0 + 209) (c0 + 1) a1 M1 _ (gt_9_8 hT0) (gt_9_0 hT0) h hM ho) (fun M2 h => ?_)
  refine g_aloadn C dX9_weighThinned_23 0 rfl ?_
  refine gf_9_10 C dX9_weighThinned_24 wd_348 hT0 ?_
  refine g_cVv (st := []) C dX9_weighThinned_27 ykX4_clear wd_747 ⟨by decide, by decide⟩ [] rfl (Nat.le_of_ble_eq_true rfl) (gt_9_10 hT0) (fun hM ho => sX4_clear hD (c0 + 227) M2 _ (gt_9_10 hT0) h hM ho) (fun M3 h => ?_)
  refine g_iconst C dX9_weighThinned_30 gRc_0 ?_
  refine g_istoren C [(2, gI 0), (0, gF c0), (1, gI a1)] dX9_weighThinned_31 (by decide) rfl ?_
  refine g_sub [(0, gF c0), (2, gI 0)] [1, 0] rfl ?_
  refine gL1_go (Gd := fun (v4 : Int) (M5 : gMem) => gG X V 5 32 [(0, gF c0), (2, gI v4)] [] M5) (fun rec6 hrec6 v4 M5 h => ?_) h
  refine g_iloadn C dX9_weighThinned_32 1 rfl ?_
  refine g_aloadn C dX9_weighThinned_33 0 rfl ?_
  refine gf_9_0 C dX9_weighThinned_34 wd_338 hT0 ?_
  refine gf_1_0 C dX9_weighThinned_37 wd_108 (gt_9_0 hT0) ?_
  refine g_ic_ge (t := 110) C dX9_weighThinned_40 (by decide) (fun c7 => ?_) (fun c7 => ?_)
  · replace h := h.1 c7
    exact g_vret C hR dX9_weighThinned_110 h
  · replace h := h.2 c7
    refine g_iloadn C dX9_weighThinned_43 1 rfl ?_
    refine g_iconst C dX9_weighThinned_44 gRc_1 ?_
    refine g_iadd C dX9_weighThinned_45 h.1 ?_
    replace h := h.2
    obtain ⟨v8, ev8⟩ : ∃ x : Int, x = (v4 + 1) := ⟨_, rfl⟩
    refine g_nm ev8 ?_
    replace h := h v8 ev8
    refine g_istoren C [(3, gI v8), (0, gF c0), (2, gI v4)] dX9_weighThinned_46 (by decide) rfl ?_
    refine g_sub [(0, gF c0), (2, gI v4), (3, gI v8)] [1, 2, 0] rfl ?_
    refine gL1_go (Gd := fun (v9 : Int) (M10 : gMem) => gG X V 5 47 [(0, gF c0), (2, gI v4), (3, gI v9)] [] M10) (fun rec11 hrec11 v9 M10 h => ?_) h
    refine g_iloadn C dX9_weighThinned_47 2 rfl ?_
    refine g_aloadn C dX9_weighThinned_48 0 rfl ?_
    refine gf_9_0 C dX9_weighThinned_49 wd_338 hT0 ?_
    refine gf_1_0 C dX9_weighThinned_52 wd_108 (gt_9_0 hT0) ?_
    refine g_ic_ge (t := 104) C dX9_weighThinned_55 (by decide) (fun c12 => ?_) (fun c12 => ?_)
    · replace h := h.1 c12
      refine g_iinc C [(2, gI (v4 + 1)), (0, gF c0), (3, gI v9)] dX9_weighThinned_104 1 rfl (by decide) h.1 rfl ?_
      replace h := h.2
      refine g_goto (t := 32) C dX9_weighThinned_107 (by decide) ?_
      refine g_sub [(0, gF c0), (2, gI (v4 + 1))] [1, 0] rfl ?_
      exact hrec6 (v4 + 1) M10 h
    · replace h := h.2 c12
      refine g_aloadn C dX9_weighThinned_58 0 rfl ?_
      refine gf_9_7 C dX9_weighThinned_59 wd_345 hT0 ?_
      refine g_iloadn C dX9_weighThinned_62 1 rfl ?_
      refine g_iloadn C dX9_weighThinned_63 2 rfl ?_
      refine g_cVi (st := []) C dX9_weighThinned_64 ykX0_between wd_679 ⟨by decide, by decide⟩ [gI v4, gI v9] rfl (Nat.le_of_ble_eq_true rfl) (gt_9_7 hT0) (fun hM ho => sX0_between hD (c0 + 195) v4 v9 M10 _ (gt_9_7 hT0) h hM ho) (fun r14 M13 h => ?_)
      refine g_istore C [(4, gI r14), (0, gF c0), (2, gI v4), (3, gI v9)] dX9_weighThinned_67 (by decide) rfl ?_
      refine g_iload C dX9_weighThinned_69 0 rfl ?_
      refine g_iconst C dX9_weighThinned_71 gRc_m1 ?_
      obtain ⟨P16, h, hP16⟩ := h
      have J17 : ∀ (M15 : gMem), P16 M15 → gG X V 5 98 [(0, gF c0), (2, gI v4), (3, gI v9)] [] M15 := by
        intro M15 h
        replace h := hP16 M15 h
        refine g_iinc C [(3, gI (v9 + 1)), (0, gF c0), (2, gI v4)] dX9_weighThinned_98 2 rfl (by decide) h.1 rfl ?_
        replace h := h.2
        refine g_goto (t := 47) C dX9_weighThinned_101 (by decide) ?_
        refine g_sub [(0, gF c0), (2, gI v4), (3, gI (v9 + 1))] [1, 2, 0] rfl ?_
        exact hrec11 (v9 + 1) M15 h
      refine g_ic_eq (t := 98) C dX9_weighThinned_72 (by decide) (fun c18 => ?_) (fun c18 => ?_)
      · replace h := h.1 c18
        refine g_sub [(0, gF c0), (2, gI v4), (3, gI v9)] [1, 2, 3] rfl ?_
        exact J17 M13 h
      · replace h := h.2 c18
        refine g_aloadn C dX9_weighThinned_75 1 rfl ?_
        refine gf_9_10 C dX9_weighThinned_76 wd_348 hT0 ?_
        refine g_aloadn C dX9_weighThinned_79 1 rfl ?_
        refine gf_9_8 C dX9_weighThinned_80 wd_346 hT0 ?_
        refine gf_8_1 C dX9_weighThinned_83 wd_263 (gt_9_8 hT0) ?_
        refine g_iloadn C dX9_weighThinned_86 2 rfl ?_
        refine g_iloadn C dX9_weighThinned_87 3 rfl ?_
        refine g_cVi (st := [gF (c0 + 227)]) C dX9_weighThinned_88 ykX0_between wd_679 ⟨by decide, by decide⟩ [gI v4, gI v9] rfl (Nat.le_of_ble_eq_true rfl) (gt_8_1 (gt_9_8 hT0)) (fun hM ho => sX0_between hD ((c0 + 209) + 1) v4 v9 M13 _ (gt_8_1 (gt_9_8 hT0)) h hM ho) (fun r20 M19 h => ?_)
        refine g_iload C dX9_weighThinned_91 0 rfl ?_
        refine g_iloadn C dX9_weighThinned_93 2 rfl ?_
        refine g_iloadn C dX9_weighThinned_94 3 rfl ?_
        refine g_cVv (st := []) C dX9_weighThinned_95 ykX4_offer wd_751 ⟨by decide, by decide⟩ [gI r20, gI r14, gI v4, gI v9] rfl (Nat.le_of_ble_eq_true rfl) (gt_9_10 hT0) (fun hM ho => sX4_offer hD (c0 + 227) r20 r14 v4 v9 M19 _ (gt_9_10 hT0) h hM ho) (fun M21 h => ?_)
        refine g_sub [(0, gF c0), (2, gI v4), (3, gI v9)] [1, 2, 3] rfl ?_
        exact J17 M21 h

set_option maxRecDepth 100000 in
set_option maxHeartbeats 4000000 in
theorem sX9_commonPart {l : Launch} {V : gW} (hD : gD V) (a1 a2 : Int) (M0 : gMem) (K : Int → gMem → Prop) (h : wX9_commonPart a1 a2 K M0) (hM : gOM M0) (ho : ∀ q ∈ ([gI a1, gI a2] : List gSV), gOK q) : gMi l V yX9_commonPart cX9_commonPart 6 (some .int) 0 0 [gI a1, gI a2] M0 K := by
  refine gMi_of hD (by decide) (Nat.le_of_ble_eq_true rfl) [(0, gI a1), (1, gI a2)] rfl (gok_L rfl ho) hM (fun X C hR => ?_)
  unfold wX9_commonPart at h
  refine g_iloadn C dX9_commonPart_0 0 rfl ?_
  refine g_istoren C [(2, gI a1), (0, gI a1), (1, gI a2)] dX9_commonPart_1 (by decide) rfl ?_
  refine g_iloadn C dX9_commonPart_2 2 rfl ?_
  refine g_istoren C [(3, gI a2), (2, gI a1), (0, gI a1), (1, gI a2)] dX9_commonPart_3 (by decide) rfl ?_
  refine g_iconst C dX9_commonPart_4 gRc_0 ?_
  refine g_istore C [(4, gI 0), (3, gI a2), (2, gI a1), (0, gI a1), (1, gI a2)] dX9_commonPart_5 (by decide) rfl ?_
  refine g_sub [(2, gI a1), (3, gI a2), (4, gI 0)] [2, 1, 0] rfl ?_
  refine gL3_go (Gd := fun (v1 : Int) (v2 : Int) (v3 : Int) (M4 : gMem) => gG X V 6 7 [(2, gI v1), (3, gI v2), (4, gI v3)] [] M4) (fun rec5 hrec5 v1 v2 v3 M4 h => ?_) h
  refine g_iload C dX9_commonPart_7 2 rfl ?_
  refine g_bipush C dX9_commonPart_9 gRc_64 gRb_64 ?_
  obtain ⟨P7, h, hP7⟩ := h
  have J8 : ∀ (M6 : gMem), P7 M6 → gG X V 6 34 [(2, gI v1)] [] M6 := by
    intro M6 h
    replace h := hP7 M6 h
    refine g_iloadn C dX9_commonPart_34 0 rfl ?_
    exact g_iret C hR dX9_commonPart_35 h
  refine g_ic_ge (t := 34) C dX9_commonPart_11 (by decide) (fun c9 => ?_) (fun c9 => ?_)
  · replace h := h.1 c9
    refine g_sub [(2, gI v1)] [0] rfl ?_
    exact J8 M4 h
  · replace h := h.2 c9
    refine g_iloadn C dX9_commonPart_14 1 rfl ?_
    refine g_if_eq (t := 34) C dX9_commonPart_15 (by decide) (fun c10 => ?_) (fun c10 => ?_)
    · replace h := h.1 c10
      refine g_sub [(2, gI v1)] [0] rfl ?_
      exact J8 M4 h
    · replace h := h.2 c10
      refine g_iloadn C dX9_commonPart_18 0 rfl ?_
      refine g_iloadn C dX9_commonPart_19 1 rfl ?_
      refine g_irem C dX9_commonPart_20 h.1 ?_
      replace h := h.2
      obtain ⟨v11, ev11⟩ : ∃ x : Int, x = (v1 % v2) := ⟨_, rfl⟩
      refine g_nm ev11 ?_
      replace h := h v11 ev11
      refine g_istore C [(5, gI v11), (2, gI v1), (3, gI v2), (4, gI v3)] dX9_commonPart_21 (by decide) rfl ?_
      refine g_iloadn C dX9_commonPart_23 2 rfl ?_
      refine g_istoren C [(2, gI v2), (5, gI v11), (3, gI v2), (4, gI v3)] dX9_commonPart_24 (by decide) rfl ?_
      refine g_iload C dX9_commonPart_25 1 rfl ?_
      refine g_istoren C [(3, gI v11), (2, gI v2), (5, gI v11), (4, gI v3)] dX9_commonPart_27 (by decide) rfl ?_
      refine g_iinc C [(4, gI (v3 + 1)), (3, gI v11), (2, gI v2), (5, gI v11)] dX9_commonPart_28 3 rfl (by decide) h.1 rfl ?_
      replace h := h.2
      refine g_goto (t := 7) C dX9_commonPart_31 (by decide) ?_
      refine g_sub [(2, gI v2), (3, gI v11), (4, gI (v3 + 1))] [2, 1, 0] rfl ?_
      exact hrec5 v2 v11 (v3 + 1) M4 h

set_option maxRecDepth 100000 in
set_option maxHeartbeats 4000000 in
theorem sX9_worst {l : Launch} {V : gW} (hD : gD V) (c0 a1 a2 : Int) (M0 : gMem) (K : Int → gMem → Prop) (hT0 : gT c0 9) (h : wX9_worst c0 a1 a2 K M0) (hM : gOM M0) (ho : ∀ q ∈ ([gI a1, gI a2] : List gSV), gOK q) : gMi l V yX9_worst cX9_worst 4 (some .int) 7 164 [gF c0, gI a1, gI a2] M0 K := by
  refine gMi_of hD (by decide) (Nat.le_of_ble_eq_true rfl) [(0, gF c0), (1, gI a1), (2, gI a2)] rfl (gok_L rfl (gok_n (q := gF c0) trivial ho)) hM (fun X C hR => ?_)
  unfold wX9_worst at h
  refine g_iloadn C dX9_worst_0 1 rfl ?_
  refine g_iconst C dX9_worst_1 gRc_1 ?_
  obtain ⟨P2, h, hP2⟩ := h
  have J3 : ∀ (M1 : gMem), P2 M1 → gG X V 4 20 [] [] M1 := by
    intro M1 h
    replace h := hP2 M1 h
    refine g_bipush C dX9_worst_20 gRc_m3 gRb_m3 ?_
    exact g_iret C hR dX9_worst_22 h
  refine g_ic_lt (t := 20) C dX9_worst_2 (by decide) (fun c4 => ?_) (fun c4 => ?_)
  · replace h := h.1 c4
    refine g_sub [] [] rfl ?_
    exact J3 M0 h
  · replace h := h.2 c4
    refine g_iloadn C dX9_worst_5 1 rfl ?_
    refine g_bipush C dX9_worst_6 gRc_9 gRb_9 ?_
    refine g_ic_gt (t := 20) C dX9_worst_8 (by decide) (fun c5 => ?_) (fun c5 => ?_)
    · replace h := h.1 c5
      refine g_sub [] [] rfl ?_
      exact J3 M0 h
    · replace h := h.2 c5
      refine g_iloadn C dX9_worst_11 2 rfl ?_
      refine g_if_lt (t := 20) C dX9_worst_12 (by decide) (fun c6 => ?_) (fun c6 => ?_)
      · replace h := h.1 c6
        refine g_sub [] [] rfl ?_
        exact J3 M0 h
      · replace h := h.2 c6
        refine g_iloadn C dX9_worst_15 2 rfl ?_
        refine g_iconst C dX9_worst_16 gRc_1 ?_
        refine g_ic_le (t := 23) C dX9_worst_17 (by decide) (fun c7 => ?_) (fun c7 => ?_)
        · replace h := h.1 c7
          refine g_aloadn C dX9_worst_23 0 rfl ?_
          refine g_iloadn C dX9_worst_24 1 rfl ?_
          refine g_cVv (st := []) C dX9_worst_25 ykX9_weighThinned wd_743 ⟨by decide, by decide⟩ [gI a1] rfl (Nat.le_of_ble_eq_true rfl) hT0 (fun hM ho => sX9_weighThinned hD c0 a1 M0 _ hT0 h hM ho) (fun M8 h => ?_)
          refine g_aloadn C dX9_worst_28 0 rfl ?_
          refine gf_9_10 C dX9_worst_29 wd_348 hT0 ?_
          refine gf_4_4 C dX9_worst_32 wd_326 (gt_9_10 hT0) ?_
          refine g_if_ne (t := 40) C dX9_worst_35 (by decide) (fun c9 => ?_) (fun c9 => ?_)
          · replace h := h.1 c9
            refine g_aloadn C dX9_worst_40 0 rfl ?_
            refine gf_9_10 C dX9_worst_41 wd_348 hT0 ?_
            refine gf_4_0 C dX9_worst_44 wd_318 (gt_9_10 hT0) ?_
            refine g_aloadn C dX9_worst_47 0 rfl ?_
            refine gf_9_10 C dX9_worst_48 wd_348 hT0 ?_
            refine gf_4_1 C dX9_worst_51 wd_320 (gt_9_10 hT0) ?_
            refine g_cSi (st := []) C dX9_worst_54 ykX9_commonPart wd_755 ⟨by decide, by decide⟩ [gI (M8 (c0 + 227) 0), gI (M8 (c0 + 227) 1)] rfl (Nat.le_of_ble_eq_true rfl) (fun hM ho => sX9_commonPart hD (M8 (c0 + 227) 0) (M8 (c0 + 227) 1) M8 _  h hM ho) (fun r11 M10 h => ?_)
            refine g_istoren C [(3, gI r11), (0, gF c0), (1, gI a1), (2, gI a2)] dX9_worst_57 (by decide) rfl ?_
            refine g_iloadn C dX9_worst_58 0 rfl ?_
            refine g_if_ne (t := 64) C dX9_worst_59 (by decide) (fun c12 => ?_) (fun c12 => ?_)
            · replace h := h.1 c12
              refine g_iloadn C dX9_worst_64 3 rfl ?_
              obtain ⟨P15, h, hP15⟩ := h
              have J16 : ∀ (x13 : Int) (M14 : gMem), P15 x13 M14 → gG X V 4 89 [] [gI x13] M14 := by
                intro x13 M14 h
                replace h := hP15 x13 M14 h
                exact g_iret C hR dX9_worst_89 h
              refine g_if_ne (t := 80) C dX9_worst_65 (by decide) (fun c17 => ?_) (fun c17 => ?_)
              · replace h := h.1 c17
                refine g_aloadn C dX9_worst_80 1 rfl ?_
                refine gf_9_10 C dX9_worst_81 wd_348 hT0 ?_
                refine gf_4_1 C dX9_worst_84 wd_320 (gt_9_10 hT0) ?_
                refine g_iloadn C dX9_worst_87 0 rfl ?_
                refine g_idiv C dX9_worst_88 h.1 ?_
                replace h := h.2
                refine g_sub [] [] rfl ?_
                exact J16 ((M10 (c0 + 227) 1) / r11) M10 h
              · replace h := h.2 c17
                refine g_aloadn C dX9_worst_68 1 rfl ?_
                refine gf_9_10 C dX9_worst_69 wd_348 hT0 ?_
                refine gf_4_0 C dX9_worst_72 wd_318 (gt_9_10 hT0) ?_
                refine g_iloadn C dX9_worst_75 0 rfl ?_
                refine g_idiv C dX9_worst_76 h.1 ?_
                replace h := h.2
                refine g_goto (t := 89) C dX9_worst_77 (by decide) ?_
                refine g_sub [] [] rfl ?_
                exact J16 ((M10 (c0 + 227) 0) / r11) M10 h
            · replace h := h.2 c12
              refine g_iconst C dX9_worst_62 gRc_m1 ?_
              exact g_iret C hR dX9_worst_63 h
          · replace h := h.2 c9
            refine g_iconst C dX9_worst_38 gRc_m1 ?_
            exact g_iret C hR dX9_worst_39 h
        · replace h := h.2 c7
          refine g_sub [] [] rfl ?_
          exact J3 M0 h

set_option maxRecDepth 100000 in
set_option maxHeartbeats 4000000 in
theorem sX9_note {l : Launch} {V : gW} (hD : gD V) (c0 a1 : Int) (M0 : gMem) (K : Int → gMem → Prop) (hT0 : gT c0 9) (h : wX9_note c0 a1 K M0) (hM : gOM M0) (ho : ∀ q ∈ ([gI a1] : List gSV), gOK q) : gMi l V yX9_note cX9_note 2 (some .int) 4 114 [gF c0, gI a1] M0 K := by
  refine gMi_of hD (by decide) (Nat.le_of_ble_eq_true rfl) [(0, gF c0), (1, gI a1)] rfl (gok_L rfl (gok_n (q := gF c0) trivial ho)) hM (fun X C hR => ?_)
  unfold wX9_note at h
  refine g_aloadn C dX9_note_0 0 rfl ?_
  refine gf_9_0 C dX9_note_1 wd_338 hT0 ?_
  refine g_iloadn C dX9_note_4 1 rfl ?_
  refine g_cVi (st := []) C dX9_note_5 ykX1_has wd_545 ⟨by decide, by decide⟩ [gI a1] rfl (Nat.le_of_ble_eq_true rfl) (gt_9_0 hT0) (fun hM ho => sX1_has hD (c0 + 1) a1 M0 _ (gt_9_0 hT0) h hM ho) (fun r2 M1 h => ?_)
  refine g_if_ne (t := 14) C dX9_note_8 (by decide) (fun c3 => ?_) (fun c3 => ?_)
  · replace h := h.1 c3
    refine g_aloadn C dX9_note_14 0 rfl ?_
    refine g_iloadn C dX9_note_15 1 rfl ?_
    refine g_cVv (st := []) C dX9_note_16 ykX9_writeDraft wd_684 ⟨by decide, by decide⟩ [gI a1] rfl (Nat.le_of_ble_eq_true rfl) hT0 (fun hM ho => sX9_writeDraft hD c0 a1 M1 _ hT0 h hM ho) (fun M4 h => ?_)
    refine g_aloadn C dX9_note_19 0 rfl ?_
    refine gf_9_4 C dX9_note_20 wd_342 hT0 ?_
    refine g_iloadn C dX9_note_23 1 rfl ?_
    have hb5 := h.1
    replace h := h.2
    refine g_aald C dX9_note_24 (gt_9_4 hT0) gce_30012 2 rfl (by decide) rfl hb5 ?_
    refine g_aloadn C dX9_note_25 0 rfl ?_
    refine gf_9_5 C dX9_note_26 wd_343 hT0 ?_
    refine g_cVv (st := []) C dX9_note_29 ykX2_copyFrom wd_655 ⟨by decide, by decide⟩ [gF (c0 + 84)] rfl (Nat.le_of_ble_eq_true rfl) (gta_30012 (gt_9_4 hT0) hb5) (fun hM ho => sX2_copyFrom hD ((c0 + 35) + 1 + 4 * a1) (c0 + 84) M4 _ (gta_30012 (gt_9_4 hT0) hb5) (gt_9_5 hT0) h hM ho) (fun M6 h => ?_)
    refine g_aloadn C dX9_note_32 0 rfl ?_
    refine gf_9_5 C dX9_note_33 wd_343 hT0 ?_
    refine gf_2_1 C dX9_note_36 wd_197 (gt_9_5 hT0) ?_
    refine g_bits C dX9_note_39 wd_762 ⟨by decide, by decide⟩ (Nat.le_of_ble_eq_true rfl) hD h.1 ?_
    replace h := h.2
    exact g_iret C hR dX9_note_42 h
  · replace h := h.2 c3
    refine g_bipush C dX9_note_11 gRc_m2 gRb_m2 ?_
    exact g_iret C hR dX9_note_13 h

set_option maxRecDepth 100000 in
set_option maxHeartbeats 4000000 in
theorem sX2_bearsSameAs {l : Launch} {V : gW} (hD : gD V) (c0 a1 : Int) (M0 : gMem) (K : Int → gMem → Prop) (hT0 : gT c0 2) (hT1 : gT a1 2) (h : wX2_bearsSameAs c0 a1 K M0) (hM : gOM M0) (ho : ∀ q ∈ ([gF a1] : List gSV), gOK q) : gMi l V yX2_bearsSameAs cX2_bearsSameAs 3 (some .boolean) 0 0 [gF c0, gF a1] M0 K := by
  refine gMi_of hD (by decide) (Nat.le_of_ble_eq_true rfl) [(0, gF c0), (1, gF a1)] rfl (gok_L rfl (gok_n (q := gF c0) trivial ho)) hM (fun X C hR => ?_)
  unfold wX2_bearsSameAs at h
  refine g_aloadn C dX2_bearsSameAs_0 0 rfl ?_
  refine gf_2_0 C dX2_bearsSameAs_1 wd_194 hT0 ?_
  obtain ⟨P2, h, hP2⟩ := h
  have J3 : ∀ (M1 : gMem), P2 M1 → gG X V 3 14 [] [] M1 := by
    intro M1 h
    replace h := hP2 M1 h
    refine g_iconst C dX2_bearsSameAs_14 gRc_0 ?_
    exact g_zret C hR dX2_bearsSameAs_15 (Or.inl rfl) h
  refine g_if_eq (t := 14) C dX2_bearsSameAs_4 (by decide) (fun c4 => ?_) (fun c4 => ?_)
  · replace h := h.1 c4
    refine g_sub [] [] rfl ?_
    exact J3 M0 h
  · replace h := h.2 c4
    refine g_aloadn C dX2_bearsSameAs_7 1 rfl ?_
    refine gf_2_0 C dX2_bearsSameAs_8 wd_194 hT1 ?_
    refine g_if_ne (t := 16) C dX2_bearsSameAs_11 (by decide) (fun c5 => ?_) (fun c5 => ?_)
    · replace h := h.1 c5
      refine g_iconst C dX2_bearsSameAs_16 gRc_0 ?_
      refine g_istoren C [(2, gI 0), (0, gF c0), (1, gF a1)] dX2_bearsSameAs_17 (by decide) rfl ?_
      refine g_sub [(0, gF c0), (1, gF a1), (2, gI 0)] [1, 2, 0] rfl ?_
      refine gL1_go (Gd := fun (v6 : Int) (M7 : gMem) => gG X V 3 18 [(0, gF c0), (1, gF a1), (2, gI v6)] [] M7) (fun rec8 hrec8 v6 M7 h => ?_) h
      refine g_iloadn C dX2_bearsSameAs_18 2 rfl ?_
      refine g_iconst C dX2_bearsSameAs_19 gRc_3 ?_
      refine g_ic_ge (t := 61) C dX2_bearsSameAs_20 (by decide) (fun c9 => ?_) (fun c9 => ?_)
      · replace h := h.1 c9
        refine g_iconst C dX2_bearsSameAs_61 gRc_0 ?_
        refine g_istoren C [(2, gI 0), (0, gF c0), (1, gF a1)] dX2_bearsSameAs_62 (by decide) rfl ?_
        refine g_sub [(0, gF c0), (1, gF a1), (2, gI 0)] [1, 2, 0] rfl ?_
        refine gL1_go (Gd := fun (v10 : Int) (M11 : gMem) => gG X V 3 63 [(0, gF c0), (1, gF a1), (2, gI v10)] [] M11) (fun rec12 hrec12 v10 M11 h => ?_) h
        refine g_iloadn C dX2_bearsSameAs_63 2 rfl ?_
        refine g_bipush C dX2_bearsSameAs_64 gRc_12 gRb_12 ?_
        refine g_ic_ge (t := 92) C dX2_bearsSameAs_66 (by decide) (fun c13 => ?_) (fun c13 => ?_)
        · replace h := h.1 c13
          refine g_iconst C dX2_bearsSameAs_92 gRc_1 ?_
          exact g_zret C hR dX2_bearsSameAs_93 (Or.inr rfl) h
        · replace h := h.2 c13
          refine g_aloadn C dX2_bearsSameAs_69 0 rfl ?_
          refine gf_2_4 C dX2_bearsSameAs_70 wd_200 hT0 ?_
          refine g_iloadn C dX2_bearsSameAs_73 2 rfl ?_
          refine g_iald C dX2_bearsSameAs_74 (gt_2_4 hT0) gce_10012 h.1 ?_
          replace h := h.2
          refine g_aloadn C dX2_bearsSameAs_75 1 rfl ?_
          refine gf_2_4 C dX2_bearsSameAs_76 wd_200 hT1 ?_
          refine g_iloadn C dX2_bearsSameAs_79 2 rfl ?_
          refine g_iald C dX2_bearsSameAs_80 (gt_2_4 hT1) gce_10012 h.1 ?_
          replace h := h.2
          refine g_ic_eq (t := 86) C dX2_bearsSameAs_81 (by decide) (fun c14 => ?_) (fun c14 => ?_)
          · replace h := h.1 c14
            refine g_iinc C [(2, gI (v10 + 1)), (0, gF c0), (1, gF a1)] dX2_bearsSameAs_86 2 rfl (by decide) h.1 rfl ?_
            replace h := h.2
            refine g_goto (t := 63) C dX2_bearsSameAs_89 (by decide) ?_
            refine g_sub [(0, gF c0), (1, gF a1), (2, gI (v10 + 1))] [1, 2, 0] rfl ?_
            exact hrec12 (v10 + 1) M11 h
          · replace h := h.2 c14
            refine g_iconst C dX2_bearsSameAs_84 gRc_0 ?_
            exact g_zret C hR dX2_bearsSameAs_85 (Or.inl rfl) h
      · replace h := h.2 c9
        refine g_aloadn C dX2_bearsSameAs_23 0 rfl ?_
        refine gf_2_2 C dX2_bearsSameAs_24 wd_198 hT0 ?_
        refine g_iloadn C dX2_bearsSameAs_27 2 rfl ?_
        refine g_iald C dX2_bearsSameAs_28 (gt_2_2 hT0) gce_10003 h.1 ?_
        replace h := h.2
        refine g_aloadn C dX2_bearsSameAs_29 1 rfl ?_
        refine gf_2_2 C dX2_bearsSameAs_30 wd_198 hT1 ?_
        refine g_iloadn C dX2_bearsSameAs_33 2 rfl ?_
        refine g_iald C dX2_bearsSameAs_34 (gt_2_2 hT1) gce_10003 h.1 ?_
        replace h := h.2
        obtain ⟨P16, h, hP16⟩ := h
        have J17 : ∀ (M15 : gMem), P16 M15 → gG X V 3 53 [] [] M15 := by
          intro M15 h
          replace h := hP16 M15 h
          refine g_iconst C dX2_bearsSameAs_53 gRc_0 ?_
          exact g_zret C hR dX2_bearsSameAs_54 (Or.inl rfl) h
        refine g_ic_ne (t := 53) C dX2_bearsSameAs_35 (by decide) (fun c18 => ?_) (fun c18 => ?_)
        · replace h := h.1 c18
          refine g_sub [] [] rfl ?_
          exact J17 M7 h
        · replace h := h.2 c18
          refine g_aloadn C dX2_bearsSameAs_38 0 rfl ?_
          refine gf_2_3 C dX2_bearsSameAs_39 wd_199 hT0 ?_
          refine g_iloadn C dX2_bearsSameAs_42 2 rfl ?_
          refine g_iald C dX2_bearsSameAs_43 (gt_2_3 hT0) gce_10003 h.1 ?_
          replace h := h.2
          refine g_aloadn C dX2_bearsSameAs_44 1 rfl ?_
          refine gf_2_3 C dX2_bearsSameAs_45 wd_199 hT1 ?_
          refine g_iloadn C dX2_bearsSameAs_48 2 rfl ?_
          refine g_iald C dX2_bearsSameAs_49 (gt_2_3 hT1) gce_10003 h.1 ?_
          replace h := h.2
          refine g_ic_eq (t := 55) C dX2_bearsSameAs_50 (by decide) (fun c19 => ?_) (fun c19 => ?_)
          · replace h := h.1 c19
            refine g_iinc C [(2, gI (v6 + 1)), (0, gF c0), (1, gF a1)] dX2_bearsSameAs_55 2 rfl (by decide) h.1 rfl ?_
            replace h := h.2
            refine g_goto (t := 18) C dX2_bearsSameAs_58 (by decide) ?_
            refine g_sub [(0, gF c0), (1, gF a1), (2, gI (v6 + 1))] [1, 2, 0] rfl ?_
            exact hrec8 (v6 + 1) M7 h
          · replace h := h.2 c19
            refine g_sub [] [] rfl ?_
            exact J17 M7 h
    · replace h := h.2 c5
      refine g_sub [] [] rfl ?_
      exact J3 M0 h

set_option maxRecDepth 100000 in
set_option maxHeartbeats 4000000 in
theorem sX9_isFresh {l : Launch} {V : gW} (hD : gD V) (c0 a1 : Int) (M0 : gMem) (K : Int → gMem → Prop) (hT0 : gT c0 9) (h : wX9_isFresh c0 a1 K M0) (hM : gOM M0) (ho : ∀ q ∈ ([gI a1] : List gSV), gOK q) : gMi l V yX9_isFresh cX9_isFresh 2 (some .boolean) 4 114 [gF c0, gI a1] M0 K := by
  refine gMi_of hD (by decide) (Nat.le_of_ble_eq_true rfl) [(0, gF c0), (1, gI a1)] rfl (gok_L rfl (gok_n (q := gF c0) trivial ho)) hM (fun X C hR => ?_)
  unfold wX9_isFresh at h
  refine g_aloadn C dX9_isFresh_0 0 rfl ?_
  refine g_iloadn C dX9_isFresh_1 1 rfl ?_
  refine g_cVv (st := []) C dX9_isFresh_2 ykX9_writeDraft wd_684 ⟨by decide, by decide⟩ [gI a1] rfl (Nat.le_of_ble_eq_true rfl) hT0 (fun hM ho => sX9_writeDraft hD c0 a1 M0 _ hT0 h hM ho) (fun M1 h => ?_)
  refine g_aloadn C dX9_isFresh_5 0 rfl ?_
  refine gf_9_4 C dX9_isFresh_6 wd_342 hT0 ?_
  refine g_iloadn C dX9_isFresh_9 1 rfl ?_
  have hb2 := h.1
  replace h := h.2
  refine g_aald C dX9_isFresh_10 (gt_9_4 hT0) gce_30012 2 rfl (by decide) rfl hb2 ?_
  refine g_aloadn C dX9_isFresh_11 0 rfl ?_
  refine gf_9_5 C dX9_isFresh_12 wd_343 hT0 ?_
  refine g_cVi (st := []) C dX9_isFresh_15 ykX2_bearsSameAs wd_776 ⟨by decide, by decide⟩ [gF (c0 + 84)] rfl (Nat.le_of_ble_eq_true rfl) (gta_30012 (gt_9_4 hT0) hb2) (fun hM ho => sX2_bearsSameAs hD ((c0 + 35) + 1 + 4 * a1) (c0 + 84) M1 _ (gta_30012 (gt_9_4 hT0) hb2) (gt_9_5 hT0) h hM ho) (fun r4 M3 h => ?_)
  exact g_zret C hR dX9_isFresh_18 h.1 h.2

set_option maxRecDepth 100000 in
set_option maxHeartbeats 4000000 in
theorem sX9_mend {l : Launch} {V : gW} (hD : gD V) (c0 : Int) (M0 : gMem) (K : Int → gMem → Prop) (hT0 : gT c0 9) (h : wX9_mend c0 K M0) (hM : gOM M0) (ho : ∀ q ∈ ([] : List gSV), gOK q) : gMi l V yX9_mend cX9_mend 3 (some .int) 5 135 [gF c0] M0 K := by
  refine gMi_of hD (by decide) (Nat.le_of_ble_eq_true rfl) [(0, gF c0)] rfl (gok_L rfl (gok_n (q := gF c0) trivial ho)) hM (fun X C hR => ?_)
  unfold wX9_mend at h
  refine g_iconst C dX9_mend_0 gRc_0 ?_
  refine g_istoren C [(1, gI 0), (0, gF c0)] dX9_mend_1 (by decide) rfl ?_
  refine g_iconst C dX9_mend_2 gRc_0 ?_
  refine g_istoren C [(2, gI 0), (1, gI 0), (0, gF c0)] dX9_mend_3 (by decide) rfl ?_
  refine g_sub [(0, gF c0), (1, gI 0), (2, gI 0)] [2, 1, 0] rfl ?_
  refine gL2_go (Gd := fun (v1 : Int) (v2 : Int) (M3 : gMem) => gG X V 3 4 [(0, gF c0), (1, gI v1), (2, gI v2)] [] M3) (fun rec4 hrec4 v1 v2 M3 h => ?_) h
  refine g_iloadn C dX9_mend_4 2 rfl ?_
  refine g_aloadn C dX9_mend_5 0 rfl ?_
  refine gf_9_0 C dX9_mend_6 wd_338 hT0 ?_
  refine gf_1_0 C dX9_mend_9 wd_108 (gt_9_0 hT0) ?_
  refine g_ic_ge (t := 45) C dX9_mend_12 (by decide) (fun c5 => ?_) (fun c5 => ?_)
  · replace h := h.1 c5
    refine g_iloadn C dX9_mend_45 1 rfl ?_
    exact g_iret C hR dX9_mend_46 h
  · replace h := h.2 c5
    refine g_aloadn C dX9_mend_15 0 rfl ?_
    refine g_iloadn C dX9_mend_16 2 rfl ?_
    refine g_cVi (st := []) C dX9_mend_17 ykX9_isFresh wd_772 ⟨by decide, by decide⟩ [gI v2] rfl (Nat.le_of_ble_eq_true rfl) hT0 (fun hM ho => sX9_isFresh hD c0 v2 M3 _ hT0 h hM ho) (fun r7 M6 h => ?_)
    obtain ⟨P10, h, hP10⟩ := h
    have J11 : ∀ (v8 : Int) (M9 : gMem), P10 v8 M9 → gG X V 3 39 [(0, gF c0), (1, gI v8), (2, gI v2)] [] M9 := by
      intro v8 M9 h
      replace h := hP10 v8 M9 h
      refine g_iinc C [(2, gI (v2 + 1)), (0, gF c0), (1, gI v8)] dX9_mend_39 2 rfl (by decide) h.1 rfl ?_
      replace h := h.2
      refine g_goto (t := 4) C dX9_mend_42 (by decide) ?_
      refine g_sub [(0, gF c0), (1, gI v8), (2, gI (v2 + 1))] [1, 2, 0] rfl ?_
      exact hrec4 v8 (v2 + 1) M9 h
    refine g_if_ne (t := 39) C dX9_mend_20 (by decide) (fun c12 => ?_) (fun c12 => ?_)
    · replace h := h.1 c12
      exact J11 v1 M6 h
    · replace h := h.2 c12
      refine g_aloadn C dX9_mend_23 0 rfl ?_
      refine gf_9_4 C dX9_mend_24 wd_342 hT0 ?_
      refine g_iloadn C dX9_mend_27 2 rfl ?_
      have hb13 := h.1
      replace h := h.2
      refine g_aald C dX9_mend_28 (gt_9_4 hT0) gce_30012 2 rfl (by decide) rfl hb13 ?_
      refine g_aloadn C dX9_mend_29 0 rfl ?_
      refine gf_9_5 C dX9_mend_30 wd_343 hT0 ?_
      refine g_cVv (st := []) C dX9_mend_33 ykX2_copyFrom wd_655 ⟨by decide, by decide⟩ [gF (c0 + 84)] rfl (Nat.le_of_ble_eq_true rfl) (gta_30012 (gt_9_4 hT0) hb13) (fun hM ho => sX2_copyFrom hD ((c0 + 35) + 1 + 4 * v2) (c0 + 84) M6 _ (gta_30012 (gt_9_4 hT0) hb13) (gt_9_5 hT0) h hM ho) (fun M14 h => ?_)
      refine g_iinc C [(1, gI (v1 + 1)), (0, gF c0), (2, gI v2)] dX9_mend_36 1 rfl (by decide) h.1 rfl ?_
      replace h := h.2
      refine g_sub [(0, gF c0), (1, gI (v1 + 1)), (2, gI v2)] [1, 0, 2] rfl ?_
      exact J11 (v1 + 1) M14 h

set_option maxRecDepth 100000 in
set_option maxHeartbeats 4000000 in
theorem sX9_tear {l : Launch} {V : gW} (hD : gD V) (c0 a1 : Int) (M0 : gMem) (K : Int → gMem → Prop) (hT0 : gT c0 9) (h : wX9_tear c0 a1 K M0) (hM : gOM M0) (ho : ∀ q ∈ ([gI a1] : List gSV), gOK q) : gMi l V yX9_tear cX9_tear 3 (some .int) 1 21 [gF c0, gI a1] M0 K := by
  refine gMi_of hD (by decide) (Nat.le_of_ble_eq_true rfl) [(0, gF c0), (1, gI a1)] rfl (gok_L rfl (gok_n (q := gF c0) trivial ho)) hM (fun X C hR => ?_)
  unfold wX9_tear at h
  refine g_aloadn C dX9_tear_0 0 rfl ?_
  refine gf_9_0 C dX9_tear_1 wd_338 hT0 ?_
  refine g_iloadn C dX9_tear_4 1 rfl ?_
  refine g_cVi (st := []) C dX9_tear_5 ykX1_has wd_545 ⟨by decide, by decide⟩ [gI a1] rfl (Nat.le_of_ble_eq_true rfl) (gt_9_0 hT0) (fun hM ho => sX1_has hD (c0 + 1) a1 M0 _ (gt_9_0 hT0) h hM ho) (fun r2 M1 h => ?_)
  refine g_if_ne (t := 14) C dX9_tear_8 (by decide) (fun c3 => ?_) (fun c3 => ?_)
  · replace h := h.1 c3
    refine g_aloadn C dX9_tear_14 0 rfl ?_
    refine gf_9_4 C dX9_tear_15 wd_342 hT0 ?_
    refine g_iloadn C dX9_tear_18 1 rfl ?_
    have hb4 := h.1
    replace h := h.2
    refine g_aald C dX9_tear_19 (gt_9_4 hT0) gce_30012 2 rfl (by decide) rfl hb4 ?_
    refine gf_2_0 C dX9_tear_20 wd_195 (gta_30012 (gt_9_4 hT0) hb4) ?_
    obtain ⟨P7, h, hP7⟩ := h
    have J8 : ∀ (x5 : Int) (M6 : gMem), P7 x5 M6 → gG X V 3 31 [(0, gF c0), (1, gI a1)] [gI x5] M6 := by
      intro x5 M6 h
      replace h := hP7 x5 M6 h
      refine g_istoren C [(2, gI x5), (0, gF c0), (1, gI a1)] dX9_tear_31 (by decide) rfl ?_
      refine g_aloadn C dX9_tear_32 1 rfl ?_
      refine gf_9_4 C dX9_tear_33 wd_342 hT0 ?_
      refine g_iloadn C dX9_tear_36 2 rfl ?_
      have hb9 := h.1
      replace h := h.2
      refine g_aald C dX9_tear_37 (gt_9_4 hT0) gce_30012 2 rfl (by decide) rfl hb9 ?_
      refine g_iconst C dX9_tear_38 gRc_0 ?_
      refine gp_2_0 C dX9_tear_39 wd_195 (gta_30012 (gt_9_4 hT0) hb9) (Or.inl rfl) ?_
      obtain ⟨M10, eM10⟩ : ∃ x : gMem, x = gup M6 ((c0 + 35) + 1 + 4 * a1) 0 0 := ⟨_, rfl⟩
      refine g_nmM eM10 ?_
      replace h := h M10 eM10
      refine g_iloadn C dX9_tear_42 0 rfl ?_
      exact g_iret C hR dX9_tear_43 h
    refine g_if_eq (t := 30) C dX9_tear_23 (by decide) (fun c11 => ?_) (fun c11 => ?_)
    · replace h := h.1 c11
      refine g_iconst C dX9_tear_30 gRc_0 ?_
      exact J8 0 M1 h
    · replace h := h.2 c11
      refine g_iconst C dX9_tear_26 gRc_1 ?_
      refine g_goto (t := 31) C dX9_tear_27 (by decide) ?_
      exact J8 1 M1 h
  · replace h := h.2 c3
    refine g_bipush C dX9_tear_11 gRc_m2 gRb_m2 ?_
    exact g_iret C hR dX9_tear_13 h

set_option maxRecDepth 100000 in
set_option maxHeartbeats 4000000 in
theorem sX9_noted {l : Launch} {V : gW} (hD : gD V) (c0 a1 a2 : Int) (M0 : gMem) (K : Int → gMem → Prop) (hT0 : gT c0 9) (h : wX9_noted c0 a1 a2 K M0) (hM : gOM M0) (ho : ∀ q ∈ ([gI a1, gI a2] : List gSV), gOK q) : gMi l V yX9_noted cX9_noted 4 (some .int) 5 135 [gF c0, gI a1, gI a2] M0 K := by
  refine gMi_of hD (by decide) (Nat.le_of_ble_eq_true rfl) [(0, gF c0), (1, gI a1), (2, gI a2)] rfl (gok_L rfl (gok_n (q := gF c0) trivial ho)) hM (fun X C hR => ?_)
  unfold wX9_noted at h
  refine g_aloadn C dX9_noted_0 0 rfl ?_
  refine gf_9_0 C dX9_noted_1 wd_338 hT0 ?_
  refine g_iloadn C dX9_noted_4 1 rfl ?_
  refine g_cVi (st := []) C dX9_noted_5 ykX1_has wd_545 ⟨by decide, by decide⟩ [gI a1] rfl (Nat.le_of_ble_eq_true rfl) (gt_9_0 hT0) (fun hM ho => sX1_has hD (c0 + 1) a1 M0 _ (gt_9_0 hT0) h hM ho) (fun r2 M1 h => ?_)
  refine g_if_ne (t := 14) C dX9_noted_8 (by decide) (fun c3 => ?_) (fun c3 => ?_)
  · replace h := h.1 c3
    refine g_iloadn C dX9_noted_14 2 rfl ?_
    obtain ⟨P5, h, hP5⟩ := h
    have J6 : ∀ (M4 : gMem), P5 M4 → gG X V 4 24 [] [] M4 := by
      intro M4 h
      replace h := hP5 M4 h
      refine g_bipush C dX9_noted_24 gRc_m3 gRb_m3 ?_
      exact g_iret C hR dX9_noted_26 h
    refine g_if_lt (t := 24) C dX9_noted_15 (by decide) (fun c7 => ?_) (fun c7 => ?_)
    · replace h := h.1 c7
      refine g_sub [] [] rfl ?_
      exact J6 M1 h
    · replace h := h.2 c7
      refine g_iloadn C dX9_noted_18 2 rfl ?_
      refine g_bipush C dX9_noted_19 gRc_7 gRb_7 ?_
      refine g_ic_le (t := 27) C dX9_noted_21 (by decide) (fun c8 => ?_) (fun c8 => ?_)
      · replace h := h.1 c8
        refine g_iloadn C dX9_noted_27 2 rfl ?_
        refine g_if_ne (t := 45) C dX9_noted_28 (by decide) (fun c9 => ?_) (fun c9 => ?_)
        · replace h := h.1 c9
          refine g_aloadn C dX9_noted_45 0 rfl ?_
          refine gf_9_4 C dX9_noted_46 wd_342 hT0 ?_
          refine g_iloadn C dX9_noted_49 1 rfl ?_
          have hb10 := h.1
          replace h := h.2
          refine g_aald C dX9_noted_50 (gt_9_4 hT0) gce_30012 2 rfl (by decide) rfl hb10 ?_
          refine g_astoren C [(3, gF ((c0 + 35) + 1 + 4 * a1)), (0, gF c0), (1, gI a1), (2, gI a2)] dX9_noted_51 (by decide) rfl ?_
          refine g_aloadn C dX9_noted_52 0 rfl ?_
          refine gf_2_0 C dX9_noted_53 wd_195 (gta_30012 (gt_9_4 hT0) hb10) ?_
          refine g_if_ne (t := 62) C dX9_noted_56 (by decide) (fun c11 => ?_) (fun c11 => ?_)
          · replace h := h.1 c11
            refine g_iloadn C dX9_noted_62 3 rfl ?_
            refine g_iconst C dX9_noted_63 gRc_3 ?_
            refine g_ic_gt (t := 75) C dX9_noted_64 (by decide) (fun c12 => ?_) (fun c12 => ?_)
            · replace h := h.1 c12
              refine g_iloadn C dX9_noted_75 3 rfl ?_
              refine g_bipush C dX9_noted_76 gRc_7 gRb_7 ?_
              obtain ⟨P15, h, hP15⟩ := h
              have J16 : ∀ (x13 : Int) (M14 : gMem), P15 x13 M14 → gG X V 4 97 [] [gI x13] M14 := by
                intro x13 M14 h
                replace h := hP15 x13 M14 h
                exact g_iret C hR dX9_noted_97 h
              refine g_ic_ne (t := 88) C dX9_noted_78 (by decide) (fun c17 => ?_) (fun c17 => ?_)
              · replace h := h.1 c17
                refine g_aloadn C dX9_noted_88 0 rfl ?_
                refine g_iloadn C dX9_noted_89 3 rfl ?_
                refine g_iconst C dX9_noted_90 gRc_1 ?_
                refine g_isub C dX9_noted_91 h.1 ?_
                replace h := h.2
                refine g_iconst C dX9_noted_92 gRc_3 ?_
                refine g_isub C dX9_noted_93 h.1 ?_
                replace h := h.2
                refine g_cVi (st := []) C dX9_noted_94 ykX2_nearestFarAt wd_710 ⟨by decide, by decide⟩ [gI ((a2 - 1) - 3)] rfl (Nat.le_of_ble_eq_true rfl) (gta_30012 (gt_9_4 hT0) hb10) (fun hM ho => sX2_nearestFarAt hD ((c0 + 35) + 1 + 4 * a1) ((a2 - 1) - 3) M1 _ (gta_30012 (gt_9_4 hT0) hb10) h hM ho) (fun r19 M18 h => ?_)
                refine g_sub [] [] rfl ?_
                exact J16 r19 M18 h
              · replace h := h.2 c17
                refine g_aloadn C dX9_noted_81 0 rfl ?_
                refine gf_2_1 C dX9_noted_82 wd_197 (gta_30012 (gt_9_4 hT0) hb10) ?_
                refine g_goto (t := 97) C dX9_noted_85 (by decide) ?_
                refine g_sub [] [] rfl ?_
                exact J16 (M1 ((c0 + 35) + 1 + 4 * a1) 1) M1 h
            · replace h := h.2 c12
              refine g_aloadn C dX9_noted_67 0 rfl ?_
              refine g_iloadn C dX9_noted_68 3 rfl ?_
              refine g_iconst C dX9_noted_69 gRc_1 ?_
              refine g_isub C dX9_noted_70 h.1 ?_
              replace h := h.2
              refine g_cVi (st := []) C dX9_noted_71 ykX2_nearestAt wd_706 ⟨by decide, by decide⟩ [gI (a2 - 1)] rfl (Nat.le_of_ble_eq_true rfl) (gta_30012 (gt_9_4 hT0) hb10) (fun hM ho => sX2_nearestAt hD ((c0 + 35) + 1 + 4 * a1) (a2 - 1) M1 _ (gta_30012 (gt_9_4 hT0) hb10) h hM ho) (fun r21 M20 h => ?_)
              exact g_iret C hR dX9_noted_74 h
          · replace h := h.2 c11
            refine g_bipush C dX9_noted_59 gRc_m4 gRb_m4 ?_
            exact g_iret C hR dX9_noted_61 h
        · replace h := h.2 c9
          refine g_aloadn C dX9_noted_31 0 rfl ?_
          refine g_iloadn C dX9_noted_32 1 rfl ?_
          refine g_cVi (st := []) C dX9_noted_33 ykX9_isFresh wd_772 ⟨by decide, by decide⟩ [gI a1] rfl (Nat.le_of_ble_eq_true rfl) hT0 (fun hM ho => sX9_isFresh hD c0 a1 M1 _ hT0 h hM ho) (fun r23 M22 h => ?_)
          obtain ⟨P26, h, hP26⟩ := h
          have J27 : ∀ (x24 : Int) (M25 : gMem), P26 x24 M25 → gG X V 4 44 [] [gI x24] M25 := by
            intro x24 M25 h
            replace h := hP26 x24 M25 h
            exact g_iret C hR dX9_noted_44 h
          refine g_if_eq (t := 43) C dX9_noted_36 (by decide) (fun c28 => ?_) (fun c28 => ?_)
          · replace h := h.1 c28
            refine g_iconst C dX9_noted_43 gRc_0 ?_
            refine g_sub [] [] rfl ?_
            exact J27 0 M22 h
          · replace h := h.2 c28
            refine g_iconst C dX9_noted_39 gRc_1 ?_
            refine g_goto (t := 44) C dX9_noted_40 (by decide) ?_
            refine g_sub [] [] rfl ?_
            exact J27 1 M22 h
      · replace h := h.2 c8
        refine g_sub [] [] rfl ?_
        exact J6 M1 h
  · replace h := h.2 c3
    refine g_bipush C dX9_noted_11 gRc_m2 gRb_m2 ?_
    exact g_iret C hR dX9_noted_13 h

set_option maxRecDepth 100000 in
set_option maxHeartbeats 4000000 in
theorem sX9_notedFar {l : Launch} {V : gW} (hD : gD V) (c0 a1 a2 : Int) (M0 : gMem) (K : Int → gMem → Prop) (hT0 : gT c0 9) (h : wX9_notedFar c0 a1 a2 K M0) (hM : gOM M0) (ho : ∀ q ∈ ([gI a1, gI a2] : List gSV), gOK q) : gMi l V yX9_notedFar cX9_notedFar 3 (some .int) 2 43 [gF c0, gI a1, gI a2] M0 K := by
  refine gMi_of hD (by decide) (Nat.le_of_ble_eq_true rfl) [(0, gF c0), (1, gI a1), (2, gI a2)] rfl (gok_L rfl (gok_n (q := gF c0) trivial ho)) hM (fun X C hR => ?_)
  unfold wX9_notedFar at h
  refine g_aloadn C dX9_notedFar_0 0 rfl ?_
  refine g_iloadn C dX9_notedFar_1 1 rfl ?_
  refine g_iloadn C dX9_notedFar_2 2 rfl ?_
  refine g_cVi (st := []) C dX9_notedFar_3 ykX9_bothThere wd_554 ⟨by decide, by decide⟩ [gI a1, gI a2] rfl (Nat.le_of_ble_eq_true rfl) hT0 (fun hM ho => sX9_bothThere hD c0 a1 a2 M0 _ hT0 h hM ho) (fun r2 M1 h => ?_)
  refine g_if_ne (t := 12) C dX9_notedFar_6 (by decide) (fun c3 => ?_) (fun c3 => ?_)
  · replace h := h.1 c3
    refine g_aloadn C dX9_notedFar_12 0 rfl ?_
    refine gf_9_4 C dX9_notedFar_13 wd_342 hT0 ?_
    refine g_iloadn C dX9_notedFar_16 1 rfl ?_
    have hb4 := h.1
    replace h := h.2
    refine g_aald C dX9_notedFar_17 (gt_9_4 hT0) gce_30012 2 rfl (by decide) rfl hb4 ?_
    refine g_iloadn C dX9_notedFar_18 2 rfl ?_
    refine g_cVi (st := []) C dX9_notedFar_19 ykX2_farOf wd_792 ⟨by decide, by decide⟩ [gI a2] rfl (Nat.le_of_ble_eq_true rfl) (gta_30012 (gt_9_4 hT0) hb4) (fun hM ho => sX2_farOf hD ((c0 + 35) + 1 + 4 * a1) a2 M1 _ (gta_30012 (gt_9_4 hT0) hb4) h hM ho) (fun r6 M5 h => ?_)
    exact g_iret C hR dX9_notedFar_22 h
  · replace h := h.2 c3
    refine g_bipush C dX9_notedFar_9 gRc_m2 gRb_m2 ?_
    exact g_iret C hR dX9_notedFar_11 h

set_option maxRecDepth 100000 in
set_option maxHeartbeats 4000000 in
theorem sX6_look {l : Launch} {V : gW} (hD : gD V) (c0 a1 a2 a3 : Int) (M0 : gMem) (K : Int → gMem → Prop) (hT0 : gT c0 6) (hT1 : gT a1 30012) (h : wX6_look c0 a1 a2 a3 K M0) (hM : gOM M0) (ho : ∀ q ∈ ([gF a1, gI a2, gI a3] : List gSV), gOK q) : gMi l V yX6_look cX6_look 4 (some .int) 2 42 [gF c0, gF a1, gI a2, gI a3] M0 K := by
  refine gMi_of hD (by decide) (Nat.le_of_ble_eq_true rfl) [(0, gF c0), (1, gF a1), (2, gI a2), (3, gI a3)] rfl (gok_L rfl (gok_n (q := gF c0) trivial ho)) hM (fun X C hR => ?_)
  unfold wX6_look at h
  refine g_aloadn C dX6_look_0 0 rfl ?_
  refine g_iloadn C dX6_look_1 2 rfl ?_
  refine gp_6_4 C dX6_look_2 wd_298 hT0 ?_
  obtain ⟨M1, eM1⟩ : ∃ x : gMem, x = gup M0 c0 4 a2 := ⟨_, rfl⟩
  refine g_nmM eM1 ?_
  replace h := h M1 eM1
  refine g_aloadn C dX6_look_5 1 rfl ?_
  refine g_iloadn C dX6_look_6 2 rfl ?_
  have hb2 := h.1
  replace h := h.2
  refine g_aald C dX6_look_7 hT1 gce_30012 2 rfl (by decide) rfl hb2 ?_
  refine gf_2_0 C dX6_look_8 wd_193 (gta_30012 hT1 hb2) ?_
  refine g_if_ne (t := 16) C dX6_look_11 (by decide) (fun c3 => ?_) (fun c3 => ?_)
  · replace h := h.1 c3
    refine g_aloadn C dX6_look_16 0 rfl ?_
    refine g_aloadn C dX6_look_17 1 rfl ?_
    refine g_iloadn C dX6_look_18 2 rfl ?_
    have hb4 := h.1
    replace h := h.2
    refine g_aald C dX6_look_19 hT1 gce_30012 2 rfl (by decide) rfl hb4 ?_
    refine g_aloadn C dX6_look_20 0 rfl ?_
    refine gf_6_3 C dX6_look_21 wd_296 hT0 ?_
    refine g_cVi (st := [gF c0]) C dX6_look_24 ykX2_nearestAt wd_805 ⟨by decide, by decide⟩ [gI (M1 c0 3)] rfl (Nat.le_of_ble_eq_true rfl) (gta_30012 hT1 hb4) (fun hM ho => sX2_nearestAt hD (a1 + 1 + 4 * a2) (M1 c0 3) M1 _ (gta_30012 hT1 hb4) h hM ho) (fun r6 M5 h => ?_)
    refine gp_6_2 C dX6_look_27 wd_294 hT0 ?_
    obtain ⟨M7, eM7⟩ : ∃ x : gMem, x = gup M5 c0 2 r6 := ⟨_, rfl⟩
    refine g_nmM eM7 ?_
    replace h := h M7 eM7
    refine g_aloadn C dX6_look_30 0 rfl ?_
    refine gf_6_2 C dX6_look_31 wd_294 hT0 ?_
    refine g_iconst C dX6_look_34 gRc_m1 ?_
    refine g_ic_ne (t := 40) C dX6_look_35 (by decide) (fun c8 => ?_) (fun c8 => ?_)
    · replace h := h.1 c8
      refine g_aloadn C dX6_look_40 0 rfl ?_
      refine g_iloadn C dX6_look_41 3 rfl ?_
      refine gp_6_4 C dX6_look_42 wd_298 hT0 ?_
      obtain ⟨M9, eM9⟩ : ∃ x : gMem, x = gup M7 c0 4 a3 := ⟨_, rfl⟩
      refine g_nmM eM9 ?_
      replace h := h M9 eM9
      refine g_aloadn C dX6_look_45 1 rfl ?_
      refine g_iloadn C dX6_look_46 3 rfl ?_
      have hb10 := h.1
      replace h := h.2
      refine g_aald C dX6_look_47 hT1 gce_30012 2 rfl (by decide) rfl hb10 ?_
      refine gf_2_0 C dX6_look_48 wd_193 (gta_30012 hT1 hb10) ?_
      refine g_if_ne (t := 56) C dX6_look_51 (by decide) (fun c11 => ?_) (fun c11 => ?_)
      · replace h := h.1 c11
        refine g_aloadn C dX6_look_56 1 rfl ?_
        refine g_iloadn C dX6_look_57 3 rfl ?_
        have hb12 := h.1
        replace h := h.2
        refine g_aald C dX6_look_58 hT1 gce_30012 2 rfl (by decide) rfl hb12 ?_
        refine g_aloadn C dX6_look_59 0 rfl ?_
        refine gf_6_2 C dX6_look_60 wd_294 hT0 ?_
        refine g_cVi (st := []) C dX6_look_63 ykX2_holds wd_806 ⟨by decide, by decide⟩ [gI (M9 c0 2)] rfl (Nat.le_of_ble_eq_true rfl) (gta_30012 hT1 hb12) (fun hM ho => sX2_holds hD (a1 + 1 + 4 * a3) (M9 c0 2) M9 _ (gta_30012 hT1 hb12) h hM ho) (fun r14 M13 h => ?_)
        refine g_if_ne (t := 71) C dX6_look_66 (by decide) (fun c15 => ?_) (fun c15 => ?_)
        · replace h := h.1 c15
          refine g_aloadn C dX6_look_71 0 rfl ?_
          refine g_aloadn C dX6_look_72 1 rfl ?_
          refine g_iloadn C dX6_look_73 2 rfl ?_
          have hb16 := h.1
          replace h := h.2
          refine g_aald C dX6_look_74 hT1 gce_30012 2 rfl (by decide) rfl hb16 ?_
          refine g_aloadn C dX6_look_75 0 rfl ?_
          refine gf_6_3 C dX6_look_76 wd_296 hT0 ?_
          refine g_cVi (st := [gF c0]) C dX6_look_79 ykX2_nearestFarAt wd_807 ⟨by decide, by decide⟩ [gI (M13 c0 3)] rfl (Nat.le_of_ble_eq_true rfl) (gta_30012 hT1 hb16) (fun hM ho => sX2_nearestFarAt hD (a1 + 1 + 4 * a2) (M13 c0 3) M13 _ (gta_30012 hT1 hb16) h hM ho) (fun r18 M17 h => ?_)
          refine g_aloadn C dX6_look_82 1 rfl ?_
          refine g_iloadn C dX6_look_83 3 rfl ?_
          have hb19 := h.1
          replace h := h.2
          refine g_aald C dX6_look_84 hT1 gce_30012 2 rfl (by decide) rfl hb19 ?_
          refine g_aloadn C dX6_look_85 0 rfl ?_
          refine gf_6_2 C dX6_look_86 wd_294 hT0 ?_
          refine g_cVi (st := [gI r18, gF c0]) C dX6_look_89 ykX2_farOf wd_808 ⟨by decide, by decide⟩ [gI (M17 c0 2)] rfl (Nat.le_of_ble_eq_true rfl) (gta_30012 hT1 hb19) (fun hM ho => sX2_farOf hD (a1 + 1 + 4 * a3) (M17 c0 2) M17 _ (gta_30012 hT1 hb19) h hM ho) (fun r21 M20 h => ?_)
          refine g_iadd C dX6_look_92 h.1 ?_
          replace h := h.2
          refine gp_6_1 C dX6_look_93 wd_292 hT0 ?_
          obtain ⟨M22, eM22⟩ : ∃ x : gMem, x = gup M20 c0 1 (r18 + r21) := ⟨_, rfl⟩
          refine g_nmM eM22 ?_
          replace h := h M22 eM22
          refine g_iconst C dX6_look_96 gRc_0 ?_
          exact g_iret C hR dX6_look_97 h
        · replace h := h.2 c15
          refine g_iconst C dX6_look_69 gRc_3 ?_
          exact g_iret C hR dX6_look_70 h
      · replace h := h.2 c11
        refine g_iconst C dX6_look_54 gRc_1 ?_
        exact g_iret C hR dX6_look_55 h
    · replace h := h.2 c8
      refine g_iconst C dX6_look_38 gRc_2 ?_
      exact g_iret C hR dX6_look_39 h
  · replace h := h.2 c3
    refine g_iconst C dX6_look_14 gRc_1 ?_
    exact g_iret C hR dX6_look_15 h
