set_option maxRecDepth 100000 in
set_option maxHeartbeats 4000000 in
theorem sX10_undo {l : Launch} {V : gW} (hD : gD V) (c0 : Int) (M0 : gMem) (K : Int → gMem → Prop) (hT0 : gT c0 10) (h : wX10_undo c0 K M0) (hM : gOM M0) (ho : ∀ q ∈ ([] : List gSV), gOK q) : gMi l V yX10_undo cX10_undo 1 (some .int) 1 23 [gF c0] M0 K := by
  refine gMi_of hD (by decide) (Nat.le_of_ble_eq_true rfl) [(0, gF c0)] rfl (gok_L rfl (gok_n (q := gF c0) trivial ho)) hM (fun X C hR => ?_)
  unfold wX10_undo at h
  refine g_aloadn C dX10_undo_0 0 rfl ?_
  refine gf_10_1 C dX10_undo_1 wd_856 hT0 ?_
  refine g_if_ne (t := 10) C dX10_undo_4 (by decide) (fun c1 => ?_) (fun c1 => ?_)
  · replace h := h.1 c1
    refine g_aloadn C dX10_undo_10 0 rfl ?_
    refine g_dup C dX10_undo_11 (fun e => by cases e) ?_
    refine gf_10_1 C dX10_undo_12 wd_856 hT0 ?_
    refine g_iconst C dX10_undo_15 gRc_1 ?_
    refine g_isub C dX10_undo_16 h.1 ?_
    replace h := h.2
    refine gp_10_1 C dX10_undo_17 wd_856 hT0 ?_
    obtain ⟨M2, eM2⟩ : ∃ x : gMem, x = gup M0 c0 1 ((M0 c0 1) - 1) := ⟨_, rfl⟩
    refine g_nmM eM2 ?_
    replace h := h M2 eM2
    refine g_aloadn C dX10_undo_20 0 rfl ?_
    refine g_sipush C dX10_undo_21 gRc_157 gRs_157 ?_
    refine g_sipush C dX10_undo_24 gRc_157 gRs_157 ?_
    refine g_aloadn C dX10_undo_27 0 rfl ?_
    refine gf_10_1 C dX10_undo_28 wd_856 hT0 ?_
    refine g_imul C dX10_undo_31 h.1 ?_
    replace h := h.2
    refine g_iadd C dX10_undo_32 h.1 ?_
    replace h := h.2
    refine g_iconst C dX10_undo_33 gRc_0 ?_
    refine g_cVv (st := []) C dX10_undo_34 ykX10_copyRow wd_1101 ⟨by decide, by decide⟩ [gI (157 + (157 * (M2 c0 1))), gI 0] rfl (Nat.le_of_ble_eq_true rfl) hT0 (fun hM ho => sX10_copyRow hD c0 (157 + (157 * (M2 c0 1))) 0 M2 _ hT0 h hM ho) (fun M3 h => ?_)
    refine g_aloadn C dX10_undo_37 0 rfl ?_
    refine gf_10_1 C dX10_undo_38 wd_856 hT0 ?_
    exact g_iret C hR dX10_undo_41 h
  · replace h := h.2 c1
    refine g_bipush C dX10_undo_7 gRc_m4 gRb_m4 ?_
    exact g_iret C hR dX10_undo_9 h

set_option maxRecDepth 100000 in
set_option maxHeartbeats 4000000 in
theorem sX10_isWritten {l : Launch} {V : gW} (hD : gD V) (c0 a1 : Int) (M0 : gMem) (K : Int → gMem → Prop) (hT0 : gT c0 10) (h : wX10_isWritten c0 a1 K M0) (hM : gOM M0) (ho : ∀ q ∈ ([gI a1] : List gSV), gOK q) : gMi l V yX10_isWritten cX10_isWritten 2 (some .boolean) 0 0 [gF c0, gI a1] M0 K := by
  refine gMi_of hD (by decide) (Nat.le_of_ble_eq_true rfl) [(0, gF c0), (1, gI a1)] rfl (gok_L rfl (gok_n (q := gF c0) trivial ho)) hM (fun X C hR => ?_)
  unfold wX10_isWritten at h
  refine g_aloadn C dX10_isWritten_0 0 rfl ?_
  refine gf_10_3 C dX10_isWritten_1 wd_858 hT0 ?_
  refine g_bipush C dX10_isWritten_4 gRc_20 gRb_20 ?_
  refine g_iloadn C dX10_isWritten_6 1 rfl ?_
  refine g_imul C dX10_isWritten_7 h.1 ?_
  replace h := h.2
  refine g_iald C dX10_isWritten_8 (gt_10_3 hT0) gce_10720 h.1 ?_
  replace h := h.2
  refine g_iconst C dX10_isWritten_9 gRc_1 ?_
  obtain ⟨P3, h, hP3⟩ := h
  have J4 : ∀ (x1 : Int) (M2 : gMem), P3 x1 M2 → gG X V 2 18 [] [gI x1] M2 := by
    intro x1 M2 h
    replace h := hP3 x1 M2 h
    exact g_zret C hR dX10_isWritten_18 h.1 h.2
  refine g_ic_ne (t := 17) C dX10_isWritten_10 (by decide) (fun c5 => ?_) (fun c5 => ?_)
  · replace h := h.1 c5
    refine g_iconst C dX10_isWritten_17 gRc_0 ?_
    refine g_sub [] [] rfl ?_
    exact J4 0 M0 h
  · replace h := h.2 c5
    refine g_iconst C dX10_isWritten_13 gRc_1 ?_
    refine g_goto (t := 18) C dX10_isWritten_14 (by decide) ?_
    refine g_sub [] [] rfl ?_
    exact J4 1 M0 h

set_option maxRecDepth 100000 in
set_option maxHeartbeats 4000000 in
theorem sX10_written {l : Launch} {V : gW} (hD : gD V) (c0 : Int) (M0 : gMem) (K : Int → gMem → Prop) (hT0 : gT c0 10) (h : wX10_written c0 K M0) (hM : gOM M0) (ho : ∀ q ∈ ([] : List gSV), gOK q) : gMi l V yX10_written cX10_written 3 (some .int) 1 21 [gF c0] M0 K := by
  refine gMi_of hD (by decide) (Nat.le_of_ble_eq_true rfl) [(0, gF c0)] rfl (gok_L rfl (gok_n (q := gF c0) trivial ho)) hM (fun X C hR => ?_)
  unfold wX10_written at h
  refine g_iconst C dX10_written_0 gRc_0 ?_
  refine g_istoren C [(1, gI 0), (0, gF c0)] dX10_written_1 (by decide) rfl ?_
  refine g_iconst C dX10_written_2 gRc_0 ?_
  refine g_istoren C [(2, gI 0), (1, gI 0), (0, gF c0)] dX10_written_3 (by decide) rfl ?_
  refine g_sub [(0, gF c0), (1, gI 0), (2, gI 0)] [2, 1, 0] rfl ?_
  refine gL2_go (Gd := fun (v1 : Int) (v2 : Int) (M3 : gMem) => gG X V 3 4 [(0, gF c0), (1, gI v1), (2, gI v2)] [] M3) (fun rec4 hrec4 v1 v2 M3 h => ?_) h
  refine g_iloadn C dX10_written_4 2 rfl ?_
  refine g_aloadn C dX10_written_5 0 rfl ?_
  refine gf_10_2 C dX10_written_6 wd_857 hT0 ?_
  refine g_ic_ge (t := 34) C dX10_written_9 (by decide) (fun c5 => ?_) (fun c5 => ?_)
  · replace h := h.1 c5
    refine g_iloadn C dX10_written_34 1 rfl ?_
    exact g_iret C hR dX10_written_35 h
  · replace h := h.2 c5
    refine g_iloadn C dX10_written_12 1 rfl ?_
    refine g_aloadn C dX10_written_13 0 rfl ?_
    refine g_iloadn C dX10_written_14 2 rfl ?_
    refine g_cVi (st := [gI v1]) C dX10_written_15 ykX10_isWritten wd_1134 ⟨by decide, by decide⟩ [gI v2] rfl (Nat.le_of_ble_eq_true rfl) hT0 (fun hM ho => sX10_isWritten hD c0 v2 M3 _ hT0 h hM ho) (fun r7 M6 h => ?_)
    obtain ⟨P10, h, hP10⟩ := h
    have J11 : ∀ (x8 : Int) (M9 : gMem), P10 x8 M9 → gG X V 3 26 [(0, gF c0), (2, gI v2)] [gI x8, gI v1] M9 := by
      intro x8 M9 h
      replace h := hP10 x8 M9 h
      refine g_iadd C dX10_written_26 h.1 ?_
      replace h := h.2
      obtain ⟨v12, ev12⟩ : ∃ x : Int, x = (v1 + x8) := ⟨_, rfl⟩
      refine g_nm ev12 ?_
      replace h := h v12 ev12
      refine g_istoren C [(1, gI v12), (0, gF c0), (2, gI v2)] dX10_written_27 (by decide) rfl ?_
      refine g_iinc C [(2, gI (v2 + 1)), (1, gI v12), (0, gF c0)] dX10_written_28 2 rfl (by decide) h.1 rfl ?_
      replace h := h.2
      refine g_goto (t := 4) C dX10_written_31 (by decide) ?_
      refine g_sub [(0, gF c0), (1, gI v12), (2, gI (v2 + 1))] [2, 1, 0] rfl ?_
      exact hrec4 v12 (v2 + 1) M9 h
    refine g_if_eq (t := 25) C dX10_written_18 (by decide) (fun c13 => ?_) (fun c13 => ?_)
    · replace h := h.1 c13
      refine g_iconst C dX10_written_25 gRc_0 ?_
      refine g_sub [(0, gF c0), (2, gI v2)] [0, 2] rfl ?_
      exact J11 0 M6 h
    · replace h := h.2 c13
      refine g_iconst C dX10_written_21 gRc_1 ?_
      refine g_goto (t := 26) C dX10_written_22 (by decide) ?_
      refine g_sub [(0, gF c0), (2, gI v2)] [0, 2] rfl ?_
      exact J11 1 M6 h

set_option maxRecDepth 100000 in
set_option maxHeartbeats 4000000 in
theorem sX10_keep {l : Launch} {V : gW} (hD : gD V) (c0 a1 : Int) (M0 : gMem) (K : Int → gMem → Prop) (hT0 : gT c0 10) (h : wX10_keep c0 a1 K M0) (hM : gOM M0) (ho : ∀ q ∈ ([gI a1] : List gSV), gOK q) : gMi l V yX10_keep cX10_keep 3 (some .int) 2 43 [gF c0, gI a1] M0 K := by
  refine gMi_of hD (by decide) (Nat.le_of_ble_eq_true rfl) [(0, gF c0), (1, gI a1)] rfl (gok_L rfl (gok_n (q := gF c0) trivial ho)) hM (fun X C hR => ?_)
  unfold wX10_keep at h
  refine g_iloadn C dX10_keep_0 1 rfl ?_
  refine g_i2l C dX10_keep_1 ?_
  refine g_lconst C dX10_keep_2 (by decide) (show gOK (gJ 0) from ⟨by decide, by decide⟩) ?_
  refine g_lconst C dX10_keep_3 (by decide) (show gOK (gJ 1) from ⟨by decide, by decide⟩) ?_
  refine g_cSi (st := []) C dX10_keep_4 ykX10_in wd_937 ⟨by decide, by decide⟩ [gJ a1, gJ 0, gJ 1] rfl (Nat.le_of_ble_eq_true rfl) (fun hM ho => sX10_in hD a1 0 1 M0 _  h hM ho) (fun r2 M1 h => ?_)
  refine g_if_ne (t := 13) C dX10_keep_7 (by decide) (fun c3 => ?_) (fun c3 => ?_)
  · replace h := h.1 c3
    refine g_aloadn C dX10_keep_13 0 rfl ?_
    refine g_iconst C dX10_keep_14 gRc_0 ?_
    refine g_sipush C dX10_keep_15 gRc_1413 gRs_1413 ?_
    refine g_sipush C dX10_keep_18 gRc_157 gRs_157 ?_
    refine g_iloadn C dX10_keep_21 1 rfl ?_
    refine g_imul C dX10_keep_22 h.1 ?_
    replace h := h.2
    refine g_iadd C dX10_keep_23 h.1 ?_
    replace h := h.2
    refine g_cVv (st := []) C dX10_keep_24 ykX10_copyRow wd_1101 ⟨by decide, by decide⟩ [gI 0, gI (1413 + (157 * a1))] rfl (Nat.le_of_ble_eq_true rfl) hT0 (fun hM ho => sX10_copyRow hD c0 0 (1413 + (157 * a1)) M1 _ hT0 h hM ho) (fun M4 h => ?_)
    refine g_iconst C dX10_keep_27 gRc_0 ?_
    refine g_istoren C [(2, gI 0), (0, gF c0), (1, gI a1)] dX10_keep_28 (by decide) rfl ?_
    refine g_sub [(0, gF c0), (1, gI a1), (2, gI 0)] [1, 2, 0] rfl ?_
    refine gL1_go (Gd := fun (v5 : Int) (M6 : gMem) => gG X V 3 29 [(0, gF c0), (1, gI a1), (2, gI v5)] [] M6) (fun rec7 hrec7 v5 M6 h => ?_) h
    refine g_iloadn C dX10_keep_29 2 rfl ?_
    refine g_sipush C dX10_keep_30 gRc_240 gRs_240 ?_
    refine g_ic_ge (t := 64) C dX10_keep_33 (by decide) (fun c8 => ?_) (fun c8 => ?_)
    · replace h := h.1 c8
      refine g_aloadn C dX10_keep_64 0 rfl ?_
      refine gf_10_4 C dX10_keep_65 wd_859 hT0 ?_
      refine g_iloadn C dX10_keep_68 1 rfl ?_
      refine g_iconst C dX10_keep_69 gRc_1 ?_
      refine g_zast C dX10_keep_70 (gt_10_4 hT0) gce_20002 h.1 (Or.inr rfl) ?_
      replace h := h.2
      obtain ⟨M9, eM9⟩ : ∃ x : gMem, x = gup M6 (c0 + 3) a1 1 := ⟨_, rfl⟩
      refine g_nmM eM9 ?_
      replace h := h M9 eM9
      refine g_aloadn C dX10_keep_71 0 rfl ?_
      refine g_cVi (st := []) C dX10_keep_72 ykX10_written wd_1130 ⟨by decide, by decide⟩ [] rfl (Nat.le_of_ble_eq_true rfl) hT0 (fun hM ho => sX10_written hD c0 M9 _ hT0 h hM ho) (fun r11 M10 h => ?_)
      exact g_iret C hR dX10_keep_75 h
    · replace h := h.2 c8
      refine g_aloadn C dX10_keep_36 0 rfl ?_
      refine gf_10_3 C dX10_keep_37 wd_858 hT0 ?_
      refine g_sipush C dX10_keep_40 gRc_240 gRs_240 ?_
      refine g_sipush C dX10_keep_43 gRc_240 gRs_240 ?_
      refine g_iloadn C dX10_keep_46 1 rfl ?_
      refine g_imul C dX10_keep_47 h.1 ?_
      replace h := h.2
      refine g_iadd C dX10_keep_48 h.1 ?_
      replace h := h.2
      refine g_iloadn C dX10_keep_49 2 rfl ?_
      refine g_iadd C dX10_keep_50 h.1 ?_
      replace h := h.2
      refine g_aloadn C dX10_keep_51 0 rfl ?_
      refine gf_10_3 C dX10_keep_52 wd_858 hT0 ?_
      refine g_iloadn C dX10_keep_55 2 rfl ?_
      refine g_iald C dX10_keep_56 (gt_10_3 hT0) gce_10720 h.1 ?_
      replace h := h.2
      refine g_iast C dX10_keep_57 (gt_10_3 hT0) gce_10720 h.1 ?_
      replace h := h.2
      obtain ⟨M12, eM12⟩ : ∃ x : gMem, x = gup M6 (c0 + 2) ((240 + (240 * a1)) + v5) (M6 (c0 + 2) v5) := ⟨_, rfl⟩
      refine g_nmM eM12 ?_
      replace h := h M12 eM12
      refine g_iinc C [(2, gI (v5 + 1)), (0, gF c0), (1, gI a1)] dX10_keep_58 2 rfl (by decide) h.1 rfl ?_
      replace h := h.2
      refine g_goto (t := 29) C dX10_keep_61 (by decide) ?_
      refine g_sub [(0, gF c0), (1, gI a1), (2, gI (v5 + 1))] [1, 2, 0] rfl ?_
      exact hrec7 (v5 + 1) M12 h
  · replace h := h.2 c3
    refine g_bipush C dX10_keep_10 gRc_m3 gRb_m3 ?_
    exact g_iret C hR dX10_keep_12 h

set_option maxRecDepth 100000 in
set_option maxHeartbeats 4000000 in
theorem sX10_back {l : Launch} {V : gW} (hD : gD V) (c0 a1 : Int) (M0 : gMem) (K : Int → gMem → Prop) (hT0 : gT c0 10) (h : wX10_back c0 a1 K M0) (hM : gOM M0) (ho : ∀ q ∈ ([gI a1] : List gSV), gOK q) : gMi l V yX10_back cX10_back 3 (some .int) 2 43 [gF c0, gI a1] M0 K := by
  refine gMi_of hD (by decide) (Nat.le_of_ble_eq_true rfl) [(0, gF c0), (1, gI a1)] rfl (gok_L rfl (gok_n (q := gF c0) trivial ho)) hM (fun X C hR => ?_)
  unfold wX10_back at h
  refine g_iloadn C dX10_back_0 1 rfl ?_
  refine g_i2l C dX10_back_1 ?_
  refine g_lconst C dX10_back_2 (by decide) (show gOK (gJ 0) from ⟨by decide, by decide⟩) ?_
  refine g_lconst C dX10_back_3 (by decide) (show gOK (gJ 1) from ⟨by decide, by decide⟩) ?_
  refine g_cSi (st := []) C dX10_back_4 ykX10_in wd_937 ⟨by decide, by decide⟩ [gJ a1, gJ 0, gJ 1] rfl (Nat.le_of_ble_eq_true rfl) (fun hM ho => sX10_in hD a1 0 1 M0 _  h hM ho) (fun r2 M1 h => ?_)
  refine g_if_ne (t := 13) C dX10_back_7 (by decide) (fun c3 => ?_) (fun c3 => ?_)
  · replace h := h.1 c3
    refine g_aloadn C dX10_back_13 0 rfl ?_
    refine gf_10_4 C dX10_back_14 wd_859 hT0 ?_
    refine g_iloadn C dX10_back_17 1 rfl ?_
    refine g_zald C dX10_back_18 (gt_10_4 hT0) gce_20002 h.1 ?_
    replace h := h.2
    refine g_if_ne (t := 25) C dX10_back_19 (by decide) (fun c4 => ?_) (fun c4 => ?_)
    · replace h := h.1 c4
      refine g_aloadn C dX10_back_25 0 rfl ?_
      refine g_sipush C dX10_back_26 gRc_1413 gRs_1413 ?_
      refine g_sipush C dX10_back_29 gRc_157 gRs_157 ?_
      refine g_iloadn C dX10_back_32 1 rfl ?_
      refine g_imul C dX10_back_33 h.1 ?_
      replace h := h.2
      refine g_iadd C dX10_back_34 h.1 ?_
      replace h := h.2
      refine g_iconst C dX10_back_35 gRc_0 ?_
      refine g_cVv (st := []) C dX10_back_36 ykX10_copyRow wd_1101 ⟨by decide, by decide⟩ [gI (1413 + (157 * a1)), gI 0] rfl (Nat.le_of_ble_eq_true rfl) hT0 (fun hM ho => sX10_copyRow hD c0 (1413 + (157 * a1)) 0 M1 _ hT0 h hM ho) (fun M5 h => ?_)
      refine g_iconst C dX10_back_39 gRc_0 ?_
      refine g_istoren C [(2, gI 0), (0, gF c0), (1, gI a1)] dX10_back_40 (by decide) rfl ?_
      refine g_sub [(0, gF c0), (1, gI a1), (2, gI 0)] [1, 2, 0] rfl ?_
      refine gL1_go (Gd := fun (v6 : Int) (M7 : gMem) => gG X V 3 41 [(0, gF c0), (1, gI a1), (2, gI v6)] [] M7) (fun rec8 hrec8 v6 M7 h => ?_) h
      refine g_iloadn C dX10_back_41 2 rfl ?_
      refine g_sipush C dX10_back_42 gRc_240 gRs_240 ?_
      refine g_ic_ge (t := 76) C dX10_back_45 (by decide) (fun c9 => ?_) (fun c9 => ?_)
      · replace h := h.1 c9
        refine g_aloadn C dX10_back_76 0 rfl ?_
        refine g_iconst C dX10_back_77 gRc_0 ?_
        refine gp_10_1 C dX10_back_78 wd_856 hT0 ?_
        obtain ⟨M10, eM10⟩ : ∃ x : gMem, x = gup M7 c0 1 0 := ⟨_, rfl⟩
        refine g_nmM eM10 ?_
        replace h := h M10 eM10
        refine g_aloadn C dX10_back_81 0 rfl ?_
        refine g_cVi (st := []) C dX10_back_82 ykX10_written wd_1130 ⟨by decide, by decide⟩ [] rfl (Nat.le_of_ble_eq_true rfl) hT0 (fun hM ho => sX10_written hD c0 M10 _ hT0 h hM ho) (fun r12 M11 h => ?_)
        exact g_iret C hR dX10_back_85 h
      · replace h := h.2 c9
        refine g_aloadn C dX10_back_48 0 rfl ?_
        refine gf_10_3 C dX10_back_49 wd_858 hT0 ?_
        refine g_iloadn C dX10_back_52 2 rfl ?_
        refine g_aloadn C dX10_back_53 0 rfl ?_
        refine gf_10_3 C dX10_back_54 wd_858 hT0 ?_
        refine g_sipush C dX10_back_57 gRc_240 gRs_240 ?_
        refine g_sipush C dX10_back_60 gRc_240 gRs_240 ?_
        refine g_iloadn C dX10_back_63 1 rfl ?_
        refine g_imul C dX10_back_64 h.1 ?_
        replace h := h.2
        refine g_iadd C dX10_back_65 h.1 ?_
        replace h := h.2
        refine g_iloadn C dX10_back_66 2 rfl ?_
        refine g_iadd C dX10_back_67 h.1 ?_
        replace h := h.2
        refine g_iald C dX10_back_68 (gt_10_3 hT0) gce_10720 h.1 ?_
        replace h := h.2
        refine g_iast C dX10_back_69 (gt_10_3 hT0) gce_10720 h.1 ?_
        replace h := h.2
        obtain ⟨M13, eM13⟩ : ∃ x : gMem, x = gup M7 (c0 + 2) v6 (M7 (c0 + 2) ((240 + (240 * a1)) + v6)) := ⟨_, rfl⟩
        refine g_nmM eM13 ?_
        replace h := h M13 eM13
        refine g_iinc C [(2, gI (v6 + 1)), (0, gF c0), (1, gI a1)] dX10_back_70 2 rfl (by decide) h.1 rfl ?_
        replace h := h.2
        refine g_goto (t := 41) C dX10_back_73 (by decide) ?_
        refine g_sub [(0, gF c0), (1, gI a1), (2, gI (v6 + 1))] [1, 2, 0] rfl ?_
        exact hrec8 (v6 + 1) M13 h
    · replace h := h.2 c4
      refine g_bipush C dX10_back_22 gRc_m4 gRb_m4 ?_
      exact g_iret C hR dX10_back_24 h
  · replace h := h.2 c3
    refine g_bipush C dX10_back_10 gRc_m3 gRb_m3 ?_
    exact g_iret C hR dX10_back_12 h

set_option maxRecDepth 100000 in
set_option maxHeartbeats 4000000 in
theorem sX10_freshens {l : Launch} {V : gW} (hD : gD V) (c0 a1 : Int) (M0 : gMem) (K : gMem → Prop) (hT0 : gT c0 10) (h : wX10_freshens c0 a1 K M0) (hM : gOM M0) (ho : ∀ q ∈ ([gI a1] : List gSV), gOK q) : gMv l V yX10_freshens cX10_freshens 4 4 92 [gF c0, gI a1] M0 K := by
  refine gMv_of hD (by decide) (Nat.le_of_ble_eq_true rfl) [(0, gF c0), (1, gI a1)] rfl (gok_L rfl (gok_n (q := gF c0) trivial ho)) hM (fun X C hR => ?_)
  unfold wX10_freshens at h
  refine g_aloadn C dX10_freshens_0 0 rfl ?_
  refine gf_10_19 C dX10_freshens_1 wd_874 hT0 ?_
  refine g_iconst C dX10_freshens_4 gRc_0 ?_
  refine g_iconst C dX10_freshens_5 gRc_1 ?_
  refine g_iast C dX10_freshens_6 (gt_10_19 hT0) gce_10020 h.1 ?_
  replace h := h.2
  obtain ⟨M1, eM1⟩ : ∃ x : gMem, x = gup M0 (c0 + 11) 0 1 := ⟨_, rfl⟩
  refine g_nmM eM1 ?_
  replace h := h M1 eM1
  refine g_iconst C dX10_freshens_7 gRc_0 ?_
  refine g_istoren C [(2, gI 0), (0, gF c0), (1, gI a1)] dX10_freshens_8 (by decide) rfl ?_
  refine g_sub [(0, gF c0), (1, gI a1), (2, gI 0)] [1, 2, 0] rfl ?_
  refine gL1_go (Gd := fun (v2 : Int) (M3 : gMem) => gG X V 4 9 [(0, gF c0), (1, gI a1), (2, gI v2)] [] M3) (fun rec4 hrec4 v2 M3 h => ?_) h
  refine g_iloadn C dX10_freshens_9 2 rfl ?_
  refine g_iconst C dX10_freshens_10 gRc_3 ?_
  refine g_ic_ge (t := 64) C dX10_freshens_11 (by decide) (fun c5 => ?_) (fun c5 => ?_)
  · replace h := h.1 c5
    refine g_aloadn C dX10_freshens_64 0 rfl ?_
    refine gf_10_19 C dX10_freshens_65 wd_874 hT0 ?_
    refine g_bipush C dX10_freshens_68 gRc_7 gRb_7 ?_
    refine g_aloadn C dX10_freshens_70 0 rfl ?_
    refine g_iloadn C dX10_freshens_71 1 rfl ?_
    refine g_cVi (st := [gI 7, gF (c0 + 11)]) C dX10_freshens_72 ykX10_bunchOf wd_1052 ⟨by decide, by decide⟩ [gI a1] rfl (Nat.le_of_ble_eq_true rfl) hT0 (fun hM ho => sX10_bunchOf hD c0 a1 M3 _ hT0 h hM ho) (fun r7 M6 h => ?_)
    refine g_iast C dX10_freshens_75 (gt_10_19 hT0) gce_10020 h.1 ?_
    replace h := h.2
    obtain ⟨M8, eM8⟩ : ∃ x : gMem, x = gup M6 (c0 + 11) 7 r7 := ⟨_, rfl⟩
    refine g_nmM eM8 ?_
    replace h := h M8 eM8
    refine g_iconst C dX10_freshens_76 gRc_0 ?_
    refine g_istoren C [(2, gI 0), (0, gF c0), (1, gI a1)] dX10_freshens_77 (by decide) rfl ?_
    refine g_sub [(0, gF c0), (1, gI a1), (2, gI 0)] [1, 2, 0] rfl ?_
    refine gL1_go (Gd := fun (v9 : Int) (M10 : gMem) => gG X V 4 78 [(0, gF c0), (1, gI a1), (2, gI v9)] [] M10) (fun rec11 hrec11 v9 M10 h => ?_) h
    refine g_iloadn C dX10_freshens_78 2 rfl ?_
    refine g_bipush C dX10_freshens_79 gRc_12 gRb_12 ?_
    refine g_ic_ge (t := 128) C dX10_freshens_81 (by decide) (fun c12 => ?_) (fun c12 => ?_)
    · replace h := h.1 c12
      exact g_vret C hR dX10_freshens_128 h
    · replace h := h.2 c12
      refine g_aloadn C dX10_freshens_84 0 rfl ?_
      refine gf_10_19 C dX10_freshens_85 wd_874 hT0 ?_
      refine g_bipush C dX10_freshens_88 gRc_8 gRb_8 ?_
      refine g_iloadn C dX10_freshens_90 2 rfl ?_
      refine g_iadd C dX10_freshens_91 h.1 ?_
      replace h := h.2
      refine g_aloadn C dX10_freshens_92 0 rfl ?_
      refine gf_10_19 C dX10_freshens_93 wd_874 hT0 ?_
      refine g_bipush C dX10_freshens_96 gRc_7 gRb_7 ?_
      refine g_iald C dX10_freshens_98 (gt_10_19 hT0) gce_10020 h.1 ?_
      replace h := h.2
      refine g_iloadn C dX10_freshens_99 2 rfl ?_
      refine g_cSi (st := [gI (8 + v9), gF (c0 + 11)]) C dX10_freshens_100 ykX10_has wd_1154 ⟨by decide, by decide⟩ [gI (M10 (c0 + 11) 7), gI v9] rfl (Nat.le_of_ble_eq_true rfl) (fun hM ho => sX10_has hD (M10 (c0 + 11) 7) v9 M10 _  h hM ho) (fun r14 M13 h => ?_)
      obtain ⟨P17, h, hP17⟩ := h
      have J18 : ∀ (x15 : Int) (M16 : gMem), P17 x15 M16 → gG X V 4 121 [(0, gF c0), (1, gI a1), (2, gI v9)] [gI x15, gI (8 + v9), gF (c0 + 11)] M16 := by
        intro x15 M16 h
        replace h := hP17 x15 M16 h
        refine g_iast C dX10_freshens_121 (gt_10_19 hT0) gce_10020 h.1 ?_
        replace h := h.2
        obtain ⟨M19, eM19⟩ : ∃ x : gMem, x = gup M16 (c0 + 11) (8 + v9) x15 := ⟨_, rfl⟩
        refine g_nmM eM19 ?_
        replace h := h M19 eM19
        refine g_iinc C [(2, gI (v9 + 1)), (0, gF c0), (1, gI a1)] dX10_freshens_122 2 rfl (by decide) h.1 rfl ?_
        replace h := h.2
        refine g_goto (t := 78) C dX10_freshens_125 (by decide) ?_
        refine g_sub [(0, gF c0), (1, gI a1), (2, gI (v9 + 1))] [1, 2, 0] rfl ?_
        exact hrec11 (v9 + 1) M19 h
      refine g_if_eq (t := 120) C dX10_freshens_103 (by decide) (fun c20 => ?_) (fun c20 => ?_)
      · replace h := h.1 c20
        refine g_iconst C dX10_freshens_120 gRc_m1 ?_
        exact J18 (-1) M13 h
      · replace h := h.2 c20
        refine g_aloadn C dX10_freshens_106 0 rfl ?_
        refine gf_10_16 C dX10_freshens_107 wd_871 hT0 ?_
        refine g_bipush C dX10_freshens_110 gRc_12 gRb_12 ?_
        refine g_iloadn C dX10_freshens_112 1 rfl ?_
        refine g_imul C dX10_freshens_113 h.1 ?_
        replace h := h.2
        refine g_iloadn C dX10_freshens_114 2 rfl ?_
        refine g_iadd C dX10_freshens_115 h.1 ?_
        replace h := h.2
        refine g_iald C dX10_freshens_116 (gt_10_16 hT0) gce_10144 h.1 ?_
        replace h := h.2
        refine g_goto (t := 121) C dX10_freshens_117 (by decide) ?_
        exact J18 (M13 (c0 + 8) ((12 * a1) + v9)) M13 h
  · replace h := h.2 c5
    refine g_aloadn C dX10_freshens_14 0 rfl ?_
    refine g_iloadn C dX10_freshens_15 1 rfl ?_
    refine g_iloadn C dX10_freshens_16 2 rfl ?_
    refine g_cVi (st := []) C dX10_freshens_17 ykX10_nearestOf wd_1044 ⟨by decide, by decide⟩ [gI a1, gI v2] rfl (Nat.le_of_ble_eq_true rfl) hT0 (fun hM ho => sX10_nearestOf hD c0 a1 v2 M3 _ hT0 h hM ho) (fun r22 M21 h => ?_)
    refine g_istoren C [(3, gI r22), (0, gF c0), (1, gI a1), (2, gI v2)] dX10_freshens_20 (by decide) rfl ?_
    refine g_aloadn C dX10_freshens_21 1 rfl ?_
    refine gf_10_19 C dX10_freshens_22 wd_874 hT0 ?_
    refine g_iconst C dX10_freshens_25 gRc_1 ?_
    refine g_iloadn C dX10_freshens_26 3 rfl ?_
    refine g_iadd C dX10_freshens_27 h.1 ?_
    replace h := h.2
    refine g_iloadn C dX10_freshens_28 0 rfl ?_
    refine g_iast C dX10_freshens_29 (gt_10_19 hT0) gce_10020 h.1 ?_
    replace h := h.2
    obtain ⟨M23, eM23⟩ : ∃ x : gMem, x = gup M21 (c0 + 11) (1 + v2) r22 := ⟨_, rfl⟩
    refine g_nmM eM23 ?_
    replace h := h M23 eM23
    refine g_aloadn C dX10_freshens_30 1 rfl ?_
    refine gf_10_19 C dX10_freshens_31 wd_874 hT0 ?_
    refine g_iconst C dX10_freshens_34 gRc_4 ?_
    refine g_iloadn C dX10_freshens_35 3 rfl ?_
    refine g_iadd C dX10_freshens_36 h.1 ?_
    replace h := h.2
    refine g_iloadn C dX10_freshens_37 0 rfl ?_
    refine g_iconst C dX10_freshens_38 gRc_m1 ?_
    obtain ⟨P26, h, hP26⟩ := h
    have J27 : ∀ (x24 : Int) (M25 : gMem), P26 x24 M25 → gG X V 4 57 [(0, gF c0), (1, gI a1), (2, gI v2)] [gI x24, gI (4 + v2), gF (c0 + 11)] M25 := by
      intro x24 M25 h
      replace h := hP26 x24 M25 h
      refine g_iast C dX10_freshens_57 (gt_10_19 hT0) gce_10020 h.1 ?_
      replace h := h.2
      obtain ⟨M28, eM28⟩ : ∃ x : gMem, x = gup M25 (c0 + 11) (4 + v2) x24 := ⟨_, rfl⟩
      refine g_nmM eM28 ?_
      replace h := h M28 eM28
      refine g_iinc C [(2, gI (v2 + 1)), (0, gF c0), (1, gI a1)] dX10_freshens_58 2 rfl (by decide) h.1 rfl ?_
      replace h := h.2
      refine g_goto (t := 9) C dX10_freshens_61 (by decide) ?_
      refine g_sub [(0, gF c0), (1, gI a1), (2, gI (v2 + 1))] [1, 2, 0] rfl ?_
      exact hrec4 (v2 + 1) M28 h
    refine g_ic_ne (t := 46) C dX10_freshens_39 (by decide) (fun c29 => ?_) (fun c29 => ?_)
    · replace h := h.1 c29
      refine g_aloadn C dX10_freshens_46 1 rfl ?_
      refine gf_10_16 C dX10_freshens_47 wd_871 hT0 ?_
      refine g_bipush C dX10_freshens_50 gRc_12 gRb_12 ?_
      refine g_iloadn C dX10_freshens_52 2 rfl ?_
      refine g_imul C dX10_freshens_53 h.1 ?_
      replace h := h.2
      refine g_iloadn C dX10_freshens_54 0 rfl ?_
      refine g_iadd C dX10_freshens_55 h.1 ?_
      replace h := h.2
      refine g_iald C dX10_freshens_56 (gt_10_16 hT0) gce_10144 h.1 ?_
      replace h := h.2
      refine g_sub [(0, gF c0), (1, gI a1), (2, gI v2)] [1, 2, 3] rfl ?_
      exact J27 (M23 (c0 + 8) ((12 * a1) + r22)) M23 h
    · replace h := h.2 c29
      refine g_iconst C dX10_freshens_42 gRc_m1 ?_
      refine g_goto (t := 57) C dX10_freshens_43 (by decide) ?_
      refine g_sub [(0, gF c0), (1, gI a1), (2, gI v2)] [1, 2, 3] rfl ?_
      exact J27 (-1) M23 h

set_option maxRecDepth 100000 in
set_option maxHeartbeats 4000000 in
theorem sX10_isFresh {l : Launch} {V : gW} (hD : gD V) (c0 a1 : Int) (M0 : gMem) (K : Int → gMem → Prop) (hT0 : gT c0 10) (h : wX10_isFresh c0 a1 K M0) (hM : gOM M0) (ho : ∀ q ∈ ([gI a1] : List gSV), gOK q) : gMi l V yX10_isFresh cX10_isFresh 4 (some .boolean) 5 115 [gF c0, gI a1] M0 K := by
  refine gMi_of hD (by decide) (Nat.le_of_ble_eq_true rfl) [(0, gF c0), (1, gI a1)] rfl (gok_L rfl (gok_n (q := gF c0) trivial ho)) hM (fun X C hR => ?_)
  unfold wX10_isFresh at h
  refine g_aloadn C dX10_isFresh_0 0 rfl ?_
  refine g_iloadn C dX10_isFresh_1 1 rfl ?_
  refine g_cVv (st := []) C dX10_isFresh_2 ykX10_freshens wd_1150 ⟨by decide, by decide⟩ [gI a1] rfl (Nat.le_of_ble_eq_true rfl) hT0 (fun hM ho => sX10_freshens hD c0 a1 M0 _ hT0 h hM ho) (fun M1 h => ?_)
  refine g_iconst C dX10_isFresh_5 gRc_1 ?_
  refine g_istoren C [(2, gI 1), (0, gF c0), (1, gI a1)] dX10_isFresh_6 (by decide) rfl ?_
  refine g_iconst C dX10_isFresh_7 gRc_0 ?_
  refine g_istoren C [(3, gI 0), (2, gI 1), (0, gF c0), (1, gI a1)] dX10_isFresh_8 (by decide) rfl ?_
  refine g_sub [(0, gF c0), (1, gI a1), (2, gI 1), (3, gI 0)] [2, 3, 1, 0] rfl ?_
  refine gL2_go (Gd := fun (v2 : Int) (v3 : Int) (M4 : gMem) => gG X V 4 9 [(0, gF c0), (1, gI a1), (2, gI v2), (3, gI v3)] [] M4) (fun rec5 hrec5 v2 v3 M4 h => ?_) h
  refine g_iloadn C dX10_isFresh_9 3 rfl ?_
  refine g_bipush C dX10_isFresh_10 gRc_20 gRb_20 ?_
  refine g_ic_ge (t := 51) C dX10_isFresh_12 (by decide) (fun c6 => ?_) (fun c6 => ?_)
  · replace h := h.1 c6
    refine g_iloadn C dX10_isFresh_51 2 rfl ?_
    exact g_zret C hR dX10_isFresh_52 h.1 h.2
  · replace h := h.2 c6
    refine g_iloadn C dX10_isFresh_15 2 rfl ?_
    obtain ⟨P9, h, hP9⟩ := h
    have J10 : ∀ (x7 : Int) (M8 : gMem), P9 x7 M8 → gG X V 4 44 [(0, gF c0), (1, gI a1), (3, gI v3)] [gI x7] M8 := by
      intro x7 M8 h
      replace h := hP9 x7 M8 h
      refine g_istoren C [(2, gI x7), (0, gF c0), (1, gI a1), (3, gI v3)] dX10_isFresh_44 (by decide) rfl ?_
      refine g_iinc C [(3, gI (v3 + 1)), (2, gI x7), (0, gF c0), (1, gI a1)] dX10_isFresh_45 3 rfl (by decide) h.1 rfl ?_
      replace h := h.2
      refine g_goto (t := 9) C dX10_isFresh_48 (by decide) ?_
      refine g_sub [(0, gF c0), (1, gI a1), (2, gI x7), (3, gI (v3 + 1))] [2, 3, 1, 0] rfl ?_
      exact hrec5 x7 (v3 + 1) M8 h
    obtain ⟨P12, h, hP12⟩ := h
    have J13 : ∀ (M11 : gMem), P12 M11 → gG X V 4 43 [(0, gF c0), (1, gI a1), (3, gI v3)] [] M11 := by
      intro M11 h
      replace h := hP12 M11 h
      refine g_iconst C dX10_isFresh_43 gRc_0 ?_
      exact J10 0 M11 h
    refine g_if_eq (t := 43) C dX10_isFresh_16 (by decide) (fun c14 => ?_) (fun c14 => ?_)
    · replace h := h.1 c14
      refine g_sub [(0, gF c0), (1, gI a1), (3, gI v3)] [0, 1, 3] rfl ?_
      exact J13 M4 h
    · replace h := h.2 c14
      refine g_aloadn C dX10_isFresh_19 0 rfl ?_
      refine gf_10_3 C dX10_isFresh_20 wd_858 hT0 ?_
      refine g_bipush C dX10_isFresh_23 gRc_20 gRb_20 ?_
      refine g_iloadn C dX10_isFresh_25 1 rfl ?_
      refine g_imul C dX10_isFresh_26 h.1 ?_
      replace h := h.2
      refine g_iloadn C dX10_isFresh_27 3 rfl ?_
      refine g_iadd C dX10_isFresh_28 h.1 ?_
      replace h := h.2
      refine g_iald C dX10_isFresh_29 (gt_10_3 hT0) gce_10720 h.1 ?_
      replace h := h.2
      refine g_aloadn C dX10_isFresh_30 0 rfl ?_
      refine gf_10_19 C dX10_isFresh_31 wd_874 hT0 ?_
      refine g_iloadn C dX10_isFresh_34 3 rfl ?_
      refine g_iald C dX10_isFresh_35 (gt_10_19 hT0) gce_10020 h.1 ?_
      replace h := h.2
      refine g_ic_ne (t := 43) C dX10_isFresh_36 (by decide) (fun c15 => ?_) (fun c15 => ?_)
      · replace h := h.1 c15
        refine g_sub [(0, gF c0), (1, gI a1), (3, gI v3)] [0, 1, 3] rfl ?_
        exact J13 M4 h
      · replace h := h.2 c15
        refine g_iconst C dX10_isFresh_39 gRc_1 ?_
        refine g_goto (t := 44) C dX10_isFresh_40 (by decide) ?_
        refine g_sub [(0, gF c0), (1, gI a1), (3, gI v3)] [0, 1, 3] rfl ?_
        exact J10 1 M4 h

set_option maxRecDepth 100000 in
set_option maxHeartbeats 4000000 in
theorem sX10_writes {l : Launch} {V : gW} (hD : gD V) (c0 a1 : Int) (M0 : gMem) (K : gMem → Prop) (hT0 : gT c0 10) (h : wX10_writes c0 a1 K M0) (hM : gOM M0) (ho : ∀ q ∈ ([gI a1] : List gSV), gOK q) : gMv l V yX10_writes cX10_writes 3 5 115 [gF c0, gI a1] M0 K := by
  refine gMv_of hD (by decide) (Nat.le_of_ble_eq_true rfl) [(0, gF c0), (1, gI a1)] rfl (gok_L rfl (gok_n (q := gF c0) trivial ho)) hM (fun X C hR => ?_)
  unfold wX10_writes at h
  refine g_aloadn C dX10_writes_0 0 rfl ?_
  refine g_iloadn C dX10_writes_1 1 rfl ?_
  refine g_cVv (st := []) C dX10_writes_2 ykX10_freshens wd_1150 ⟨by decide, by decide⟩ [gI a1] rfl (Nat.le_of_ble_eq_true rfl) hT0 (fun hM ho => sX10_freshens hD c0 a1 M0 _ hT0 h hM ho) (fun M1 h => ?_)
  refine g_iconst C dX10_writes_5 gRc_0 ?_
  refine g_istoren C [(2, gI 0), (0, gF c0), (1, gI a1)] dX10_writes_6 (by decide) rfl ?_
  refine g_sub [(0, gF c0), (1, gI a1), (2, gI 0)] [1, 2, 0] rfl ?_
  refine gL1_go (Gd := fun (v2 : Int) (M3 : gMem) => gG X V 3 7 [(0, gF c0), (1, gI a1), (2, gI v2)] [] M3) (fun rec4 hrec4 v2 M3 h => ?_) h
  refine g_iloadn C dX10_writes_7 2 rfl ?_
  refine g_bipush C dX10_writes_8 gRc_20 gRb_20 ?_
  refine g_ic_ge (t := 36) C dX10_writes_10 (by decide) (fun c5 => ?_) (fun c5 => ?_)
  · replace h := h.1 c5
    exact g_vret C hR dX10_writes_36 h
  · replace h := h.2 c5
    refine g_aloadn C dX10_writes_13 0 rfl ?_
    refine gf_10_3 C dX10_writes_14 wd_858 hT0 ?_
    refine g_bipush C dX10_writes_17 gRc_20 gRb_20 ?_
    refine g_iloadn C dX10_writes_19 1 rfl ?_
    refine g_imul C dX10_writes_20 h.1 ?_
    replace h := h.2
    refine g_iloadn C dX10_writes_21 2 rfl ?_
    refine g_iadd C dX10_writes_22 h.1 ?_
    replace h := h.2
    refine g_aloadn C dX10_writes_23 0 rfl ?_
    refine gf_10_19 C dX10_writes_24 wd_874 hT0 ?_
    refine g_iloadn C dX10_writes_27 2 rfl ?_
    refine g_iald C dX10_writes_28 (gt_10_19 hT0) gce_10020 h.1 ?_
    replace h := h.2
    refine g_iast C dX10_writes_29 (gt_10_3 hT0) gce_10720 h.1 ?_
    replace h := h.2
    obtain ⟨M6, eM6⟩ : ∃ x : gMem, x = gup M3 (c0 + 2) ((20 * a1) + v2) (M3 (c0 + 11) v2) := ⟨_, rfl⟩
    refine g_nmM eM6 ?_
    replace h := h M6 eM6
    refine g_iinc C [(2, gI (v2 + 1)), (0, gF c0), (1, gI a1)] dX10_writes_30 2 rfl (by decide) h.1 rfl ?_
    replace h := h.2
    refine g_goto (t := 7) C dX10_writes_33 (by decide) ?_
    refine g_sub [(0, gF c0), (1, gI a1), (2, gI (v2 + 1))] [1, 2, 0] rfl ?_
    exact hrec4 (v2 + 1) M6 h

set_option maxRecDepth 100000 in
set_option maxHeartbeats 4000000 in
theorem sX10_note {l : Launch} {V : gW} (hD : gD V) (c0 a1 : Int) (M0 : gMem) (K : Int → gMem → Prop) (hT0 : gT c0 10) (h : wX10_note c0 a1 K M0) (hM : gOM M0) (ho : ∀ q ∈ ([gI a1] : List gSV), gOK q) : gMi l V yX10_note cX10_note 2 (some .int) 6 137 [gF c0, gI a1] M0 K := by
  refine gMi_of hD (by decide) (Nat.le_of_ble_eq_true rfl) [(0, gF c0), (1, gI a1)] rfl (gok_L rfl (gok_n (q := gF c0) trivial ho)) hM (fun X C hR => ?_)
  unfold wX10_note at h
  refine g_aloadn C dX10_note_0 0 rfl ?_
  refine g_iloadn C dX10_note_1 1 rfl ?_
  refine g_cVi (st := []) C dX10_note_2 ykX10_isNode wd_1022 ⟨by decide, by decide⟩ [gI a1] rfl (Nat.le_of_ble_eq_true rfl) hT0 (fun hM ho => sX10_isNode hD c0 a1 M0 _ hT0 h hM ho) (fun r2 M1 h => ?_)
  refine g_if_ne (t := 11) C dX10_note_5 (by decide) (fun c3 => ?_) (fun c3 => ?_)
  · replace h := h.1 c3
    refine g_aloadn C dX10_note_11 0 rfl ?_
    refine g_iconst C dX10_note_12 gRc_0 ?_
    refine g_cVv (st := []) C dX10_note_13 ykX10_finds wd_1030 ⟨by decide, by decide⟩ [gI 0] rfl (Nat.le_of_ble_eq_true rfl) hT0 (fun hM ho => sX10_finds hD c0 0 M1 _ hT0 h hM ho) (fun M4 h => ?_)
    refine g_aloadn C dX10_note_16 0 rfl ?_
    refine g_iloadn C dX10_note_17 1 rfl ?_
    refine g_cVv (st := []) C dX10_note_18 ykX10_writes wd_1146 ⟨by decide, by decide⟩ [gI a1] rfl (Nat.le_of_ble_eq_true rfl) hT0 (fun hM ho => sX10_writes hD c0 a1 M4 _ hT0 h hM ho) (fun M5 h => ?_)
    refine g_aloadn C dX10_note_21 0 rfl ?_
    refine gf_10_3 C dX10_note_22 wd_858 hT0 ?_
    refine g_bipush C dX10_note_25 gRc_20 gRb_20 ?_
    refine g_iloadn C dX10_note_27 1 rfl ?_
    refine g_imul C dX10_note_28 h.1 ?_
    replace h := h.2
    refine g_bipush C dX10_note_29 gRc_7 gRb_7 ?_
    refine g_iadd C dX10_note_31 h.1 ?_
    replace h := h.2
    refine g_iald C dX10_note_32 (gt_10_3 hT0) gce_10720 h.1 ?_
    replace h := h.2
    refine g_cSi (st := []) C dX10_note_33 ykX10_ones wd_1157 ⟨by decide, by decide⟩ [gI (M5 (c0 + 2) ((20 * a1) + 7))] rfl (Nat.le_of_ble_eq_true rfl) (fun hM ho => sX10_ones hD (M5 (c0 + 2) ((20 * a1) + 7)) M5 _  h hM ho) (fun r7 M6 h => ?_)
    exact g_iret C hR dX10_note_36 h
  · replace h := h.2 c3
    refine g_bipush C dX10_note_8 gRc_m2 gRb_m2 ?_
    exact g_iret C hR dX10_note_10 h

set_option maxRecDepth 100000 in
set_option maxHeartbeats 4000000 in
theorem sX10_mend {l : Launch} {V : gW} (hD : gD V) (c0 : Int) (M0 : gMem) (K : Int → gMem → Prop) (hT0 : gT c0 10) (h : wX10_mend c0 K M0) (hM : gOM M0) (ho : ∀ q ∈ ([] : List gSV), gOK q) : gMi l V yX10_mend cX10_mend 3 (some .int) 6 138 [gF c0] M0 K := by
  refine gMi_of hD (by decide) (Nat.le_of_ble_eq_true rfl) [(0, gF c0)] rfl (gok_L rfl (gok_n (q := gF c0) trivial ho)) hM (fun X C hR => ?_)
  unfold wX10_mend at h
  refine g_aloadn C dX10_mend_0 0 rfl ?_
  refine g_iconst C dX10_mend_1 gRc_0 ?_
  refine g_cVv (st := []) C dX10_mend_2 ykX10_finds wd_1030 ⟨by decide, by decide⟩ [gI 0] rfl (Nat.le_of_ble_eq_true rfl) hT0 (fun hM ho => sX10_finds hD c0 0 M0 _ hT0 h hM ho) (fun M1 h => ?_)
  refine g_iconst C dX10_mend_5 gRc_0 ?_
  refine g_istoren C [(1, gI 0), (0, gF c0)] dX10_mend_6 (by decide) rfl ?_
  refine g_iconst C dX10_mend_7 gRc_0 ?_
  refine g_istoren C [(2, gI 0), (1, gI 0), (0, gF c0)] dX10_mend_8 (by decide) rfl ?_
  refine g_sub [(0, gF c0), (1, gI 0), (2, gI 0)] [2, 1, 0] rfl ?_
  refine gL2_go (Gd := fun (v2 : Int) (v3 : Int) (M4 : gMem) => gG X V 3 9 [(0, gF c0), (1, gI v2), (2, gI v3)] [] M4) (fun rec5 hrec5 v2 v3 M4 h => ?_) h
  refine g_iloadn C dX10_mend_9 2 rfl ?_
  refine g_aloadn C dX10_mend_10 0 rfl ?_
  refine gf_10_2 C dX10_mend_11 wd_857 hT0 ?_
  refine g_ic_ge (t := 39) C dX10_mend_14 (by decide) (fun c6 => ?_) (fun c6 => ?_)
  · replace h := h.1 c6
    refine g_iloadn C dX10_mend_39 1 rfl ?_
    exact g_iret C hR dX10_mend_40 h
  · replace h := h.2 c6
    refine g_aloadn C dX10_mend_17 0 rfl ?_
    refine g_iloadn C dX10_mend_18 2 rfl ?_
    refine g_cVi (st := []) C dX10_mend_19 ykX10_isFresh wd_1164 ⟨by decide, by decide⟩ [gI v3] rfl (Nat.le_of_ble_eq_true rfl) hT0 (fun hM ho => sX10_isFresh hD c0 v3 M4 _ hT0 h hM ho) (fun r8 M7 h => ?_)
    obtain ⟨P11, h, hP11⟩ := h
    have J12 : ∀ (v9 : Int) (M10 : gMem), P11 v9 M10 → gG X V 3 33 [(0, gF c0), (1, gI v9), (2, gI v3)] [] M10 := by
      intro v9 M10 h
      replace h := hP11 v9 M10 h
      refine g_iinc C [(2, gI (v3 + 1)), (0, gF c0), (1, gI v9)] dX10_mend_33 2 rfl (by decide) h.1 rfl ?_
      replace h := h.2
      refine g_goto (t := 9) C dX10_mend_36 (by decide) ?_
      refine g_sub [(0, gF c0), (1, gI v9), (2, gI (v3 + 1))] [1, 2, 0] rfl ?_
      exact hrec5 v9 (v3 + 1) M10 h
    refine g_if_ne (t := 33) C dX10_mend_22 (by decide) (fun c13 => ?_) (fun c13 => ?_)
    · replace h := h.1 c13
      exact J12 v2 M7 h
    · replace h := h.2 c13
      refine g_aloadn C dX10_mend_25 0 rfl ?_
      refine g_iloadn C dX10_mend_26 2 rfl ?_
      refine g_cVv (st := []) C dX10_mend_27 ykX10_writes wd_1146 ⟨by decide, by decide⟩ [gI v3] rfl (Nat.le_of_ble_eq_true rfl) hT0 (fun hM ho => sX10_writes hD c0 v3 M7 _ hT0 h hM ho) (fun M14 h => ?_)
      refine g_iinc C [(1, gI (v2 + 1)), (0, gF c0), (2, gI v3)] dX10_mend_30 1 rfl (by decide) h.1 rfl ?_
      replace h := h.2
      refine g_sub [(0, gF c0), (1, gI (v2 + 1)), (2, gI v3)] [1, 0, 2] rfl ?_
      exact J12 (v2 + 1) M14 h

set_option maxRecDepth 100000 in
set_option maxHeartbeats 4000000 in
theorem sX10_tear {l : Launch} {V : gW} (hD : gD V) (c0 a1 : Int) (M0 : gMem) (K : Int → gMem → Prop) (hT0 : gT c0 10) (h : wX10_tear c0 a1 K M0) (hM : gOM M0) (ho : ∀ q ∈ ([gI a1] : List gSV), gOK q) : gMi l V yX10_tear cX10_tear 4 (some .int) 2 46 [gF c0, gI a1] M0 K := by
  refine gMi_of hD (by decide) (Nat.le_of_ble_eq_true rfl) [(0, gF c0), (1, gI a1)] rfl (gok_L rfl (gok_n (q := gF c0) trivial ho)) hM (fun X C hR => ?_)
  unfold wX10_tear at h
  refine g_aloadn C dX10_tear_0 0 rfl ?_
  refine g_iloadn C dX10_tear_1 1 rfl ?_
  refine g_cVi (st := []) C dX10_tear_2 ykX10_isNode wd_1022 ⟨by decide, by decide⟩ [gI a1] rfl (Nat.le_of_ble_eq_true rfl) hT0 (fun hM ho => sX10_isNode hD c0 a1 M0 _ hT0 h hM ho) (fun r2 M1 h => ?_)
  refine g_if_ne (t := 11) C dX10_tear_5 (by decide) (fun c3 => ?_) (fun c3 => ?_)
  · replace h := h.1 c3
    refine g_aloadn C dX10_tear_11 0 rfl ?_
    refine gf_10_3 C dX10_tear_12 wd_858 hT0 ?_
    refine g_bipush C dX10_tear_15 gRc_20 gRb_20 ?_
    refine g_iloadn C dX10_tear_17 1 rfl ?_
    refine g_imul C dX10_tear_18 h.1 ?_
    replace h := h.2
    refine g_iald C dX10_tear_19 (gt_10_3 hT0) gce_10720 h.1 ?_
    replace h := h.2
    obtain ⟨v4, ev4⟩ : ∃ x : Int, x = (M1 (c0 + 2) (20 * a1)) := ⟨_, rfl⟩
    refine g_nm ev4 ?_
    replace h := h v4 ev4
    refine g_istoren C [(2, gI v4), (0, gF c0), (1, gI a1)] dX10_tear_20 (by decide) rfl ?_
    refine g_iconst C dX10_tear_21 gRc_0 ?_
    refine g_istoren C [(3, gI 0), (2, gI v4), (0, gF c0), (1, gI a1)] dX10_tear_22 (by decide) rfl ?_
    refine g_sub [(0, gF c0), (1, gI a1), (2, gI v4), (3, gI 0)] [2, 3, 1, 0] rfl ?_
    refine gL1_go (Gd := fun (v5 : Int) (M6 : gMem) => gG X V 4 23 [(0, gF c0), (1, gI a1), (2, gI v4), (3, gI v5)] [] M6) (fun rec7 hrec7 v5 M6 h => ?_) h
    refine g_iloadn C dX10_tear_23 3 rfl ?_
    refine g_bipush C dX10_tear_24 gRc_20 gRb_20 ?_
    refine g_ic_ge (t := 47) C dX10_tear_26 (by decide) (fun c8 => ?_) (fun c8 => ?_)
    · replace h := h.1 c8
      refine g_iloadn C dX10_tear_47 2 rfl ?_
      exact g_iret C hR dX10_tear_48 h
    · replace h := h.2 c8
      refine g_aloadn C dX10_tear_29 0 rfl ?_
      refine gf_10_3 C dX10_tear_30 wd_858 hT0 ?_
      refine g_bipush C dX10_tear_33 gRc_20 gRb_20 ?_
      refine g_iloadn C dX10_tear_35 1 rfl ?_
      refine g_imul C dX10_tear_36 h.1 ?_
      replace h := h.2
      refine g_iloadn C dX10_tear_37 3 rfl ?_
      refine g_iadd C dX10_tear_38 h.1 ?_
      replace h := h.2
      refine g_iconst C dX10_tear_39 gRc_0 ?_
      refine g_iast C dX10_tear_40 (gt_10_3 hT0) gce_10720 h.1 ?_
      replace h := h.2
      obtain ⟨M9, eM9⟩ : ∃ x : gMem, x = gup M6 (c0 + 2) ((20 * a1) + v5) 0 := ⟨_, rfl⟩
      refine g_nmM eM9 ?_
      replace h := h M9 eM9
      refine g_iinc C [(3, gI (v5 + 1)), (0, gF c0), (1, gI a1), (2, gI v4)] dX10_tear_41 3 rfl (by decide) h.1 rfl ?_
      replace h := h.2
      refine g_goto (t := 23) C dX10_tear_44 (by decide) ?_
      refine g_sub [(0, gF c0), (1, gI a1), (2, gI v4), (3, gI (v5 + 1))] [1, 2, 3, 0] rfl ?_
      exact hrec7 (v5 + 1) M9 h
  · replace h := h.2 c3
    refine g_bipush C dX10_tear_8 gRc_m2 gRb_m2 ?_
    exact g_iret C hR dX10_tear_10 h

set_option maxRecDepth 100000 in
set_option maxHeartbeats 4000000 in
theorem sX10_noted {l : Launch} {V : gW} (hD : gD V) (c0 a1 a2 : Int) (M0 : gMem) (K : Int → gMem → Prop) (hT0 : gT c0 10) (h : wX10_noted c0 a1 a2 K M0) (hM : gOM M0) (ho : ∀ q ∈ ([gI a1, gI a2] : List gSV), gOK q) : gMi l V yX10_noted cX10_noted 3 (some .int) 6 138 [gF c0, gI a1, gI a2] M0 K := by
  refine gMi_of hD (by decide) (Nat.le_of_ble_eq_true rfl) [(0, gF c0), (1, gI a1), (2, gI a2)] rfl (gok_L rfl (gok_n (q := gF c0) trivial ho)) hM (fun X C hR => ?_)
  unfold wX10_noted at h
  refine g_aloadn C dX10_noted_0 0 rfl ?_
  refine g_iloadn C dX10_noted_1 1 rfl ?_
  refine g_cVi (st := []) C dX10_noted_2 ykX10_isNode wd_1022 ⟨by decide, by decide⟩ [gI a1] rfl (Nat.le_of_ble_eq_true rfl) hT0 (fun hM ho => sX10_isNode hD c0 a1 M0 _ hT0 h hM ho) (fun r2 M1 h => ?_)
  refine g_if_ne (t := 11) C dX10_noted_5 (by decide) (fun c3 => ?_) (fun c3 => ?_)
  · replace h := h.1 c3
    refine g_iloadn C dX10_noted_11 2 rfl ?_
    refine g_i2l C dX10_noted_12 ?_
    refine g_lconst C dX10_noted_13 (by decide) (show gOK (gJ 0) from ⟨by decide, by decide⟩) ?_
    refine g_ldc2 C dX10_noted_14 wd_1176 (by decide) (show gOK (gJ 7) from ⟨by decide, by decide⟩) ?_
    refine g_cSi (st := []) C dX10_noted_17 ykX10_in wd_937 ⟨by decide, by decide⟩ [gJ a2, gJ 0, gJ 7] rfl (Nat.le_of_ble_eq_true rfl) (fun hM ho => sX10_in hD a2 0 7 M1 _  h hM ho) (fun r5 M4 h => ?_)
    refine g_if_ne (t := 26) C dX10_noted_20 (by decide) (fun c6 => ?_) (fun c6 => ?_)
    · replace h := h.1 c6
      refine g_iloadn C dX10_noted_26 2 rfl ?_
      refine g_if_ne (t := 49) C dX10_noted_27 (by decide) (fun c7 => ?_) (fun c7 => ?_)
      · replace h := h.1 c7
        refine g_aloadn C dX10_noted_49 0 rfl ?_
        refine g_iloadn C dX10_noted_50 1 rfl ?_
        refine g_cVi (st := []) C dX10_noted_51 ykX10_isWritten wd_1134 ⟨by decide, by decide⟩ [gI a1] rfl (Nat.le_of_ble_eq_true rfl) hT0 (fun hM ho => sX10_isWritten hD c0 a1 M4 _ hT0 h hM ho) (fun r9 M8 h => ?_)
        obtain ⟨P12, h, hP12⟩ := h
        have J13 : ∀ (x10 : Int) (M11 : gMem), P12 x10 M11 → gG X V 3 73 [] [gI x10] M11 := by
          intro x10 M11 h
          replace h := hP12 x10 M11 h
          exact g_iret C hR dX10_noted_73 h
        refine g_if_eq (t := 71) C dX10_noted_54 (by decide) (fun c14 => ?_) (fun c14 => ?_)
        · replace h := h.1 c14
          refine g_bipush C dX10_noted_71 gRc_m4 gRb_m4 ?_
          refine g_sub [] [] rfl ?_
          exact J13 (-4) M8 h
        · replace h := h.2 c14
          refine g_aloadn C dX10_noted_57 0 rfl ?_
          refine gf_10_3 C dX10_noted_58 wd_858 hT0 ?_
          refine g_bipush C dX10_noted_61 gRc_20 gRb_20 ?_
          refine g_iloadn C dX10_noted_63 1 rfl ?_
          refine g_imul C dX10_noted_64 h.1 ?_
          replace h := h.2
          refine g_iloadn C dX10_noted_65 2 rfl ?_
          refine g_iadd C dX10_noted_66 h.1 ?_
          replace h := h.2
          refine g_iald C dX10_noted_67 (gt_10_3 hT0) gce_10720 h.1 ?_
          replace h := h.2
          refine g_goto (t := 73) C dX10_noted_68 (by decide) ?_
          refine g_sub [] [] rfl ?_
          exact J13 (M8 (c0 + 2) ((20 * a1) + a2)) M8 h
      · replace h := h.2 c7
        refine g_aloadn C dX10_noted_30 0 rfl ?_
        refine g_iconst C dX10_noted_31 gRc_0 ?_
        refine g_cVv (st := []) C dX10_noted_32 ykX10_finds wd_1030 ⟨by decide, by decide⟩ [gI 0] rfl (Nat.le_of_ble_eq_true rfl) hT0 (fun hM ho => sX10_finds hD c0 0 M4 _ hT0 h hM ho) (fun M15 h => ?_)
        refine g_aloadn C dX10_noted_35 0 rfl ?_
        refine g_iloadn C dX10_noted_36 1 rfl ?_
        refine g_cVi (st := []) C dX10_noted_37 ykX10_isFresh wd_1164 ⟨by decide, by decide⟩ [gI a1] rfl (Nat.le_of_ble_eq_true rfl) hT0 (fun hM ho => sX10_isFresh hD c0 a1 M15 _ hT0 h hM ho) (fun r17 M16 h => ?_)
        obtain ⟨P20, h, hP20⟩ := h
        have J21 : ∀ (x18 : Int) (M19 : gMem), P20 x18 M19 → gG X V 3 48 [] [gI x18] M19 := by
          intro x18 M19 h
          replace h := hP20 x18 M19 h
          exact g_iret C hR dX10_noted_48 h
        refine g_if_eq (t := 47) C dX10_noted_40 (by decide) (fun c22 => ?_) (fun c22 => ?_)
        · replace h := h.1 c22
          refine g_iconst C dX10_noted_47 gRc_0 ?_
          refine g_sub [] [] rfl ?_
          exact J21 0 M16 h
        · replace h := h.2 c22
          refine g_iconst C dX10_noted_43 gRc_1 ?_
          refine g_goto (t := 48) C dX10_noted_44 (by decide) ?_
          refine g_sub [] [] rfl ?_
          exact J21 1 M16 h
    · replace h := h.2 c6
      refine g_bipush C dX10_noted_23 gRc_m3 gRb_m3 ?_
      exact g_iret C hR dX10_noted_25 h
  · replace h := h.2 c3
    refine g_bipush C dX10_noted_8 gRc_m2 gRb_m2 ?_
    exact g_iret C hR dX10_noted_10 h

set_option maxRecDepth 100000 in
set_option maxHeartbeats 4000000 in
theorem sX10_notedFar {l : Launch} {V : gW} (hD : gD V) (c0 a1 a2 : Int) (M0 : gMem) (K : Int → gMem → Prop) (hT0 : gT c0 10) (h : wX10_notedFar c0 a1 a2 K M0) (hM : gOM M0) (ho : ∀ q ∈ ([gI a1, gI a2] : List gSV), gOK q) : gMi l V yX10_notedFar cX10_notedFar 3 (some .int) 2 46 [gF c0, gI a1, gI a2] M0 K := by
  refine gMi_of hD (by decide) (Nat.le_of_ble_eq_true rfl) [(0, gF c0), (1, gI a1), (2, gI a2)] rfl (gok_L rfl (gok_n (q := gF c0) trivial ho)) hM (fun X C hR => ?_)
  unfold wX10_notedFar at h
  refine g_aloadn C dX10_notedFar_0 0 rfl ?_
  refine g_iloadn C dX10_notedFar_1 1 rfl ?_
  refine g_cVi (st := []) C dX10_notedFar_2 ykX10_isNode wd_1022 ⟨by decide, by decide⟩ [gI a1] rfl (Nat.le_of_ble_eq_true rfl) hT0 (fun hM ho => sX10_isNode hD c0 a1 M0 _ hT0 h hM ho) (fun r2 M1 h => ?_)
  obtain ⟨P4, h, hP4⟩ := h
  have J5 : ∀ (M3 : gMem), P4 M3 → gG X V 3 16 [] [] M3 := by
    intro M3 h
    replace h := hP4 M3 h
    refine g_bipush C dX10_notedFar_16 gRc_m2 gRb_m2 ?_
    exact g_iret C hR dX10_notedFar_18 h
  refine g_if_eq (t := 16) C dX10_notedFar_5 (by decide) (fun c6 => ?_) (fun c6 => ?_)
  · replace h := h.1 c6
    refine g_sub [] [] rfl ?_
    exact J5 M1 h
  · replace h := h.2 c6
    refine g_aloadn C dX10_notedFar_8 0 rfl ?_
    refine g_iloadn C dX10_notedFar_9 2 rfl ?_
    refine g_cVi (st := []) C dX10_notedFar_10 ykX10_isNode wd_1022 ⟨by decide, by decide⟩ [gI a2] rfl (Nat.le_of_ble_eq_true rfl) hT0 (fun hM ho => sX10_isNode hD c0 a2 M1 _ hT0 h hM ho) (fun r8 M7 h => ?_)
    refine g_if_ne (t := 19) C dX10_notedFar_13 (by decide) (fun c9 => ?_) (fun c9 => ?_)
    · replace h := h.1 c9
      refine g_aloadn C dX10_notedFar_19 0 rfl ?_
      refine g_iloadn C dX10_notedFar_20 1 rfl ?_
      refine g_cVi (st := []) C dX10_notedFar_21 ykX10_isWritten wd_1134 ⟨by decide, by decide⟩ [gI a1] rfl (Nat.le_of_ble_eq_true rfl) hT0 (fun hM ho => sX10_isWritten hD c0 a1 M7 _ hT0 h hM ho) (fun r11 M10 h => ?_)
      obtain ⟨P14, h, hP14⟩ := h
      have J15 : ∀ (x12 : Int) (M13 : gMem), P14 x12 M13 → gG X V 3 45 [] [gI x12] M13 := by
        intro x12 M13 h
        replace h := hP14 x12 M13 h
        exact g_iret C hR dX10_notedFar_45 h
      refine g_if_eq (t := 44) C dX10_notedFar_24 (by decide) (fun c16 => ?_) (fun c16 => ?_)
      · replace h := h.1 c16
        refine g_iconst C dX10_notedFar_44 gRc_m1 ?_
        refine g_sub [] [] rfl ?_
        exact J15 (-1) M10 h
      · replace h := h.2 c16
        refine g_aloadn C dX10_notedFar_27 0 rfl ?_
        refine gf_10_3 C dX10_notedFar_28 wd_858 hT0 ?_
        refine g_bipush C dX10_notedFar_31 gRc_20 gRb_20 ?_
        refine g_iloadn C dX10_notedFar_33 1 rfl ?_
        refine g_imul C dX10_notedFar_34 h.1 ?_
        replace h := h.2
        refine g_bipush C dX10_notedFar_35 gRc_8 gRb_8 ?_
        refine g_iadd C dX10_notedFar_37 h.1 ?_
        replace h := h.2
        refine g_iloadn C dX10_notedFar_38 2 rfl ?_
        refine g_iadd C dX10_notedFar_39 h.1 ?_
        replace h := h.2
        refine g_iald C dX10_notedFar_40 (gt_10_3 hT0) gce_10720 h.1 ?_
        replace h := h.2
        refine g_goto (t := 45) C dX10_notedFar_41 (by decide) ?_
        refine g_sub [] [] rfl ?_
        exact J15 (M10 (c0 + 2) (((20 * a1) + 8) + a2)) M10 h
    · replace h := h.2 c9
      refine g_sub [] [] rfl ?_
      exact J5 M7 h

set_option maxRecDepth 100000 in
set_option maxHeartbeats 4000000 in
theorem sX10_untold {l : Launch} {V : gW} (hD : gD V) (c0 a1 a2 : Int) (M0 : gMem) (K : Int → gMem → Prop) (hT0 : gT c0 10) (h : wX10_untold c0 a1 a2 K M0) (hM : gOM M0) (ho : ∀ q ∈ ([gI a1, gI a2] : List gSV), gOK q) : gMi l V yX10_untold cX10_untold 3 (some .boolean) 0 0 [gF c0, gI a1, gI a2] M0 K := by
  refine gMi_of hD (by decide) (Nat.le_of_ble_eq_true rfl) [(0, gF c0), (1, gI a1), (2, gI a2)] rfl (gok_L rfl (gok_n (q := gF c0) trivial ho)) hM (fun X C hR => ?_)
  unfold wX10_untold at h
  refine g_aloadn C dX10_untold_0 0 rfl ?_
  refine g_iloadn C dX10_untold_1 1 rfl ?_
  refine gp_10_23 C dX10_untold_2 wd_878 hT0 ?_
  obtain ⟨M1, eM1⟩ : ∃ x : gMem, x = gup M0 c0 23 a1 := ⟨_, rfl⟩
  refine g_nmM eM1 ?_
  replace h := h M1 eM1
  refine g_aloadn C dX10_untold_5 0 rfl ?_
  refine g_iloadn C dX10_untold_6 2 rfl ?_
  refine gp_10_24 C dX10_untold_7 wd_879 hT0 ?_
  obtain ⟨M2, eM2⟩ : ∃ x : gMem, x = gup M1 c0 24 a2 := ⟨_, rfl⟩
  refine g_nmM eM2 ?_
  replace h := h M2 eM2
  refine g_aloadn C dX10_untold_10 0 rfl ?_
  refine g_iconst C dX10_untold_11 gRc_m1 ?_
  refine gp_10_20 C dX10_untold_12 wd_875 hT0 ?_
  obtain ⟨M3, eM3⟩ : ∃ x : gMem, x = gup M2 c0 20 (-1) := ⟨_, rfl⟩
  refine g_nmM eM3 ?_
  replace h := h M3 eM3
  refine g_aloadn C dX10_untold_15 0 rfl ?_
  refine g_iconst C dX10_untold_16 gRc_m1 ?_
  refine gp_10_21 C dX10_untold_17 wd_876 hT0 ?_
  obtain ⟨M4, eM4⟩ : ∃ x : gMem, x = gup M3 c0 21 (-1) := ⟨_, rfl⟩
  refine g_nmM eM4 ?_
  replace h := h M4 eM4
  refine g_iconst C dX10_untold_20 gRc_0 ?_
  exact g_zret C hR dX10_untold_21 (Or.inl rfl) h

set_option maxRecDepth 100000 in
set_option maxHeartbeats 4000000 in
theorem sX10_tells {l : Launch} {V : gW} (hD : gD V) (c0 a1 a2 : Int) (M0 : gMem) (K : Int → gMem → Prop) (hT0 : gT c0 10) (h : wX10_tells c0 a1 a2 K M0) (hM : gOM M0) (ho : ∀ q ∈ ([gI a1, gI a2] : List gSV), gOK q) : gMi l V yX10_tells cX10_tells 8 (some .boolean) 1 22 [gF c0, gI a1, gI a2] M0 K := by
  refine gMi_of hD (by decide) (Nat.le_of_ble_eq_true rfl) [(0, gF c0), (1, gI a1), (2, gI a2)] rfl (gok_L rfl (gok_n (q := gF c0) trivial ho)) hM (fun X C hR => ?_)
  unfold wX10_tells at h
  refine g_iloadn C dX10_tells_0 1 rfl ?_
  refine g_istoren C [(3, gI a1), (0, gF c0), (1, gI a1), (2, gI a2)] dX10_tells_1 (by decide) rfl ?_
  refine g_iloadn C dX10_tells_2 3 rfl ?_
  refine g_istore C [(4, gI a2), (3, gI a1), (0, gF c0), (1, gI a1), (2, gI a2)] dX10_tells_3 (by decide) rfl ?_
  refine g_iconst C dX10_tells_5 gRc_0 ?_
  refine g_istore C [(5, gI 0), (4, gI a2), (3, gI a1), (0, gF c0), (1, gI a1), (2, gI a2)] dX10_tells_6 (by decide) rfl ?_
  refine g_sub [(0, gF c0), (3, gI a1), (4, gI a2), (5, gI 0)] [3, 2, 1, 0] rfl ?_
  refine gL3_go (Gd := fun (v1 : Int) (v2 : Int) (v3 : Int) (M4 : gMem) => gG X V 8 8 [(0, gF c0), (3, gI v1), (4, gI v2), (5, gI v3)] [] M4) (fun rec5 hrec5 v1 v2 v3 M4 h => ?_) h
  refine g_iload C dX10_tells_8 3 rfl ?_
  refine g_iconst C dX10_tells_10 gRc_3 ?_
  refine g_ic_ge (t := 166) C dX10_tells_11 (by decide) (fun c6 => ?_) (fun c6 => ?_)
  · replace h := h.1 c6
    refine g_aloadn C dX10_tells_166 0 rfl ?_
    refine g_iconst C dX10_tells_167 gRc_3 ?_
    refine g_aloadn C dX10_tells_168 0 rfl ?_
    refine gf_10_24 C dX10_tells_169 wd_879 hT0 ?_
    refine g_cVi (st := []) C dX10_tells_172 ykX10_untold wd_1189 ⟨by decide, by decide⟩ [gI 3, gI (M4 c0 24)] rfl (Nat.le_of_ble_eq_true rfl) hT0 (fun hM ho => sX10_untold hD c0 3 (M4 c0 24) M4 _ hT0 h hM ho) (fun r8 M7 h => ?_)
    exact g_zret C hR dX10_tells_175 h.1 h.2
  · replace h := h.2 c6
    refine g_aloadn C dX10_tells_14 0 rfl ?_
    refine g_iload C dX10_tells_15 3 rfl ?_
    refine gp_10_22 C dX10_tells_17 wd_877 hT0 ?_
    obtain ⟨M9, eM9⟩ : ∃ x : gMem, x = gup M4 c0 22 v3 := ⟨_, rfl⟩
    refine g_nmM eM9 ?_
    replace h := h M9 eM9
    refine g_aloadn C dX10_tells_20 0 rfl ?_
    refine g_iloadn C dX10_tells_21 1 rfl ?_
    refine g_cVi (st := []) C dX10_tells_22 ykX10_isWritten wd_1134 ⟨by decide, by decide⟩ [gI v1] rfl (Nat.le_of_ble_eq_true rfl) hT0 (fun hM ho => sX10_isWritten hD c0 v1 M9 _ hT0 h hM ho) (fun r11 M10 h => ?_)
    refine g_if_ne (t := 35) C dX10_tells_25 (by decide) (fun c12 => ?_) (fun c12 => ?_)
    · replace h := h.1 c12
      refine g_aloadn C dX10_tells_35 0 rfl ?_
      refine gf_10_3 C dX10_tells_36 wd_858 hT0 ?_
      refine g_bipush C dX10_tells_39 gRc_20 gRb_20 ?_
      refine g_iloadn C dX10_tells_41 1 rfl ?_
      refine g_imul C dX10_tells_42 h.1 ?_
      replace h := h.2
      refine g_iconst C dX10_tells_43 gRc_1 ?_
      refine g_iadd C dX10_tells_44 h.1 ?_
      replace h := h.2
      refine g_iload C dX10_tells_45 3 rfl ?_
      refine g_iadd C dX10_tells_47 h.1 ?_
      replace h := h.2
      refine g_iald C dX10_tells_48 (gt_10_3 hT0) gce_10720 h.1 ?_
      replace h := h.2
      obtain ⟨v13, ev13⟩ : ∃ x : Int, x = (M10 (c0 + 2) (((20 * v1) + 1) + v3)) := ⟨_, rfl⟩
      refine g_nm ev13 ?_
      replace h := h v13 ev13
      refine g_istore C [(6, gI v13), (0, gF c0), (3, gI v1), (4, gI v2), (5, gI v3)] dX10_tells_49 (by decide) rfl ?_
      refine g_iload C dX10_tells_51 0 rfl ?_
      refine g_iconst C dX10_tells_53 gRc_m1 ?_
      refine g_ic_ne (t := 64) C dX10_tells_54 (by decide) (fun c14 => ?_) (fun c14 => ?_)
      · replace h := h.1 c14
        refine g_aloadn C dX10_tells_64 1 rfl ?_
        refine g_iload C dX10_tells_65 3 rfl ?_
        refine g_cVi (st := []) C dX10_tells_67 ykX10_isWritten wd_1134 ⟨by decide, by decide⟩ [gI v2] rfl (Nat.le_of_ble_eq_true rfl) hT0 (fun hM ho => sX10_isWritten hD c0 v2 M10 _ hT0 h hM ho) (fun r16 M15 h => ?_)
        refine g_if_ne (t := 81) C dX10_tells_70 (by decide) (fun c17 => ?_) (fun c17 => ?_)
        · replace h := h.1 c17
          refine g_aloadn C dX10_tells_81 1 rfl ?_
          refine gf_10_3 C dX10_tells_82 wd_858 hT0 ?_
          refine g_bipush C dX10_tells_85 gRc_20 gRb_20 ?_
          refine g_iload C dX10_tells_87 3 rfl ?_
          refine g_imul C dX10_tells_89 h.1 ?_
          replace h := h.2
          refine g_bipush C dX10_tells_90 gRc_8 gRb_8 ?_
          refine g_iadd C dX10_tells_92 h.1 ?_
          replace h := h.2
          refine g_iload C dX10_tells_93 0 rfl ?_
          refine g_iadd C dX10_tells_95 h.1 ?_
          replace h := h.2
          refine g_iald C dX10_tells_96 (gt_10_3 hT0) gce_10720 h.1 ?_
          replace h := h.2
          refine g_iconst C dX10_tells_97 gRc_m1 ?_
          refine g_ic_eq (t := 144) C dX10_tells_98 (by decide) (fun c18 => ?_) (fun c18 => ?_)
          · replace h := h.1 c18
            refine g_aloadn C dX10_tells_144 1 rfl ?_
            refine g_iload C dX10_tells_145 3 rfl ?_
            refine gp_10_24 C dX10_tells_147 wd_879 hT0 ?_
            obtain ⟨M19, eM19⟩ : ∃ x : gMem, x = gup M15 c0 24 v2 := ⟨_, rfl⟩
            refine g_nmM eM19 ?_
            replace h := h M19 eM19
            refine g_iloadn C dX10_tells_150 2 rfl ?_
            refine g_istore C [(7, gI v1), (6, gI v13), (0, gF c0), (3, gI v1), (4, gI v2), (5, gI v3)] dX10_tells_151 (by decide) rfl ?_
            refine g_iload C dX10_tells_153 4 rfl ?_
            refine g_istoren C [(3, gI v2), (7, gI v1), (6, gI v13), (0, gF c0), (4, gI v2), (5, gI v3)] dX10_tells_155 (by decide) rfl ?_
            refine g_iload C dX10_tells_156 1 rfl ?_
            refine g_istore C [(4, gI v1), (3, gI v2), (7, gI v1), (6, gI v13), (0, gF c0), (5, gI v3)] dX10_tells_158 (by decide) rfl ?_
            refine g_iinc C [(5, gI (v3 + 1)), (4, gI v1), (3, gI v2), (7, gI v1), (6, gI v13), (0, gF c0)] dX10_tells_160 5 rfl (by decide) h.1 rfl ?_
            replace h := h.2
            refine g_goto (t := 8) C dX10_tells_163 (by decide) ?_
            refine g_sub [(0, gF c0), (3, gI v2), (4, gI v1), (5, gI (v3 + 1))] [5, 2, 1, 0] rfl ?_
            exact hrec5 v2 v1 (v3 + 1) M19 h
          · replace h := h.2 c18
            refine g_aloadn C dX10_tells_101 1 rfl ?_
            refine g_iload C dX10_tells_102 0 rfl ?_
            refine gp_10_21 C dX10_tells_104 wd_876 hT0 ?_
            obtain ⟨M20, eM20⟩ : ∃ x : gMem, x = gup M15 c0 21 v13 := ⟨_, rfl⟩
            refine g_nmM eM20 ?_
            replace h := h M20 eM20
            refine g_aloadn C dX10_tells_107 1 rfl ?_
            refine g_aloadn C dX10_tells_108 1 rfl ?_
            refine gf_10_3 C dX10_tells_109 wd_858 hT0 ?_
            refine g_bipush C dX10_tells_112 gRc_20 gRb_20 ?_
            refine g_iload C dX10_tells_114 3 rfl ?_
            refine g_imul C dX10_tells_116 h.1 ?_
            replace h := h.2
            refine g_bipush C dX10_tells_117 gRc_8 gRb_8 ?_
            refine g_iadd C dX10_tells_119 h.1 ?_
            replace h := h.2
            refine g_iload C dX10_tells_120 0 rfl ?_
            refine g_iadd C dX10_tells_122 h.1 ?_
            replace h := h.2
            refine g_iald C dX10_tells_123 (gt_10_3 hT0) gce_10720 h.1 ?_
            replace h := h.2
            refine g_aloadn C dX10_tells_124 1 rfl ?_
            refine gf_10_3 C dX10_tells_125 wd_858 hT0 ?_
            refine g_bipush C dX10_tells_128 gRc_20 gRb_20 ?_
            refine g_iloadn C dX10_tells_130 2 rfl ?_
            refine g_imul C dX10_tells_131 h.1 ?_
            replace h := h.2
            refine g_iconst C dX10_tells_132 gRc_4 ?_
            refine g_iadd C dX10_tells_133 h.1 ?_
            replace h := h.2
            refine g_iload C dX10_tells_134 4 rfl ?_
            refine g_iadd C dX10_tells_136 h.1 ?_
            replace h := h.2
            refine g_iald C dX10_tells_137 (gt_10_3 hT0) gce_10720 h.1 ?_
            replace h := h.2
            refine g_iadd C dX10_tells_138 h.1 ?_
            replace h := h.2
            refine gp_10_20 C dX10_tells_139 wd_875 hT0 ?_
            obtain ⟨M21, eM21⟩ : ∃ x : gMem, x = gup M20 c0 20 ((M20 (c0 + 2) (((20 * v2) + 8) + v13)) + (M20 (c0 + 2) (((20 * v1) + 4) + v3))) := ⟨_, rfl⟩
            refine g_nmM eM21 ?_
            replace h := h M21 eM21
            refine g_iconst C dX10_tells_142 gRc_1 ?_
            exact g_zret C hR dX10_tells_143 (Or.inr rfl) h
        · replace h := h.2 c17
          refine g_aloadn C dX10_tells_73 1 rfl ?_
          refine g_iconst C dX10_tells_74 gRc_1 ?_
          refine g_iload C dX10_tells_75 3 rfl ?_
          refine g_cVi (st := []) C dX10_tells_77 ykX10_untold wd_1189 ⟨by decide, by decide⟩ [gI 1, gI v2] rfl (Nat.le_of_ble_eq_true rfl) hT0 (fun hM ho => sX10_untold hD c0 1 v2 M15 _ hT0 h hM ho) (fun r23 M22 h => ?_)
          exact g_zret C hR dX10_tells_80 h.1 h.2
      · replace h := h.2 c14
        refine g_aloadn C dX10_tells_57 1 rfl ?_
        refine g_iconst C dX10_tells_58 gRc_2 ?_
        refine g_iloadn C dX10_tells_59 2 rfl ?_
        refine g_cVi (st := []) C dX10_tells_60 ykX10_untold wd_1189 ⟨by decide, by decide⟩ [gI 2, gI v1] rfl (Nat.le_of_ble_eq_true rfl) hT0 (fun hM ho => sX10_untold hD c0 2 v1 M10 _ hT0 h hM ho) (fun r25 M24 h => ?_)
        exact g_zret C hR dX10_tells_63 h.1 h.2
    · replace h := h.2 c12
      refine g_aloadn C dX10_tells_28 0 rfl ?_
      refine g_iconst C dX10_tells_29 gRc_1 ?_
      refine g_iloadn C dX10_tells_30 1 rfl ?_
      refine g_cVi (st := []) C dX10_tells_31 ykX10_untold wd_1189 ⟨by decide, by decide⟩ [gI 1, gI v1] rfl (Nat.le_of_ble_eq_true rfl) hT0 (fun hM ho => sX10_untold hD c0 1 v1 M10 _ hT0 h hM ho) (fun r27 M26 h => ?_)
      exact g_zret C hR dX10_tells_34 h.1 h.2

set_option maxRecDepth 100000 in
set_option maxHeartbeats 4000000 in
theorem sX10_told {l : Launch} {V : gW} (hD : gD V) (c0 a1 a2 a3 : Int) (M0 : gMem) (K : Int → gMem → Prop) (hT0 : gT c0 10) (h : wX10_told c0 a1 a2 a3 K M0) (hM : gOM M0) (ho : ∀ q ∈ ([gI a1, gI a2, gI a3] : List gSV), gOK q) : gMi l V yX10_told cX10_told 5 (some .int) 2 49 [gF c0, gI a1, gI a2, gI a3] M0 K := by
  refine gMi_of hD (by decide) (Nat.le_of_ble_eq_true rfl) [(0, gF c0), (1, gI a1), (2, gI a2), (3, gI a3)] rfl (gok_L rfl (gok_n (q := gF c0) trivial ho)) hM (fun X C hR => ?_)
  unfold wX10_told at h
  refine g_aloadn C dX10_told_0 0 rfl ?_
  refine g_iloadn C dX10_told_1 1 rfl ?_
  refine g_cVi (st := []) C dX10_told_2 ykX10_isNode wd_1022 ⟨by decide, by decide⟩ [gI a1] rfl (Nat.le_of_ble_eq_true rfl) hT0 (fun hM ho => sX10_isNode hD c0 a1 M0 _ hT0 h hM ho) (fun r2 M1 h => ?_)
  obtain ⟨P4, h, hP4⟩ := h
  have J5 : ∀ (M3 : gMem), P4 M3 → gG X V 5 16 [] [] M3 := by
    intro M3 h
    replace h := hP4 M3 h
    refine g_bipush C dX10_told_16 gRc_m2 gRb_m2 ?_
    exact g_iret C hR dX10_told_18 h
  refine g_if_eq (t := 16) C dX10_told_5 (by decide) (fun c6 => ?_) (fun c6 => ?_)
  · replace h := h.1 c6
    refine g_sub [] [] rfl ?_
    exact J5 M1 h
  · replace h := h.2 c6
    refine g_aloadn C dX10_told_8 0 rfl ?_
    refine g_iloadn C dX10_told_9 2 rfl ?_
    refine g_cVi (st := []) C dX10_told_10 ykX10_isNode wd_1022 ⟨by decide, by decide⟩ [gI a2] rfl (Nat.le_of_ble_eq_true rfl) hT0 (fun hM ho => sX10_isNode hD c0 a2 M1 _ hT0 h hM ho) (fun r8 M7 h => ?_)
    refine g_if_ne (t := 19) C dX10_told_13 (by decide) (fun c9 => ?_) (fun c9 => ?_)
    · replace h := h.1 c9
      refine g_iloadn C dX10_told_19 3 rfl ?_
      refine g_i2l C dX10_told_20 ?_
      refine g_lconst C dX10_told_21 (by decide) (show gOK (gJ 0) from ⟨by decide, by decide⟩) ?_
      refine g_ldc2 C dX10_told_22 wd_1043 (by decide) (show gOK (gJ 2) from ⟨by decide, by decide⟩) ?_
      refine g_cSi (st := []) C dX10_told_25 ykX10_in wd_937 ⟨by decide, by decide⟩ [gJ a3, gJ 0, gJ 2] rfl (Nat.le_of_ble_eq_true rfl) (fun hM ho => sX10_in hD a3 0 2 M7 _  h hM ho) (fun r11 M10 h => ?_)
      refine g_if_ne (t := 34) C dX10_told_28 (by decide) (fun c12 => ?_) (fun c12 => ?_)
      · replace h := h.1 c12
        refine g_aloadn C dX10_told_34 0 rfl ?_
        refine g_iloadn C dX10_told_35 1 rfl ?_
        refine g_iloadn C dX10_told_36 2 rfl ?_
        refine g_cVi (st := []) C dX10_told_37 ykX10_tells wd_1185 ⟨by decide, by decide⟩ [gI a1, gI a2] rfl (Nat.le_of_ble_eq_true rfl) hT0 (fun hM ho => sX10_tells hD c0 a1 a2 M10 _ hT0 h hM ho) (fun r14 M13 h => ?_)
        refine g_istore C [(4, gI r14), (0, gF c0), (1, gI a1), (2, gI a2), (3, gI a3)] dX10_told_40 (by decide) rfl ?_
        refine g_iload C dX10_told_42 0 rfl ?_
        obtain ⟨P17, h, hP17⟩ := h
        have J18 : ∀ (x15 : Int) (M16 : gMem), P17 x15 M16 → gG X V 5 78 [] [gI x15] M16 := by
          intro x15 M16 h
          replace h := hP17 x15 M16 h
          exact g_iret C hR dX10_told_78 h
        refine g_if_ne (t := 51) C dX10_told_44 (by decide) (fun c19 => ?_) (fun c19 => ?_)
        · replace h := h.1 c19
          refine g_iloadn C dX10_told_51 4 rfl ?_
          refine g_if_ne (t := 62) C dX10_told_52 (by decide) (fun c20 => ?_) (fun c20 => ?_)
          · replace h := h.1 c20
            refine g_iloadn C dX10_told_62 4 rfl ?_
            refine g_iconst C dX10_told_63 gRc_1 ?_
            refine g_ic_ne (t := 74) C dX10_told_64 (by decide) (fun c21 => ?_) (fun c21 => ?_)
            · replace h := h.1 c21
              refine g_aloadn C dX10_told_74 1 rfl ?_
              refine gf_10_22 C dX10_told_75 wd_877 hT0 ?_
              refine g_sub [] [] rfl ?_
              exact J18 (M13 c0 22) M13 h
            · replace h := h.2 c21
              refine g_aloadn C dX10_told_67 1 rfl ?_
              refine gf_10_21 C dX10_told_68 wd_876 hT0 ?_
              refine g_goto (t := 78) C dX10_told_71 (by decide) ?_
              refine g_sub [] [] rfl ?_
              exact J18 (M13 c0 21) M13 h
          · replace h := h.2 c20
            refine g_aloadn C dX10_told_55 1 rfl ?_
            refine gf_10_20 C dX10_told_56 wd_875 hT0 ?_
            refine g_goto (t := 78) C dX10_told_59 (by decide) ?_
            refine g_sub [] [] rfl ?_
            exact J18 (M13 c0 20) M13 h
        · replace h := h.2 c19
          refine g_iconst C dX10_told_47 gRc_m1 ?_
          refine g_goto (t := 78) C dX10_told_48 (by decide) ?_
          refine g_sub [] [] rfl ?_
          exact J18 (-1) M13 h
      · replace h := h.2 c12
        refine g_bipush C dX10_told_31 gRc_m3 gRb_m3 ?_
        exact g_iret C hR dX10_told_33 h
    · replace h := h.2 c9
      refine g_sub [] [] rfl ?_
      exact J5 M7 h

set_option maxRecDepth 100000 in
set_option maxHeartbeats 4000000 in
theorem sX10_why {l : Launch} {V : gW} (hD : gD V) (c0 a1 a2 a3 : Int) (M0 : gMem) (K : Int → gMem → Prop) (hT0 : gT c0 10) (h : wX10_why c0 a1 a2 a3 K M0) (hM : gOM M0) (ho : ∀ q ∈ ([gI a1, gI a2, gI a3] : List gSV), gOK q) : gMi l V yX10_why cX10_why 5 (some .int) 2 49 [gF c0, gI a1, gI a2, gI a3] M0 K := by
  refine gMi_of hD (by decide) (Nat.le_of_ble_eq_true rfl) [(0, gF c0), (1, gI a1), (2, gI a2), (3, gI a3)] rfl (gok_L rfl (gok_n (q := gF c0) trivial ho)) hM (fun X C hR => ?_)
  unfold wX10_why at h
  refine g_aloadn C dX10_why_0 0 rfl ?_
  refine g_iloadn C dX10_why_1 1 rfl ?_
  refine g_cVi (st := []) C dX10_why_2 ykX10_isNode wd_1022 ⟨by decide, by decide⟩ [gI a1] rfl (Nat.le_of_ble_eq_true rfl) hT0 (fun hM ho => sX10_isNode hD c0 a1 M0 _ hT0 h hM ho) (fun r2 M1 h => ?_)
  obtain ⟨P4, h, hP4⟩ := h
  have J5 : ∀ (M3 : gMem), P4 M3 → gG X V 5 16 [] [] M3 := by
    intro M3 h
    replace h := hP4 M3 h
    refine g_bipush C dX10_why_16 gRc_m2 gRb_m2 ?_
    exact g_iret C hR dX10_why_18 h
  refine g_if_eq (t := 16) C dX10_why_5 (by decide) (fun c6 => ?_) (fun c6 => ?_)
  · replace h := h.1 c6
    refine g_sub [] [] rfl ?_
    exact J5 M1 h
  · replace h := h.2 c6
    refine g_aloadn C dX10_why_8 0 rfl ?_
    refine g_iloadn C dX10_why_9 2 rfl ?_
    refine g_cVi (st := []) C dX10_why_10 ykX10_isNode wd_1022 ⟨by decide, by decide⟩ [gI a2] rfl (Nat.le_of_ble_eq_true rfl) hT0 (fun hM ho => sX10_isNode hD c0 a2 M1 _ hT0 h hM ho) (fun r8 M7 h => ?_)
    refine g_if_ne (t := 19) C dX10_why_13 (by decide) (fun c9 => ?_) (fun c9 => ?_)
    · replace h := h.1 c9
      refine g_iloadn C dX10_why_19 3 rfl ?_
      refine g_i2l C dX10_why_20 ?_
      refine g_lconst C dX10_why_21 (by decide) (show gOK (gJ 0) from ⟨by decide, by decide⟩) ?_
      refine g_ldc2 C dX10_why_22 wd_1043 (by decide) (show gOK (gJ 2) from ⟨by decide, by decide⟩) ?_
      refine g_cSi (st := []) C dX10_why_25 ykX10_in wd_937 ⟨by decide, by decide⟩ [gJ a3, gJ 0, gJ 2] rfl (Nat.le_of_ble_eq_true rfl) (fun hM ho => sX10_in hD a3 0 2 M7 _  h hM ho) (fun r11 M10 h => ?_)
      refine g_if_ne (t := 34) C dX10_why_28 (by decide) (fun c12 => ?_) (fun c12 => ?_)
      · replace h := h.1 c12
        refine g_aloadn C dX10_why_34 0 rfl ?_
        refine g_iloadn C dX10_why_35 1 rfl ?_
        refine g_iloadn C dX10_why_36 2 rfl ?_
        refine g_cVi (st := []) C dX10_why_37 ykX10_tells wd_1185 ⟨by decide, by decide⟩ [gI a1, gI a2] rfl (Nat.le_of_ble_eq_true rfl) hT0 (fun hM ho => sX10_tells hD c0 a1 a2 M10 _ hT0 h hM ho) (fun r14 M13 h => ?_)
        refine g_istore C [(4, gI r14), (0, gF c0), (1, gI a1), (2, gI a2), (3, gI a3)] dX10_why_40 (by decide) rfl ?_
        refine g_iload C dX10_why_42 0 rfl ?_
        obtain ⟨P17, h, hP17⟩ := h
        have J18 : ∀ (x15 : Int) (M16 : gMem), P17 x15 M16 → gG X V 5 78 [] [gI x15] M16 := by
          intro x15 M16 h
          replace h := hP17 x15 M16 h
          exact g_iret C hR dX10_why_78 h
        refine g_if_eq (t := 51) C dX10_why_44 (by decide) (fun c19 => ?_) (fun c19 => ?_)
        · replace h := h.1 c19
          refine g_iloadn C dX10_why_51 4 rfl ?_
          refine g_if_ne (t := 62) C dX10_why_52 (by decide) (fun c20 => ?_) (fun c20 => ?_)
          · replace h := h.1 c20
            refine g_iloadn C dX10_why_62 4 rfl ?_
            refine g_iconst C dX10_why_63 gRc_1 ?_
            refine g_ic_ne (t := 74) C dX10_why_64 (by decide) (fun c21 => ?_) (fun c21 => ?_)
            · replace h := h.1 c21
              refine g_aloadn C dX10_why_74 1 rfl ?_
              refine gf_10_24 C dX10_why_75 wd_879 hT0 ?_
              refine g_sub [] [] rfl ?_
              exact J18 (M13 c0 24) M13 h
            · replace h := h.2 c21
              refine g_aloadn C dX10_why_67 1 rfl ?_
              refine gf_10_22 C dX10_why_68 wd_877 hT0 ?_
              refine g_goto (t := 78) C dX10_why_71 (by decide) ?_
              refine g_sub [] [] rfl ?_
              exact J18 (M13 c0 22) M13 h
          · replace h := h.2 c20
            refine g_aloadn C dX10_why_55 1 rfl ?_
            refine gf_10_23 C dX10_why_56 wd_878 hT0 ?_
            refine g_goto (t := 78) C dX10_why_59 (by decide) ?_
            refine g_sub [] [] rfl ?_
            exact J18 (M13 c0 23) M13 h
        · replace h := h.2 c19
          refine g_iconst C dX10_why_47 gRc_m1 ?_
          refine g_goto (t := 78) C dX10_why_48 (by decide) ?_
          refine g_sub [] [] rfl ?_
          exact J18 (-1) M13 h
      · replace h := h.2 c12
        refine g_bipush C dX10_why_31 gRc_m3 gRb_m3 ?_
        exact g_iret C hR dX10_why_33 h
    · replace h := h.2 c9
      refine g_sub [] [] rfl ?_
      exact J5 M7 h
