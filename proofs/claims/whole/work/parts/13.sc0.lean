set_option maxRecDepth 100000 in
set_option maxHeartbeats 4000000 in
theorem sX7_append {l : Launch} {V : gW} (hD : gD V) (c0 a1 : Int) (M0 : gMem) (K : gMem → Prop) (hT0 : gT c0 7) (h : wX7_append c0 a1 K M0) (hM : gOM M0) (ho : ∀ q ∈ ([gI a1] : List gSV), gOK q) : gMv l V yX7_append cX7_append 2 0 0 [gF c0, gI a1] M0 K := by
  refine gMv_of hD (by decide) (Nat.le_of_ble_eq_true rfl) [(0, gF c0), (1, gI a1)] rfl (gok_L rfl (gok_n (q := gF c0) trivial ho)) hM (fun X C hR => ?_)
  unfold wX7_append at h
  refine g_aloadn C dX7_append_0 0 rfl ?_
  refine gf_7_0 C dX7_append_1 wd_138 hT0 ?_
  refine g_sipush C dX7_append_4 gRc_200 gRs_200 ?_
  obtain ⟨P2, h, hP2⟩ := h
  have J3 : ∀ (M1 : gMem), P2 M1 → gG X V 2 30 [] [] M1 := by
    intro M1 h
    replace h := hP2 M1 h
    exact g_vret C hR dX7_append_30 h
  refine g_ic_ge (t := 30) C dX7_append_7 (by decide) (fun c4 => ?_) (fun c4 => ?_)
  · replace h := h.1 c4
    refine g_sub [] [] rfl ?_
    exact J3 M0 h
  · replace h := h.2 c4
    refine g_aloadn C dX7_append_10 0 rfl ?_
    refine gf_7_6 C dX7_append_11 wd_147 hT0 ?_
    refine g_aloadn C dX7_append_14 0 rfl ?_
    refine gf_7_0 C dX7_append_15 wd_138 hT0 ?_
    refine g_iloadn C dX7_append_18 1 rfl ?_
    refine g_iast C dX7_append_19 (gt_7_6 hT0) gce_10200 h.1 ?_
    replace h := h.2
    obtain ⟨M5, eM5⟩ : ∃ x : gMem, x = gup M0 (c0 + 1) (M0 c0 0) a1 := ⟨_, rfl⟩
    refine g_nmM eM5 ?_
    replace h := h M5 eM5
    refine g_aloadn C dX7_append_20 0 rfl ?_
    refine g_dup C dX7_append_21 (fun e => by cases e) ?_
    refine gf_7_0 C dX7_append_22 wd_138 hT0 ?_
    refine g_iconst C dX7_append_25 gRc_1 ?_
    refine g_iadd C dX7_append_26 h.1 ?_
    replace h := h.2
    refine gp_7_0 C dX7_append_27 wd_138 hT0 ?_
    obtain ⟨M6, eM6⟩ : ∃ x : gMem, x = gup M5 c0 0 ((M5 c0 0) + 1) := ⟨_, rfl⟩
    refine g_nmM eM6 ?_
    replace h := h M6 eM6
    refine g_sub [] [] rfl ?_
    exact J3 M6 h

set_option maxRecDepth 100000 in
set_option maxHeartbeats 4000000 in
theorem sX9_type {l : Launch} {V : gW} (hD : gD V) (c0 a1 : Int) (M0 : gMem) (K : Int → gMem → Prop) (hT0 : gT c0 9) (h : wX9_type c0 a1 K M0) (hM : gOM M0) (ho : ∀ q ∈ ([gI a1] : List gSV), gOK q) : gMi l V yX9_type cX9_type 2 (some .int) 1 21 [gF c0, gI a1] M0 K := by
  refine gMi_of hD (by decide) (Nat.le_of_ble_eq_true rfl) [(0, gF c0), (1, gI a1)] rfl (gok_L rfl (gok_n (q := gF c0) trivial ho)) hM (fun X C hR => ?_)
  unfold wX9_type at h
  refine g_iloadn C dX9_type_0 1 rfl ?_
  obtain ⟨P2, h, hP2⟩ := h
  have J3 : ∀ (M1 : gMem), P2 M1 → gG X V 2 11 [] [] M1 := by
    intro M1 h
    replace h := hP2 M1 h
    refine g_bipush C dX9_type_11 gRc_m3 gRb_m3 ?_
    exact g_iret C hR dX9_type_13 h
  refine g_if_lt (t := 11) C dX9_type_1 (by decide) (fun c4 => ?_) (fun c4 => ?_)
  · replace h := h.1 c4
    refine g_sub [] [] rfl ?_
    exact J3 M0 h
  · replace h := h.2 c4
    refine g_iloadn C dX9_type_4 1 rfl ?_
    refine g_sipush C dX9_type_5 gRc_255 gRs_255 ?_
    refine g_ic_le (t := 14) C dX9_type_8 (by decide) (fun c5 => ?_) (fun c5 => ?_)
    · replace h := h.1 c5
      refine g_aloadn C dX9_type_14 0 rfl ?_
      refine gf_9_2 C dX9_type_15 wd_340 hT0 ?_
      refine gf_7_0 C dX9_type_18 wd_139 (gt_9_2 hT0) ?_
      refine g_sipush C dX9_type_21 gRc_200 gRs_200 ?_
      refine g_ic_lt (t := 30) C dX9_type_24 (by decide) (fun c6 => ?_) (fun c6 => ?_)
      · replace h := h.1 c6
        refine g_aloadn C dX9_type_30 0 rfl ?_
        refine gf_9_2 C dX9_type_31 wd_340 hT0 ?_
        refine g_iloadn C dX9_type_34 1 rfl ?_
        refine g_cVv (st := []) C dX9_type_35 ykX7_append wd_376 ⟨by decide, by decide⟩ [gI a1] rfl (Nat.le_of_ble_eq_true rfl) (gt_9_2 hT0) (fun hM ho => sX7_append hD (c0 + 7) a1 M0 _ (gt_9_2 hT0) h hM ho) (fun M7 h => ?_)
        refine g_aloadn C dX9_type_38 0 rfl ?_
        refine gf_9_2 C dX9_type_39 wd_340 hT0 ?_
        refine gf_7_0 C dX9_type_42 wd_139 (gt_9_2 hT0) ?_
        exact g_iret C hR dX9_type_45 h
      · replace h := h.2 c6
        refine g_bipush C dX9_type_27 gRc_m5 gRb_m5 ?_
        exact g_iret C hR dX9_type_29 h
    · replace h := h.2 c5
      refine g_sub [] [] rfl ?_
      exact J3 M0 h

set_option maxRecDepth 100000 in
set_option maxHeartbeats 4000000 in
theorem sX9_erase {l : Launch} {V : gW} (hD : gD V) (c0 : Int) (M0 : gMem) (K : Int → gMem → Prop) (hT0 : gT c0 9) (h : wX9_erase c0 K M0) (hM : gOM M0) (ho : ∀ q ∈ ([] : List gSV), gOK q) : gMi l V yX9_erase cX9_erase 2 (some .int) 0 0 [gF c0] M0 K := by
  refine gMi_of hD (by decide) (Nat.le_of_ble_eq_true rfl) [(0, gF c0)] rfl (gok_L rfl (gok_n (q := gF c0) trivial ho)) hM (fun X C hR => ?_)
  unfold wX9_erase at h
  refine g_aloadn C dX9_erase_0 0 rfl ?_
  refine gf_9_2 C dX9_erase_1 wd_340 hT0 ?_
  refine gf_7_0 C dX9_erase_4 wd_139 (gt_9_2 hT0) ?_
  obtain ⟨v1, ev1⟩ : ∃ x : Int, x = (M0 (c0 + 7) 0) := ⟨_, rfl⟩
  refine g_nm ev1 ?_
  replace h := h v1 ev1
  refine g_istoren C [(1, gI v1), (0, gF c0)] dX9_erase_7 (by decide) rfl ?_
  refine g_aloadn C dX9_erase_8 1 rfl ?_
  refine gf_9_2 C dX9_erase_9 wd_340 hT0 ?_
  refine g_iconst C dX9_erase_12 gRc_0 ?_
  refine gp_7_0 C dX9_erase_13 wd_139 (gt_9_2 hT0) ?_
  obtain ⟨M2, eM2⟩ : ∃ x : gMem, x = gup M0 (c0 + 7) 0 0 := ⟨_, rfl⟩
  refine g_nmM eM2 ?_
  replace h := h M2 eM2
  refine g_iloadn C dX9_erase_16 0 rfl ?_
  exact g_iret C hR dX9_erase_17 h

set_option maxRecDepth 100000 in
set_option maxHeartbeats 4000000 in
theorem sX1_copyFrom {l : Launch} {V : gW} (hD : gD V) (c0 a1 : Int) (M0 : gMem) (K : gMem → Prop) (hT0 : gT c0 1) (hT1 : gT a1 1) (h : wX1_copyFrom c0 a1 K M0) (hM : gOM M0) (ho : ∀ q ∈ ([gF a1] : List gSV), gOK q) : gMv l V yX1_copyFrom cX1_copyFrom 2 1 60 [gF c0, gF a1] M0 K := by
  refine gMv_of hD (by decide) (Nat.le_of_ble_eq_true rfl) [(0, gF c0), (1, gF a1)] rfl (gok_L rfl (gok_n (q := gF c0) trivial ho)) hM (fun X C hR => ?_)
  unfold wX1_copyFrom at h
  refine g_aloadn C dX1_copyFrom_0 0 rfl ?_
  refine g_aloadn C dX1_copyFrom_1 1 rfl ?_
  refine gf_1_0 C dX1_copyFrom_2 wd_103 hT1 ?_
  refine gp_1_0 C dX1_copyFrom_5 wd_103 hT0 ?_
  obtain ⟨M1, eM1⟩ : ∃ x : gMem, x = gup M0 c0 0 (M0 a1 0) := ⟨_, rfl⟩
  refine g_nmM eM1 ?_
  replace h := h M1 eM1
  refine g_aloadn C dX1_copyFrom_8 0 rfl ?_
  refine g_aloadn C dX1_copyFrom_9 1 rfl ?_
  refine gf_1_1 C dX1_copyFrom_10 wd_109 hT1 ?_
  refine gp_1_1 C dX1_copyFrom_13 wd_109 hT0 ?_
  obtain ⟨M2, eM2⟩ : ∃ x : gMem, x = gup M1 c0 1 (M1 a1 1) := ⟨_, rfl⟩
  refine g_nmM eM2 ?_
  replace h := h M2 eM2
  refine g_aloadn C dX1_copyFrom_16 0 rfl ?_
  refine g_aloadn C dX1_copyFrom_17 1 rfl ?_
  refine gf_1_2 C dX1_copyFrom_18 wd_111 hT1 ?_
  refine gp_1_2 C dX1_copyFrom_21 wd_111 hT0 ?_
  obtain ⟨M3, eM3⟩ : ∃ x : gMem, x = gup M2 c0 2 (M2 a1 2) := ⟨_, rfl⟩
  refine g_nmM eM3 ?_
  replace h := h M3 eM3
  refine g_aloadn C dX1_copyFrom_24 1 rfl ?_
  refine gf_1_4 C dX1_copyFrom_25 wd_116 hT1 ?_
  refine g_iconst C dX1_copyFrom_28 gRc_0 ?_
  refine g_aloadn C dX1_copyFrom_29 0 rfl ?_
  refine gf_1_4 C dX1_copyFrom_30 wd_116 hT0 ?_
  refine g_iconst C dX1_copyFrom_33 gRc_0 ?_
  refine g_aloadn C dX1_copyFrom_34 0 rfl ?_
  refine gf_1_4 C dX1_copyFrom_35 wd_116 hT0 ?_
  refine g_alen C dX1_copyFrom_38 (gt_1_4 hT0) gce_10144 gRc_144 ?_
  refine g_copy C dX1_copyFrom_39 wd_396 gcpy_n gcpy_s gcpy_i ⟨by decide, Nat.le_of_ble_eq_true rfl⟩ (gt_1_4 hT1) gce_10144 (gt_1_4 hT0) gce_10144 h.1 ?_
  replace h := h.2
  obtain ⟨M4, eM4⟩ : ∃ x : gMem, x = gcp M3 (a1 + 1) (c0 + 1) 144 := ⟨_, rfl⟩
  refine g_nmM eM4 ?_
  replace h := h M4 eM4
  refine g_aloadn C dX1_copyFrom_42 1 rfl ?_
  refine gf_1_5 C dX1_copyFrom_43 wd_117 hT1 ?_
  refine g_iconst C dX1_copyFrom_46 gRc_0 ?_
  refine g_aloadn C dX1_copyFrom_47 0 rfl ?_
  refine gf_1_5 C dX1_copyFrom_48 wd_117 hT0 ?_
  refine g_iconst C dX1_copyFrom_51 gRc_0 ?_
  refine g_aloadn C dX1_copyFrom_52 0 rfl ?_
  refine gf_1_5 C dX1_copyFrom_53 wd_117 hT0 ?_
  refine g_alen C dX1_copyFrom_56 (gt_1_5 hT0) gce_10012 gRc_12 ?_
  refine g_copy C dX1_copyFrom_57 wd_396 gcpy_n gcpy_s gcpy_i ⟨by decide, Nat.le_of_ble_eq_true rfl⟩ (gt_1_5 hT1) gce_10012 (gt_1_5 hT0) gce_10012 h.1 ?_
  replace h := h.2
  obtain ⟨M5, eM5⟩ : ∃ x : gMem, x = gcp M4 (a1 + 2) (c0 + 2) 12 := ⟨_, rfl⟩
  refine g_nmM eM5 ?_
  replace h := h M5 eM5
  refine g_aloadn C dX1_copyFrom_60 0 rfl ?_
  refine g_dup C dX1_copyFrom_61 (fun e => by cases e) ?_
  refine gf_1_3 C dX1_copyFrom_62 wd_113 hT0 ?_
  refine g_iconst C dX1_copyFrom_65 gRc_1 ?_
  refine g_iadd C dX1_copyFrom_66 h.1 ?_
  replace h := h.2
  refine gp_1_3 C dX1_copyFrom_67 wd_113 hT0 ?_
  obtain ⟨M6, eM6⟩ : ∃ x : gMem, x = gup M5 c0 3 ((M5 c0 3) + 1) := ⟨_, rfl⟩
  refine g_nmM eM6 ?_
  replace h := h M6 eM6
  exact g_vret C hR dX1_copyFrom_70 h

set_option maxRecDepth 100000 in
set_option maxHeartbeats 4000000 in
theorem sX7_kindAt {l : Launch} {V : gW} (hD : gD V) (c0 a1 : Int) (M0 : gMem) (K : Int → gMem → Prop) (hT0 : gT c0 7) (h : wX7_kindAt c0 a1 K M0) (hM : gOM M0) (ho : ∀ q ∈ ([gI a1] : List gSV), gOK q) : gMi l V yX7_kindAt cX7_kindAt 3 (some .int) 0 0 [gF c0, gI a1] M0 K := by
  refine gMi_of hD (by decide) (Nat.le_of_ble_eq_true rfl) [(0, gF c0), (1, gI a1)] rfl (gok_L rfl (gok_n (q := gF c0) trivial ho)) hM (fun X C hR => ?_)
  unfold wX7_kindAt at h
  refine g_iloadn C dX7_kindAt_0 1 rfl ?_
  obtain ⟨P2, h, hP2⟩ := h
  have J3 : ∀ (M1 : gMem), P2 M1 → gG X V 3 12 [] [] M1 := by
    intro M1 h
    replace h := hP2 M1 h
    refine g_iconst C dX7_kindAt_12 gRc_4 ?_
    exact g_iret C hR dX7_kindAt_13 h
  refine g_if_lt (t := 12) C dX7_kindAt_1 (by decide) (fun c4 => ?_) (fun c4 => ?_)
  · replace h := h.1 c4
    refine g_sub [] [] rfl ?_
    exact J3 M0 h
  · replace h := h.2 c4
    refine g_iloadn C dX7_kindAt_4 1 rfl ?_
    refine g_aloadn C dX7_kindAt_5 0 rfl ?_
    refine gf_7_0 C dX7_kindAt_6 wd_138 hT0 ?_
    refine g_ic_lt (t := 14) C dX7_kindAt_9 (by decide) (fun c5 => ?_) (fun c5 => ?_)
    · replace h := h.1 c5
      refine g_aloadn C dX7_kindAt_14 0 rfl ?_
      refine gf_7_6 C dX7_kindAt_15 wd_147 hT0 ?_
      refine g_iloadn C dX7_kindAt_18 1 rfl ?_
      refine g_iald C dX7_kindAt_19 (gt_7_6 hT0) gce_10200 h.1 ?_
      replace h := h.2
      obtain ⟨v6, ev6⟩ : ∃ x : Int, x = (M0 (c0 + 1) a1) := ⟨_, rfl⟩
      refine g_nm ev6 ?_
      replace h := h v6 ev6
      refine g_istoren C [(2, gI v6), (0, gF c0), (1, gI a1)] dX7_kindAt_20 (by decide) rfl ?_
      refine g_iloadn C dX7_kindAt_21 0 rfl ?_
      refine g_bipush C dX7_kindAt_22 gRc_97 gRb_97 ?_
      obtain ⟨P8, h, hP8⟩ := h
      have J9 : ∀ (M7 : gMem), P8 M7 → gG X V 3 35 [(2, gI v6)] [] M7 := by
        intro M7 h
        replace h := hP8 M7 h
        refine g_iloadn C dX7_kindAt_35 0 rfl ?_
        refine g_bipush C dX7_kindAt_36 gRc_48 gRb_48 ?_
        obtain ⟨P12, h, hP12⟩ := h
        have J13 : ∀ (x10 : Int) (M11 : gMem), P12 x10 M11 → gG X V 3 52 [] [gI x10] M11 := by
          intro x10 M11 h
          replace h := hP12 x10 M11 h
          exact g_iret C hR dX7_kindAt_52 h
        obtain ⟨P15, h, hP15⟩ := h
        have J16 : ∀ (M14 : gMem), P15 M14 → gG X V 3 51 [] [] M14 := by
          intro M14 h
          replace h := hP15 M14 h
          refine g_iconst C dX7_kindAt_51 gRc_3 ?_
          exact J13 3 M14 h
        refine g_ic_lt (t := 51) C dX7_kindAt_38 (by decide) (fun c17 => ?_) (fun c17 => ?_)
        · replace h := h.1 c17
          refine g_sub [] [] rfl ?_
          exact J16 M7 h
        · replace h := h.2 c17
          refine g_iloadn C dX7_kindAt_41 0 rfl ?_
          refine g_bipush C dX7_kindAt_42 gRc_57 gRb_57 ?_
          refine g_ic_gt (t := 51) C dX7_kindAt_44 (by decide) (fun c18 => ?_) (fun c18 => ?_)
          · replace h := h.1 c18
            refine g_sub [] [] rfl ?_
            exact J16 M7 h
          · replace h := h.2 c18
            refine g_iconst C dX7_kindAt_47 gRc_2 ?_
            refine g_goto (t := 52) C dX7_kindAt_48 (by decide) ?_
            refine g_sub [] [] rfl ?_
            exact J13 2 M7 h
      refine g_ic_lt (t := 35) C dX7_kindAt_24 (by decide) (fun c19 => ?_) (fun c19 => ?_)
      · replace h := h.1 c19
        refine g_sub [(2, gI v6)] [0] rfl ?_
        exact J9 M0 h
      · replace h := h.2 c19
        refine g_iloadn C dX7_kindAt_27 0 rfl ?_
        refine g_bipush C dX7_kindAt_28 gRc_122 gRb_122 ?_
        refine g_ic_gt (t := 35) C dX7_kindAt_30 (by decide) (fun c20 => ?_) (fun c20 => ?_)
        · replace h := h.1 c20
          refine g_sub [(2, gI v6)] [0] rfl ?_
          exact J9 M0 h
        · replace h := h.2 c20
          refine g_iconst C dX7_kindAt_33 gRc_1 ?_
          exact g_iret C hR dX7_kindAt_34 h
    · replace h := h.2 c5
      refine g_sub [] [] rfl ?_
      exact J3 M0 h

set_option maxRecDepth 100000 in
set_option maxHeartbeats 4000000 in
theorem sX7_pass {l : Launch} {V : gW} (hD : gD V) (c0 : Int) (M0 : gMem) (K : gMem → Prop) (hT0 : gT c0 7) (h : wX7_pass c0 K M0) (hM : gOM M0) (ho : ∀ q ∈ ([] : List gSV), gOK q) : gMv l V yX7_pass cX7_pass 1 1 22 [gF c0] M0 K := by
  refine gMv_of hD (by decide) (Nat.le_of_ble_eq_true rfl) [(0, gF c0)] rfl (gok_L rfl (gok_n (q := gF c0) trivial ho)) hM (fun X C hR => ?_)
  unfold wX7_pass at h
  refine g_aloadn C dX7_pass_0 0 rfl ?_
  refine g_aloadn C dX7_pass_1 0 rfl ?_
  refine gf_7_5 C dX7_pass_2 wd_146 hT0 ?_
  refine gp_7_4 C dX7_pass_5 wd_145 hT0 ?_
  obtain ⟨M1, eM1⟩ : ∃ x : gMem, x = gup M0 c0 4 (M0 c0 5) := ⟨_, rfl⟩
  refine g_nmM eM1 ?_
  replace h := h M1 eM1
  refine gL0_go (Gd := fun (M2 : gMem) => gG X V 1 8 [(0, gF c0)] [] M2) (fun rec3 hrec3 M2 h => ?_) h
  refine g_aloadn C dX7_pass_8 0 rfl ?_
  refine gf_7_4 C dX7_pass_9 wd_145 hT0 ?_
  refine g_aloadn C dX7_pass_12 0 rfl ?_
  refine gf_7_0 C dX7_pass_13 wd_138 hT0 ?_
  obtain ⟨P5, h, hP5⟩ := h
  have J6 : ∀ (M4 : gMem), P5 M4 → gG X V 1 46 [(0, gF c0)] [] M4 := by
    intro M4 h
    replace h := hP5 M4 h
    refine g_aloadn C dX7_pass_46 0 rfl ?_
    refine g_aloadn C dX7_pass_47 0 rfl ?_
    refine g_aloadn C dX7_pass_48 0 rfl ?_
    refine gf_7_4 C dX7_pass_49 wd_145 hT0 ?_
    refine g_cVi (st := [gF c0]) C dX7_pass_52 ykX7_kindAt wd_407 ⟨by decide, by decide⟩ [gI (M4 c0 4)] rfl (Nat.le_of_ble_eq_true rfl) hT0 (fun hM ho => sX7_kindAt hD c0 (M4 c0 4) M4 _ hT0 h hM ho) (fun r8 M7 h => ?_)
    refine gp_7_3 C dX7_pass_55 wd_144 hT0 ?_
    obtain ⟨M9, eM9⟩ : ∃ x : gMem, x = gup M7 c0 3 r8 := ⟨_, rfl⟩
    refine g_nmM eM9 ?_
    replace h := h M9 eM9
    refine g_aloadn C dX7_pass_58 0 rfl ?_
    refine g_aloadn C dX7_pass_59 0 rfl ?_
    refine gf_7_4 C dX7_pass_60 wd_145 hT0 ?_
    refine gp_7_5 C dX7_pass_63 wd_146 hT0 ?_
    obtain ⟨M10, eM10⟩ : ∃ x : gMem, x = gup M9 c0 5 (M9 c0 4) := ⟨_, rfl⟩
    refine g_nmM eM10 ?_
    replace h := h M10 eM10
    refine g_aloadn C dX7_pass_66 0 rfl ?_
    refine gf_7_3 C dX7_pass_67 wd_144 hT0 ?_
    refine g_iconst C dX7_pass_70 gRc_4 ?_
    refine g_ic_ne (t := 75) C dX7_pass_71 (by decide) (fun c11 => ?_) (fun c11 => ?_)
    · replace h := h.1 c11
      refine g_aloadn C dX7_pass_75 0 rfl ?_
      refine g_dup C dX7_pass_76 (fun e => by cases e) ?_
      refine gf_7_5 C dX7_pass_77 wd_146 hT0 ?_
      refine g_iconst C dX7_pass_80 gRc_1 ?_
      refine g_iadd C dX7_pass_81 h.1 ?_
      replace h := h.2
      refine gp_7_5 C dX7_pass_82 wd_146 hT0 ?_
      obtain ⟨M12, eM12⟩ : ∃ x : gMem, x = gup M10 c0 5 ((M10 c0 5) + 1) := ⟨_, rfl⟩
      refine g_nmM eM12 ?_
      replace h := h M12 eM12
      refine gL0_go (Gd := fun (M13 : gMem) => gG X V 1 85 [(0, gF c0)] [] M13) (fun rec14 hrec14 M13 h => ?_) h
      refine g_aloadn C dX7_pass_85 0 rfl ?_
      refine gf_7_3 C dX7_pass_86 wd_144 hT0 ?_
      refine g_iconst C dX7_pass_89 gRc_3 ?_
      obtain ⟨P16, h, hP16⟩ := h
      have J17 : ∀ (M15 : gMem), P16 M15 → gG X V 1 132 [] [] M15 := by
        intro M15 h
        replace h := hP16 M15 h
        exact g_vret C hR dX7_pass_132 h
      refine g_ic_eq (t := 132) C dX7_pass_90 (by decide) (fun c18 => ?_) (fun c18 => ?_)
      · replace h := h.1 c18
        refine g_sub [] [] rfl ?_
        exact J17 M13 h
      · replace h := h.2 c18
        refine g_aloadn C dX7_pass_93 0 rfl ?_
        refine gf_7_5 C dX7_pass_94 wd_146 hT0 ?_
        refine g_aloadn C dX7_pass_97 0 rfl ?_
        refine gf_7_0 C dX7_pass_98 wd_138 hT0 ?_
        refine g_ic_ge (t := 132) C dX7_pass_101 (by decide) (fun c19 => ?_) (fun c19 => ?_)
        · replace h := h.1 c19
          refine g_sub [] [] rfl ?_
          exact J17 M13 h
        · replace h := h.2 c19
          refine g_aloadn C dX7_pass_104 0 rfl ?_
          refine g_aloadn C dX7_pass_105 0 rfl ?_
          refine gf_7_5 C dX7_pass_106 wd_146 hT0 ?_
          refine g_cVi (st := []) C dX7_pass_109 ykX7_kindAt wd_407 ⟨by decide, by decide⟩ [gI (M13 c0 5)] rfl (Nat.le_of_ble_eq_true rfl) hT0 (fun hM ho => sX7_kindAt hD c0 (M13 c0 5) M13 _ hT0 h hM ho) (fun r21 M20 h => ?_)
          refine g_aloadn C dX7_pass_112 0 rfl ?_
          refine gf_7_3 C dX7_pass_113 wd_144 hT0 ?_
          refine g_ic_ne (t := 132) C dX7_pass_116 (by decide) (fun c22 => ?_) (fun c22 => ?_)
          · replace h := h.1 c22
            refine g_sub [] [] rfl ?_
            exact J17 M20 h
          · replace h := h.2 c22
            refine g_aloadn C dX7_pass_119 0 rfl ?_
            refine g_dup C dX7_pass_120 (fun e => by cases e) ?_
            refine gf_7_5 C dX7_pass_121 wd_146 hT0 ?_
            refine g_iconst C dX7_pass_124 gRc_1 ?_
            refine g_iadd C dX7_pass_125 h.1 ?_
            replace h := h.2
            refine gp_7_5 C dX7_pass_126 wd_146 hT0 ?_
            obtain ⟨M23, eM23⟩ : ∃ x : gMem, x = gup M20 c0 5 ((M20 c0 5) + 1) := ⟨_, rfl⟩
            refine g_nmM eM23 ?_
            replace h := h M23 eM23
            refine g_goto (t := 85) C dX7_pass_129 (by decide) ?_
            exact hrec14 M23 h
    · replace h := h.2 c11
      exact g_vret C hR dX7_pass_74 h
  refine g_ic_ge (t := 46) C dX7_pass_16 (by decide) (fun c24 => ?_) (fun c24 => ?_)
  · replace h := h.1 c24
    exact J6 M2 h
  · replace h := h.2 c24
    refine g_aloadn C dX7_pass_19 0 rfl ?_
    refine gf_7_6 C dX7_pass_20 wd_147 hT0 ?_
    refine g_aloadn C dX7_pass_23 0 rfl ?_
    refine gf_7_4 C dX7_pass_24 wd_145 hT0 ?_
    refine g_iald C dX7_pass_27 (gt_7_6 hT0) gce_10200 h.1 ?_
    replace h := h.2
    refine g_bipush C dX7_pass_28 gRc_32 gRb_32 ?_
    refine g_ic_ne (t := 46) C dX7_pass_30 (by decide) (fun c25 => ?_) (fun c25 => ?_)
    · replace h := h.1 c25
      exact J6 M2 h
    · replace h := h.2 c25
      refine g_aloadn C dX7_pass_33 0 rfl ?_
      refine g_dup C dX7_pass_34 (fun e => by cases e) ?_
      refine gf_7_4 C dX7_pass_35 wd_145 hT0 ?_
      refine g_iconst C dX7_pass_38 gRc_1 ?_
      refine g_iadd C dX7_pass_39 h.1 ?_
      replace h := h.2
      refine gp_7_4 C dX7_pass_40 wd_145 hT0 ?_
      obtain ⟨M26, eM26⟩ : ∃ x : gMem, x = gup M2 c0 4 ((M2 c0 4) + 1) := ⟨_, rfl⟩
      refine g_nmM eM26 ?_
      replace h := h M26 eM26
      refine g_goto (t := 8) C dX7_pass_43 (by decide) ?_
      exact hrec3 M26 h

set_option maxRecDepth 100000 in
set_option maxHeartbeats 4000000 in
theorem sX7_isWord {l : Launch} {V : gW} (hD : gD V) (c0 a1 : Int) (M0 : gMem) (K : Int → gMem → Prop) (hT0 : gT c0 7) (hS1 : 0 ≤ a1 ∧ a1 < 3) (h : wX7_isWord c0 a1 K M0) (hM : gOM M0) (ho : ∀ q ∈ ([gB ((gvk V a1.toNat : Nat) : Int)] : List gSV), gOK q) : gMi l V yX7_isWord cX7_isWord 3 (some .boolean) 5 130 [gF c0, gB ((gvk V a1.toNat : Nat) : Int)] M0 K := by
  refine gMi_of hD (by decide) (Nat.le_of_ble_eq_true rfl) [(0, gF c0), (1, gB ((gvk V (a1 : Int).toNat : Nat) : Int))] rfl (gok_L rfl (gok_n (q := gF c0) trivial ho)) hM (fun X C hR => ?_)
  unfold wX7_isWord at h
  refine g_aloadn C dX7_isWord_0 0 rfl ?_
  refine gf_7_3 C dX7_isWord_1 wd_144 hT0 ?_
  refine g_iconst C dX7_isWord_4 gRc_1 ?_
  obtain ⟨P2, h, hP2⟩ := h
  have J3 : ∀ (M1 : gMem), P2 M1 → gG X V 3 24 [] [] M1 := by
    intro M1 h
    replace h := hP2 M1 h
    refine g_iconst C dX7_isWord_24 gRc_0 ?_
    exact g_zret C hR dX7_isWord_25 (Or.inl rfl) h
  refine g_ic_ne (t := 24) C dX7_isWord_5 (by decide) (fun c4 => ?_) (fun c4 => ?_)
  · replace h := h.1 c4
    refine g_sub [] [] rfl ?_
    exact J3 M0 h
  · replace h := h.2 c4
    refine g_aloadn C dX7_isWord_8 0 rfl ?_
    refine gf_7_5 C dX7_isWord_9 wd_146 hT0 ?_
    refine g_aloadn C dX7_isWord_12 0 rfl ?_
    refine gf_7_4 C dX7_isWord_13 wd_145 hT0 ?_
    refine g_isub C dX7_isWord_16 h.1 ?_
    replace h := h.2
    refine g_aloadnB C dX7_isWord_17 1 rfl ?_
    refine g_slen C dX7_isWord_18 wd_420 ⟨by decide, by decide⟩ (Nat.le_of_ble_eq_true rfl) hD hS1 ?_
    refine g_ic_eq (t := 26) C dX7_isWord_21 (by decide) (fun c5 => ?_) (fun c5 => ?_)
    · replace h := h.1 c5
      refine g_iconst C dX7_isWord_26 gRc_0 ?_
      refine g_istoren C [(2, gI 0), (0, gF c0), (1, gB ((gvk V (a1 : Int).toNat : Nat) : Int))] dX7_isWord_27 (by decide) rfl ?_
      refine g_sub [(0, gF c0), (1, gB ((gvk V (a1 : Int).toNat : Nat) : Int)), (2, gI 0)] [1, 2, 0] rfl ?_
      refine gL1_go (Gd := fun (v6 : Int) (M7 : gMem) => gG X V 3 28 [(0, gF c0), (1, gB ((gvk V (a1 : Int).toNat : Nat) : Int)), (2, gI v6)] [] M7) (fun rec8 hrec8 v6 M7 h => ?_) h
      refine g_iloadn C dX7_isWord_28 2 rfl ?_
      refine g_aloadnB C dX7_isWord_29 1 rfl ?_
      refine g_slen C dX7_isWord_30 wd_420 ⟨by decide, by decide⟩ (Nat.le_of_ble_eq_true rfl) hD hS1 ?_
      refine g_ic_ge (t := 63) C dX7_isWord_33 (by decide) (fun c9 => ?_) (fun c9 => ?_)
      · replace h := h.1 c9
        refine g_iconst C dX7_isWord_63 gRc_1 ?_
        exact g_zret C hR dX7_isWord_64 (Or.inr rfl) h
      · replace h := h.2 c9
        refine g_aloadn C dX7_isWord_36 0 rfl ?_
        refine gf_7_6 C dX7_isWord_37 wd_147 hT0 ?_
        refine g_aloadn C dX7_isWord_40 0 rfl ?_
        refine gf_7_4 C dX7_isWord_41 wd_145 hT0 ?_
        refine g_iloadn C dX7_isWord_44 2 rfl ?_
        refine g_iadd C dX7_isWord_45 h.1 ?_
        replace h := h.2
        refine g_iald C dX7_isWord_46 (gt_7_6 hT0) gce_10200 h.1 ?_
        replace h := h.2
        refine g_aloadnB C dX7_isWord_47 1 rfl ?_
        refine g_iloadn C dX7_isWord_48 2 rfl ?_
        refine g_schar C dX7_isWord_49 wd_430 ⟨by decide, by decide⟩ (Nat.le_of_ble_eq_true rfl) hD hS1 h.1 ?_
        replace h := h.2
        refine g_ic_eq (t := 57) C dX7_isWord_52 (by decide) (fun c10 => ?_) (fun c10 => ?_)
        · replace h := h.1 c10
          refine g_iinc C [(2, gI (v6 + 1)), (0, gF c0), (1, gB ((gvk V (a1 : Int).toNat : Nat) : Int))] dX7_isWord_57 2 rfl (by decide) h.1 rfl ?_
          replace h := h.2
          refine g_goto (t := 28) C dX7_isWord_60 (by decide) ?_
          refine g_sub [(0, gF c0), (1, gB ((gvk V (a1 : Int).toNat : Nat) : Int)), (2, gI (v6 + 1))] [1, 2, 0] rfl ?_
          exact hrec8 (v6 + 1) M7 h
        · replace h := h.2 c10
          refine g_iconst C dX7_isWord_55 gRc_0 ?_
          exact g_zret C hR dX7_isWord_56 (Or.inl rfl) h
    · replace h := h.2 c5
      refine g_sub [] [] rfl ?_
      exact J3 M0 h

set_option maxRecDepth 100000 in
set_option maxHeartbeats 4000000 in
theorem sX7_number {l : Launch} {V : gW} (hD : gD V) (c0 a1 a2 : Int) (M0 : gMem) (K : Int → gMem → Prop) (hT0 : gT c0 7) (h : wX7_number c0 a1 a2 K M0) (hM : gOM M0) (ho : ∀ q ∈ ([gI a1, gI a2] : List gSV), gOK q) : gMi l V yX7_number cX7_number 5 (some .int) 0 0 [gF c0, gI a1, gI a2] M0 K := by
  refine gMi_of hD (by decide) (Nat.le_of_ble_eq_true rfl) [(0, gF c0), (1, gI a1), (2, gI a2)] rfl (gok_L rfl (gok_n (q := gF c0) trivial ho)) hM (fun X C hR => ?_)
  unfold wX7_number at h
  refine g_aloadn C dX7_number_0 0 rfl ?_
  refine gf_7_3 C dX7_number_1 wd_144 hT0 ?_
  refine g_iconst C dX7_number_4 gRc_2 ?_
  obtain ⟨P2, h, hP2⟩ := h
  have J3 : ∀ (M1 : gMem), P2 M1 → gG X V 5 21 [] [] M1 := by
    intro M1 h
    replace h := hP2 M1 h
    refine g_iconst C dX7_number_21 gRc_m1 ?_
    exact g_iret C hR dX7_number_22 h
  refine g_ic_ne (t := 21) C dX7_number_5 (by decide) (fun c4 => ?_) (fun c4 => ?_)
  · replace h := h.1 c4
    refine g_sub [] [] rfl ?_
    exact J3 M0 h
  · replace h := h.2 c4
    refine g_aloadn C dX7_number_8 0 rfl ?_
    refine gf_7_5 C dX7_number_9 wd_146 hT0 ?_
    refine g_aloadn C dX7_number_12 0 rfl ?_
    refine gf_7_4 C dX7_number_13 wd_145 hT0 ?_
    refine g_isub C dX7_number_16 h.1 ?_
    replace h := h.2
    refine g_iconst C dX7_number_17 gRc_2 ?_
    refine g_ic_le (t := 23) C dX7_number_18 (by decide) (fun c5 => ?_) (fun c5 => ?_)
    · replace h := h.1 c5
      refine g_iconst C dX7_number_23 gRc_0 ?_
      refine g_istoren C [(3, gI 0), (0, gF c0), (1, gI a1), (2, gI a2)] dX7_number_24 (by decide) rfl ?_
      refine g_aloadn C dX7_number_25 1 rfl ?_
      refine gf_7_4 C dX7_number_26 wd_145 hT0 ?_
      obtain ⟨v6, ev6⟩ : ∃ x : Int, x = (M0 c0 4) := ⟨_, rfl⟩
      refine g_nm ev6 ?_
      replace h := h v6 ev6
      refine g_istore C [(4, gI v6), (3, gI 0), (0, gF c0), (1, gI a1), (2, gI a2)] dX7_number_29 (by decide) rfl ?_
      refine g_sub [(0, gF c0), (1, gI a1), (2, gI a2), (3, gI 0), (4, gI v6)] [2, 3, 4, 1, 0] rfl ?_
      refine gL2_go (Gd := fun (v7 : Int) (v8 : Int) (M9 : gMem) => gG X V 5 31 [(0, gF c0), (1, gI a1), (2, gI a2), (3, gI v7), (4, gI v8)] [] M9) (fun rec10 hrec10 v7 v8 M9 h => ?_) h
      refine g_iload C dX7_number_31 4 rfl ?_
      refine g_aloadn C dX7_number_33 0 rfl ?_
      refine gf_7_5 C dX7_number_34 wd_146 hT0 ?_
      refine g_ic_ge (t := 62) C dX7_number_37 (by decide) (fun c11 => ?_) (fun c11 => ?_)
      · replace h := h.1 c11
        refine g_iloadn C dX7_number_62 3 rfl ?_
        refine g_iloadn C dX7_number_63 1 rfl ?_
        obtain ⟨P14, h, hP14⟩ := h
        have J15 : ∀ (x12 : Int) (M13 : gMem), P14 x12 M13 → gG X V 5 77 [] [gI x12] M13 := by
          intro x12 M13 h
          replace h := hP14 x12 M13 h
          exact g_iret C hR dX7_number_77 h
        obtain ⟨P17, h, hP17⟩ := h
        have J18 : ∀ (M16 : gMem), P17 M16 → gG X V 5 76 [] [] M16 := by
          intro M16 h
          replace h := hP17 M16 h
          refine g_iconst C dX7_number_76 gRc_m1 ?_
          exact J15 (-1) M16 h
        refine g_ic_lt (t := 76) C dX7_number_64 (by decide) (fun c19 => ?_) (fun c19 => ?_)
        · replace h := h.1 c19
          refine g_sub [] [] rfl ?_
          exact J18 M9 h
        · replace h := h.2 c19
          refine g_iloadn C dX7_number_67 3 rfl ?_
          refine g_iloadn C dX7_number_68 2 rfl ?_
          refine g_ic_gt (t := 76) C dX7_number_69 (by decide) (fun c20 => ?_) (fun c20 => ?_)
          · replace h := h.1 c20
            refine g_sub [] [] rfl ?_
            exact J18 M9 h
          · replace h := h.2 c20
            refine g_iloadn C dX7_number_72 3 rfl ?_
            refine g_goto (t := 77) C dX7_number_73 (by decide) ?_
            refine g_sub [] [] rfl ?_
            exact J15 v7 M9 h
      · replace h := h.2 c11
        refine g_iloadn C dX7_number_40 3 rfl ?_
        refine g_bipush C dX7_number_41 gRc_10 gRb_10 ?_
        refine g_imul C dX7_number_43 h.1 ?_
        replace h := h.2
        refine g_aloadn C dX7_number_44 0 rfl ?_
        refine gf_7_6 C dX7_number_45 wd_147 hT0 ?_
        refine g_iload C dX7_number_48 4 rfl ?_
        refine g_iald C dX7_number_50 (gt_7_6 hT0) gce_10200 h.1 ?_
        replace h := h.2
        refine g_iadd C dX7_number_51 h.1 ?_
        replace h := h.2
        refine g_bipush C dX7_number_52 gRc_48 gRb_48 ?_
        refine g_isub C dX7_number_54 h.1 ?_
        replace h := h.2
        obtain ⟨v21, ev21⟩ : ∃ x : Int, x = (((v7 * 10) + (M9 (c0 + 1) v8)) - 48) := ⟨_, rfl⟩
        refine g_nm ev21 ?_
        replace h := h v21 ev21
        refine g_istoren C [(3, gI v21), (0, gF c0), (1, gI a1), (2, gI a2), (4, gI v8)] dX7_number_55 (by decide) rfl ?_
        refine g_iinc C [(4, gI (v8 + 1)), (3, gI v21), (0, gF c0), (1, gI a1), (2, gI a2)] dX7_number_56 4 rfl (by decide) h.1 rfl ?_
        replace h := h.2
        refine g_goto (t := 31) C dX7_number_59 (by decide) ?_
        refine g_sub [(0, gF c0), (1, gI a1), (2, gI a2), (3, gI v21), (4, gI (v8 + 1))] [2, 3, 4, 1, 0] rfl ?_
        exact hrec10 v21 (v8 + 1) M9 h
    · replace h := h.2 c5
      refine g_sub [] [] rfl ?_
      exact J3 M0 h

set_option maxRecDepth 100000 in
set_option maxHeartbeats 4000000 in
theorem sX1_startWith {l : Launch} {V : gW} (hD : gD V) (c0 a1 : Int) (M0 : gMem) (K : gMem → Prop) (hT0 : gT c0 1) (h : wX1_startWith c0 a1 K M0) (hM : gOM M0) (ho : ∀ q ∈ ([gI a1] : List gSV), gOK q) : gMv l V yX1_startWith cX1_startWith 2 1 23 [gF c0, gI a1] M0 K := by
  refine gMv_of hD (by decide) (Nat.le_of_ble_eq_true rfl) [(0, gF c0), (1, gI a1)] rfl (gok_L rfl (gok_n (q := gF c0) trivial ho)) hM (fun X C hR => ?_)
  unfold wX1_startWith at h
  refine g_iloadn C dX1_startWith_0 1 rfl ?_
  refine g_iconst C dX1_startWith_1 gRc_2 ?_
  obtain ⟨P2, h, hP2⟩ := h
  have J3 : ∀ (M1 : gMem), P2 M1 → gG X V 2 11 [] [] M1 := by
    intro M1 h
    replace h := hP2 M1 h
    exact g_vret C hR dX1_startWith_11 h
  refine g_ic_lt (t := 11) C dX1_startWith_2 (by decide) (fun c4 => ?_) (fun c4 => ?_)
  · replace h := h.1 c4
    refine g_sub [] [] rfl ?_
    exact J3 M0 h
  · replace h := h.2 c4
    refine g_iloadn C dX1_startWith_5 1 rfl ?_
    refine g_bipush C dX1_startWith_6 gRc_12 gRb_12 ?_
    refine g_ic_le (t := 12) C dX1_startWith_8 (by decide) (fun c5 => ?_) (fun c5 => ?_)
    · replace h := h.1 c5
      refine g_aloadn C dX1_startWith_12 0 rfl ?_
      refine g_iloadn C dX1_startWith_13 1 rfl ?_
      refine gp_1_0 C dX1_startWith_14 wd_103 hT0 ?_
      obtain ⟨M6, eM6⟩ : ∃ x : gMem, x = gup M0 c0 0 a1 := ⟨_, rfl⟩
      refine g_nmM eM6 ?_
      replace h := h M6 eM6
      refine g_aloadn C dX1_startWith_17 0 rfl ?_
      refine g_iconst C dX1_startWith_18 gRc_0 ?_
      refine gp_1_1 C dX1_startWith_19 wd_109 hT0 ?_
      obtain ⟨M7, eM7⟩ : ∃ x : gMem, x = gup M6 c0 1 0 := ⟨_, rfl⟩
      refine g_nmM eM7 ?_
      replace h := h M7 eM7
      refine g_aloadn C dX1_startWith_22 0 rfl ?_
      refine gf_1_4 C dX1_startWith_23 wd_116 hT0 ?_
      refine g_iconst C dX1_startWith_26 gRc_0 ?_
      refine g_fill C dX1_startWith_27 wd_480 ⟨by decide, by decide⟩ (Nat.le_of_ble_eq_true rfl) hD (gt_1_4 hT0) gce_10144 (by decide) ?_
      obtain ⟨M8, eM8⟩ : ∃ x : gMem, x = gfl M7 (c0 + 1) 144 0 := ⟨_, rfl⟩
      refine g_nmM eM8 ?_
      replace h := h M8 eM8
      refine g_aloadn C dX1_startWith_30 0 rfl ?_
      refine gf_1_5 C dX1_startWith_31 wd_117 hT0 ?_
      refine g_iconst C dX1_startWith_34 gRc_0 ?_
      refine g_fill C dX1_startWith_35 wd_480 ⟨by decide, by decide⟩ (Nat.le_of_ble_eq_true rfl) hD (gt_1_5 hT0) gce_10012 (by decide) ?_
      obtain ⟨M9, eM9⟩ : ∃ x : gMem, x = gfl M8 (c0 + 2) 12 0 := ⟨_, rfl⟩
      refine g_nmM eM9 ?_
      replace h := h M9 eM9
      refine g_aloadn C dX1_startWith_38 0 rfl ?_
      refine g_dup C dX1_startWith_39 (fun e => by cases e) ?_
      refine gf_1_3 C dX1_startWith_40 wd_113 hT0 ?_
      refine g_iconst C dX1_startWith_43 gRc_1 ?_
      refine g_iadd C dX1_startWith_44 h.1 ?_
      replace h := h.2
      refine gp_1_3 C dX1_startWith_45 wd_113 hT0 ?_
      obtain ⟨M10, eM10⟩ : ∃ x : gMem, x = gup M9 c0 3 ((M9 c0 3) + 1) := ⟨_, rfl⟩
      refine g_nmM eM10 ?_
      replace h := h M10 eM10
      exact g_vret C hR dX1_startWith_48 h
    · replace h := h.2 c5
      refine g_sub [] [] rfl ?_
      exact J3 M0 h

set_option maxRecDepth 100000 in
set_option maxHeartbeats 4000000 in
theorem sX7_readNet {l : Launch} {V : gW} (hD : gD V) (c0 a1 : Int) (M0 : gMem) (K : Int → gMem → Prop) (hT0 : gT c0 7) (hT1 : gT a1 1) (h : wX7_readNet c0 a1 K M0) (hM : gOM M0) (ho : ∀ q ∈ ([gF a1] : List gSV), gOK q) : gMi l V yX7_readNet cX7_readNet 3 (some .boolean) 2 44 [gF c0, gF a1] M0 K := by
  refine gMi_of hD (by decide) (Nat.le_of_ble_eq_true rfl) [(0, gF c0), (1, gF a1)] rfl (gok_L rfl (gok_n (q := gF c0) trivial ho)) hM (fun X C hR => ?_)
  unfold wX7_readNet at h
  refine g_aloadn C dX7_readNet_0 0 rfl ?_
  refine g_cVv (st := []) C dX7_readNet_1 ykX7_pass wd_403 ⟨by decide, by decide⟩ [] rfl (Nat.le_of_ble_eq_true rfl) hT0 (fun hM ho => sX7_pass hD c0 M0 _ hT0 h hM ho) (fun M1 h => ?_)
  refine g_aloadn C dX7_readNet_4 0 rfl ?_
  refine g_iconst C dX7_readNet_5 gRc_2 ?_
  refine g_bipush C dX7_readNet_6 gRc_12 gRb_12 ?_
  refine g_cVi (st := []) C dX7_readNet_8 ykX7_number wd_472 ⟨by decide, by decide⟩ [gI 2, gI 12] rfl (Nat.le_of_ble_eq_true rfl) hT0 (fun hM ho => sX7_number hD c0 2 12 M1 _ hT0 h hM ho) (fun r3 M2 h => ?_)
  refine g_istoren C [(2, gI r3), (0, gF c0), (1, gF a1)] dX7_readNet_11 (by decide) rfl ?_
  refine g_iloadn C dX7_readNet_12 0 rfl ?_
  refine g_iconst C dX7_readNet_13 gRc_m1 ?_
  refine g_ic_ne (t := 19) C dX7_readNet_14 (by decide) (fun c4 => ?_) (fun c4 => ?_)
  · replace h := h.1 c4
    refine g_aloadn C dX7_readNet_19 2 rfl ?_
    refine g_iloadn C dX7_readNet_20 0 rfl ?_
    refine g_cVv (st := []) C dX7_readNet_21 ykX1_startWith wd_476 ⟨by decide, by decide⟩ [gI r3] rfl (Nat.le_of_ble_eq_true rfl) hT1 (fun hM ho => sX1_startWith hD a1 r3 M2 _ hT1 h hM ho) (fun M5 h => ?_)
    refine g_aloadn C dX7_readNet_24 1 rfl ?_
    refine g_iconst C dX7_readNet_25 gRc_1 ?_
    refine gp_7_2 C dX7_readNet_26 wd_142 hT0 (Or.inr rfl) ?_
    obtain ⟨M6, eM6⟩ : ∃ x : gMem, x = gup M5 c0 2 1 := ⟨_, rfl⟩
    refine g_nmM eM6 ?_
    replace h := h M6 eM6
    refine g_aloadn C dX7_readNet_29 1 rfl ?_
    refine g_cVv (st := []) C dX7_readNet_30 ykX7_pass wd_403 ⟨by decide, by decide⟩ [] rfl (Nat.le_of_ble_eq_true rfl) hT0 (fun hM ho => sX7_pass hD c0 M6 _ hT0 h hM ho) (fun M7 h => ?_)
    refine g_iconst C dX7_readNet_33 gRc_1 ?_
    exact g_zret C hR dX7_readNet_34 (Or.inr rfl) h
  · replace h := h.2 c4
    refine g_iconst C dX7_readNet_17 gRc_0 ?_
    exact g_zret C hR dX7_readNet_18 (Or.inl rfl) h

set_option maxRecDepth 100000 in
set_option maxHeartbeats 4000000 in
theorem sX1_has {l : Launch} {V : gW} (hD : gD V) (c0 a1 : Int) (M0 : gMem) (K : Int → gMem → Prop) (hT0 : gT c0 1) (h : wX1_has c0 a1 K M0) (hM : gOM M0) (ho : ∀ q ∈ ([gI a1] : List gSV), gOK q) : gMi l V yX1_has cX1_has 2 (some .boolean) 0 0 [gF c0, gI a1] M0 K := by
  refine gMi_of hD (by decide) (Nat.le_of_ble_eq_true rfl) [(0, gF c0), (1, gI a1)] rfl (gok_L rfl (gok_n (q := gF c0) trivial ho)) hM (fun X C hR => ?_)
  unfold wX1_has at h
  refine g_iloadn C dX1_has_0 1 rfl ?_
  obtain ⟨P3, h, hP3⟩ := h
  have J4 : ∀ (x1 : Int) (M2 : gMem), P3 x1 M2 → gG X V 2 17 [] [gI x1] M2 := by
    intro x1 M2 h
    replace h := hP3 x1 M2 h
    exact g_zret C hR dX1_has_17 h.1 h.2
  obtain ⟨P6, h, hP6⟩ := h
  have J7 : ∀ (M5 : gMem), P6 M5 → gG X V 2 16 [] [] M5 := by
    intro M5 h
    replace h := hP6 M5 h
    refine g_iconst C dX1_has_16 gRc_0 ?_
    exact J4 0 M5 h
  refine g_if_lt (t := 16) C dX1_has_1 (by decide) (fun c8 => ?_) (fun c8 => ?_)
  · replace h := h.1 c8
    refine g_sub [] [] rfl ?_
    exact J7 M0 h
  · replace h := h.2 c8
    refine g_iloadn C dX1_has_4 1 rfl ?_
    refine g_aloadn C dX1_has_5 0 rfl ?_
    refine gf_1_0 C dX1_has_6 wd_103 hT0 ?_
    refine g_ic_ge (t := 16) C dX1_has_9 (by decide) (fun c9 => ?_) (fun c9 => ?_)
    · replace h := h.1 c9
      refine g_sub [] [] rfl ?_
      exact J7 M0 h
    · replace h := h.2 c9
      refine g_iconst C dX1_has_12 gRc_1 ?_
      refine g_goto (t := 17) C dX1_has_13 (by decide) ?_
      refine g_sub [] [] rfl ?_
      exact J4 1 M0 h

set_option maxRecDepth 100000 in
set_option maxHeartbeats 4000000 in
theorem sX9_cell {l : Launch} {V : gW} (hD : gD V) (a1 a2 : Int) (M0 : gMem) (K : Int → gMem → Prop) (h : wX9_cell a1 a2 K M0) (hM : gOM M0) (ho : ∀ q ∈ ([gI a1, gI a2] : List gSV), gOK q) : gMi l V yX9_cell cX9_cell 2 (some .int) 0 0 [gI a1, gI a2] M0 K := by
  refine gMi_of hD (by decide) (Nat.le_of_ble_eq_true rfl) [(0, gI a1), (1, gI a2)] rfl (gok_L rfl ho) hM (fun X C hR => ?_)
  unfold wX9_cell at h
  refine g_iloadn C dX9_cell_0 0 rfl ?_
  refine g_bipush C dX9_cell_1 gRc_12 gRb_12 ?_
  refine g_imul C dX9_cell_3 h.1 ?_
  replace h := h.2
  refine g_iloadn C dX9_cell_4 1 rfl ?_
  refine g_iadd C dX9_cell_5 h.1 ?_
  replace h := h.2
  exact g_iret C hR dX9_cell_6 h

set_option maxRecDepth 100000 in
set_option maxHeartbeats 4000000 in
theorem sX1_hasRoomFor {l : Launch} {V : gW} (hD : gD V) (c0 a1 a2 : Int) (M0 : gMem) (K : Int → gMem → Prop) (hT0 : gT c0 1) (h : wX1_hasRoomFor c0 a1 a2 K M0) (hM : gOM M0) (ho : ∀ q ∈ ([gI a1, gI a2] : List gSV), gOK q) : gMi l V yX1_hasRoomFor cX1_hasRoomFor 3 (some .boolean) 1 21 [gF c0, gI a1, gI a2] M0 K := by
  refine gMi_of hD (by decide) (Nat.le_of_ble_eq_true rfl) [(0, gF c0), (1, gI a1), (2, gI a2)] rfl (gok_L rfl (gok_n (q := gF c0) trivial ho)) hM (fun X C hR => ?_)
  unfold wX1_hasRoomFor at h
  refine g_aloadn C dX1_hasRoomFor_0 0 rfl ?_
  refine gf_1_1 C dX1_hasRoomFor_1 wd_109 hT0 ?_
  refine g_bipush C dX1_hasRoomFor_4 gRc_30 gRb_30 ?_
  obtain ⟨P3, h, hP3⟩ := h
  have J4 : ∀ (x1 : Int) (M2 : gMem), P3 x1 M2 → gG X V 3 43 [] [gI x1] M2 := by
    intro x1 M2 h
    replace h := hP3 x1 M2 h
    exact g_zret C hR dX1_hasRoomFor_43 h.1 h.2
  obtain ⟨P6, h, hP6⟩ := h
  have J7 : ∀ (M5 : gMem), P6 M5 → gG X V 3 38 [] [] M5 := by
    intro M5 h
    replace h := hP6 M5 h
    refine g_iconst C dX1_hasRoomFor_38 gRc_1 ?_
    refine g_goto (t := 43) C dX1_hasRoomFor_39 (by decide) ?_
    exact J4 1 M5 h
  refine g_ic_lt (t := 38) C dX1_hasRoomFor_6 (by decide) (fun c8 => ?_) (fun c8 => ?_)
  · replace h := h.1 c8
    refine g_sub [] [] rfl ?_
    exact J7 M0 h
  · replace h := h.2 c8
    refine g_aloadn C dX1_hasRoomFor_9 0 rfl ?_
    refine g_iloadn C dX1_hasRoomFor_10 1 rfl ?_
    refine g_cVi (st := []) C dX1_hasRoomFor_11 ykX1_has wd_492 ⟨by decide, by decide⟩ [gI a1] rfl (Nat.le_of_ble_eq_true rfl) hT0 (fun hM ho => sX1_has hD c0 a1 M0 _ hT0 h hM ho) (fun r10 M9 h => ?_)
    obtain ⟨P12, h, hP12⟩ := h
    have J13 : ∀ (M11 : gMem), P12 M11 → gG X V 3 42 [] [] M11 := by
      intro M11 h
      replace h := hP12 M11 h
      refine g_iconst C dX1_hasRoomFor_42 gRc_0 ?_
      exact J4 0 M11 h
    refine g_if_eq (t := 42) C dX1_hasRoomFor_14 (by decide) (fun c14 => ?_) (fun c14 => ?_)
    · replace h := h.1 c14
      refine g_sub [] [] rfl ?_
      exact J13 M9 h
    · replace h := h.2 c14
      refine g_aloadn C dX1_hasRoomFor_17 0 rfl ?_
      refine g_iloadn C dX1_hasRoomFor_18 2 rfl ?_
      refine g_cVi (st := []) C dX1_hasRoomFor_19 ykX1_has wd_492 ⟨by decide, by decide⟩ [gI a2] rfl (Nat.le_of_ble_eq_true rfl) hT0 (fun hM ho => sX1_has hD c0 a2 M9 _ hT0 h hM ho) (fun r16 M15 h => ?_)
      refine g_if_eq (t := 42) C dX1_hasRoomFor_22 (by decide) (fun c17 => ?_) (fun c17 => ?_)
      · replace h := h.1 c17
        refine g_sub [] [] rfl ?_
        exact J13 M15 h
      · replace h := h.2 c17
        refine g_aloadn C dX1_hasRoomFor_25 0 rfl ?_
        refine gf_1_4 C dX1_hasRoomFor_26 wd_116 hT0 ?_
        refine g_iloadn C dX1_hasRoomFor_29 1 rfl ?_
        refine g_iloadn C dX1_hasRoomFor_30 2 rfl ?_
        refine g_cNi (st := [gF (c0 + 1)]) C dX1_hasRoomFor_31 ykX9_cell (gE_n0 C.2.2.2.2.2.2.2.2.2.2.2.2) ⟨by decide, by decide⟩ [gI a1, gI a2] rfl (Nat.le_of_ble_eq_true rfl) (fun hM ho => sX9_cell hD a1 a2 M15 _  h hM ho) (fun r19 M18 h => ?_)
        refine g_iald C dX1_hasRoomFor_34 (gt_1_4 hT0) gce_10144 h.1 ?_
        replace h := h.2
        refine g_if_le (t := 42) C dX1_hasRoomFor_35 (by decide) (fun c20 => ?_) (fun c20 => ?_)
        · replace h := h.1 c20
          refine g_sub [] [] rfl ?_
          exact J13 M18 h
        · replace h := h.2 c20
          refine g_sub [] [] rfl ?_
          exact J7 M18 h

set_option maxRecDepth 100000 in
set_option maxHeartbeats 4000000 in
theorem sX1_setLength {l : Launch} {V : gW} (hD : gD V) (c0 a1 a2 a3 : Int) (M0 : gMem) (K : gMem → Prop) (hT0 : gT c0 1) (h : wX1_setLength c0 a1 a2 a3 K M0) (hM : gOM M0) (ho : ∀ q ∈ ([gI a1, gI a2, gI a3] : List gSV), gOK q) : gMv l V yX1_setLength cX1_setLength 4 1 21 [gF c0, gI a1, gI a2, gI a3] M0 K := by
  refine gMv_of hD (by decide) (Nat.le_of_ble_eq_true rfl) [(0, gF c0), (1, gI a1), (2, gI a2), (3, gI a3)] rfl (gok_L rfl (gok_n (q := gF c0) trivial ho)) hM (fun X C hR => ?_)
  unfold wX1_setLength at h
  refine g_aloadn C dX1_setLength_0 0 rfl ?_
  refine g_iloadn C dX1_setLength_1 1 rfl ?_
  refine g_cVi (st := []) C dX1_setLength_2 ykX1_has wd_492 ⟨by decide, by decide⟩ [gI a1] rfl (Nat.le_of_ble_eq_true rfl) hT0 (fun hM ho => sX1_has hD c0 a1 M0 _ hT0 h hM ho) (fun r2 M1 h => ?_)
  obtain ⟨P4, h, hP4⟩ := h
  have J5 : ∀ (M3 : gMem), P4 M3 → gG X V 4 21 [] [] M3 := by
    intro M3 h
    replace h := hP4 M3 h
    exact g_vret C hR dX1_setLength_21 h
  refine g_if_eq (t := 21) C dX1_setLength_5 (by decide) (fun c6 => ?_) (fun c6 => ?_)
  · replace h := h.1 c6
    refine g_sub [] [] rfl ?_
    exact J5 M1 h
  · replace h := h.2 c6
    refine g_aloadn C dX1_setLength_8 0 rfl ?_
    refine g_iloadn C dX1_setLength_9 2 rfl ?_
    refine g_cVi (st := []) C dX1_setLength_10 ykX1_has wd_492 ⟨by decide, by decide⟩ [gI a2] rfl (Nat.le_of_ble_eq_true rfl) hT0 (fun hM ho => sX1_has hD c0 a2 M1 _ hT0 h hM ho) (fun r8 M7 h => ?_)
    refine g_if_eq (t := 21) C dX1_setLength_13 (by decide) (fun c9 => ?_) (fun c9 => ?_)
    · replace h := h.1 c9
      refine g_sub [] [] rfl ?_
      exact J5 M7 h
    · replace h := h.2 c9
      refine g_iloadn C dX1_setLength_16 1 rfl ?_
      refine g_iloadn C dX1_setLength_17 2 rfl ?_
      refine g_ic_ne (t := 22) C dX1_setLength_18 (by decide) (fun c10 => ?_) (fun c10 => ?_)
      · replace h := h.1 c10
        refine g_aloadn C dX1_setLength_22 0 rfl ?_
        refine gf_1_4 C dX1_setLength_23 wd_116 hT0 ?_
        refine g_iloadn C dX1_setLength_26 1 rfl ?_
        refine g_iloadn C dX1_setLength_27 2 rfl ?_
        refine g_cNi (st := [gF (c0 + 1)]) C dX1_setLength_28 ykX9_cell (gE_n0 C.2.2.2.2.2.2.2.2.2.2.2.2) ⟨by decide, by decide⟩ [gI a1, gI a2] rfl (Nat.le_of_ble_eq_true rfl) (fun hM ho => sX9_cell hD a1 a2 M7 _  h hM ho) (fun r12 M11 h => ?_)
        refine g_iald C dX1_setLength_31 (gt_1_4 hT0) gce_10144 h.1 ?_
        replace h := h.2
        obtain ⟨P14, h, hP14⟩ := h
        have J15 : ∀ (M13 : gMem), P14 M13 → gG X V 4 45 [(0, gF c0), (1, gI a1), (2, gI a2), (3, gI a3)] [] M13 := by
          intro M13 h
          replace h := hP14 M13 h
          refine g_iloadn C dX1_setLength_45 3 rfl ?_
          obtain ⟨P17, h, hP17⟩ := h
          have J18 : ∀ (M16 : gMem), P17 M16 → gG X V 4 59 [(0, gF c0), (1, gI a1), (2, gI a2), (3, gI a3)] [] M16 := by
            intro M16 h
            replace h := hP17 M16 h
            refine g_aloadn C dX1_setLength_59 0 rfl ?_
            refine gf_1_4 C dX1_setLength_60 wd_116 hT0 ?_
            refine g_iloadn C dX1_setLength_63 1 rfl ?_
            refine g_iloadn C dX1_setLength_64 2 rfl ?_
            refine g_cNi (st := [gF (c0 + 1)]) C dX1_setLength_65 ykX9_cell (gE_n0 C.2.2.2.2.2.2.2.2.2.2.2.2) ⟨by decide, by decide⟩ [gI a1, gI a2] rfl (Nat.le_of_ble_eq_true rfl) (fun hM ho => sX9_cell hD a1 a2 M16 _  h hM ho) (fun r20 M19 h => ?_)
            refine g_iloadn C dX1_setLength_68 3 rfl ?_
            refine g_iast C dX1_setLength_69 (gt_1_4 hT0) gce_10144 h.1 ?_
            replace h := h.2
            obtain ⟨M21, eM21⟩ : ∃ x : gMem, x = gup M19 (c0 + 1) r20 a3 := ⟨_, rfl⟩
            refine g_nmM eM21 ?_
            replace h := h M21 eM21
            refine g_aloadn C dX1_setLength_70 0 rfl ?_
            refine gf_1_4 C dX1_setLength_71 wd_116 hT0 ?_
            refine g_iloadn C dX1_setLength_74 2 rfl ?_
            refine g_iloadn C dX1_setLength_75 1 rfl ?_
            refine g_cNi (st := [gF (c0 + 1)]) C dX1_setLength_76 ykX9_cell (gE_n0 C.2.2.2.2.2.2.2.2.2.2.2.2) ⟨by decide, by decide⟩ [gI a2, gI a1] rfl (Nat.le_of_ble_eq_true rfl) (fun hM ho => sX9_cell hD a2 a1 M21 _  h hM ho) (fun r23 M22 h => ?_)
            refine g_iloadn C dX1_setLength_79 3 rfl ?_
            refine g_iast C dX1_setLength_80 (gt_1_4 hT0) gce_10144 h.1 ?_
            replace h := h.2
            obtain ⟨M24, eM24⟩ : ∃ x : gMem, x = gup M22 (c0 + 1) r23 a3 := ⟨_, rfl⟩
            refine g_nmM eM24 ?_
            replace h := h M24 eM24
            refine g_aloadn C dX1_setLength_81 0 rfl ?_
            refine g_dup C dX1_setLength_82 (fun e => by cases e) ?_
            refine gf_1_3 C dX1_setLength_83 wd_113 hT0 ?_
            refine g_iconst C dX1_setLength_86 gRc_1 ?_
            refine g_iadd C dX1_setLength_87 h.1 ?_
            replace h := h.2
            refine gp_1_3 C dX1_setLength_88 wd_113 hT0 ?_
            obtain ⟨M25, eM25⟩ : ∃ x : gMem, x = gup M24 c0 3 ((M24 c0 3) + 1) := ⟨_, rfl⟩
            refine g_nmM eM25 ?_
            replace h := h M25 eM25
            exact g_vret C hR dX1_setLength_91 h
          refine g_if_le (t := 59) C dX1_setLength_46 (by decide) (fun c26 => ?_) (fun c26 => ?_)
          · replace h := h.1 c26
            exact J18 M13 h
          · replace h := h.2 c26
            refine g_aloadn C dX1_setLength_49 0 rfl ?_
            refine g_dup C dX1_setLength_50 (fun e => by cases e) ?_
            refine gf_1_1 C dX1_setLength_51 wd_109 hT0 ?_
            refine g_iconst C dX1_setLength_54 gRc_1 ?_
            refine g_iadd C dX1_setLength_55 h.1 ?_
            replace h := h.2
            refine gp_1_1 C dX1_setLength_56 wd_109 hT0 ?_
            obtain ⟨M27, eM27⟩ : ∃ x : gMem, x = gup M13 c0 1 ((M13 c0 1) + 1) := ⟨_, rfl⟩
            refine g_nmM eM27 ?_
            replace h := h M27 eM27
            exact J18 M27 h
        refine g_if_le (t := 45) C dX1_setLength_32 (by decide) (fun c28 => ?_) (fun c28 => ?_)
        · replace h := h.1 c28
          exact J15 M11 h
        · replace h := h.2 c28
          refine g_aloadn C dX1_setLength_35 0 rfl ?_
          refine g_dup C dX1_setLength_36 (fun e => by cases e) ?_
          refine gf_1_1 C dX1_setLength_37 wd_109 hT0 ?_
          refine g_iconst C dX1_setLength_40 gRc_1 ?_
          refine g_isub C dX1_setLength_41 h.1 ?_
          replace h := h.2
          refine gp_1_1 C dX1_setLength_42 wd_109 hT0 ?_
          obtain ⟨M29, eM29⟩ : ∃ x : gMem, x = gup M11 c0 1 ((M11 c0 1) - 1) := ⟨_, rfl⟩
          refine g_nmM eM29 ?_
          replace h := h M29 eM29
          exact J15 M29 h
      · replace h := h.2 c10
        refine g_sub [] [] rfl ?_
        exact J5 M7 h

set_option maxRecDepth 100000 in
set_option maxHeartbeats 4000000 in
theorem sX7_readLink {l : Launch} {V : gW} (hD : gD V) (c0 a1 : Int) (M0 : gMem) (K : Int → gMem → Prop) (hT0 : gT c0 7) (hT1 : gT a1 1) (h : wX7_readLink c0 a1 K M0) (hM : gOM M0) (ho : ∀ q ∈ ([gF a1] : List gSV), gOK q) : gMi l V yX7_readLink cX7_readLink 5 (some .boolean) 2 44 [gF c0, gF a1] M0 K := by
  refine gMi_of hD (by decide) (Nat.le_of_ble_eq_true rfl) [(0, gF c0), (1, gF a1)] rfl (gok_L rfl (gok_n (q := gF c0) trivial ho)) hM (fun X C hR => ?_)
  unfold wX7_readLink at h
  refine g_aloadn C dX7_readLink_0 0 rfl ?_
  refine g_cVv (st := []) C dX7_readLink_1 ykX7_pass wd_403 ⟨by decide, by decide⟩ [] rfl (Nat.le_of_ble_eq_true rfl) hT0 (fun hM ho => sX7_pass hD c0 M0 _ hT0 h hM ho) (fun M1 h => ?_)
  refine g_aloadn C dX7_readLink_4 0 rfl ?_
  refine g_iconst C dX7_readLink_5 gRc_0 ?_
  refine g_aloadn C dX7_readLink_6 1 rfl ?_
  refine gf_1_0 C dX7_readLink_7 wd_106 hT1 ?_
  refine g_iconst C dX7_readLink_10 gRc_1 ?_
  refine g_isub C dX7_readLink_11 h.1 ?_
  replace h := h.2
  refine g_cVi (st := []) C dX7_readLink_12 ykX7_number wd_472 ⟨by decide, by decide⟩ [gI 0, gI ((M1 a1 0) - 1)] rfl (Nat.le_of_ble_eq_true rfl) hT0 (fun hM ho => sX7_number hD c0 0 ((M1 a1 0) - 1) M1 _ hT0 h hM ho) (fun r3 M2 h => ?_)
  refine g_istoren C [(2, gI r3), (0, gF c0), (1, gF a1)] dX7_readLink_15 (by decide) rfl ?_
  refine g_iloadn C dX7_readLink_16 0 rfl ?_
  refine g_iconst C dX7_readLink_17 gRc_m1 ?_
  refine g_ic_ne (t := 23) C dX7_readLink_18 (by decide) (fun c4 => ?_) (fun c4 => ?_)
  · replace h := h.1 c4
    refine g_aloadn C dX7_readLink_23 1 rfl ?_
    refine g_cVv (st := []) C dX7_readLink_24 ykX7_pass wd_403 ⟨by decide, by decide⟩ [] rfl (Nat.le_of_ble_eq_true rfl) hT0 (fun hM ho => sX7_pass hD c0 M2 _ hT0 h hM ho) (fun M5 h => ?_)
    refine g_aloadn C dX7_readLink_27 1 rfl ?_
    refine g_iconst C dX7_readLink_28 gRc_0 ?_
    refine g_aloadn C dX7_readLink_29 2 rfl ?_
    refine gf_1_0 C dX7_readLink_30 wd_106 hT1 ?_
    refine g_iconst C dX7_readLink_33 gRc_1 ?_
    refine g_isub C dX7_readLink_34 h.1 ?_
    replace h := h.2
    refine g_cVi (st := []) C dX7_readLink_35 ykX7_number wd_472 ⟨by decide, by decide⟩ [gI 0, gI ((M5 a1 0) - 1)] rfl (Nat.le_of_ble_eq_true rfl) hT0 (fun hM ho => sX7_number hD c0 0 ((M5 a1 0) - 1) M5 _ hT0 h hM ho) (fun r7 M6 h => ?_)
    refine g_istoren C [(3, gI r7), (2, gI r3), (0, gF c0), (1, gF a1)] dX7_readLink_38 (by decide) rfl ?_
    refine g_iloadn C dX7_readLink_39 0 rfl ?_
    refine g_iconst C dX7_readLink_40 gRc_m1 ?_
    obtain ⟨P9, h, hP9⟩ := h
    have J10 : ∀ (M8 : gMem), P9 M8 → gG X V 5 58 [] [] M8 := by
      intro M8 h
      replace h := hP9 M8 h
      refine g_iconst C dX7_readLink_58 gRc_0 ?_
      exact g_zret C hR dX7_readLink_59 (Or.inl rfl) h
    refine g_ic_eq (t := 58) C dX7_readLink_41 (by decide) (fun c11 => ?_) (fun c11 => ?_)
    · replace h := h.1 c11
      refine g_sub [] [] rfl ?_
      exact J10 M6 h
    · replace h := h.2 c11
      refine g_iloadn C dX7_readLink_44 0 rfl ?_
      refine g_iloadn C dX7_readLink_45 1 rfl ?_
      refine g_ic_eq (t := 58) C dX7_readLink_46 (by decide) (fun c12 => ?_) (fun c12 => ?_)
      · replace h := h.1 c12
        refine g_sub [] [] rfl ?_
        exact J10 M6 h
      · replace h := h.2 c12
        refine g_aloadn C dX7_readLink_49 3 rfl ?_
        refine g_iloadn C dX7_readLink_50 1 rfl ?_
        refine g_iloadn C dX7_readLink_51 0 rfl ?_
        refine g_cVi (st := []) C dX7_readLink_52 ykX1_hasRoomFor wd_488 ⟨by decide, by decide⟩ [gI r3, gI r7] rfl (Nat.le_of_ble_eq_true rfl) hT1 (fun hM ho => sX1_hasRoomFor hD a1 r3 r7 M6 _ hT1 h hM ho) (fun r14 M13 h => ?_)
        refine g_if_ne (t := 60) C dX7_readLink_55 (by decide) (fun c15 => ?_) (fun c15 => ?_)
        · replace h := h.1 c15
          refine g_aloadn C dX7_readLink_60 2 rfl ?_
          refine g_cVv (st := []) C dX7_readLink_61 ykX7_pass wd_403 ⟨by decide, by decide⟩ [] rfl (Nat.le_of_ble_eq_true rfl) hT0 (fun hM ho => sX7_pass hD c0 M13 _ hT0 h hM ho) (fun M16 h => ?_)
          refine g_aloadn C dX7_readLink_64 2 rfl ?_
          refine g_iconst C dX7_readLink_65 gRc_1 ?_
          refine g_bipush C dX7_readLink_66 gRc_99 gRb_99 ?_
          refine g_cVi (st := []) C dX7_readLink_68 ykX7_number wd_472 ⟨by decide, by decide⟩ [gI 1, gI 99] rfl (Nat.le_of_ble_eq_true rfl) hT0 (fun hM ho => sX7_number hD c0 1 99 M16 _ hT0 h hM ho) (fun r18 M17 h => ?_)
          refine g_istore C [(4, gI r18), (3, gI r7), (2, gI r3), (0, gF c0), (1, gF a1)] dX7_readLink_71 (by decide) rfl ?_
          refine g_iload C dX7_readLink_73 0 rfl ?_
          refine g_iconst C dX7_readLink_75 gRc_m1 ?_
          refine g_ic_ne (t := 81) C dX7_readLink_76 (by decide) (fun c19 => ?_) (fun c19 => ?_)
          · replace h := h.1 c19
            refine g_aloadn C dX7_readLink_81 4 rfl ?_
            refine g_iloadn C dX7_readLink_82 2 rfl ?_
            refine g_iloadn C dX7_readLink_83 1 rfl ?_
            refine g_iload C dX7_readLink_84 0 rfl ?_
            refine g_cVv (st := []) C dX7_readLink_86 ykX1_setLength wd_499 ⟨by decide, by decide⟩ [gI r3, gI r7, gI r18] rfl (Nat.le_of_ble_eq_true rfl) hT1 (fun hM ho => sX1_setLength hD a1 r3 r7 r18 M17 _ hT1 h hM ho) (fun M20 h => ?_)
            refine g_aloadn C dX7_readLink_89 3 rfl ?_
            refine g_cVv (st := []) C dX7_readLink_90 ykX7_pass wd_403 ⟨by decide, by decide⟩ [] rfl (Nat.le_of_ble_eq_true rfl) hT0 (fun hM ho => sX7_pass hD c0 M20 _ hT0 h hM ho) (fun M21 h => ?_)
            refine g_iconst C dX7_readLink_93 gRc_1 ?_
            exact g_zret C hR dX7_readLink_94 (Or.inr rfl) h
          · replace h := h.2 c19
            refine g_iconst C dX7_readLink_79 gRc_0 ?_
            exact g_zret C hR dX7_readLink_80 (Or.inl rfl) h
        · replace h := h.2 c15
          refine g_sub [] [] rfl ?_
          exact J10 M13 h
  · replace h := h.2 c4
    refine g_iconst C dX7_readLink_21 gRc_0 ?_
    exact g_zret C hR dX7_readLink_22 (Or.inl rfl) h

set_option maxRecDepth 100000 in
set_option maxHeartbeats 4000000 in
theorem sX1_setLevel {l : Launch} {V : gW} (hD : gD V) (c0 a1 a2 : Int) (M0 : gMem) (K : gMem → Prop) (hT0 : gT c0 1) (h : wX1_setLevel c0 a1 a2 K M0) (hM : gOM M0) (ho : ∀ q ∈ ([gI a1, gI a2] : List gSV), gOK q) : gMv l V yX1_setLevel cX1_setLevel 3 1 21 [gF c0, gI a1, gI a2] M0 K := by
  refine gMv_of hD (by decide) (Nat.le_of_ble_eq_true rfl) [(0, gF c0), (1, gI a1), (2, gI a2)] rfl (gok_L rfl (gok_n (q := gF c0) trivial ho)) hM (fun X C hR => ?_)
  unfold wX1_setLevel at h
  refine g_aloadn C dX1_setLevel_0 0 rfl ?_
  refine g_iloadn C dX1_setLevel_1 1 rfl ?_
  refine g_cVi (st := []) C dX1_setLevel_2 ykX1_has wd_492 ⟨by decide, by decide⟩ [gI a1] rfl (Nat.le_of_ble_eq_true rfl) hT0 (fun hM ho => sX1_has hD c0 a1 M0 _ hT0 h hM ho) (fun r2 M1 h => ?_)
  obtain ⟨P4, h, hP4⟩ := h
  have J5 : ∀ (M3 : gMem), P4 M3 → gG X V 3 15 [] [] M3 := by
    intro M3 h
    replace h := hP4 M3 h
    exact g_vret C hR dX1_setLevel_15 h
  refine g_if_eq (t := 15) C dX1_setLevel_5 (by decide) (fun c6 => ?_) (fun c6 => ?_)
  · replace h := h.1 c6
    refine g_sub [] [] rfl ?_
    exact J5 M1 h
  · replace h := h.2 c6
    refine g_aloadn C dX1_setLevel_8 0 rfl ?_
    refine gf_1_5 C dX1_setLevel_9 wd_117 hT0 ?_
    refine g_iloadn C dX1_setLevel_12 1 rfl ?_
    refine g_iloadn C dX1_setLevel_13 2 rfl ?_
    refine g_iast C dX1_setLevel_14 (gt_1_5 hT0) gce_10012 h.1 ?_
    replace h := h.2
    obtain ⟨M7, eM7⟩ : ∃ x : gMem, x = gup M1 (c0 + 2) a1 a2 := ⟨_, rfl⟩
    refine g_nmM eM7 ?_
    replace h := h M7 eM7
    refine g_sub [] [] rfl ?_
    exact J5 M7 h

set_option maxRecDepth 100000 in
set_option maxHeartbeats 4000000 in
theorem sX7_readLevel {l : Launch} {V : gW} (hD : gD V) (c0 a1 : Int) (M0 : gMem) (K : Int → gMem → Prop) (hT0 : gT c0 7) (hT1 : gT a1 1) (h : wX7_readLevel c0 a1 K M0) (hM : gOM M0) (ho : ∀ q ∈ ([gF a1] : List gSV), gOK q) : gMi l V yX7_readLevel cX7_readLevel 4 (some .boolean) 2 43 [gF c0, gF a1] M0 K := by
  refine gMi_of hD (by decide) (Nat.le_of_ble_eq_true rfl) [(0, gF c0), (1, gF a1)] rfl (gok_L rfl (gok_n (q := gF c0) trivial ho)) hM (fun X C hR => ?_)
  unfold wX7_readLevel at h
  refine g_aloadn C dX7_readLevel_0 0 rfl ?_
  refine g_cVv (st := []) C dX7_readLevel_1 ykX7_pass wd_403 ⟨by decide, by decide⟩ [] rfl (Nat.le_of_ble_eq_true rfl) hT0 (fun hM ho => sX7_pass hD c0 M0 _ hT0 h hM ho) (fun M1 h => ?_)
  refine g_aloadn C dX7_readLevel_4 0 rfl ?_
  refine g_iconst C dX7_readLevel_5 gRc_0 ?_
  refine g_aloadn C dX7_readLevel_6 1 rfl ?_
  refine gf_1_0 C dX7_readLevel_7 wd_106 hT1 ?_
  refine g_iconst C dX7_readLevel_10 gRc_1 ?_
  refine g_isub C dX7_readLevel_11 h.1 ?_
  replace h := h.2
  refine g_cVi (st := []) C dX7_readLevel_12 ykX7_number wd_472 ⟨by decide, by decide⟩ [gI 0, gI ((M1 a1 0) - 1)] rfl (Nat.le_of_ble_eq_true rfl) hT0 (fun hM ho => sX7_number hD c0 0 ((M1 a1 0) - 1) M1 _ hT0 h hM ho) (fun r3 M2 h => ?_)
  refine g_istoren C [(2, gI r3), (0, gF c0), (1, gF a1)] dX7_readLevel_15 (by decide) rfl ?_
  refine g_iloadn C dX7_readLevel_16 0 rfl ?_
  refine g_iconst C dX7_readLevel_17 gRc_m1 ?_
  refine g_ic_ne (t := 23) C dX7_readLevel_18 (by decide) (fun c4 => ?_) (fun c4 => ?_)
  · replace h := h.1 c4
    refine g_aloadn C dX7_readLevel_23 1 rfl ?_
    refine g_cVv (st := []) C dX7_readLevel_24 ykX7_pass wd_403 ⟨by decide, by decide⟩ [] rfl (Nat.le_of_ble_eq_true rfl) hT0 (fun hM ho => sX7_pass hD c0 M2 _ hT0 h hM ho) (fun M5 h => ?_)
    refine g_aloadn C dX7_readLevel_27 1 rfl ?_
    refine g_iconst C dX7_readLevel_28 gRc_0 ?_
    refine g_iconst C dX7_readLevel_29 gRc_2 ?_
    refine g_cVi (st := []) C dX7_readLevel_30 ykX7_number wd_472 ⟨by decide, by decide⟩ [gI 0, gI 2] rfl (Nat.le_of_ble_eq_true rfl) hT0 (fun hM ho => sX7_number hD c0 0 2 M5 _ hT0 h hM ho) (fun r7 M6 h => ?_)
    refine g_istoren C [(3, gI r7), (2, gI r3), (0, gF c0), (1, gF a1)] dX7_readLevel_33 (by decide) rfl ?_
    refine g_iloadn C dX7_readLevel_34 0 rfl ?_
    refine g_iconst C dX7_readLevel_35 gRc_m1 ?_
    refine g_ic_ne (t := 41) C dX7_readLevel_36 (by decide) (fun c8 => ?_) (fun c8 => ?_)
    · replace h := h.1 c8
      refine g_aloadn C dX7_readLevel_41 3 rfl ?_
      refine g_iloadn C dX7_readLevel_42 1 rfl ?_
      refine g_iloadn C dX7_readLevel_43 0 rfl ?_
      refine g_cVv (st := []) C dX7_readLevel_44 ykX1_setLevel wd_508 ⟨by decide, by decide⟩ [gI r3, gI r7] rfl (Nat.le_of_ble_eq_true rfl) hT1 (fun hM ho => sX1_setLevel hD a1 r3 r7 M6 _ hT1 h hM ho) (fun M9 h => ?_)
      refine g_aloadn C dX7_readLevel_47 2 rfl ?_
      refine g_cVv (st := []) C dX7_readLevel_48 ykX7_pass wd_403 ⟨by decide, by decide⟩ [] rfl (Nat.le_of_ble_eq_true rfl) hT0 (fun hM ho => sX7_pass hD c0 M9 _ hT0 h hM ho) (fun M10 h => ?_)
      refine g_iconst C dX7_readLevel_51 gRc_1 ?_
      exact g_zret C hR dX7_readLevel_52 (Or.inr rfl) h
    · replace h := h.2 c8
      refine g_iconst C dX7_readLevel_39 gRc_0 ?_
      exact g_zret C hR dX7_readLevel_40 (Or.inl rfl) h
  · replace h := h.2 c4
    refine g_iconst C dX7_readLevel_21 gRc_0 ?_
    exact g_zret C hR dX7_readLevel_22 (Or.inl rfl) h

set_option maxRecDepth 100000 in
set_option maxHeartbeats 4000000 in
theorem sX7_readClause {l : Launch} {V : gW} (hD : gD V) (c0 a1 : Int) (M0 : gMem) (K : Int → gMem → Prop) (hT0 : gT c0 7) (hT1 : gT a1 1) (h : wX7_readClause c0 a1 K M0) (hM : gOM M0) (ho : ∀ q ∈ ([gF a1] : List gSV), gOK q) : gMi l V yX7_readClause cX7_readClause 2 (some .boolean) 6 152 [gF c0, gF a1] M0 K := by
  refine gMi_of hD (by decide) (Nat.le_of_ble_eq_true rfl) [(0, gF c0), (1, gF a1)] rfl (gok_L rfl (gok_n (q := gF c0) trivial ho)) hM (fun X C hR => ?_)
  unfold wX7_readClause at h
  refine g_aloadn C dX7_readClause_0 0 rfl ?_
  refine g_ldcS_0 C dX7_readClause_1 ?_
  refine g_cVi (st := []) C dX7_readClause_3 ykX7_isWord wd_416 ⟨by decide, by decide⟩ [gB ((gvk V (0 : Int).toNat : Nat) : Int)] rfl (Nat.le_of_ble_eq_true rfl) hT0 (fun hM ho => sX7_isWord hD c0 0 M0 _ hT0 ⟨by decide, by decide⟩ h hM ho) (fun r2 M1 h => ?_)
  refine g_if_eq (t := 15) C dX7_readClause_6 (by decide) (fun c3 => ?_) (fun c3 => ?_)
  · replace h := h.1 c3
    refine g_aloadn C dX7_readClause_15 0 rfl ?_
    refine g_ldcS_1 C dX7_readClause_16 ?_
    refine g_cVi (st := []) C dX7_readClause_18 ykX7_isWord wd_416 ⟨by decide, by decide⟩ [gB ((gvk V (1 : Int).toNat : Nat) : Int)] rfl (Nat.le_of_ble_eq_true rfl) hT0 (fun hM ho => sX7_isWord hD c0 1 M1 _ hT0 ⟨by decide, by decide⟩ h hM ho) (fun r5 M4 h => ?_)
    refine g_if_eq (t := 30) C dX7_readClause_21 (by decide) (fun c6 => ?_) (fun c6 => ?_)
    · replace h := h.1 c6
      refine g_aloadn C dX7_readClause_30 0 rfl ?_
      refine g_ldcS_2 C dX7_readClause_31 ?_
      refine g_cVi (st := []) C dX7_readClause_33 ykX7_isWord wd_416 ⟨by decide, by decide⟩ [gB ((gvk V (2 : Int).toNat : Nat) : Int)] rfl (Nat.le_of_ble_eq_true rfl) hT0 (fun hM ho => sX7_isWord hD c0 2 M4 _ hT0 ⟨by decide, by decide⟩ h hM ho) (fun r8 M7 h => ?_)
      obtain ⟨P11, h, hP11⟩ := h
      have J12 : ∀ (x9 : Int) (M10 : gMem), P11 x9 M10 → gG X V 2 52 [] [gI x9] M10 := by
        intro x9 M10 h
        replace h := hP11 x9 M10 h
        exact g_zret C hR dX7_readClause_52 h.1 h.2
      obtain ⟨P14, h, hP14⟩ := h
      have J15 : ∀ (M13 : gMem), P14 M13 → gG X V 2 51 [] [] M13 := by
        intro M13 h
        replace h := hP14 M13 h
        refine g_iconst C dX7_readClause_51 gRc_0 ?_
        exact J12 0 M13 h
      refine g_if_eq (t := 51) C dX7_readClause_36 (by decide) (fun c16 => ?_) (fun c16 => ?_)
      · replace h := h.1 c16
        refine g_sub [] [] rfl ?_
        exact J15 M7 h
      · replace h := h.2 c16
        refine g_aloadn C dX7_readClause_39 0 rfl ?_
        refine g_aloadn C dX7_readClause_40 1 rfl ?_
        refine g_cVi (st := []) C dX7_readClause_41 ykX7_readLevel wd_504 ⟨by decide, by decide⟩ [gF a1] rfl (Nat.le_of_ble_eq_true rfl) hT0 (fun hM ho => sX7_readLevel hD c0 a1 M7 _ hT0 hT1 h hM ho) (fun r18 M17 h => ?_)
        refine g_if_eq (t := 51) C dX7_readClause_44 (by decide) (fun c19 => ?_) (fun c19 => ?_)
        · replace h := h.1 c19
          refine g_sub [] [] rfl ?_
          exact J15 M17 h
        · replace h := h.2 c19
          refine g_iconst C dX7_readClause_47 gRc_1 ?_
          refine g_goto (t := 52) C dX7_readClause_48 (by decide) ?_
          refine g_sub [] [] rfl ?_
          exact J12 1 M17 h
    · replace h := h.2 c6
      refine g_aloadn C dX7_readClause_24 0 rfl ?_
      refine g_aloadn C dX7_readClause_25 1 rfl ?_
      refine g_cVi (st := []) C dX7_readClause_26 ykX7_readLink wd_484 ⟨by decide, by decide⟩ [gF a1] rfl (Nat.le_of_ble_eq_true rfl) hT0 (fun hM ho => sX7_readLink hD c0 a1 M4 _ hT0 hT1 h hM ho) (fun r21 M20 h => ?_)
      exact g_zret C hR dX7_readClause_29 h.1 h.2
  · replace h := h.2 c3
    refine g_aloadn C dX7_readClause_9 0 rfl ?_
    refine g_aloadn C dX7_readClause_10 1 rfl ?_
    refine g_cVi (st := []) C dX7_readClause_11 ykX7_readNet wd_468 ⟨by decide, by decide⟩ [gF a1] rfl (Nat.le_of_ble_eq_true rfl) hT0 (fun hM ho => sX7_readNet hD c0 a1 M1 _ hT0 hT1 h hM ho) (fun r23 M22 h => ?_)
    exact g_zret C hR dX7_readClause_14 h.1 h.2

set_option maxRecDepth 100000 in
set_option maxHeartbeats 4000000 in
theorem sX7_isSemicolon {l : Launch} {V : gW} (hD : gD V) (c0 : Int) (M0 : gMem) (K : Int → gMem → Prop) (hT0 : gT c0 7) (h : wX7_isSemicolon c0 K M0) (hM : gOM M0) (ho : ∀ q ∈ ([] : List gSV), gOK q) : gMi l V yX7_isSemicolon cX7_isSemicolon 1 (some .boolean) 0 0 [gF c0] M0 K := by
  refine gMi_of hD (by decide) (Nat.le_of_ble_eq_true rfl) [(0, gF c0)] rfl (gok_L rfl (gok_n (q := gF c0) trivial ho)) hM (fun X C hR => ?_)
  unfold wX7_isSemicolon at h
  refine g_aloadn C dX7_isSemicolon_0 0 rfl ?_
  refine gf_7_3 C dX7_isSemicolon_1 wd_144 hT0 ?_
  refine g_iconst C dX7_isSemicolon_4 gRc_3 ?_
  obtain ⟨P3, h, hP3⟩ := h
  have J4 : ∀ (x1 : Int) (M2 : gMem), P3 x1 M2 → gG X V 1 27 [] [gI x1] M2 := by
    intro x1 M2 h
    replace h := hP3 x1 M2 h
    exact g_zret C hR dX7_isSemicolon_27 h.1 h.2
  obtain ⟨P6, h, hP6⟩ := h
  have J7 : ∀ (M5 : gMem), P6 M5 → gG X V 1 26 [] [] M5 := by
    intro M5 h
    replace h := hP6 M5 h
    refine g_iconst C dX7_isSemicolon_26 gRc_0 ?_
    exact J4 0 M5 h
  refine g_ic_ne (t := 26) C dX7_isSemicolon_5 (by decide) (fun c8 => ?_) (fun c8 => ?_)
  · replace h := h.1 c8
    refine g_sub [] [] rfl ?_
    exact J7 M0 h
  · replace h := h.2 c8
    refine g_aloadn C dX7_isSemicolon_8 0 rfl ?_
    refine gf_7_6 C dX7_isSemicolon_9 wd_147 hT0 ?_
    refine g_aloadn C dX7_isSemicolon_12 0 rfl ?_
    refine gf_7_4 C dX7_isSemicolon_13 wd_145 hT0 ?_
    refine g_iald C dX7_isSemicolon_16 (gt_7_6 hT0) gce_10200 h.1 ?_
    replace h := h.2
    refine g_bipush C dX7_isSemicolon_17 gRc_59 gRb_59 ?_
    refine g_ic_ne (t := 26) C dX7_isSemicolon_19 (by decide) (fun c9 => ?_) (fun c9 => ?_)
    · replace h := h.1 c9
      refine g_sub [] [] rfl ?_
      exact J7 M0 h
    · replace h := h.2 c9
      refine g_iconst C dX7_isSemicolon_22 gRc_1 ?_
      refine g_goto (t := 27) C dX7_isSemicolon_23 (by decide) ?_
      refine g_sub [] [] rfl ?_
      exact J4 1 M0 h

set_option maxRecDepth 100000 in
set_option maxHeartbeats 4000000 in
theorem sX7_readInto {l : Launch} {V : gW} (hD : gD V) (c0 a1 : Int) (M0 : gMem) (K : Int → gMem → Prop) (hT0 : gT c0 7) (hT1 : gT a1 1) (h : wX7_readInto c0 a1 K M0) (hM : gOM M0) (ho : ∀ q ∈ ([gF a1] : List gSV), gOK q) : gMi l V yX7_readInto cX7_readInto 3 (some .int) 7 173 [gF c0, gF a1] M0 K := by
  refine gMi_of hD (by decide) (Nat.le_of_ble_eq_true rfl) [(0, gF c0), (1, gF a1)] rfl (gok_L rfl (gok_n (q := gF c0) trivial ho)) hM (fun X C hR => ?_)
  unfold wX7_readInto at h
  refine g_aloadn C dX7_readInto_0 0 rfl ?_
  refine g_iconst C dX7_readInto_1 gRc_0 ?_
  refine gp_7_1 C dX7_readInto_2 wd_140 hT0 ?_
  obtain ⟨M1, eM1⟩ : ∃ x : gMem, x = gup M0 c0 1 0 := ⟨_, rfl⟩
  refine g_nmM eM1 ?_
  replace h := h M1 eM1
  refine g_aloadn C dX7_readInto_5 0 rfl ?_
  refine g_iconst C dX7_readInto_6 gRc_0 ?_
  refine gp_7_2 C dX7_readInto_7 wd_142 hT0 (Or.inl rfl) ?_
  obtain ⟨M2, eM2⟩ : ∃ x : gMem, x = gup M1 c0 2 0 := ⟨_, rfl⟩
  refine g_nmM eM2 ?_
  replace h := h M2 eM2
  refine g_aloadn C dX7_readInto_10 0 rfl ?_
  refine g_iconst C dX7_readInto_11 gRc_0 ?_
  refine gp_7_5 C dX7_readInto_12 wd_146 hT0 ?_
  obtain ⟨M3, eM3⟩ : ∃ x : gMem, x = gup M2 c0 5 0 := ⟨_, rfl⟩
  refine g_nmM eM3 ?_
  replace h := h M3 eM3
  refine g_aloadn C dX7_readInto_15 0 rfl ?_
  refine g_cVv (st := []) C dX7_readInto_16 ykX7_pass wd_403 ⟨by decide, by decide⟩ [] rfl (Nat.le_of_ble_eq_true rfl) hT0 (fun hM ho => sX7_pass hD c0 M3 _ hT0 h hM ho) (fun M4 h => ?_)
  refine g_iconst C dX7_readInto_19 gRc_0 ?_
  refine g_istoren C [(2, gI 0), (0, gF c0), (1, gF a1)] dX7_readInto_20 (by decide) rfl ?_
  refine g_sub [(0, gF c0), (1, gF a1), (2, gI 0)] [1, 2, 0] rfl ?_
  refine gL1_go (Gd := fun (v5 : Int) (M6 : gMem) => gG X V 3 21 [(0, gF c0), (1, gF a1), (2, gI v5)] [] M6) (fun rec7 hrec7 v5 M6 h => ?_) h
  refine g_iloadn C dX7_readInto_21 2 rfl ?_
  refine g_bipush C dX7_readInto_22 gRc_24 gRb_24 ?_
  refine g_ic_ge (t := 91) C dX7_readInto_24 (by decide) (fun c8 => ?_) (fun c8 => ?_)
  · replace h := h.1 c8
    refine g_aloadn C dX7_readInto_91 0 rfl ?_
    refine gf_7_4 C dX7_readInto_92 wd_145 hT0 ?_
    exact g_iret C hR dX7_readInto_95 h
  · replace h := h.2 c8
    refine g_aloadn C dX7_readInto_27 0 rfl ?_
    refine g_aloadn C dX7_readInto_28 1 rfl ?_
    refine g_cVi (st := []) C dX7_readInto_29 ykX7_readClause wd_411 ⟨by decide, by decide⟩ [gF a1] rfl (Nat.le_of_ble_eq_true rfl) hT0 (fun hM ho => sX7_readClause hD c0 a1 M6 _ hT0 hT1 h hM ho) (fun r10 M9 h => ?_)
    refine g_if_ne (t := 40) C dX7_readInto_32 (by decide) (fun c11 => ?_) (fun c11 => ?_)
    · replace h := h.1 c11
      refine g_aloadn C dX7_readInto_40 0 rfl ?_
      refine g_dup C dX7_readInto_41 (fun e => by cases e) ?_
      refine gf_7_1 C dX7_readInto_42 wd_140 hT0 ?_
      refine g_iconst C dX7_readInto_45 gRc_1 ?_
      refine g_iadd C dX7_readInto_46 h.1 ?_
      replace h := h.2
      refine gp_7_1 C dX7_readInto_47 wd_140 hT0 ?_
      obtain ⟨M12, eM12⟩ : ∃ x : gMem, x = gup M9 c0 1 ((M9 c0 1) + 1) := ⟨_, rfl⟩
      refine g_nmM eM12 ?_
      replace h := h M12 eM12
      refine g_aloadn C dX7_readInto_50 0 rfl ?_
      refine gf_7_3 C dX7_readInto_51 wd_144 hT0 ?_
      refine g_iconst C dX7_readInto_54 gRc_4 ?_
      refine g_ic_ne (t := 60) C dX7_readInto_55 (by decide) (fun c13 => ?_) (fun c13 => ?_)
      · replace h := h.1 c13
        refine g_aloadn C dX7_readInto_60 0 rfl ?_
        refine g_cVi (st := []) C dX7_readInto_61 ykX7_isSemicolon wd_512 ⟨by decide, by decide⟩ [] rfl (Nat.le_of_ble_eq_true rfl) hT0 (fun hM ho => sX7_isSemicolon hD c0 M12 _ hT0 h hM ho) (fun r15 M14 h => ?_)
        obtain ⟨P17, h, hP17⟩ := h
        have J18 : ∀ (M16 : gMem), P17 M16 → gG X V 3 76 [(0, gF c0)] [] M16 := by
          intro M16 h
          replace h := hP17 M16 h
          refine g_aloadn C dX7_readInto_76 0 rfl ?_
          refine gf_7_4 C dX7_readInto_77 wd_145 hT0 ?_
          exact g_iret C hR dX7_readInto_80 h
        refine g_if_eq (t := 76) C dX7_readInto_64 (by decide) (fun c19 => ?_) (fun c19 => ?_)
        · replace h := h.1 c19
          refine g_sub [(0, gF c0)] [0] rfl ?_
          exact J18 M14 h
        · replace h := h.2 c19
          refine g_aloadn C dX7_readInto_67 0 rfl ?_
          refine gf_7_1 C dX7_readInto_68 wd_140 hT0 ?_
          refine g_bipush C dX7_readInto_71 gRc_24 gRb_24 ?_
          refine g_ic_ne (t := 81) C dX7_readInto_73 (by decide) (fun c20 => ?_) (fun c20 => ?_)
          · replace h := h.1 c20
            refine g_aloadn C dX7_readInto_81 0 rfl ?_
            refine g_cVv (st := []) C dX7_readInto_82 ykX7_pass wd_403 ⟨by decide, by decide⟩ [] rfl (Nat.le_of_ble_eq_true rfl) hT0 (fun hM ho => sX7_pass hD c0 M14 _ hT0 h hM ho) (fun M21 h => ?_)
            refine g_iinc C [(2, gI (v5 + 1)), (0, gF c0), (1, gF a1)] dX7_readInto_85 2 rfl (by decide) h.1 rfl ?_
            replace h := h.2
            refine g_goto (t := 21) C dX7_readInto_88 (by decide) ?_
            refine g_sub [(0, gF c0), (1, gF a1), (2, gI (v5 + 1))] [1, 2, 0] rfl ?_
            exact hrec7 (v5 + 1) M21 h
          · replace h := h.2 c20
            refine g_sub [(0, gF c0)] [0] rfl ?_
            exact J18 M14 h
      · replace h := h.2 c13
        refine g_iconst C dX7_readInto_58 gRc_m1 ?_
        exact g_iret C hR dX7_readInto_59 h
    · replace h := h.2 c11
      refine g_aloadn C dX7_readInto_35 0 rfl ?_
      refine gf_7_4 C dX7_readInto_36 wd_145 hT0 ?_
      exact g_iret C hR dX7_readInto_39 h
