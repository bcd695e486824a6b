set_option maxRecDepth 100000 in
set_option maxHeartbeats 4000000 in
theorem sX10_nextOf {l : Launch} {V : gW} (hD : gD V) (c0 a1 a2 : Int) (M0 : gMem) (K : Int → gMem → Prop) (hT0 : gT c0 10) (h : wX10_nextOf c0 a1 a2 K M0) (hM : gOM M0) (ho : ∀ q ∈ ([gI a1, gI a2] : List gSV), gOK q) : gMi l V yX10_nextOf cX10_nextOf 4 (some .int) 1 22 [gF c0, gI a1, gI a2] M0 K := by
  refine gMi_of hD (by decide) (Nat.le_of_ble_eq_true rfl) [(0, gF c0), (1, gI a1), (2, gI a2)] rfl (gok_L rfl (gok_n (q := gF c0) trivial ho)) hM (fun X C hR => ?_)
  unfold wX10_nextOf at h
  refine g_iconst C dX10_nextOf_0 gRc_0 ?_
  refine g_istoren C [(3, gI 0), (0, gF c0), (1, gI a1), (2, gI a2)] dX10_nextOf_1 (by decide) rfl ?_
  refine g_sub [(0, gF c0), (1, gI a1), (2, gI a2), (3, gI 0)] [1, 2, 3, 0] rfl ?_
  refine gL1_go (Gd := fun (v1 : Int) (M2 : gMem) => gG X V 4 2 [(0, gF c0), (1, gI a1), (2, gI a2), (3, gI v1)] [] M2) (fun rec3 hrec3 v1 M2 h => ?_) h
  refine g_iloadn C dX10_nextOf_2 3 rfl ?_
  refine g_aloadn C dX10_nextOf_3 0 rfl ?_
  refine gf_10_2 C dX10_nextOf_4 wd_857 hT0 ?_
  obtain ⟨P5, h, hP5⟩ := h
  have J6 : ∀ (M4 : gMem), P5 M4 → gG X V 4 73 [] [] M4 := by
    intro M4 h
    replace h := hP5 M4 h
    refine g_iconst C dX10_nextOf_73 gRc_m1 ?_
    exact g_iret C hR dX10_nextOf_74 h
  refine g_ic_ge (t := 73) C dX10_nextOf_7 (by decide) (fun c7 => ?_) (fun c7 => ?_)
  · replace h := h.1 c7
    refine g_sub [] [] rfl ?_
    exact J6 M2 h
  · replace h := h.2 c7
    refine g_iloadn C dX10_nextOf_10 1 rfl ?_
    refine g_iloadn C dX10_nextOf_11 2 rfl ?_
    refine g_ic_eq (t := 73) C dX10_nextOf_12 (by decide) (fun c8 => ?_) (fun c8 => ?_)
    · replace h := h.1 c8
      refine g_sub [] [] rfl ?_
      exact J6 M2 h
    · replace h := h.2 c8
      refine g_aloadn C dX10_nextOf_15 0 rfl ?_
      refine g_iloadn C dX10_nextOf_16 1 rfl ?_
      refine g_iloadn C dX10_nextOf_17 2 rfl ?_
      refine g_cVi (st := []) C dX10_nextOf_18 ykX10_isWay wd_1035 ⟨by decide, by decide⟩ [gI a1, gI a2] rfl (Nat.le_of_ble_eq_true rfl) hT0 (fun hM ho => sX10_isWay hD c0 a1 a2 M2 _ hT0 h hM ho) (fun r10 M9 h => ?_)
      refine g_if_eq (t := 73) C dX10_nextOf_21 (by decide) (fun c11 => ?_) (fun c11 => ?_)
      · replace h := h.1 c11
        refine g_sub [] [] rfl ?_
        exact J6 M9 h
      · replace h := h.2 c11
        refine g_aloadn C dX10_nextOf_24 0 rfl ?_
        refine g_iloadn C dX10_nextOf_25 1 rfl ?_
        refine g_iloadn C dX10_nextOf_26 3 rfl ?_
        refine g_cVi (st := []) C dX10_nextOf_27 ykX10_length wd_1068 ⟨by decide, by decide⟩ [gI a1, gI v1] rfl (Nat.le_of_ble_eq_true rfl) hT0 (fun hM ho => sX10_length hD c0 a1 v1 M9 _ hT0 h hM ho) (fun r13 M12 h => ?_)
        obtain ⟨P15, h, hP15⟩ := h
        have J16 : ∀ (M14 : gMem), P15 M14 → gG X V 4 67 [(0, gF c0), (1, gI a1), (2, gI a2), (3, gI v1)] [] M14 := by
          intro M14 h
          replace h := hP15 M14 h
          refine g_iinc C [(3, gI (v1 + 1)), (0, gF c0), (1, gI a1), (2, gI a2)] dX10_nextOf_67 3 rfl (by decide) h.1 rfl ?_
          replace h := h.2
          refine g_goto (t := 2) C dX10_nextOf_70 (by decide) ?_
          refine g_sub [(0, gF c0), (1, gI a1), (2, gI a2), (3, gI (v1 + 1))] [1, 2, 3, 0] rfl ?_
          exact hrec3 (v1 + 1) M14 h
        refine g_if_le (t := 67) C dX10_nextOf_30 (by decide) (fun c17 => ?_) (fun c17 => ?_)
        · replace h := h.1 c17
          exact J16 M12 h
        · replace h := h.2 c17
          refine g_aloadn C dX10_nextOf_33 0 rfl ?_
          refine g_iloadn C dX10_nextOf_34 1 rfl ?_
          refine g_iloadn C dX10_nextOf_35 3 rfl ?_
          refine g_cVi (st := []) C dX10_nextOf_36 ykX10_length wd_1068 ⟨by decide, by decide⟩ [gI a1, gI v1] rfl (Nat.le_of_ble_eq_true rfl) hT0 (fun hM ho => sX10_length hD c0 a1 v1 M12 _ hT0 h hM ho) (fun r19 M18 h => ?_)
          refine g_aloadn C dX10_nextOf_39 0 rfl ?_
          refine gf_10_16 C dX10_nextOf_40 wd_871 hT0 ?_
          refine g_bipush C dX10_nextOf_43 gRc_12 gRb_12 ?_
          refine g_iloadn C dX10_nextOf_45 3 rfl ?_
          refine g_imul C dX10_nextOf_46 h.1 ?_
          replace h := h.2
          refine g_iloadn C dX10_nextOf_47 2 rfl ?_
          refine g_iadd C dX10_nextOf_48 h.1 ?_
          replace h := h.2
          refine g_iald C dX10_nextOf_49 (gt_10_16 hT0) gce_10144 h.1 ?_
          replace h := h.2
          refine g_iadd C dX10_nextOf_50 h.1 ?_
          replace h := h.2
          refine g_aloadn C dX10_nextOf_51 0 rfl ?_
          refine gf_10_16 C dX10_nextOf_52 wd_871 hT0 ?_
          refine g_bipush C dX10_nextOf_55 gRc_12 gRb_12 ?_
          refine g_iloadn C dX10_nextOf_57 1 rfl ?_
          refine g_imul C dX10_nextOf_58 h.1 ?_
          replace h := h.2
          refine g_iloadn C dX10_nextOf_59 2 rfl ?_
          refine g_iadd C dX10_nextOf_60 h.1 ?_
          replace h := h.2
          refine g_iald C dX10_nextOf_61 (gt_10_16 hT0) gce_10144 h.1 ?_
          replace h := h.2
          refine g_ic_ne (t := 67) C dX10_nextOf_62 (by decide) (fun c20 => ?_) (fun c20 => ?_)
          · replace h := h.1 c20
            exact J16 M18 h
          · replace h := h.2 c20
            refine g_iloadn C dX10_nextOf_65 3 rfl ?_
            exact g_iret C hR dX10_nextOf_66 h

set_option maxRecDepth 100000 in
set_option maxHeartbeats 4000000 in
theorem sX10_next {l : Launch} {V : gW} (hD : gD V) (c0 a1 a2 : Int) (M0 : gMem) (K : Int → gMem → Prop) (hT0 : gT c0 10) (h : wX10_next c0 a1 a2 K M0) (hM : gOM M0) (ho : ∀ q ∈ ([gI a1, gI a2] : List gSV), gOK q) : gMi l V yX10_next cX10_next 3 (some .int) 2 46 [gF c0, gI a1, gI a2] M0 K := by
  refine gMi_of hD (by decide) (Nat.le_of_ble_eq_true rfl) [(0, gF c0), (1, gI a1), (2, gI a2)] rfl (gok_L rfl (gok_n (q := gF c0) trivial ho)) hM (fun X C hR => ?_)
  unfold wX10_next at h
  refine g_aloadn C dX10_next_0 0 rfl ?_
  refine g_iloadn C dX10_next_1 1 rfl ?_
  refine g_cVi (st := []) C dX10_next_2 ykX10_isNode wd_1022 ⟨by decide, by decide⟩ [gI a1] rfl (Nat.le_of_ble_eq_true rfl) hT0 (fun hM ho => sX10_isNode hD c0 a1 M0 _ hT0 h hM ho) (fun r2 M1 h => ?_)
  obtain ⟨P4, h, hP4⟩ := h
  have J5 : ∀ (M3 : gMem), P4 M3 → gG X V 3 16 [] [] M3 := by
    intro M3 h
    replace h := hP4 M3 h
    refine g_bipush C dX10_next_16 gRc_m2 gRb_m2 ?_
    exact g_iret C hR dX10_next_18 h
  refine g_if_eq (t := 16) C dX10_next_5 (by decide) (fun c6 => ?_) (fun c6 => ?_)
  · replace h := h.1 c6
    refine g_sub [] [] rfl ?_
    exact J5 M1 h
  · replace h := h.2 c6
    refine g_aloadn C dX10_next_8 0 rfl ?_
    refine g_iloadn C dX10_next_9 2 rfl ?_
    refine g_cVi (st := []) C dX10_next_10 ykX10_isNode wd_1022 ⟨by decide, by decide⟩ [gI a2] rfl (Nat.le_of_ble_eq_true rfl) hT0 (fun hM ho => sX10_isNode hD c0 a2 M1 _ hT0 h hM ho) (fun r8 M7 h => ?_)
    refine g_if_ne (t := 19) C dX10_next_13 (by decide) (fun c9 => ?_) (fun c9 => ?_)
    · replace h := h.1 c9
      refine g_aloadn C dX10_next_19 0 rfl ?_
      refine g_iconst C dX10_next_20 gRc_0 ?_
      refine g_cVv (st := []) C dX10_next_21 ykX10_finds wd_1030 ⟨by decide, by decide⟩ [gI 0] rfl (Nat.le_of_ble_eq_true rfl) hT0 (fun hM ho => sX10_finds hD c0 0 M7 _ hT0 h hM ho) (fun M10 h => ?_)
      refine g_aloadn C dX10_next_24 0 rfl ?_
      refine g_iloadn C dX10_next_25 1 rfl ?_
      refine g_iloadn C dX10_next_26 2 rfl ?_
      refine g_cVi (st := []) C dX10_next_27 ykX10_nextOf wd_1064 ⟨by decide, by decide⟩ [gI a1, gI a2] rfl (Nat.le_of_ble_eq_true rfl) hT0 (fun hM ho => sX10_nextOf hD c0 a1 a2 M10 _ hT0 h hM ho) (fun r12 M11 h => ?_)
      exact g_iret C hR dX10_next_30 h
    · replace h := h.2 c9
      refine g_sub [] [] rfl ?_
      exact J5 M7 h

set_option maxRecDepth 100000 in
set_option maxHeartbeats 4000000 in
theorem sX10_takes {l : Launch} {V : gW} (hD : gD V) (c0 a1 a2 : Int) (M0 : gMem) (K : gMem → Prop) (hT0 : gT c0 10) (h : wX10_takes c0 a1 a2 K M0) (hM : gOM M0) (ho : ∀ q ∈ ([gI a1, gI a2] : List gSV), gOK q) : gMv l V yX10_takes cX10_takes 5 1 25 [gF c0, gI a1, gI a2] M0 K := by
  refine gMv_of hD (by decide) (Nat.le_of_ble_eq_true rfl) [(0, gF c0), (1, gI a1), (2, gI a2)] rfl (gok_L rfl (gok_n (q := gF c0) trivial ho)) hM (fun X C hR => ?_)
  unfold wX10_takes at h
  refine g_iconst C dX10_takes_0 gRc_0 ?_
  refine g_istoren C [(3, gI 0), (0, gF c0), (1, gI a1), (2, gI a2)] dX10_takes_1 (by decide) rfl ?_
  refine g_sub [(0, gF c0), (1, gI a1), (2, gI a2), (3, gI 0)] [1, 2, 3, 0] rfl ?_
  refine gL1_go (Gd := fun (v1 : Int) (M2 : gMem) => gG X V 5 2 [(0, gF c0), (1, gI a1), (2, gI a2), (3, gI v1)] [] M2) (fun rec3 hrec3 v1 M2 h => ?_) h
  refine g_iloadn C dX10_takes_2 3 rfl ?_
  refine g_sipush C dX10_takes_3 gRc_144 gRs_144 ?_
  refine g_ic_ge (t := 87) C dX10_takes_6 (by decide) (fun c4 => ?_) (fun c4 => ?_)
  · replace h := h.1 c4
    exact g_vret C hR dX10_takes_87 h
  · replace h := h.2 c4
    refine g_iloadn C dX10_takes_9 3 rfl ?_
    refine g_bipush C dX10_takes_10 gRc_12 gRb_12 ?_
    refine g_idiv C dX10_takes_12 h.1 ?_
    replace h := h.2
    refine g_iloadn C dX10_takes_13 3 rfl ?_
    refine g_bipush C dX10_takes_14 gRc_12 gRb_12 ?_
    refine g_irem C dX10_takes_16 h.1 ?_
    replace h := h.2
    obtain ⟨P6, h, hP6⟩ := h
    have J7 : ∀ (M5 : gMem), P6 M5 → gG X V 5 81 [(0, gF c0), (1, gI a1), (2, gI a2), (3, gI v1)] [] M5 := by
      intro M5 h
      replace h := hP6 M5 h
      refine g_iinc C [(3, gI (v1 + 1)), (0, gF c0), (1, gI a1), (2, gI a2)] dX10_takes_81 3 rfl (by decide) h.1 rfl ?_
      replace h := h.2
      refine g_goto (t := 2) C dX10_takes_84 (by decide) ?_
      refine g_sub [(0, gF c0), (1, gI a1), (2, gI a2), (3, gI (v1 + 1))] [1, 2, 3, 0] rfl ?_
      exact hrec3 (v1 + 1) M5 h
    refine g_ic_ge (t := 81) C dX10_takes_17 (by decide) (fun c8 => ?_) (fun c8 => ?_)
    · replace h := h.1 c8
      exact J7 M2 h
    · replace h := h.2 c8
      refine g_aloadn C dX10_takes_20 0 rfl ?_
      refine gf_10_0 C dX10_takes_21 wd_855 hT0 ?_
      refine g_iloadn C dX10_takes_24 3 rfl ?_
      refine g_iald C dX10_takes_25 (gt_10_0 hT0) gce_11727 h.1 ?_
      replace h := h.2
      refine g_iloadn C dX10_takes_26 2 rfl ?_
      refine g_ic_ne (t := 81) C dX10_takes_27 (by decide) (fun c9 => ?_) (fun c9 => ?_)
      · replace h := h.1 c9
        exact J7 M2 h
      · replace h := h.2 c9
        refine g_aloadn C dX10_takes_30 0 rfl ?_
        refine g_iconst C dX10_takes_31 gRc_1 ?_
        refine g_cVv (st := []) C dX10_takes_32 ykX10_finds wd_1030 ⟨by decide, by decide⟩ [gI 1] rfl (Nat.le_of_ble_eq_true rfl) hT0 (fun hM ho => sX10_finds hD c0 1 M2 _ hT0 h hM ho) (fun M10 h => ?_)
        refine g_aloadn C dX10_takes_35 0 rfl ?_
        refine gf_10_16 C dX10_takes_36 wd_871 hT0 ?_
        refine g_iloadn C dX10_takes_39 3 rfl ?_
        refine g_iald C dX10_takes_40 (gt_10_16 hT0) gce_10144 h.1 ?_
        replace h := h.2
        refine g_iloadn C dX10_takes_41 1 rfl ?_
        refine g_iloadn C dX10_takes_42 2 rfl ?_
        refine g_imul C dX10_takes_43 h.1 ?_
        replace h := h.2
        obtain ⟨P13, h, hP13⟩ := h
        have J14 : ∀ (x11 : Int) (M12 : gMem), P13 x11 M12 → gG X V 5 52 [(0, gF c0), (1, gI a1), (2, gI a2), (3, gI v1)] [gI x11] M12 := by
          intro x11 M12 h
          replace h := hP13 x11 M12 h
          refine g_istore C [(4, gI x11), (0, gF c0), (1, gI a1), (2, gI a2), (3, gI v1)] dX10_takes_52 (by decide) rfl ?_
          refine g_aloadn C dX10_takes_54 1 rfl ?_
          refine gf_10_17 C dX10_takes_55 wd_872 hT0 ?_
          refine g_iloadn C dX10_takes_58 4 rfl ?_
          refine g_iload C dX10_takes_59 0 rfl ?_
          refine g_zast C dX10_takes_61 (gt_10_17 hT0) gce_20144 h.1 h.2.1 ?_
          replace h := h.2.2
          obtain ⟨M15, eM15⟩ : ∃ x : gMem, x = gup M12 (c0 + 9) v1 x11 := ⟨_, rfl⟩
          refine g_nmM eM15 ?_
          replace h := h M15 eM15
          refine g_aloadn C dX10_takes_62 1 rfl ?_
          refine gf_10_17 C dX10_takes_63 wd_872 hT0 ?_
          refine g_iloadn C dX10_takes_66 4 rfl ?_
          refine g_bipush C dX10_takes_67 gRc_12 gRb_12 ?_
          refine g_irem C dX10_takes_69 h.1 ?_
          replace h := h.2
          refine g_bipush C dX10_takes_70 gRc_12 gRb_12 ?_
          refine g_imul C dX10_takes_72 h.1 ?_
          replace h := h.2
          refine g_iloadn C dX10_takes_73 4 rfl ?_
          refine g_bipush C dX10_takes_74 gRc_12 gRb_12 ?_
          refine g_idiv C dX10_takes_76 h.1 ?_
          replace h := h.2
          refine g_iadd C dX10_takes_77 h.1 ?_
          replace h := h.2
          refine g_iload C dX10_takes_78 0 rfl ?_
          refine g_zast C dX10_takes_80 (gt_10_17 hT0) gce_20144 h.1 h.2.1 ?_
          replace h := h.2.2
          obtain ⟨M16, eM16⟩ : ∃ x : gMem, x = gup M15 (c0 + 9) (((v1 % 12) * 12) + (v1 / 12)) x11 := ⟨_, rfl⟩
          refine g_nmM eM16 ?_
          replace h := h M16 eM16
          refine g_sub [(0, gF c0), (1, gI a1), (2, gI a2), (3, gI v1)] [1, 2, 3, 4] rfl ?_
          exact J7 M16 h
        refine g_ic_le (t := 51) C dX10_takes_44 (by decide) (fun c17 => ?_) (fun c17 => ?_)
        · replace h := h.1 c17
          refine g_iconst C dX10_takes_51 gRc_0 ?_
          exact J14 0 M10 h
        · replace h := h.2 c17
          refine g_iconst C dX10_takes_47 gRc_1 ?_
          refine g_goto (t := 52) C dX10_takes_48 (by decide) ?_
          exact J14 1 M10 h

set_option maxRecDepth 100000 in
set_option maxHeartbeats 4000000 in
theorem sX10_thins {l : Launch} {V : gW} (hD : gD V) (c0 a1 : Int) (M0 : gMem) (K : gMem → Prop) (hT0 : gT c0 10) (h : wX10_thins c0 a1 K M0) (hM : gOM M0) (ho : ∀ q ∈ ([gI a1] : List gSV), gOK q) : gMv l V yX10_thins cX10_thins 3 2 49 [gF c0, gI a1] M0 K := by
  refine gMv_of hD (by decide) (Nat.le_of_ble_eq_true rfl) [(0, gF c0), (1, gI a1)] rfl (gok_L rfl (gok_n (q := gF c0) trivial ho)) hM (fun X C hR => ?_)
  unfold wX10_thins at h
  refine g_iconst C dX10_thins_0 gRc_0 ?_
  refine g_istoren C [(2, gI 0), (0, gF c0), (1, gI a1)] dX10_thins_1 (by decide) rfl ?_
  refine g_sub [(0, gF c0), (1, gI a1), (2, gI 0)] [1, 2, 0] rfl ?_
  refine gL1_go (Gd := fun (v1 : Int) (M2 : gMem) => gG X V 3 2 [(0, gF c0), (1, gI a1), (2, gI v1)] [] M2) (fun rec3 hrec3 v1 M2 h => ?_) h
  refine g_iloadn C dX10_thins_2 2 rfl ?_
  refine g_sipush C dX10_thins_3 gRc_144 gRs_144 ?_
  refine g_ic_ge (t := 22) C dX10_thins_6 (by decide) (fun c4 => ?_) (fun c4 => ?_)
  · replace h := h.1 c4
    refine g_iconst C dX10_thins_22 gRc_1 ?_
    refine g_istoren C [(2, gI 1), (0, gF c0), (1, gI a1)] dX10_thins_23 (by decide) rfl ?_
    refine g_sub [(0, gF c0), (1, gI a1), (2, gI 1)] [1, 2, 0] rfl ?_
    refine gL1_go (Gd := fun (v5 : Int) (M6 : gMem) => gG X V 3 24 [(0, gF c0), (1, gI a1), (2, gI v5)] [] M6) (fun rec7 hrec7 v5 M6 h => ?_) h
    refine g_iloadn C dX10_thins_24 2 rfl ?_
    refine g_bipush C dX10_thins_25 gRc_100 gRb_100 ?_
    refine g_ic_ge (t := 42) C dX10_thins_27 (by decide) (fun c8 => ?_) (fun c8 => ?_)
    · replace h := h.1 c8
      exact g_vret C hR dX10_thins_42 h
    · replace h := h.2 c8
      refine g_aloadn C dX10_thins_30 0 rfl ?_
      refine g_iloadn C dX10_thins_31 1 rfl ?_
      refine g_iloadn C dX10_thins_32 2 rfl ?_
      refine g_cVv (st := []) C dX10_thins_33 ykX10_takes wd_1081 ⟨by decide, by decide⟩ [gI a1, gI v5] rfl (Nat.le_of_ble_eq_true rfl) hT0 (fun hM ho => sX10_takes hD c0 a1 v5 M6 _ hT0 h hM ho) (fun M9 h => ?_)
      refine g_iinc C [(2, gI (v5 + 1)), (0, gF c0), (1, gI a1)] dX10_thins_36 2 rfl (by decide) h.1 rfl ?_
      replace h := h.2
      refine g_goto (t := 24) C dX10_thins_39 (by decide) ?_
      refine g_sub [(0, gF c0), (1, gI a1), (2, gI (v5 + 1))] [1, 2, 0] rfl ?_
      exact hrec7 (v5 + 1) M9 h
  · replace h := h.2 c4
    refine g_aloadn C dX10_thins_9 0 rfl ?_
    refine gf_10_17 C dX10_thins_10 wd_872 hT0 ?_
    refine g_iloadn C dX10_thins_13 2 rfl ?_
    refine g_iconst C dX10_thins_14 gRc_0 ?_
    refine g_zast C dX10_thins_15 (gt_10_17 hT0) gce_20144 h.1 (Or.inl rfl) ?_
    replace h := h.2
    obtain ⟨M10, eM10⟩ : ∃ x : gMem, x = gup M2 (c0 + 9) v1 0 := ⟨_, rfl⟩
    refine g_nmM eM10 ?_
    replace h := h M10 eM10
    refine g_iinc C [(2, gI (v1 + 1)), (0, gF c0), (1, gI a1)] dX10_thins_16 2 rfl (by decide) h.1 rfl ?_
    replace h := h.2
    refine g_goto (t := 2) C dX10_thins_19 (by decide) ?_
    refine g_sub [(0, gF c0), (1, gI a1), (2, gI (v1 + 1))] [1, 2, 0] rfl ?_
    exact hrec3 (v1 + 1) M10 h

set_option maxRecDepth 100000 in
set_option maxHeartbeats 4000000 in
theorem sX10_thinned {l : Launch} {V : gW} (hD : gD V) (c0 a1 a2 : Int) (M0 : gMem) (K : Int → gMem → Prop) (hT0 : gT c0 10) (h : wX10_thinned c0 a1 a2 K M0) (hM : gOM M0) (ho : ∀ q ∈ ([gI a1, gI a2] : List gSV), gOK q) : gMi l V yX10_thinned cX10_thinned 6 (some .int) 3 71 [gF c0, gI a1, gI a2] M0 K := by
  refine gMi_of hD (by decide) (Nat.le_of_ble_eq_true rfl) [(0, gF c0), (1, gI a1), (2, gI a2)] rfl (gok_L rfl (gok_n (q := gF c0) trivial ho)) hM (fun X C hR => ?_)
  unfold wX10_thinned at h
  refine g_iloadn C dX10_thinned_0 1 rfl ?_
  refine g_i2l C dX10_thinned_1 ?_
  refine g_lconst C dX10_thinned_2 (by decide) (show gOK (gJ 1) from ⟨by decide, by decide⟩) ?_
  refine g_ldc2 C dX10_thinned_3 wd_1076 (by decide) (show gOK (gJ 9) from ⟨by decide, by decide⟩) ?_
  refine g_cSi (st := []) C dX10_thinned_6 ykX10_in wd_937 ⟨by decide, by decide⟩ [gJ a1, gJ 1, gJ 9] rfl (Nat.le_of_ble_eq_true rfl) (fun hM ho => sX10_in hD a1 1 9 M0 _  h hM ho) (fun r2 M1 h => ?_)
  refine g_if_ne (t := 15) C dX10_thinned_9 (by decide) (fun c3 => ?_) (fun c3 => ?_)
  · replace h := h.1 c3
    refine g_iloadn C dX10_thinned_15 2 rfl ?_
    refine g_iconst C dX10_thinned_16 gRc_m1 ?_
    obtain ⟨P6, h, hP6⟩ := h
    have J7 : ∀ (x4 : Int) (M5 : gMem), P6 x4 M5 → gG X V 6 29 [(0, gF c0), (1, gI a1), (2, gI a2)] [gI x4] M5 := by
      intro x4 M5 h
      replace h := hP6 x4 M5 h
      refine g_istoren C [(3, gI x4), (0, gF c0), (1, gI a1), (2, gI a2)] dX10_thinned_29 (by decide) rfl ?_
      refine g_iloadn C dX10_thinned_30 0 rfl ?_
      refine g_if_ge (t := 37) C dX10_thinned_31 (by decide) (fun c8 => ?_) (fun c8 => ?_)
      · replace h := h.1 c8
        refine g_aloadn C dX10_thinned_37 1 rfl ?_
        refine g_iloadn C dX10_thinned_38 2 rfl ?_
        refine g_cVv (st := []) C dX10_thinned_39 ykX10_thins wd_1077 ⟨by decide, by decide⟩ [gI a1] rfl (Nat.le_of_ble_eq_true rfl) hT0 (fun hM ho => sX10_thins hD c0 a1 M5 _ hT0 h hM ho) (fun M9 h => ?_)
        refine g_iloadn C dX10_thinned_42 3 rfl ?_
        refine g_iconst C dX10_thinned_43 gRc_m1 ?_
        refine g_ic_eq (t := 62) C dX10_thinned_44 (by decide) (fun c10 => ?_) (fun c10 => ?_)
        · replace h := h.1 c10
          refine g_iconst C dX10_thinned_62 gRc_0 ?_
          refine g_istore C [(4, gI 0), (3, gI x4), (0, gF c0), (1, gI a1), (2, gI a2)] dX10_thinned_63 (by decide) rfl ?_
          refine g_iconst C dX10_thinned_65 gRc_0 ?_
          refine g_istore C [(5, gI 0), (4, gI 0), (3, gI x4), (0, gF c0), (1, gI a1), (2, gI a2)] dX10_thinned_66 (by decide) rfl ?_
          refine g_sub [(0, gF c0), (4, gI 0), (5, gI 0)] [3, 1, 0] rfl ?_
          refine gL2_go (Gd := fun (v11 : Int) (v12 : Int) (M13 : gMem) => gG X V 6 68 [(0, gF c0), (4, gI v11), (5, gI v12)] [] M13) (fun rec14 hrec14 v11 v12 M13 h => ?_) h
          refine g_iload C dX10_thinned_68 2 rfl ?_
          refine g_sipush C dX10_thinned_70 gRc_144 gRs_144 ?_
          refine g_ic_ge (t := 102) C dX10_thinned_73 (by decide) (fun c15 => ?_) (fun c15 => ?_)
          · replace h := h.1 c15
            refine g_iload C dX10_thinned_102 1 rfl ?_
            refine g_iconst C dX10_thinned_104 gRc_2 ?_
            refine g_idiv C dX10_thinned_105 h.1 ?_
            replace h := h.2
            exact g_iret C hR dX10_thinned_106 h
          · replace h := h.2 c15
            refine g_iload C dX10_thinned_76 1 rfl ?_
            refine g_aloadn C dX10_thinned_78 0 rfl ?_
            refine gf_10_17 C dX10_thinned_79 wd_872 hT0 ?_
            refine g_iload C dX10_thinned_82 2 rfl ?_
            refine g_zald C dX10_thinned_84 (gt_10_17 hT0) gce_20144 h.1 ?_
            replace h := h.2
            obtain ⟨P18, h, hP18⟩ := h
            have J19 : ∀ (x16 : Int) (M17 : gMem), P18 x16 M17 → gG X V 6 93 [(0, gF c0), (5, gI v12)] [gI x16, gI v11] M17 := by
              intro x16 M17 h
              replace h := hP18 x16 M17 h
              refine g_iadd C dX10_thinned_93 h.1 ?_
              replace h := h.2
              obtain ⟨v20, ev20⟩ : ∃ x : Int, x = (v11 + x16) := ⟨_, rfl⟩
              refine g_nm ev20 ?_
              replace h := h v20 ev20
              refine g_istore C [(4, gI v20), (0, gF c0), (5, gI v12)] dX10_thinned_94 (by decide) rfl ?_
              refine g_iinc C [(5, gI (v12 + 1)), (4, gI v20), (0, gF c0)] dX10_thinned_96 2 rfl (by decide) h.1 rfl ?_
              replace h := h.2
              refine g_goto (t := 68) C dX10_thinned_99 (by decide) ?_
              refine g_sub [(0, gF c0), (4, gI v20), (5, gI (v12 + 1))] [2, 1, 0] rfl ?_
              exact hrec14 v20 (v12 + 1) M17 h
            refine g_if_eq (t := 92) C dX10_thinned_85 (by decide) (fun c21 => ?_) (fun c21 => ?_)
            · replace h := h.1 c21
              refine g_iconst C dX10_thinned_92 gRc_0 ?_
              refine g_sub [(0, gF c0), (5, gI v12)] [0, 2] rfl ?_
              exact J19 0 M13 h
            · replace h := h.2 c21
              refine g_iconst C dX10_thinned_88 gRc_1 ?_
              refine g_goto (t := 93) C dX10_thinned_89 (by decide) ?_
              refine g_sub [(0, gF c0), (5, gI v12)] [0, 2] rfl ?_
              exact J19 1 M13 h
        · replace h := h.2 c10
          refine g_aloadn C dX10_thinned_47 1 rfl ?_
          refine gf_10_17 C dX10_thinned_48 wd_872 hT0 ?_
          refine g_iloadn C dX10_thinned_51 0 rfl ?_
          refine g_zald C dX10_thinned_52 (gt_10_17 hT0) gce_20144 h.1 ?_
          replace h := h.2
          obtain ⟨P24, h, hP24⟩ := h
          have J25 : ∀ (x22 : Int) (M23 : gMem), P24 x22 M23 → gG X V 6 61 [] [gI x22] M23 := by
            intro x22 M23 h
            replace h := hP24 x22 M23 h
            exact g_iret C hR dX10_thinned_61 h
          refine g_if_eq (t := 60) C dX10_thinned_53 (by decide) (fun c26 => ?_) (fun c26 => ?_)
          · replace h := h.1 c26
            refine g_iconst C dX10_thinned_60 gRc_0 ?_
            refine g_sub [] [] rfl ?_
            exact J25 0 M9 h
          · replace h := h.2 c26
            refine g_iconst C dX10_thinned_56 gRc_1 ?_
            refine g_goto (t := 61) C dX10_thinned_57 (by decide) ?_
            refine g_sub [] [] rfl ?_
            exact J25 1 M9 h
      · replace h := h.2 c8
        refine g_bipush C dX10_thinned_34 gRc_m2 gRb_m2 ?_
        exact g_iret C hR dX10_thinned_36 h
    refine g_ic_ne (t := 24) C dX10_thinned_17 (by decide) (fun c27 => ?_) (fun c27 => ?_)
    · replace h := h.1 c27
      refine g_aloadn C dX10_thinned_24 0 rfl ?_
      refine g_iloadn C dX10_thinned_25 2 rfl ?_
      refine g_cVi (st := []) C dX10_thinned_26 ykX10_pairOf wd_1014 ⟨by decide, by decide⟩ [gI a2] rfl (Nat.le_of_ble_eq_true rfl) hT0 (fun hM ho => sX10_pairOf hD c0 a2 M1 _ hT0 h hM ho) (fun r29 M28 h => ?_)
      exact J7 r29 M28 h
    · replace h := h.2 c27
      refine g_iconst C dX10_thinned_20 gRc_0 ?_
      refine g_goto (t := 29) C dX10_thinned_21 (by decide) ?_
      exact J7 0 M1 h
  · replace h := h.2 c3
    refine g_bipush C dX10_thinned_12 gRc_m3 gRb_m3 ?_
    exact g_iret C hR dX10_thinned_14 h

set_option maxRecDepth 100000 in
set_option maxHeartbeats 4000000 in
theorem sX10_divisor {l : Launch} {V : gW} (hD : gD V) (a1 a2 : Int) (M0 : gMem) (K : Int → gMem → Prop) (h : wX10_divisor a1 a2 K M0) (hM : gOM M0) (ho : ∀ q ∈ ([gI a1, gI a2] : List gSV), gOK q) : gMi l V yX10_divisor cX10_divisor 5 (some .int) 0 0 [gI a1, gI a2] M0 K := by
  refine gMi_of hD (by decide) (Nat.le_of_ble_eq_true rfl) [(0, gI a1), (1, gI a2)] rfl (gok_L rfl ho) hM (fun X C hR => ?_)
  unfold wX10_divisor at h
  refine g_iloadn C dX10_divisor_0 0 rfl ?_
  refine g_istoren C [(2, gI a1), (0, gI a1), (1, gI a2)] dX10_divisor_1 (by decide) rfl ?_
  refine g_iloadn C dX10_divisor_2 2 rfl ?_
  refine g_istoren C [(3, gI a2), (2, gI a1), (0, gI a1), (1, gI a2)] dX10_divisor_3 (by decide) rfl ?_
  refine g_sub [(2, gI a1), (3, gI a2)] [1, 0] rfl ?_
  refine gL2_go (Gd := fun (v1 : Int) (v2 : Int) (M3 : gMem) => gG X V 5 4 [(2, gI v1), (3, gI v2)] [] M3) (fun rec4 hrec4 v1 v2 M3 h => ?_) h
  refine g_iloadn C dX10_divisor_4 1 rfl ?_
  refine g_if_eq (t := 21) C dX10_divisor_5 (by decide) (fun c5 => ?_) (fun c5 => ?_)
  · replace h := h.1 c5
    refine g_iloadn C dX10_divisor_21 0 rfl ?_
    exact g_iret C hR dX10_divisor_22 h
  · replace h := h.2 c5
    refine g_iloadn C dX10_divisor_8 0 rfl ?_
    refine g_iloadn C dX10_divisor_9 1 rfl ?_
    refine g_irem C dX10_divisor_10 h.1 ?_
    replace h := h.2
    obtain ⟨v6, ev6⟩ : ∃ x : Int, x = (v1 % v2) := ⟨_, rfl⟩
    refine g_nm ev6 ?_
    replace h := h v6 ev6
    refine g_istore C [(4, gI v6), (2, gI v1), (3, gI v2)] dX10_divisor_11 (by decide) rfl ?_
    refine g_iloadn C dX10_divisor_13 2 rfl ?_
    refine g_istoren C [(2, gI v2), (4, gI v6), (3, gI v2)] dX10_divisor_14 (by decide) rfl ?_
    refine g_iload C dX10_divisor_15 1 rfl ?_
    refine g_istoren C [(3, gI v6), (2, gI v2), (4, gI v6)] dX10_divisor_17 (by decide) rfl ?_
    refine g_goto (t := 4) C dX10_divisor_18 (by decide) ?_
    refine g_sub [(2, gI v2), (3, gI v6)] [1, 0] rfl ?_
    exact hrec4 v2 v6 M3 h

set_option maxRecDepth 100000 in
set_option maxHeartbeats 4000000 in
theorem sX10_worst {l : Launch} {V : gW} (hD : gD V) (c0 a1 a2 : Int) (M0 : gMem) (K : Int → gMem → Prop) (hT0 : gT c0 10) (h : wX10_worst c0 a1 a2 K M0) (hM : gOM M0) (ho : ∀ q ∈ ([gI a1, gI a2] : List gSV), gOK q) : gMi l V yX10_worst cX10_worst 8 (some .int) 3 71 [gF c0, gI a1, gI a2] M0 K := by
  refine gMi_of hD (by decide) (Nat.le_of_ble_eq_true rfl) [(0, gF c0), (1, gI a1), (2, gI a2)] rfl (gok_L rfl (gok_n (q := gF c0) trivial ho)) hM (fun X C hR => ?_)
  unfold wX10_worst at h
  refine g_iloadn C dX10_worst_0 1 rfl ?_
  refine g_i2l C dX10_worst_1 ?_
  refine g_lconst C dX10_worst_2 (by decide) (show gOK (gJ 1) from ⟨by decide, by decide⟩) ?_
  refine g_ldc2 C dX10_worst_3 wd_1076 (by decide) (show gOK (gJ 9) from ⟨by decide, by decide⟩) ?_
  refine g_cSi (st := []) C dX10_worst_6 ykX10_in wd_937 ⟨by decide, by decide⟩ [gJ a1, gJ 1, gJ 9] rfl (Nat.le_of_ble_eq_true rfl) (fun hM ho => sX10_in hD a1 1 9 M0 _  h hM ho) (fun r2 M1 h => ?_)
  obtain ⟨P4, h, hP4⟩ := h
  have J5 : ∀ (M3 : gMem), P4 M3 → gG X V 8 22 [] [] M3 := by
    intro M3 h
    replace h := hP4 M3 h
    refine g_bipush C dX10_worst_22 gRc_m3 gRb_m3 ?_
    exact g_iret C hR dX10_worst_24 h
  refine g_if_eq (t := 22) C dX10_worst_9 (by decide) (fun c6 => ?_) (fun c6 => ?_)
  · replace h := h.1 c6
    refine g_sub [] [] rfl ?_
    exact J5 M1 h
  · replace h := h.2 c6
    refine g_iloadn C dX10_worst_12 2 rfl ?_
    refine g_i2l C dX10_worst_13 ?_
    refine g_lconst C dX10_worst_14 (by decide) (show gOK (gJ 0) from ⟨by decide, by decide⟩) ?_
    refine g_lconst C dX10_worst_15 (by decide) (show gOK (gJ 1) from ⟨by decide, by decide⟩) ?_
    refine g_cSi (st := []) C dX10_worst_16 ykX10_in wd_937 ⟨by decide, by decide⟩ [gJ a2, gJ 0, gJ 1] rfl (Nat.le_of_ble_eq_true rfl) (fun hM ho => sX10_in hD a2 0 1 M1 _  h hM ho) (fun r8 M7 h => ?_)
    refine g_if_ne (t := 25) C dX10_worst_19 (by decide) (fun c9 => ?_) (fun c9 => ?_)
    · replace h := h.1 c9
      refine g_aloadn C dX10_worst_25 0 rfl ?_
      refine g_iconst C dX10_worst_26 gRc_0 ?_
      refine g_cVv (st := []) C dX10_worst_27 ykX10_finds wd_1030 ⟨by decide, by decide⟩ [gI 0] rfl (Nat.le_of_ble_eq_true rfl) hT0 (fun hM ho => sX10_finds hD c0 0 M7 _ hT0 h hM ho) (fun M10 h => ?_)
      refine g_iconst C dX10_worst_30 gRc_0 ?_
      refine g_istoren C [(3, gI 0), (0, gF c0), (1, gI a1), (2, gI a2)] dX10_worst_31 (by decide) rfl ?_
      refine g_sub [(0, gF c0), (1, gI a1), (2, gI a2), (3, gI 0)] [1, 2, 3, 0] rfl ?_
      refine gL1_go (Gd := fun (v11 : Int) (M12 : gMem) => gG X V 8 32 [(0, gF c0), (1, gI a1), (2, gI a2), (3, gI v11)] [] M12) (fun rec13 hrec13 v11 M12 h => ?_) h
      refine g_iloadn C dX10_worst_32 3 rfl ?_
      refine g_sipush C dX10_worst_33 gRc_144 gRs_144 ?_
      refine g_ic_ge (t := 57) C dX10_worst_36 (by decide) (fun c14 => ?_) (fun c14 => ?_)
      · replace h := h.1 c14
        refine g_aloadn C dX10_worst_57 0 rfl ?_
        refine g_iloadn C dX10_worst_58 1 rfl ?_
        refine g_cVv (st := []) C dX10_worst_59 ykX10_thins wd_1077 ⟨by decide, by decide⟩ [gI a1] rfl (Nat.le_of_ble_eq_true rfl) hT0 (fun hM ho => sX10_thins hD c0 a1 M12 _ hT0 h hM ho) (fun M15 h => ?_)
        refine g_aloadn C dX10_worst_62 0 rfl ?_
        refine g_iconst C dX10_worst_63 gRc_1 ?_
        refine g_cVv (st := []) C dX10_worst_64 ykX10_finds wd_1030 ⟨by decide, by decide⟩ [gI 1] rfl (Nat.le_of_ble_eq_true rfl) hT0 (fun hM ho => sX10_finds hD c0 1 M15 _ hT0 h hM ho) (fun M16 h => ?_)
        refine g_iconst C dX10_worst_67 gRc_0 ?_
        refine g_istoren C [(3, gI 0), (0, gF c0), (1, gI a1), (2, gI a2)] dX10_worst_68 (by decide) rfl ?_
        refine g_iconst C dX10_worst_69 gRc_1 ?_
        refine g_istore C [(4, gI 1), (3, gI 0), (0, gF c0), (1, gI a1), (2, gI a2)] dX10_worst_70 (by decide) rfl ?_
        refine g_iconst C dX10_worst_72 gRc_0 ?_
        refine g_istore C [(5, gI 0), (4, gI 1), (3, gI 0), (0, gF c0), (1, gI a1), (2, gI a2)] dX10_worst_73 (by decide) rfl ?_
        refine g_sub [(0, gF c0), (2, gI a2), (3, gI 0), (4, gI 1), (5, gI 0)] [3, 5, 2, 1, 0] rfl ?_
        refine gL3_go (Gd := fun (v17 : Int) (v18 : Int) (v19 : Int) (M20 : gMem) => gG X V 8 75 [(0, gF c0), (2, gI a2), (3, gI v17), (4, gI v18), (5, gI v19)] [] M20) (fun rec21 hrec21 v17 v18 v19 M20 h => ?_) h
        refine g_iload C dX10_worst_75 4 rfl ?_
        refine g_aloadn C dX10_worst_77 0 rfl ?_
        refine gf_10_2 C dX10_worst_78 wd_857 hT0 ?_
        refine g_ic_ge (t := 172) C dX10_worst_81 (by decide) (fun c22 => ?_) (fun c22 => ?_)
        · replace h := h.1 c22
          refine g_iloadn C dX10_worst_172 2 rfl ?_
          refine g_if_ne (t := 178) C dX10_worst_173 (by decide) (fun c23 => ?_) (fun c23 => ?_)
          · replace h := h.1 c23
            refine g_iloadn C dX10_worst_178 2 rfl ?_
            refine g_iload C dX10_worst_179 3 rfl ?_
            refine g_cSi (st := []) C dX10_worst_181 ykX10_divisor wd_1089 ⟨by decide, by decide⟩ [gI v17, gI v18] rfl (Nat.le_of_ble_eq_true rfl) (fun hM ho => sX10_divisor hD v17 v18 M20 _  h hM ho) (fun r25 M24 h => ?_)
            refine g_istore C [(5, gI r25), (0, gF c0), (2, gI a2), (3, gI v17), (4, gI v18)] dX10_worst_184 (by decide) rfl ?_
            refine g_iloadn C dX10_worst_186 2 rfl ?_
            obtain ⟨P28, h, hP28⟩ := h
            have J29 : ∀ (x26 : Int) (M27 : gMem), P28 x26 M27 → gG X V 8 202 [] [gI x26] M27 := by
              intro x26 M27 h
              replace h := hP28 x26 M27 h
              exact g_iret C hR dX10_worst_202 h
            refine g_if_ne (t := 197) C dX10_worst_187 (by decide) (fun c30 => ?_) (fun c30 => ?_)
            · replace h := h.1 c30
              refine g_iload C dX10_worst_197 4 rfl ?_
              refine g_iload C dX10_worst_199 0 rfl ?_
              refine g_idiv C dX10_worst_201 h.1 ?_
              replace h := h.2
              refine g_sub [] [] rfl ?_
              exact J29 (v18 / r25) M24 h
            · replace h := h.2 c30
              refine g_iloadn C dX10_worst_190 3 rfl ?_
              refine g_iload C dX10_worst_191 0 rfl ?_
              refine g_idiv C dX10_worst_193 h.1 ?_
              replace h := h.2
              refine g_goto (t := 202) C dX10_worst_194 (by decide) ?_
              refine g_sub [] [] rfl ?_
              exact J29 (v17 / r25) M24 h
          · replace h := h.2 c23
            refine g_iconst C dX10_worst_176 gRc_m1 ?_
            exact g_iret C hR dX10_worst_177 h
        · replace h := h.2 c22
          refine g_iload C dX10_worst_84 4 rfl ?_
          refine g_iconst C dX10_worst_86 gRc_1 ?_
          refine g_iadd C dX10_worst_87 h.1 ?_
          replace h := h.2
          obtain ⟨v31, ev31⟩ : ∃ x : Int, x = (v19 + 1) := ⟨_, rfl⟩
          refine g_nm ev31 ?_
          replace h := h v31 ev31
          refine g_istore C [(6, gI v31), (0, gF c0), (2, gI a2), (3, gI v17), (4, gI v18), (5, gI v19)] dX10_worst_88 (by decide) rfl ?_
          refine g_sub [(0, gF c0), (2, gI a2), (3, gI v17), (4, gI v18), (5, gI v19), (6, gI v31)] [1, 2, 3, 4, 5, 0] rfl ?_
          refine gL3_go (Gd := fun (v32 : Int) (v33 : Int) (v34 : Int) (M35 : gMem) => gG X V 8 90 [(0, gF c0), (2, gI a2), (3, gI v32), (4, gI v33), (5, gI v19), (6, gI v34)] [] M35) (fun rec36 hrec36 v32 v33 v34 M35 h => ?_) h
          refine g_iload C dX10_worst_90 5 rfl ?_
          refine g_aloadn C dX10_worst_92 0 rfl ?_
          refine gf_10_2 C dX10_worst_93 wd_857 hT0 ?_
          refine g_ic_ge (t := 166) C dX10_worst_96 (by decide) (fun c37 => ?_) (fun c37 => ?_)
          · replace h := h.1 c37
            refine g_iinc C [(5, gI (v19 + 1)), (0, gF c0), (2, gI a2), (3, gI v32), (4, gI v33), (6, gI v34)] dX10_worst_166 4 rfl (by decide) h.1 rfl ?_
            replace h := h.2
            refine g_goto (t := 75) C dX10_worst_169 (by decide) ?_
            refine g_sub [(0, gF c0), (2, gI a2), (3, gI v32), (4, gI v33), (5, gI (v19 + 1))] [1, 2, 3, 4, 0] rfl ?_
            exact hrec21 v32 v33 (v19 + 1) M35 h
          · replace h := h.2 c37
            refine g_bipush C dX10_worst_99 gRc_12 gRb_12 ?_
            refine g_iload C dX10_worst_101 4 rfl ?_
            refine g_imul C dX10_worst_103 h.1 ?_
            replace h := h.2
            refine g_iload C dX10_worst_104 5 rfl ?_
            refine g_iadd C dX10_worst_106 h.1 ?_
            replace h := h.2
            obtain ⟨v38, ev38⟩ : ∃ x : Int, x = ((12 * v19) + v34) := ⟨_, rfl⟩
            refine g_nm ev38 ?_
            replace h := h v38 ev38
            refine g_istore C [(7, gI v38), (0, gF c0), (2, gI a2), (3, gI v32), (4, gI v33), (5, gI v19), (6, gI v34)] dX10_worst_107 (by decide) rfl ?_
            refine g_aloadn C dX10_worst_109 1 rfl ?_
            refine gf_10_18 C dX10_worst_110 wd_873 hT0 ?_
            refine g_iload C dX10_worst_113 0 rfl ?_
            refine g_iald C dX10_worst_115 (gt_10_18 hT0) gce_10144 h.1 ?_
            replace h := h.2
            refine g_ldc C dX10_worst_116 wd_1034 gRc_100000 rfl ?_
            obtain ⟨P42, h, hP42⟩ := h
            have J43 : ∀ (v39 : Int) (v40 : Int) (M41 : gMem), P42 v39 v40 M41 → gG X V 8 160 [(0, gF c0), (2, gI a2), (3, gI v39), (4, gI v40), (5, gI v19), (6, gI v34)] [] M41 := by
              intro v39 v40 M41 h
              replace h := hP42 v39 v40 M41 h
              refine g_iinc C [(6, gI (v34 + 1)), (0, gF c0), (2, gI a2), (3, gI v39), (4, gI v40), (5, gI v19)] dX10_worst_160 5 rfl (by decide) h.1 rfl ?_
              replace h := h.2
              refine g_goto (t := 90) C dX10_worst_163 (by decide) ?_
              refine g_sub [(0, gF c0), (2, gI a2), (3, gI v39), (4, gI v40), (5, gI v19), (6, gI (v34 + 1))] [1, 2, 3, 4, 5, 0] rfl ?_
              exact hrec36 v39 v40 (v34 + 1) M41 h
            refine g_ic_ge (t := 160) C dX10_worst_118 (by decide) (fun c44 => ?_) (fun c44 => ?_)
            · replace h := h.1 c44
              refine g_sub [(0, gF c0), (2, gI a2), (3, gI v32), (4, gI v33), (5, gI v19), (6, gI v34)] [1, 2, 3, 4, 5, 6] rfl ?_
              exact J43 v32 v33 M35 h
            · replace h := h.2 c44
              refine g_aloadn C dX10_worst_121 1 rfl ?_
              refine gf_10_16 C dX10_worst_122 wd_871 hT0 ?_
              refine g_iload C dX10_worst_125 0 rfl ?_
              refine g_iald C dX10_worst_127 (gt_10_16 hT0) gce_10144 h.1 ?_
              replace h := h.2
              refine g_iload C dX10_worst_128 4 rfl ?_
              refine g_imul C dX10_worst_130 h.1 ?_
              replace h := h.2
              refine g_iloadn C dX10_worst_131 3 rfl ?_
              refine g_aloadn C dX10_worst_132 1 rfl ?_
              refine gf_10_18 C dX10_worst_133 wd_873 hT0 ?_
              refine g_iload C dX10_worst_136 0 rfl ?_
              refine g_iald C dX10_worst_138 (gt_10_18 hT0) gce_10144 h.1 ?_
              replace h := h.2
              refine g_imul C dX10_worst_139 h.1 ?_
              replace h := h.2
              refine g_ic_le (t := 160) C dX10_worst_140 (by decide) (fun c45 => ?_) (fun c45 => ?_)
              · replace h := h.1 c45
                refine g_sub [(0, gF c0), (2, gI a2), (3, gI v32), (4, gI v33), (5, gI v19), (6, gI v34)] [1, 2, 3, 4, 5, 6] rfl ?_
                exact J43 v32 v33 M35 h
              · replace h := h.2 c45
                refine g_aloadn C dX10_worst_143 1 rfl ?_
                refine gf_10_16 C dX10_worst_144 wd_871 hT0 ?_
                refine g_iload C dX10_worst_147 0 rfl ?_
                refine g_iald C dX10_worst_149 (gt_10_16 hT0) gce_10144 h.1 ?_
                replace h := h.2
                obtain ⟨v46, ev46⟩ : ∃ x : Int, x = (M35 (c0 + 8) v38) := ⟨_, rfl⟩
                refine g_nm ev46 ?_
                replace h := h v46 ev46
                refine g_istoren C [(3, gI v46), (7, gI v38), (0, gF c0), (2, gI a2), (4, gI v33), (5, gI v19), (6, gI v34)] dX10_worst_150 (by decide) rfl ?_
                refine g_aloadn C dX10_worst_151 2 rfl ?_
                refine gf_10_18 C dX10_worst_152 wd_873 hT0 ?_
                refine g_iload C dX10_worst_155 1 rfl ?_
                refine g_iald C dX10_worst_157 (gt_10_18 hT0) gce_10144 h.1 ?_
                replace h := h.2
                obtain ⟨v47, ev47⟩ : ∃ x : Int, x = (M35 (c0 + 10) v38) := ⟨_, rfl⟩
                refine g_nm ev47 ?_
                replace h := h v47 ev47
                refine g_istore C [(4, gI v47), (3, gI v46), (7, gI v38), (0, gF c0), (2, gI a2), (5, gI v19), (6, gI v34)] dX10_worst_158 (by decide) rfl ?_
                refine g_sub [(0, gF c0), (2, gI a2), (3, gI v46), (4, gI v47), (5, gI v19), (6, gI v34)] [3, 4, 1, 0, 5, 6] rfl ?_
                exact J43 v46 v47 M35 h
      · replace h := h.2 c14
        refine g_aloadn C dX10_worst_39 0 rfl ?_
        refine gf_10_18 C dX10_worst_40 wd_873 hT0 ?_
        refine g_iloadn C dX10_worst_43 3 rfl ?_
        refine g_aloadn C dX10_worst_44 0 rfl ?_
        refine gf_10_16 C dX10_worst_45 wd_871 hT0 ?_
        refine g_iloadn C dX10_worst_48 3 rfl ?_
        refine g_iald C dX10_worst_49 (gt_10_16 hT0) gce_10144 h.1 ?_
        replace h := h.2
        refine g_iast C dX10_worst_50 (gt_10_18 hT0) gce_10144 h.1 ?_
        replace h := h.2
        obtain ⟨M48, eM48⟩ : ∃ x : gMem, x = gup M12 (c0 + 10) v11 (M12 (c0 + 8) v11) := ⟨_, rfl⟩
        refine g_nmM eM48 ?_
        replace h := h M48 eM48
        refine g_iinc C [(3, gI (v11 + 1)), (0, gF c0), (1, gI a1), (2, gI a2)] dX10_worst_51 3 rfl (by decide) h.1 rfl ?_
        replace h := h.2
        refine g_goto (t := 32) C dX10_worst_54 (by decide) ?_
        refine g_sub [(0, gF c0), (1, gI a1), (2, gI a2), (3, gI (v11 + 1))] [1, 2, 3, 0] rfl ?_
        exact hrec13 (v11 + 1) M48 h
    · replace h := h.2 c9
      refine g_sub [] [] rfl ?_
      exact J5 M7 h

set_option maxRecDepth 100000 in
set_option maxHeartbeats 4000000 in
theorem sX10_copyRow {l : Launch} {V : gW} (hD : gD V) (c0 a1 a2 : Int) (M0 : gMem) (K : gMem → Prop) (hT0 : gT c0 10) (h : wX10_copyRow c0 a1 a2 K M0) (hM : gOM M0) (ho : ∀ q ∈ ([gI a1, gI a2] : List gSV), gOK q) : gMv l V yX10_copyRow cX10_copyRow 4 0 0 [gF c0, gI a1, gI a2] M0 K := by
  refine gMv_of hD (by decide) (Nat.le_of_ble_eq_true rfl) [(0, gF c0), (1, gI a1), (2, gI a2)] rfl (gok_L rfl (gok_n (q := gF c0) trivial ho)) hM (fun X C hR => ?_)
  unfold wX10_copyRow at h
  refine g_iconst C dX10_copyRow_0 gRc_0 ?_
  refine g_istoren C [(3, gI 0), (0, gF c0), (1, gI a1), (2, gI a2)] dX10_copyRow_1 (by decide) rfl ?_
  refine g_sub [(0, gF c0), (1, gI a1), (2, gI a2), (3, gI 0)] [1, 2, 3, 0] rfl ?_
  refine gL1_go (Gd := fun (v1 : Int) (M2 : gMem) => gG X V 4 2 [(0, gF c0), (1, gI a1), (2, gI a2), (3, gI v1)] [] M2) (fun rec3 hrec3 v1 M2 h => ?_) h
  refine g_iloadn C dX10_copyRow_2 3 rfl ?_
  refine g_sipush C dX10_copyRow_3 gRc_157 gRs_157 ?_
  refine g_ic_ge (t := 31) C dX10_copyRow_6 (by decide) (fun c4 => ?_) (fun c4 => ?_)
  · replace h := h.1 c4
    exact g_vret C hR dX10_copyRow_31 h
  · replace h := h.2 c4
    refine g_aloadn C dX10_copyRow_9 0 rfl ?_
    refine gf_10_0 C dX10_copyRow_10 wd_855 hT0 ?_
    refine g_iloadn C dX10_copyRow_13 2 rfl ?_
    refine g_iloadn C dX10_copyRow_14 3 rfl ?_
    refine g_iadd C dX10_copyRow_15 h.1 ?_
    replace h := h.2
    refine g_aloadn C dX10_copyRow_16 0 rfl ?_
    refine gf_10_0 C dX10_copyRow_17 wd_855 hT0 ?_
    refine g_iloadn C dX10_copyRow_20 1 rfl ?_
    refine g_iloadn C dX10_copyRow_21 3 rfl ?_
    refine g_iadd C dX10_copyRow_22 h.1 ?_
    replace h := h.2
    refine g_iald C dX10_copyRow_23 (gt_10_0 hT0) gce_11727 h.1 ?_
    replace h := h.2
    refine g_iast C dX10_copyRow_24 (gt_10_0 hT0) gce_11727 h.1 ?_
    replace h := h.2
    obtain ⟨M5, eM5⟩ : ∃ x : gMem, x = gup M2 (c0 + 1) (a2 + v1) (M2 (c0 + 1) (a1 + v1)) := ⟨_, rfl⟩
    refine g_nmM eM5 ?_
    replace h := h M5 eM5
    refine g_iinc C [(3, gI (v1 + 1)), (0, gF c0), (1, gI a1), (2, gI a2)] dX10_copyRow_25 3 rfl (by decide) h.1 rfl ?_
    replace h := h.2
    refine g_goto (t := 2) C dX10_copyRow_28 (by decide) ?_
    refine g_sub [(0, gF c0), (1, gI a1), (2, gI a2), (3, gI (v1 + 1))] [1, 2, 3, 0] rfl ?_
    exact hrec3 (v1 + 1) M5 h

set_option maxRecDepth 100000 in
set_option maxHeartbeats 4000000 in
theorem sX10_keepPast {l : Launch} {V : gW} (hD : gD V) (c0 : Int) (M0 : gMem) (K : gMem → Prop) (hT0 : gT c0 10) (h : wX10_keepPast c0 K M0) (hM : gOM M0) (ho : ∀ q ∈ ([] : List gSV), gOK q) : gMv l V yX10_keepPast cX10_keepPast 2 1 23 [gF c0] M0 K := by
  refine gMv_of hD (by decide) (Nat.le_of_ble_eq_true rfl) [(0, gF c0)] rfl (gok_L rfl (gok_n (q := gF c0) trivial ho)) hM (fun X C hR => ?_)
  unfold wX10_keepPast at h
  refine g_iconst C dX10_keepPast_0 gRc_0 ?_
  refine g_istoren C [(1, gI 0), (0, gF c0)] dX10_keepPast_1 (by decide) rfl ?_
  refine g_sub [(0, gF c0), (1, gI 0)] [1, 0] rfl ?_
  refine gL1_go (Gd := fun (v1 : Int) (M2 : gMem) => gG X V 2 2 [(0, gF c0), (1, gI v1)] [] M2) (fun rec3 hrec3 v1 M2 h => ?_) h
  refine g_iloadn C dX10_keepPast_2 1 rfl ?_
  refine g_sipush C dX10_keepPast_3 gRc_1099 gRs_1099 ?_
  obtain ⟨P5, h, hP5⟩ := h
  have J6 : ∀ (M4 : gMem), P5 M4 → gG X V 2 44 [(0, gF c0)] [] M4 := by
    intro M4 h
    replace h := hP5 M4 h
    refine g_aloadn C dX10_keepPast_44 0 rfl ?_
    refine g_dup C dX10_keepPast_45 (fun e => by cases e) ?_
    refine gf_10_1 C dX10_keepPast_46 wd_856 hT0 ?_
    refine g_aloadn C dX10_keepPast_49 0 rfl ?_
    refine gf_10_1 C dX10_keepPast_50 wd_856 hT0 ?_
    refine g_bipush C dX10_keepPast_53 gRc_8 gRb_8 ?_
    obtain ⟨P9, h, hP9⟩ := h
    have J10 : ∀ (x7 : Int) (M8 : gMem), P9 x7 M8 → gG X V 2 63 [(0, gF c0)] [gI x7, gI (M4 c0 1), gF c0] M8 := by
      intro x7 M8 h
      replace h := hP9 x7 M8 h
      refine g_isub C dX10_keepPast_63 h.1 ?_
      replace h := h.2
      refine gp_10_1 C dX10_keepPast_64 wd_856 hT0 ?_
      obtain ⟨M11, eM11⟩ : ∃ x : gMem, x = gup M8 c0 1 ((M4 c0 1) - x7) := ⟨_, rfl⟩
      refine g_nmM eM11 ?_
      replace h := h M11 eM11
      refine g_aloadn C dX10_keepPast_67 0 rfl ?_
      refine g_iconst C dX10_keepPast_68 gRc_0 ?_
      refine g_sipush C dX10_keepPast_69 gRc_157 gRs_157 ?_
      refine g_sipush C dX10_keepPast_72 gRc_157 gRs_157 ?_
      refine g_aloadn C dX10_keepPast_75 0 rfl ?_
      refine gf_10_1 C dX10_keepPast_76 wd_856 hT0 ?_
      refine g_imul C dX10_keepPast_79 h.1 ?_
      replace h := h.2
      refine g_iadd C dX10_keepPast_80 h.1 ?_
      replace h := h.2
      refine g_cVv (st := []) C dX10_keepPast_81 ykX10_copyRow wd_1101 ⟨by decide, by decide⟩ [gI 0, gI (157 + (157 * (M11 c0 1)))] rfl (Nat.le_of_ble_eq_true rfl) hT0 (fun hM ho => sX10_copyRow hD c0 0 (157 + (157 * (M11 c0 1))) M11 _ hT0 h hM ho) (fun M12 h => ?_)
      refine g_aloadn C dX10_keepPast_84 0 rfl ?_
      refine g_dup C dX10_keepPast_85 (fun e => by cases e) ?_
      refine gf_10_1 C dX10_keepPast_86 wd_856 hT0 ?_
      refine g_iconst C dX10_keepPast_89 gRc_1 ?_
      refine g_iadd C dX10_keepPast_90 h.1 ?_
      replace h := h.2
      refine gp_10_1 C dX10_keepPast_91 wd_856 hT0 ?_
      obtain ⟨M13, eM13⟩ : ∃ x : gMem, x = gup M12 c0 1 ((M12 c0 1) + 1) := ⟨_, rfl⟩
      refine g_nmM eM13 ?_
      replace h := h M13 eM13
      exact g_vret C hR dX10_keepPast_94 h
    refine g_ic_ne (t := 62) C dX10_keepPast_55 (by decide) (fun c14 => ?_) (fun c14 => ?_)
    · replace h := h.1 c14
      refine g_iconst C dX10_keepPast_62 gRc_0 ?_
      exact J10 0 M4 h
    · replace h := h.2 c14
      refine g_iconst C dX10_keepPast_58 gRc_1 ?_
      refine g_goto (t := 63) C dX10_keepPast_59 (by decide) ?_
      exact J10 1 M4 h
  refine g_ic_ge (t := 44) C dX10_keepPast_6 (by decide) (fun c15 => ?_) (fun c15 => ?_)
  · replace h := h.1 c15
    refine g_sub [(0, gF c0)] [0] rfl ?_
    exact J6 M2 h
  · replace h := h.2 c15
    refine g_aloadn C dX10_keepPast_9 0 rfl ?_
    refine gf_10_1 C dX10_keepPast_10 wd_856 hT0 ?_
    refine g_bipush C dX10_keepPast_13 gRc_8 gRb_8 ?_
    refine g_ic_ne (t := 44) C dX10_keepPast_15 (by decide) (fun c16 => ?_) (fun c16 => ?_)
    · replace h := h.1 c16
      refine g_sub [(0, gF c0)] [0] rfl ?_
      exact J6 M2 h
    · replace h := h.2 c16
      refine g_aloadn C dX10_keepPast_18 0 rfl ?_
      refine gf_10_0 C dX10_keepPast_19 wd_855 hT0 ?_
      refine g_sipush C dX10_keepPast_22 gRc_157 gRs_157 ?_
      refine g_iloadn C dX10_keepPast_25 1 rfl ?_
      refine g_iadd C dX10_keepPast_26 h.1 ?_
      replace h := h.2
      refine g_aloadn C dX10_keepPast_27 0 rfl ?_
      refine gf_10_0 C dX10_keepPast_28 wd_855 hT0 ?_
      refine g_sipush C dX10_keepPast_31 gRc_314 gRs_314 ?_
      refine g_iloadn C dX10_keepPast_34 1 rfl ?_
      refine g_iadd C dX10_keepPast_35 h.1 ?_
      replace h := h.2
      refine g_iald C dX10_keepPast_36 (gt_10_0 hT0) gce_11727 h.1 ?_
      replace h := h.2
      refine g_iast C dX10_keepPast_37 (gt_10_0 hT0) gce_11727 h.1 ?_
      replace h := h.2
      obtain ⟨M17, eM17⟩ : ∃ x : gMem, x = gup M2 (c0 + 1) (157 + v1) (M2 (c0 + 1) (314 + v1)) := ⟨_, rfl⟩
      refine g_nmM eM17 ?_
      replace h := h M17 eM17
      refine g_iinc C [(1, gI (v1 + 1)), (0, gF c0)] dX10_keepPast_38 1 rfl (by decide) h.1 rfl ?_
      replace h := h.2
      refine g_goto (t := 2) C dX10_keepPast_41 (by decide) ?_
      refine g_sub [(0, gF c0), (1, gI (v1 + 1))] [1, 0] rfl ?_
      exact hrec3 (v1 + 1) M17 h

set_option maxRecDepth 100000 in
set_option maxHeartbeats 4000000 in
theorem sX10_join {l : Launch} {V : gW} (hD : gD V) (c0 a1 a2 a3 : Int) (M0 : gMem) (K : Int → gMem → Prop) (hT0 : gT c0 10) (h : wX10_join c0 a1 a2 a3 K M0) (hM : gOM M0) (ho : ∀ q ∈ ([gI a1, gI a2, gI a3] : List gSV), gOK q) : gMi l V yX10_join cX10_join 4 (some .int) 2 46 [gF c0, gI a1, gI a2, gI a3] M0 K := by
  refine gMi_of hD (by decide) (Nat.le_of_ble_eq_true rfl) [(0, gF c0), (1, gI a1), (2, gI a2), (3, gI a3)] rfl (gok_L rfl (gok_n (q := gF c0) trivial ho)) hM (fun X C hR => ?_)
  unfold wX10_join at h
  refine g_aloadn C dX10_join_0 0 rfl ?_
  refine g_iloadn C dX10_join_1 1 rfl ?_
  refine g_cVi (st := []) C dX10_join_2 ykX10_isNode wd_1022 ⟨by decide, by decide⟩ [gI a1] rfl (Nat.le_of_ble_eq_true rfl) hT0 (fun hM ho => sX10_isNode hD c0 a1 M0 _ hT0 h hM ho) (fun r2 M1 h => ?_)
  obtain ⟨P4, h, hP4⟩ := h
  have J5 : ∀ (M3 : gMem), P4 M3 → gG X V 4 21 [] [] M3 := by
    intro M3 h
    replace h := hP4 M3 h
    refine g_bipush C dX10_join_21 gRc_m2 gRb_m2 ?_
    exact g_iret C hR dX10_join_23 h
  refine g_if_eq (t := 21) C dX10_join_5 (by decide) (fun c6 => ?_) (fun c6 => ?_)
  · replace h := h.1 c6
    refine g_sub [] [] rfl ?_
    exact J5 M1 h
  · replace h := h.2 c6
    refine g_aloadn C dX10_join_8 0 rfl ?_
    refine g_iloadn C dX10_join_9 2 rfl ?_
    refine g_cVi (st := []) C dX10_join_10 ykX10_isNode wd_1022 ⟨by decide, by decide⟩ [gI a2] rfl (Nat.le_of_ble_eq_true rfl) hT0 (fun hM ho => sX10_isNode hD c0 a2 M1 _ hT0 h hM ho) (fun r8 M7 h => ?_)
    refine g_if_eq (t := 21) C dX10_join_13 (by decide) (fun c9 => ?_) (fun c9 => ?_)
    · replace h := h.1 c9
      refine g_sub [] [] rfl ?_
      exact J5 M7 h
    · replace h := h.2 c9
      refine g_iloadn C dX10_join_16 1 rfl ?_
      refine g_iloadn C dX10_join_17 2 rfl ?_
      refine g_ic_ne (t := 24) C dX10_join_18 (by decide) (fun c10 => ?_) (fun c10 => ?_)
      · replace h := h.1 c10
        refine g_iloadn C dX10_join_24 3 rfl ?_
        refine g_i2l C dX10_join_25 ?_
        refine g_lconst C dX10_join_26 (by decide) (show gOK (gJ 1) from ⟨by decide, by decide⟩) ?_
        refine g_ldc2 C dX10_join_27 wd_1096 (by decide) (show gOK (gJ 99) from ⟨by decide, by decide⟩) ?_
        refine g_cSi (st := []) C dX10_join_30 ykX10_in wd_937 ⟨by decide, by decide⟩ [gJ a3, gJ 1, gJ 99] rfl (Nat.le_of_ble_eq_true rfl) (fun hM ho => sX10_in hD a3 1 99 M7 _  h hM ho) (fun r12 M11 h => ?_)
        refine g_if_ne (t := 39) C dX10_join_33 (by decide) (fun c13 => ?_) (fun c13 => ?_)
        · replace h := h.1 c13
          refine g_aloadn C dX10_join_39 0 rfl ?_
          refine g_iloadn C dX10_join_40 1 rfl ?_
          refine g_iloadn C dX10_join_41 2 rfl ?_
          refine g_cVi (st := []) C dX10_join_42 ykX10_length wd_1068 ⟨by decide, by decide⟩ [gI a1, gI a2] rfl (Nat.le_of_ble_eq_true rfl) hT0 (fun hM ho => sX10_length hD c0 a1 a2 M11 _ hT0 h hM ho) (fun r15 M14 h => ?_)
          obtain ⟨P17, h, hP17⟩ := h
          have J18 : ∀ (M16 : gMem), P17 M16 → gG X V 4 60 [(0, gF c0), (1, gI a1), (2, gI a2), (3, gI a3)] [] M16 := by
            intro M16 h
            replace h := hP17 M16 h
            refine g_aloadn C dX10_join_60 0 rfl ?_
            refine g_cVv (st := []) C dX10_join_61 ykX10_keepPast wd_1097 ⟨by decide, by decide⟩ [] rfl (Nat.le_of_ble_eq_true rfl) hT0 (fun hM ho => sX10_keepPast hD c0 M16 _ hT0 h hM ho) (fun M19 h => ?_)
            refine g_aloadn C dX10_join_64 0 rfl ?_
            refine g_iloadn C dX10_join_65 1 rfl ?_
            refine g_iloadn C dX10_join_66 2 rfl ?_
            refine g_iloadn C dX10_join_67 3 rfl ?_
            refine g_cVv (st := []) C dX10_join_68 ykX10_lies wd_1002 ⟨by decide, by decide⟩ [gI a1, gI a2, gI a3] rfl (Nat.le_of_ble_eq_true rfl) hT0 (fun hM ho => sX10_lies hD c0 a1 a2 a3 M19 _ hT0 h hM ho) (fun M20 h => ?_)
            refine g_aloadn C dX10_join_71 0 rfl ?_
            refine g_cVi (st := []) C dX10_join_72 ykX10_links wd_952 ⟨by decide, by decide⟩ [] rfl (Nat.le_of_ble_eq_true rfl) hT0 (fun hM ho => sX10_links hD c0 M20 _ hT0 h hM ho) (fun r22 M21 h => ?_)
            exact g_iret C hR dX10_join_75 h
          refine g_if_ne (t := 60) C dX10_join_45 (by decide) (fun c23 => ?_) (fun c23 => ?_)
          · replace h := h.1 c23
            exact J18 M14 h
          · replace h := h.2 c23
            refine g_aloadn C dX10_join_48 0 rfl ?_
            refine g_cVi (st := []) C dX10_join_49 ykX10_links wd_952 ⟨by decide, by decide⟩ [] rfl (Nat.le_of_ble_eq_true rfl) hT0 (fun hM ho => sX10_links hD c0 M14 _ hT0 h hM ho) (fun r25 M24 h => ?_)
            refine g_bipush C dX10_join_52 gRc_30 gRb_30 ?_
            refine g_ic_ne (t := 60) C dX10_join_54 (by decide) (fun c26 => ?_) (fun c26 => ?_)
            · replace h := h.1 c26
              exact J18 M24 h
            · replace h := h.2 c26
              refine g_bipush C dX10_join_57 gRc_m5 gRb_m5 ?_
              exact g_iret C hR dX10_join_59 h
        · replace h := h.2 c13
          refine g_bipush C dX10_join_36 gRc_m3 gRb_m3 ?_
          exact g_iret C hR dX10_join_38 h
      · replace h := h.2 c10
        refine g_sub [] [] rfl ?_
        exact J5 M7 h

set_option maxRecDepth 100000 in
set_option maxHeartbeats 4000000 in
theorem sX10_cut {l : Launch} {V : gW} (hD : gD V) (c0 a1 a2 : Int) (M0 : gMem) (K : Int → gMem → Prop) (hT0 : gT c0 10) (h : wX10_cut c0 a1 a2 K M0) (hM : gOM M0) (ho : ∀ q ∈ ([gI a1, gI a2] : List gSV), gOK q) : gMi l V yX10_cut cX10_cut 4 (some .int) 2 46 [gF c0, gI a1, gI a2] M0 K := by
  refine gMi_of hD (by decide) (Nat.le_of_ble_eq_true rfl) [(0, gF c0), (1, gI a1), (2, gI a2)] rfl (gok_L rfl (gok_n (q := gF c0) trivial ho)) hM (fun X C hR => ?_)
  unfold wX10_cut at h
  refine g_aloadn C dX10_cut_0 0 rfl ?_
  refine g_iloadn C dX10_cut_1 1 rfl ?_
  refine g_cVi (st := []) C dX10_cut_2 ykX10_isNode wd_1022 ⟨by decide, by decide⟩ [gI a1] rfl (Nat.le_of_ble_eq_true rfl) hT0 (fun hM ho => sX10_isNode hD c0 a1 M0 _ hT0 h hM ho) (fun r2 M1 h => ?_)
  obtain ⟨P4, h, hP4⟩ := h
  have J5 : ∀ (M3 : gMem), P4 M3 → gG X V 4 16 [] [] M3 := by
    intro M3 h
    replace h := hP4 M3 h
    refine g_bipush C dX10_cut_16 gRc_m2 gRb_m2 ?_
    exact g_iret C hR dX10_cut_18 h
  refine g_if_eq (t := 16) C dX10_cut_5 (by decide) (fun c6 => ?_) (fun c6 => ?_)
  · replace h := h.1 c6
    refine g_sub [] [] rfl ?_
    exact J5 M1 h
  · replace h := h.2 c6
    refine g_aloadn C dX10_cut_8 0 rfl ?_
    refine g_iloadn C dX10_cut_9 2 rfl ?_
    refine g_cVi (st := []) C dX10_cut_10 ykX10_isNode wd_1022 ⟨by decide, by decide⟩ [gI a2] rfl (Nat.le_of_ble_eq_true rfl) hT0 (fun hM ho => sX10_isNode hD c0 a2 M1 _ hT0 h hM ho) (fun r8 M7 h => ?_)
    refine g_if_ne (t := 19) C dX10_cut_13 (by decide) (fun c9 => ?_) (fun c9 => ?_)
    · replace h := h.1 c9
      refine g_aloadn C dX10_cut_19 0 rfl ?_
      refine g_iloadn C dX10_cut_20 1 rfl ?_
      refine g_iloadn C dX10_cut_21 2 rfl ?_
      refine g_cVi (st := []) C dX10_cut_22 ykX10_length wd_1068 ⟨by decide, by decide⟩ [gI a1, gI a2] rfl (Nat.le_of_ble_eq_true rfl) hT0 (fun hM ho => sX10_length hD c0 a1 a2 M7 _ hT0 h hM ho) (fun r11 M10 h => ?_)
      refine g_istoren C [(3, gI r11), (0, gF c0), (1, gI a1), (2, gI a2)] dX10_cut_25 (by decide) rfl ?_
      refine g_iloadn C dX10_cut_26 0 rfl ?_
      refine g_if_ne (t := 33) C dX10_cut_27 (by decide) (fun c12 => ?_) (fun c12 => ?_)
      · replace h := h.1 c12
        refine g_aloadn C dX10_cut_33 1 rfl ?_
        refine g_cVv (st := []) C dX10_cut_34 ykX10_keepPast wd_1097 ⟨by decide, by decide⟩ [] rfl (Nat.le_of_ble_eq_true rfl) hT0 (fun hM ho => sX10_keepPast hD c0 M10 _ hT0 h hM ho) (fun M13 h => ?_)
        refine g_aloadn C dX10_cut_37 1 rfl ?_
        refine g_iloadn C dX10_cut_38 2 rfl ?_
        refine g_iloadn C dX10_cut_39 3 rfl ?_
        refine g_iconst C dX10_cut_40 gRc_0 ?_
        refine g_cVv (st := []) C dX10_cut_41 ykX10_lies wd_1002 ⟨by decide, by decide⟩ [gI a1, gI a2, gI 0] rfl (Nat.le_of_ble_eq_true rfl) hT0 (fun hM ho => sX10_lies hD c0 a1 a2 0 M13 _ hT0 h hM ho) (fun M14 h => ?_)
        refine g_iloadn C dX10_cut_44 0 rfl ?_
        exact g_iret C hR dX10_cut_45 h
      · replace h := h.2 c12
        refine g_bipush C dX10_cut_30 gRc_m4 gRb_m4 ?_
        exact g_iret C hR dX10_cut_32 h
    · replace h := h.2 c9
      refine g_sub [] [] rfl ?_
      exact J5 M7 h

set_option maxRecDepth 100000 in
set_option maxHeartbeats 4000000 in
theorem sX10_lift {l : Launch} {V : gW} (hD : gD V) (c0 a1 a2 : Int) (M0 : gMem) (K : Int → gMem → Prop) (hT0 : gT c0 10) (h : wX10_lift c0 a1 a2 K M0) (hM : gOM M0) (ho : ∀ q ∈ ([gI a1, gI a2] : List gSV), gOK q) : gMi l V yX10_lift cX10_lift 4 (some .int) 2 46 [gF c0, gI a1, gI a2] M0 K := by
  refine gMi_of hD (by decide) (Nat.le_of_ble_eq_true rfl) [(0, gF c0), (1, gI a1), (2, gI a2)] rfl (gok_L rfl (gok_n (q := gF c0) trivial ho)) hM (fun X C hR => ?_)
  unfold wX10_lift at h
  refine g_aloadn C dX10_lift_0 0 rfl ?_
  refine g_iloadn C dX10_lift_1 1 rfl ?_
  refine g_cVi (st := []) C dX10_lift_2 ykX10_isNode wd_1022 ⟨by decide, by decide⟩ [gI a1] rfl (Nat.le_of_ble_eq_true rfl) hT0 (fun hM ho => sX10_isNode hD c0 a1 M0 _ hT0 h hM ho) (fun r2 M1 h => ?_)
  refine g_if_ne (t := 11) C dX10_lift_5 (by decide) (fun c3 => ?_) (fun c3 => ?_)
  · replace h := h.1 c3
    refine g_iloadn C dX10_lift_11 2 rfl ?_
    refine g_i2l C dX10_lift_12 ?_
    refine g_lconst C dX10_lift_13 (by decide) (show gOK (gJ 0) from ⟨by decide, by decide⟩) ?_
    refine g_ldc2 C dX10_lift_14 wd_1043 (by decide) (show gOK (gJ 2) from ⟨by decide, by decide⟩) ?_
    refine g_cSi (st := []) C dX10_lift_17 ykX10_in wd_937 ⟨by decide, by decide⟩ [gJ a2, gJ 0, gJ 2] rfl (Nat.le_of_ble_eq_true rfl) (fun hM ho => sX10_in hD a2 0 2 M1 _  h hM ho) (fun r5 M4 h => ?_)
    refine g_if_ne (t := 26) C dX10_lift_20 (by decide) (fun c6 => ?_) (fun c6 => ?_)
    · replace h := h.1 c6
      refine g_aloadn C dX10_lift_26 0 rfl ?_
      refine g_cVv (st := []) C dX10_lift_27 ykX10_keepPast wd_1097 ⟨by decide, by decide⟩ [] rfl (Nat.le_of_ble_eq_true rfl) hT0 (fun hM ho => sX10_keepPast hD c0 M4 _ hT0 h hM ho) (fun M7 h => ?_)
      refine g_aloadn C dX10_lift_30 0 rfl ?_
      refine gf_10_0 C dX10_lift_31 wd_855 hT0 ?_
      refine g_sipush C dX10_lift_34 gRc_144 gRs_144 ?_
      refine g_iloadn C dX10_lift_37 1 rfl ?_
      refine g_iadd C dX10_lift_38 h.1 ?_
      replace h := h.2
      refine g_iald C dX10_lift_39 (gt_10_0 hT0) gce_11727 h.1 ?_
      replace h := h.2
      obtain ⟨v8, ev8⟩ : ∃ x : Int, x = (M7 (c0 + 1) (144 + a1)) := ⟨_, rfl⟩
      refine g_nm ev8 ?_
      replace h := h v8 ev8
      refine g_istoren C [(3, gI v8), (0, gF c0), (1, gI a1), (2, gI a2)] dX10_lift_40 (by decide) rfl ?_
      refine g_aloadn C dX10_lift_41 1 rfl ?_
      refine gf_10_0 C dX10_lift_42 wd_855 hT0 ?_
      refine g_sipush C dX10_lift_45 gRc_144 gRs_144 ?_
      refine g_iloadn C dX10_lift_48 2 rfl ?_
      refine g_iadd C dX10_lift_49 h.1 ?_
      replace h := h.2
      refine g_iloadn C dX10_lift_50 3 rfl ?_
      refine g_iast C dX10_lift_51 (gt_10_0 hT0) gce_11727 h.1 ?_
      replace h := h.2
      obtain ⟨M9, eM9⟩ : ∃ x : gMem, x = gup M7 (c0 + 1) (144 + a1) a2 := ⟨_, rfl⟩
      refine g_nmM eM9 ?_
      replace h := h M9 eM9
      refine g_iloadn C dX10_lift_52 0 rfl ?_
      exact g_iret C hR dX10_lift_53 h
    · replace h := h.2 c6
      refine g_bipush C dX10_lift_23 gRc_m3 gRb_m3 ?_
      exact g_iret C hR dX10_lift_25 h
  · replace h := h.2 c3
    refine g_bipush C dX10_lift_8 gRc_m2 gRb_m2 ?_
    exact g_iret C hR dX10_lift_10 h

set_option maxRecDepth 100000 in
set_option maxHeartbeats 4000000 in
theorem sX10_draw {l : Launch} {V : gW} (hD : gD V) (c0 a1 : Int) (M0 : gMem) (K : Int → gMem → Prop) (hT0 : gT c0 10) (h : wX10_draw c0 a1 K M0) (hM : gOM M0) (ho : ∀ q ∈ ([gI a1] : List gSV), gOK q) : gMi l V yX10_draw cX10_draw 5 (some .int) 2 44 [gF c0, gI a1] M0 K := by
  refine gMi_of hD (by decide) (Nat.le_of_ble_eq_true rfl) [(0, gF c0), (1, gI a1)] rfl (gok_L rfl (gok_n (q := gF c0) trivial ho)) hM (fun X C hR => ?_)
  unfold wX10_draw at h
  refine g_aloadn C dX10_draw_0 0 rfl ?_
  refine g_cVv (st := []) C dX10_draw_1 ykX10_keepPast wd_1097 ⟨by decide, by decide⟩ [] rfl (Nat.le_of_ble_eq_true rfl) hT0 (fun hM ho => sX10_keepPast hD c0 M0 _ hT0 h hM ho) (fun M1 h => ?_)
  refine g_aloadn C dX10_draw_4 0 rfl ?_
  refine gf_10_0 C dX10_draw_5 wd_855 hT0 ?_
  refine g_sipush C dX10_draw_8 gRc_156 gRs_156 ?_
  refine g_iloadn C dX10_draw_11 1 rfl ?_
  refine g_iast C dX10_draw_12 (gt_10_0 hT0) gce_11727 h.1 ?_
  replace h := h.2
  obtain ⟨M2, eM2⟩ : ∃ x : gMem, x = gup M1 (c0 + 1) 156 a1 := ⟨_, rfl⟩
  refine g_nmM eM2 ?_
  replace h := h M2 eM2
  refine g_iconst C dX10_draw_13 gRc_0 ?_
  refine g_istoren C [(2, gI 0), (0, gF c0), (1, gI a1)] dX10_draw_14 (by decide) rfl ?_
  refine g_iconst C dX10_draw_15 gRc_0 ?_
  refine g_istoren C [(3, gI 0), (2, gI 0), (0, gF c0), (1, gI a1)] dX10_draw_16 (by decide) rfl ?_
  refine g_sub [(0, gF c0), (2, gI 0), (3, gI 0)] [2, 1, 0] rfl ?_
  refine gL2_go (Gd := fun (v3 : Int) (v4 : Int) (M5 : gMem) => gG X V 5 17 [(0, gF c0), (2, gI v3), (3, gI v4)] [] M5) (fun rec6 hrec6 v3 v4 M5 h => ?_) h
  refine g_iloadn C dX10_draw_17 2 rfl ?_
  refine g_aloadn C dX10_draw_18 0 rfl ?_
  refine gf_10_2 C dX10_draw_19 wd_857 hT0 ?_
  refine g_ic_ge (t := 112) C dX10_draw_22 (by decide) (fun c7 => ?_) (fun c7 => ?_)
  · replace h := h.1 c7
    refine g_iloadn C dX10_draw_112 1 rfl ?_
    exact g_iret C hR dX10_draw_113 h
  · replace h := h.2 c7
    refine g_aloadn C dX10_draw_25 0 rfl ?_
    refine gf_10_0 C dX10_draw_26 wd_855 hT0 ?_
    refine g_sipush C dX10_draw_29 gRc_156 gRs_156 ?_
    refine g_aloadn C dX10_draw_32 0 rfl ?_
    refine gf_10_0 C dX10_draw_33 wd_855 hT0 ?_
    refine g_sipush C dX10_draw_36 gRc_156 gRs_156 ?_
    refine g_iald C dX10_draw_39 (gt_10_0 hT0) gce_11727 h.1 ?_
    replace h := h.2
    refine g_ldc C dX10_draw_40 wd_1117 gRc_69069 rfl ?_
    refine g_imulW C dX10_draw_42 ?_
    refine g_iconst C dX10_draw_43 gRc_1 ?_
    refine g_iaddW C dX10_draw_44 ?_
    refine g_iast C dX10_draw_45 (gt_10_0 hT0) gce_11727 h.1 ?_
    replace h := h.2
    obtain ⟨M8, eM8⟩ : ∃ x : gMem, x = gup M5 (c0 + 1) 156 (gwr ((gwr ((M5 (c0 + 1) 156) * 69069)) + 1)) := ⟨_, rfl⟩
    refine g_nmM eM8 ?_
    replace h := h M8 eM8
    refine g_aloadn C dX10_draw_46 0 rfl ?_
    refine gf_10_0 C dX10_draw_47 wd_855 hT0 ?_
    refine g_sipush C dX10_draw_50 gRc_156 gRs_156 ?_
    refine g_iald C dX10_draw_53 (gt_10_0 hT0) gce_11727 h.1 ?_
    replace h := h.2
    refine g_bipush C dX10_draw_54 gRc_16 gRb_16 ?_
    refine g_iushr16 C dX10_draw_56 ?_
    refine g_bipush C dX10_draw_57 gRc_8 gRb_8 ?_
    refine g_irem C dX10_draw_59 h.1 ?_
    replace h := h.2
    obtain ⟨v9, ev9⟩ : ∃ x : Int, x = (((M8 (c0 + 1) 156) % 4294967296 / 65536) % 8) := ⟨_, rfl⟩
    refine g_nm ev9 ?_
    replace h := h v9 ev9
    refine g_istore C [(4, gI v9), (0, gF c0), (2, gI v3), (3, gI v4)] dX10_draw_60 (by decide) rfl ?_
    refine g_aloadn C dX10_draw_62 1 rfl ?_
    refine gf_10_0 C dX10_draw_63 wd_855 hT0 ?_
    refine g_sipush C dX10_draw_66 gRc_144 gRs_144 ?_
    refine g_iloadn C dX10_draw_69 3 rfl ?_
    refine g_iaddW C dX10_draw_70 ?_
    refine g_iload C dX10_draw_71 0 rfl ?_
    obtain ⟨P12, h, hP12⟩ := h
    have J13 : ∀ (x10 : Int) (M11 : gMem), P12 x10 M11 → gG X V 5 91 [(0, gF c0), (2, gI v3), (3, gI v4), (4, gI v9)] [gI x10, gI (gwr (144 + v4)), gF (c0 + 1)] M11 := by
      intro x10 M11 h
      replace h := hP12 x10 M11 h
      refine g_iast C dX10_draw_91 (gt_10_0 hT0) gce_11727 h.1 ?_
      replace h := h.2
      obtain ⟨M14, eM14⟩ : ∃ x : gMem, x = gup M11 (c0 + 1) (gwr (144 + v4)) x10 := ⟨_, rfl⟩
      refine g_nmM eM14 ?_
      replace h := h M14 eM14
      refine g_iloadn C dX10_draw_92 1 rfl ?_
      refine g_iload C dX10_draw_93 3 rfl ?_
      refine g_iconst C dX10_draw_95 gRc_3 ?_
      obtain ⟨P17, h, hP17⟩ := h
      have J18 : ∀ (x15 : Int) (M16 : gMem), P17 x15 M16 → gG X V 5 104 [(0, gF c0), (3, gI v4)] [gI x15, gI v3] M16 := by
        intro x15 M16 h
        replace h := hP17 x15 M16 h
        refine g_iaddW C dX10_draw_104 ?_
        obtain ⟨v19, ev19⟩ : ∃ x : Int, x = gwr (v3 + x15) := ⟨_, rfl⟩
        refine g_nm ev19 ?_
        replace h := h v19 ev19
        refine g_istoren C [(2, gI v19), (0, gF c0), (3, gI v4)] dX10_draw_105 (by decide) rfl ?_
        refine g_iinc C [(3, gI (v4 + 1)), (2, gI v19), (0, gF c0)] dX10_draw_106 2 rfl (by decide) h.1 rfl ?_
        replace h := h.2
        refine g_goto (t := 17) C dX10_draw_109 (by decide) ?_
        refine g_sub [(0, gF c0), (2, gI v19), (3, gI (v4 + 1))] [2, 1, 0] rfl ?_
        exact hrec6 v19 (v4 + 1) M16 h
      refine g_ic_ge (t := 103) C dX10_draw_96 (by decide) (fun c20 => ?_) (fun c20 => ?_)
      · replace h := h.1 c20
        refine g_iconst C dX10_draw_103 gRc_0 ?_
        refine g_sub [(0, gF c0), (3, gI v4)] [0, 2] rfl ?_
        exact J18 0 M14 h
      · replace h := h.2 c20
        refine g_iconst C dX10_draw_99 gRc_1 ?_
        refine g_goto (t := 104) C dX10_draw_100 (by decide) ?_
        refine g_sub [(0, gF c0), (3, gI v4)] [0, 2] rfl ?_
        exact J18 1 M14 h
    refine g_if_ne (t := 80) C dX10_draw_73 (by decide) (fun c21 => ?_) (fun c21 => ?_)
    · replace h := h.1 c21
      refine g_iload C dX10_draw_80 0 rfl ?_
      refine g_iconst C dX10_draw_82 gRc_3 ?_
      refine g_ic_ge (t := 90) C dX10_draw_83 (by decide) (fun c22 => ?_) (fun c22 => ?_)
      · replace h := h.1 c22
        refine g_iconst C dX10_draw_90 gRc_0 ?_
        refine g_sub [(0, gF c0), (2, gI v3), (3, gI v4), (4, gI v9)] [1, 2, 3, 0] rfl ?_
        exact J13 0 M8 h
      · replace h := h.2 c22
        refine g_iconst C dX10_draw_86 gRc_1 ?_
        refine g_goto (t := 91) C dX10_draw_87 (by decide) ?_
        refine g_sub [(0, gF c0), (2, gI v3), (3, gI v4), (4, gI v9)] [1, 2, 3, 0] rfl ?_
        exact J13 1 M8 h
    · replace h := h.2 c21
      refine g_iconst C dX10_draw_76 gRc_2 ?_
      refine g_goto (t := 91) C dX10_draw_77 (by decide) ?_
      refine g_sub [(0, gF c0), (2, gI v3), (3, gI v4), (4, gI v9)] [1, 2, 3, 0] rfl ?_
      exact J13 2 M8 h

set_option maxRecDepth 100000 in
set_option maxHeartbeats 4000000 in
theorem sX10_thin {l : Launch} {V : gW} (hD : gD V) (c0 a1 : Int) (M0 : gMem) (K : Int → gMem → Prop) (hT0 : gT c0 10) (h : wX10_thin c0 a1 K M0) (hM : gOM M0) (ho : ∀ q ∈ ([gI a1] : List gSV), gOK q) : gMi l V yX10_thin cX10_thin 3 (some .int) 3 71 [gF c0, gI a1] M0 K := by
  refine gMi_of hD (by decide) (Nat.le_of_ble_eq_true rfl) [(0, gF c0), (1, gI a1)] rfl (gok_L rfl (gok_n (q := gF c0) trivial ho)) hM (fun X C hR => ?_)
  unfold wX10_thin at h
  refine g_iloadn C dX10_thin_0 1 rfl ?_
  refine g_i2l C dX10_thin_1 ?_
  refine g_lconst C dX10_thin_2 (by decide) (show gOK (gJ 1) from ⟨by decide, by decide⟩) ?_
  refine g_ldc2 C dX10_thin_3 wd_1076 (by decide) (show gOK (gJ 9) from ⟨by decide, by decide⟩) ?_
  refine g_cSi (st := []) C dX10_thin_6 ykX10_in wd_937 ⟨by decide, by decide⟩ [gJ a1, gJ 1, gJ 9] rfl (Nat.le_of_ble_eq_true rfl) (fun hM ho => sX10_in hD a1 1 9 M0 _  h hM ho) (fun r2 M1 h => ?_)
  refine g_if_ne (t := 15) C dX10_thin_9 (by decide) (fun c3 => ?_) (fun c3 => ?_)
  · replace h := h.1 c3
    refine g_aloadn C dX10_thin_15 0 rfl ?_
    refine g_iloadn C dX10_thin_16 1 rfl ?_
    refine g_cVv (st := []) C dX10_thin_17 ykX10_thins wd_1077 ⟨by decide, by decide⟩ [gI a1] rfl (Nat.le_of_ble_eq_true rfl) hT0 (fun hM ho => sX10_thins hD c0 a1 M1 _ hT0 h hM ho) (fun M4 h => ?_)
    refine g_aloadn C dX10_thin_20 0 rfl ?_
    refine g_cVv (st := []) C dX10_thin_21 ykX10_keepPast wd_1097 ⟨by decide, by decide⟩ [] rfl (Nat.le_of_ble_eq_true rfl) hT0 (fun hM ho => sX10_keepPast hD c0 M4 _ hT0 h hM ho) (fun M5 h => ?_)
    refine g_iconst C dX10_thin_24 gRc_0 ?_
    refine g_istoren C [(2, gI 0), (0, gF c0), (1, gI a1)] dX10_thin_25 (by decide) rfl ?_
    refine g_sub [(0, gF c0), (2, gI 0)] [1, 0] rfl ?_
    refine gL1_go (Gd := fun (v6 : Int) (M7 : gMem) => gG X V 3 26 [(0, gF c0), (2, gI v6)] [] M7) (fun rec8 hrec8 v6 M7 h => ?_) h
    refine g_iloadn C dX10_thin_26 1 rfl ?_
    refine g_sipush C dX10_thin_27 gRc_144 gRs_144 ?_
    refine g_ic_ge (t := 64) C dX10_thin_30 (by decide) (fun c9 => ?_) (fun c9 => ?_)
    · replace h := h.1 c9
      refine g_aloadn C dX10_thin_64 0 rfl ?_
      refine g_cVi (st := []) C dX10_thin_65 ykX10_links wd_952 ⟨by decide, by decide⟩ [] rfl (Nat.le_of_ble_eq_true rfl) hT0 (fun hM ho => sX10_links hD c0 M7 _ hT0 h hM ho) (fun r11 M10 h => ?_)
      exact g_iret C hR dX10_thin_68 h
    · replace h := h.2 c9
      refine g_aloadn C dX10_thin_33 0 rfl ?_
      refine gf_10_0 C dX10_thin_34 wd_855 hT0 ?_
      refine g_iloadn C dX10_thin_37 1 rfl ?_
      refine g_aloadn C dX10_thin_38 0 rfl ?_
      refine gf_10_17 C dX10_thin_39 wd_872 hT0 ?_
      refine g_iloadn C dX10_thin_42 1 rfl ?_
      refine g_zald C dX10_thin_43 (gt_10_17 hT0) gce_20144 h.1 ?_
      replace h := h.2
      obtain ⟨P14, h, hP14⟩ := h
      have J15 : ∀ (x12 : Int) (M13 : gMem), P14 x12 M13 → gG X V 3 57 [(0, gF c0), (2, gI v6)] [gI x12, gI v6, gF (c0 + 1)] M13 := by
        intro x12 M13 h
        replace h := hP14 x12 M13 h
        refine g_iast C dX10_thin_57 (gt_10_0 hT0) gce_11727 h.1 ?_
        replace h := h.2
        obtain ⟨M16, eM16⟩ : ∃ x : gMem, x = gup M13 (c0 + 1) v6 x12 := ⟨_, rfl⟩
        refine g_nmM eM16 ?_
        replace h := h M16 eM16
        refine g_iinc C [(2, gI (v6 + 1)), (0, gF c0)] dX10_thin_58 1 rfl (by decide) h.1 rfl ?_
        replace h := h.2
        refine g_goto (t := 26) C dX10_thin_61 (by decide) ?_
        refine g_sub [(0, gF c0), (2, gI (v6 + 1))] [1, 0] rfl ?_
        exact hrec8 (v6 + 1) M16 h
      refine g_if_eq (t := 56) C dX10_thin_44 (by decide) (fun c17 => ?_) (fun c17 => ?_)
      · replace h := h.1 c17
        refine g_iconst C dX10_thin_56 gRc_0 ?_
        exact J15 0 M7 h
      · replace h := h.2 c17
        refine g_aloadn C dX10_thin_47 0 rfl ?_
        refine gf_10_0 C dX10_thin_48 wd_855 hT0 ?_
        refine g_iloadn C dX10_thin_51 1 rfl ?_
        refine g_iald C dX10_thin_52 (gt_10_0 hT0) gce_11727 h.1 ?_
        replace h := h.2
        refine g_goto (t := 57) C dX10_thin_53 (by decide) ?_
        exact J15 (M7 (c0 + 1) v6) M7 h
  · replace h := h.2 c3
    refine g_bipush C dX10_thin_12 gRc_m3 gRb_m3 ?_
    exact g_iret C hR dX10_thin_14 h
