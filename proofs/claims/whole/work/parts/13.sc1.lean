set_option maxRecDepth 100000 in
set_option maxHeartbeats 4000000 in
theorem sX9_readText {l : Launch} {V : gW} (hD : gD V) (c0 : Int) (M0 : gMem) (K : Int → gMem → Prop) (hT0 : gT c0 9) (h : wX9_readText c0 K M0) (hM : gOM M0) (ho : ∀ q ∈ ([] : List gSV), gOK q) : gMi l V yX9_readText cX9_readText 1 (some .int) 8 195 [gF c0] M0 K := by
  refine gMi_of hD (by decide) (Nat.le_of_ble_eq_true rfl) [(0, gF c0)] rfl (gok_L rfl (gok_n (q := gF c0) trivial ho)) hM (fun X C hR => ?_)
  unfold wX9_readText at h
  refine g_aloadn C dX9_readText_0 0 rfl ?_
  refine gf_9_1 C dX9_readText_1 wd_339 hT0 ?_
  refine g_aloadn C dX9_readText_4 0 rfl ?_
  refine gf_9_0 C dX9_readText_5 wd_338 hT0 ?_
  refine g_cVv (st := []) C dX9_readText_8 ykX1_copyFrom wd_392 ⟨by decide, by decide⟩ [gF (c0 + 1)] rfl (Nat.le_of_ble_eq_true rfl) (gt_9_1 hT0) (fun hM ho => sX1_copyFrom hD (c0 + 4) (c0 + 1) M0 _ (gt_9_1 hT0) (gt_9_0 hT0) h hM ho) (fun M1 h => ?_)
  refine g_aloadn C dX9_readText_11 0 rfl ?_
  refine gf_9_2 C dX9_readText_12 wd_340 hT0 ?_
  refine g_aloadn C dX9_readText_15 0 rfl ?_
  refine gf_9_1 C dX9_readText_16 wd_339 hT0 ?_
  refine g_cVi (st := []) C dX9_readText_19 ykX7_readInto wd_399 ⟨by decide, by decide⟩ [gF (c0 + 4)] rfl (Nat.le_of_ble_eq_true rfl) (gt_9_2 hT0) (fun hM ho => sX7_readInto hD (c0 + 7) (c0 + 4) M1 _ (gt_9_2 hT0) (gt_9_1 hT0) h hM ho) (fun r3 M2 h => ?_)
  exact g_iret C hR dX9_readText_22 h

set_option maxRecDepth 100000 in
set_option maxHeartbeats 4000000 in
theorem sX9_fault {l : Launch} {V : gW} (hD : gD V) (c0 : Int) (M0 : gMem) (K : Int → gMem → Prop) (hT0 : gT c0 9) (h : wX9_fault c0 K M0) (hM : gOM M0) (ho : ∀ q ∈ ([] : List gSV), gOK q) : gMi l V yX9_fault cX9_fault 1 (some .int) 9 215 [gF c0] M0 K := by
  refine gMi_of hD (by decide) (Nat.le_of_ble_eq_true rfl) [(0, gF c0)] rfl (gok_L rfl (gok_n (q := gF c0) trivial ho)) hM (fun X C hR => ?_)
  unfold wX9_fault at h
  refine g_aloadn C dX9_fault_0 0 rfl ?_
  refine g_cVi (st := []) C dX9_fault_1 ykX9_readText wd_388 ⟨by decide, by decide⟩ [] rfl (Nat.le_of_ble_eq_true rfl) hT0 (fun hM ho => sX9_readText hD c0 M0 _ hT0 h hM ho) (fun r2 M1 h => ?_)
  exact g_iret C hR dX9_fault_4 h

set_option maxRecDepth 100000 in
set_option maxHeartbeats 4000000 in
theorem sX9_blankAll {l : Launch} {V : gW} (hD : gD V) (c0 : Int) (M0 : gMem) (K : gMem → Prop) (hT0 : gT c0 9) (h : wX9_blankAll c0 K M0) (hM : gOM M0) (ho : ∀ q ∈ ([] : List gSV), gOK q) : gMv l V yX9_blankAll cX9_blankAll 2 0 0 [gF c0] M0 K := by
  refine gMv_of hD (by decide) (Nat.le_of_ble_eq_true rfl) [(0, gF c0)] rfl (gok_L rfl (gok_n (q := gF c0) trivial ho)) hM (fun X C hR => ?_)
  unfold wX9_blankAll at h
  refine g_iconst C dX9_blankAll_0 gRc_0 ?_
  refine g_istoren C [(1, gI 0), (0, gF c0)] dX9_blankAll_1 (by decide) rfl ?_
  refine g_sub [(0, gF c0), (1, gI 0)] [1, 0] rfl ?_
  refine gL1_go (Gd := fun (v1 : Int) (M2 : gMem) => gG X V 2 2 [(0, gF c0), (1, gI v1)] [] M2) (fun rec3 hrec3 v1 M2 h => ?_) h
  refine g_iloadn C dX9_blankAll_2 1 rfl ?_
  refine g_bipush C dX9_blankAll_3 gRc_12 gRb_12 ?_
  refine g_ic_ge (t := 24) C dX9_blankAll_5 (by decide) (fun c4 => ?_) (fun c4 => ?_)
  · replace h := h.1 c4
    exact g_vret C hR dX9_blankAll_24 h
  · replace h := h.2 c4
    refine g_aloadn C dX9_blankAll_8 0 rfl ?_
    refine gf_9_4 C dX9_blankAll_9 wd_342 hT0 ?_
    refine g_iloadn C dX9_blankAll_12 1 rfl ?_
    have hb5 := h.1
    replace h := h.2
    refine g_aald C dX9_blankAll_13 (gt_9_4 hT0) gce_30012 2 rfl (by decide) rfl hb5 ?_
    refine g_iconst C dX9_blankAll_14 gRc_0 ?_
    refine gp_2_0 C dX9_blankAll_15 wd_195 (gta_30012 (gt_9_4 hT0) hb5) (Or.inl rfl) ?_
    obtain ⟨M6, eM6⟩ : ∃ x : gMem, x = gup M2 ((c0 + 35) + 1 + 4 * v1) 0 0 := ⟨_, rfl⟩
    refine g_nmM eM6 ?_
    replace h := h M6 eM6
    refine g_iinc C [(1, gI (v1 + 1)), (0, gF c0)] dX9_blankAll_18 1 rfl (by decide) h.1 rfl ?_
    replace h := h.2
    refine g_goto (t := 2) C dX9_blankAll_21 (by decide) ?_
    refine g_sub [(0, gF c0), (1, gI (v1 + 1))] [1, 0] rfl ?_
    exact hrec3 (v1 + 1) M6 h

set_option maxRecDepth 100000 in
set_option maxHeartbeats 4000000 in
theorem sX9_forgetSlots {l : Launch} {V : gW} (hD : gD V) (c0 : Int) (M0 : gMem) (K : gMem → Prop) (hT0 : gT c0 9) (h : wX9_forgetSlots c0 K M0) (hM : gOM M0) (ho : ∀ q ∈ ([] : List gSV), gOK q) : gMv l V yX9_forgetSlots cX9_forgetSlots 2 0 0 [gF c0] M0 K := by
  refine gMv_of hD (by decide) (Nat.le_of_ble_eq_true rfl) [(0, gF c0)] rfl (gok_L rfl (gok_n (q := gF c0) trivial ho)) hM (fun X C hR => ?_)
  unfold wX9_forgetSlots at h
  refine g_iconst C dX9_forgetSlots_0 gRc_0 ?_
  refine g_istoren C [(1, gI 0), (0, gF c0)] dX9_forgetSlots_1 (by decide) rfl ?_
  refine g_sub [(0, gF c0), (1, gI 0)] [1, 0] rfl ?_
  refine gL1_go (Gd := fun (v1 : Int) (M2 : gMem) => gG X V 2 2 [(0, gF c0), (1, gI v1)] [] M2) (fun rec3 hrec3 v1 M2 h => ?_) h
  refine g_iloadn C dX9_forgetSlots_2 1 rfl ?_
  refine g_iconst C dX9_forgetSlots_3 gRc_2 ?_
  refine g_ic_ge (t := 23) C dX9_forgetSlots_4 (by decide) (fun c4 => ?_) (fun c4 => ?_)
  · replace h := h.1 c4
    exact g_vret C hR dX9_forgetSlots_23 h
  · replace h := h.2 c4
    refine g_aloadn C dX9_forgetSlots_7 0 rfl ?_
    refine gf_9_6 C dX9_forgetSlots_8 wd_344 hT0 ?_
    refine g_iloadn C dX9_forgetSlots_11 1 rfl ?_
    have hb5 := h.1
    replace h := h.2
    refine g_aald C dX9_forgetSlots_12 (gt_9_6 hT0) gce_50002 4 rfl (by decide) rfl hb5 ?_
    refine g_iconst C dX9_forgetSlots_13 gRc_0 ?_
    refine gp_5_0 C dX9_forgetSlots_14 wd_222 (gta_50002 (gt_9_6 hT0) hb5) (Or.inl rfl) ?_
    obtain ⟨M6, eM6⟩ : ∃ x : gMem, x = gup M2 ((c0 + 88) + 1 + 53 * v1) 0 0 := ⟨_, rfl⟩
    refine g_nmM eM6 ?_
    replace h := h M6 eM6
    refine g_iinc C [(1, gI (v1 + 1)), (0, gF c0)] dX9_forgetSlots_17 1 rfl (by decide) h.1 rfl ?_
    replace h := h.2
    refine g_goto (t := 2) C dX9_forgetSlots_20 (by decide) ?_
    refine g_sub [(0, gF c0), (1, gI (v1 + 1))] [1, 0] rfl ?_
    exact hrec3 (v1 + 1) M6 h

set_option maxRecDepth 100000 in
set_option maxHeartbeats 4000000 in
theorem sX9_net {l : Launch} {V : gW} (hD : gD V) (c0 : Int) (M0 : gMem) (K : Int → gMem → Prop) (hT0 : gT c0 9) (h : wX9_net c0 K M0) (hM : gOM M0) (ho : ∀ q ∈ ([] : List gSV), gOK q) : gMi l V yX9_net cX9_net 1 (some .int) 9 215 [gF c0] M0 K := by
  refine gMi_of hD (by decide) (Nat.le_of_ble_eq_true rfl) [(0, gF c0)] rfl (gok_L rfl (gok_n (q := gF c0) trivial ho)) hM (fun X C hR => ?_)
  unfold wX9_net at h
  refine g_aloadn C dX9_net_0 0 rfl ?_
  refine g_cVi (st := []) C dX9_net_1 ykX9_readText wd_388 ⟨by decide, by decide⟩ [] rfl (Nat.le_of_ble_eq_true rfl) hT0 (fun hM ho => sX9_readText hD c0 M0 _ hT0 h hM ho) (fun r2 M1 h => ?_)
  refine g_iconst C dX9_net_4 gRc_m1 ?_
  refine g_ic_eq (t := 11) C dX9_net_5 (by decide) (fun c3 => ?_) (fun c3 => ?_)
  · replace h := h.1 c3
    refine g_aloadn C dX9_net_11 0 rfl ?_
    refine gf_9_0 C dX9_net_12 wd_338 hT0 ?_
    refine g_aloadn C dX9_net_15 0 rfl ?_
    refine gf_9_1 C dX9_net_16 wd_339 hT0 ?_
    refine g_cVv (st := []) C dX9_net_19 ykX1_copyFrom wd_392 ⟨by decide, by decide⟩ [gF (c0 + 4)] rfl (Nat.le_of_ble_eq_true rfl) (gt_9_0 hT0) (fun hM ho => sX1_copyFrom hD (c0 + 1) (c0 + 4) M1 _ (gt_9_0 hT0) (gt_9_1 hT0) h hM ho) (fun M4 h => ?_)
    refine g_aloadn C dX9_net_22 0 rfl ?_
    refine gf_9_2 C dX9_net_23 wd_340 hT0 ?_
    refine gf_7_2 C dX9_net_26 wd_143 (gt_9_2 hT0) ?_
    obtain ⟨P6, h, hP6⟩ := h
    have J7 : ∀ (M5 : gMem), P6 M5 → gG X V 1 36 [(0, gF c0)] [] M5 := by
      intro M5 h
      replace h := hP6 M5 h
      refine g_aloadn C dX9_net_36 0 rfl ?_
      refine gf_9_3 C dX9_net_37 wd_341 hT0 ?_
      refine g_iconst C dX9_net_40 gRc_0 ?_
      refine gp_3_0 C dX9_net_41 wd_173 (gt_9_3 hT0) ?_
      obtain ⟨M8, eM8⟩ : ∃ x : gMem, x = gup M5 (c0 + 9) 0 0 := ⟨_, rfl⟩
      refine g_nmM eM8 ?_
      replace h := h M8 eM8
      refine g_aloadn C dX9_net_44 0 rfl ?_
      refine g_cVv (st := []) C dX9_net_45 ykX9_forgetSlots wd_525 ⟨by decide, by decide⟩ [] rfl (Nat.le_of_ble_eq_true rfl) hT0 (fun hM ho => sX9_forgetSlots hD c0 M8 _ hT0 h hM ho) (fun M9 h => ?_)
      refine g_aloadn C dX9_net_48 0 rfl ?_
      refine gf_9_2 C dX9_net_49 wd_340 hT0 ?_
      refine g_iconst C dX9_net_52 gRc_0 ?_
      refine gp_7_0 C dX9_net_53 wd_139 (gt_9_2 hT0) ?_
      obtain ⟨M10, eM10⟩ : ∃ x : gMem, x = gup M9 (c0 + 7) 0 0 := ⟨_, rfl⟩
      refine g_nmM eM10 ?_
      replace h := h M10 eM10
      refine g_aloadn C dX9_net_56 0 rfl ?_
      refine gf_9_2 C dX9_net_57 wd_340 hT0 ?_
      refine gf_7_1 C dX9_net_60 wd_141 (gt_9_2 hT0) ?_
      exact g_iret C hR dX9_net_63 h
    refine g_if_eq (t := 36) C dX9_net_29 (by decide) (fun c11 => ?_) (fun c11 => ?_)
    · replace h := h.1 c11
      exact J7 M4 h
    · replace h := h.2 c11
      refine g_aloadn C dX9_net_32 0 rfl ?_
      refine g_cVv (st := []) C dX9_net_33 ykX9_blankAll wd_521 ⟨by decide, by decide⟩ [] rfl (Nat.le_of_ble_eq_true rfl) hT0 (fun hM ho => sX9_blankAll hD c0 M4 _ hT0 h hM ho) (fun M12 h => ?_)
      exact J7 M12 h
  · replace h := h.2 c3
    refine g_bipush C dX9_net_8 gRc_m4 gRb_m4 ?_
    exact g_iret C hR dX9_net_10 h

set_option maxRecDepth 100000 in
set_option maxHeartbeats 4000000 in
theorem sX1_cellOfLink {l : Launch} {V : gW} (hD : gD V) (c0 a1 : Int) (M0 : gMem) (K : Int → gMem → Prop) (hT0 : gT c0 1) (h : wX1_cellOfLink c0 a1 K M0) (hM : gOM M0) (ho : ∀ q ∈ ([gI a1] : List gSV), gOK q) : gMi l V yX1_cellOfLink cX1_cellOfLink 5 (some .int) 1 21 [gF c0, gI a1] M0 K := by
  refine gMi_of hD (by decide) (Nat.le_of_ble_eq_true rfl) [(0, gF c0), (1, gI a1)] rfl (gok_L rfl (gok_n (q := gF c0) trivial ho)) hM (fun X C hR => ?_)
  unfold wX1_cellOfLink at h
  refine g_iloadn C dX1_cellOfLink_0 1 rfl ?_
  obtain ⟨P2, h, hP2⟩ := h
  have J3 : ∀ (M1 : gMem), P2 M1 → gG X V 5 12 [] [] M1 := by
    intro M1 h
    replace h := hP2 M1 h
    refine g_iconst C dX1_cellOfLink_12 gRc_m1 ?_
    exact g_iret C hR dX1_cellOfLink_13 h
  refine g_if_lt (t := 12) C dX1_cellOfLink_1 (by decide) (fun c4 => ?_) (fun c4 => ?_)
  · replace h := h.1 c4
    refine g_sub [] [] rfl ?_
    exact J3 M0 h
  · replace h := h.2 c4
    refine g_iloadn C dX1_cellOfLink_4 1 rfl ?_
    refine g_aloadn C dX1_cellOfLink_5 0 rfl ?_
    refine gf_1_1 C dX1_cellOfLink_6 wd_109 hT0 ?_
    refine g_ic_lt (t := 14) C dX1_cellOfLink_9 (by decide) (fun c5 => ?_) (fun c5 => ?_)
    · replace h := h.1 c5
      refine g_iloadn C dX1_cellOfLink_14 1 rfl ?_
      refine g_istoren C [(2, gI a1), (0, gF c0), (1, gI a1)] dX1_cellOfLink_15 (by decide) rfl ?_
      refine g_iconst C dX1_cellOfLink_16 gRc_0 ?_
      refine g_istoren C [(3, gI 0), (2, gI a1), (0, gF c0), (1, gI a1)] dX1_cellOfLink_17 (by decide) rfl ?_
      refine g_sub [(0, gF c0), (2, gI a1), (3, gI 0)] [2, 1, 0] rfl ?_
      refine gL2_go (Gd := fun (v6 : Int) (v7 : Int) (M8 : gMem) => gG X V 5 18 [(0, gF c0), (2, gI v6), (3, gI v7)] [] M8) (fun rec9 hrec9 v6 v7 M8 h => ?_) h
      refine g_iloadn C dX1_cellOfLink_18 2 rfl ?_
      refine g_aloadn C dX1_cellOfLink_19 0 rfl ?_
      refine gf_1_0 C dX1_cellOfLink_20 wd_103 hT0 ?_
      refine g_ic_ge (t := 80) C dX1_cellOfLink_23 (by decide) (fun c10 => ?_) (fun c10 => ?_)
      · replace h := h.1 c10
        refine g_iconst C dX1_cellOfLink_80 gRc_m1 ?_
        exact g_iret C hR dX1_cellOfLink_81 h
      · replace h := h.2 c10
        refine g_iloadn C dX1_cellOfLink_26 2 rfl ?_
        refine g_iconst C dX1_cellOfLink_27 gRc_1 ?_
        refine g_iadd C dX1_cellOfLink_28 h.1 ?_
        replace h := h.2
        obtain ⟨v11, ev11⟩ : ∃ x : Int, x = (v7 + 1) := ⟨_, rfl⟩
        refine g_nm ev11 ?_
        replace h := h v11 ev11
        refine g_istore C [(4, gI v11), (0, gF c0), (2, gI v6), (3, gI v7)] dX1_cellOfLink_29 (by decide) rfl ?_
        refine g_sub [(0, gF c0), (2, gI v6), (3, gI v7), (4, gI v11)] [1, 2, 3, 0] rfl ?_
        refine gL2_go (Gd := fun (v12 : Int) (v13 : Int) (M14 : gMem) => gG X V 5 31 [(0, gF c0), (2, gI v12), (3, gI v7), (4, gI v13)] [] M14) (fun rec15 hrec15 v12 v13 M14 h => ?_) h
        refine g_iload C dX1_cellOfLink_31 3 rfl ?_
        refine g_aloadn C dX1_cellOfLink_33 0 rfl ?_
        refine gf_1_0 C dX1_cellOfLink_34 wd_103 hT0 ?_
        refine g_ic_ge (t := 74) C dX1_cellOfLink_37 (by decide) (fun c16 => ?_) (fun c16 => ?_)
        · replace h := h.1 c16
          refine g_iinc C [(3, gI (v7 + 1)), (0, gF c0), (2, gI v12), (4, gI v13)] dX1_cellOfLink_74 2 rfl (by decide) h.1 rfl ?_
          replace h := h.2
          refine g_goto (t := 18) C dX1_cellOfLink_77 (by decide) ?_
          refine g_sub [(0, gF c0), (2, gI v12), (3, gI (v7 + 1))] [1, 2, 0] rfl ?_
          exact hrec9 v12 (v7 + 1) M14 h
        · replace h := h.2 c16
          refine g_aloadn C dX1_cellOfLink_40 0 rfl ?_
          refine gf_1_4 C dX1_cellOfLink_41 wd_116 hT0 ?_
          refine g_iloadn C dX1_cellOfLink_44 2 rfl ?_
          refine g_iload C dX1_cellOfLink_45 3 rfl ?_
          refine g_cNi (st := [gF (c0 + 1)]) C dX1_cellOfLink_47 ykX9_cell (gE_n0 C.2.2.2.2.2.2.2.2.2.2.2.2) ⟨by decide, by decide⟩ [gI v7, gI v13] rfl (Nat.le_of_ble_eq_true rfl) (fun hM ho => sX9_cell hD v7 v13 M14 _  h hM ho) (fun r18 M17 h => ?_)
          refine g_iald C dX1_cellOfLink_50 (gt_1_4 hT0) gce_10144 h.1 ?_
          replace h := h.2
          obtain ⟨P21, h, hP21⟩ := h
          have J22 : ∀ (v19 : Int) (M20 : gMem), P21 v19 M20 → gG X V 5 68 [(0, gF c0), (2, gI v19), (3, gI v7), (4, gI v13)] [] M20 := by
            intro v19 M20 h
            replace h := hP21 v19 M20 h
            refine g_iinc C [(4, gI (v13 + 1)), (0, gF c0), (2, gI v19), (3, gI v7)] dX1_cellOfLink_68 3 rfl (by decide) h.1 rfl ?_
            replace h := h.2
            refine g_goto (t := 31) C dX1_cellOfLink_71 (by decide) ?_
            refine g_sub [(0, gF c0), (2, gI v19), (3, gI v7), (4, gI (v13 + 1))] [1, 2, 3, 0] rfl ?_
            exact hrec15 v19 (v13 + 1) M20 h
          refine g_if_le (t := 68) C dX1_cellOfLink_51 (by decide) (fun c23 => ?_) (fun c23 => ?_)
          · replace h := h.1 c23
            exact J22 v12 M17 h
          · replace h := h.2 c23
            refine g_iloadn C dX1_cellOfLink_54 1 rfl ?_
            refine g_if_ne (t := 65) C dX1_cellOfLink_55 (by decide) (fun c24 => ?_) (fun c24 => ?_)
            · replace h := h.1 c24
              refine g_iinc C [(2, gI (v12 + (-1))), (0, gF c0), (3, gI v7), (4, gI v13)] dX1_cellOfLink_65 1 rfl (by decide) h.1 rfl ?_
              replace h := h.2
              refine g_sub [(0, gF c0), (2, gI (v12 + (-1))), (3, gI v7), (4, gI v13)] [1, 0, 2, 3] rfl ?_
              exact J22 (v12 + (-1)) M17 h
            · replace h := h.2 c24
              refine g_iloadn C dX1_cellOfLink_58 2 rfl ?_
              refine g_iload C dX1_cellOfLink_59 3 rfl ?_
              refine g_cNi (st := []) C dX1_cellOfLink_61 ykX9_cell (gE_n0 C.2.2.2.2.2.2.2.2.2.2.2.2) ⟨by decide, by decide⟩ [gI v7, gI v13] rfl (Nat.le_of_ble_eq_true rfl) (fun hM ho => sX9_cell hD v7 v13 M17 _  h hM ho) (fun r26 M25 h => ?_)
              exact g_iret C hR dX1_cellOfLink_64 h
    · replace h := h.2 c5
      refine g_sub [] [] rfl ?_
      exact J3 M0 h

set_option maxRecDepth 100000 in
set_option maxHeartbeats 4000000 in
theorem sX1_lengthOf {l : Launch} {V : gW} (hD : gD V) (c0 a1 a2 : Int) (M0 : gMem) (K : Int → gMem → Prop) (hT0 : gT c0 1) (h : wX1_lengthOf c0 a1 a2 K M0) (hM : gOM M0) (ho : ∀ q ∈ ([gI a1, gI a2] : List gSV), gOK q) : gMi l V yX1_lengthOf cX1_lengthOf 3 (some .int) 1 21 [gF c0, gI a1, gI a2] M0 K := by
  refine gMi_of hD (by decide) (Nat.le_of_ble_eq_true rfl) [(0, gF c0), (1, gI a1), (2, gI a2)] rfl (gok_L rfl (gok_n (q := gF c0) trivial ho)) hM (fun X C hR => ?_)
  unfold wX1_lengthOf at h
  refine g_aloadn C dX1_lengthOf_0 0 rfl ?_
  refine g_iloadn C dX1_lengthOf_1 1 rfl ?_
  refine g_cVi (st := []) C dX1_lengthOf_2 ykX1_has wd_492 ⟨by decide, by decide⟩ [gI a1] rfl (Nat.le_of_ble_eq_true rfl) hT0 (fun hM ho => sX1_has hD c0 a1 M0 _ hT0 h hM ho) (fun r2 M1 h => ?_)
  obtain ⟨P5, h, hP5⟩ := h
  have J6 : ∀ (x3 : Int) (M4 : gMem), P5 x3 M4 → gG X V 3 30 [] [gI x3] M4 := by
    intro x3 M4 h
    replace h := hP5 x3 M4 h
    exact g_iret C hR dX1_lengthOf_30 h
  obtain ⟨P8, h, hP8⟩ := h
  have J9 : ∀ (M7 : gMem), P8 M7 → gG X V 3 29 [] [] M7 := by
    intro M7 h
    replace h := hP8 M7 h
    refine g_iconst C dX1_lengthOf_29 gRc_0 ?_
    exact J6 0 M7 h
  refine g_if_eq (t := 29) C dX1_lengthOf_5 (by decide) (fun c10 => ?_) (fun c10 => ?_)
  · replace h := h.1 c10
    refine g_sub [] [] rfl ?_
    exact J9 M1 h
  · replace h := h.2 c10
    refine g_aloadn C dX1_lengthOf_8 0 rfl ?_
    refine g_iloadn C dX1_lengthOf_9 2 rfl ?_
    refine g_cVi (st := []) C dX1_lengthOf_10 ykX1_has wd_492 ⟨by decide, by decide⟩ [gI a2] rfl (Nat.le_of_ble_eq_true rfl) hT0 (fun hM ho => sX1_has hD c0 a2 M1 _ hT0 h hM ho) (fun r12 M11 h => ?_)
    refine g_if_eq (t := 29) C dX1_lengthOf_13 (by decide) (fun c13 => ?_) (fun c13 => ?_)
    · replace h := h.1 c13
      refine g_sub [] [] rfl ?_
      exact J9 M11 h
    · replace h := h.2 c13
      refine g_aloadn C dX1_lengthOf_16 0 rfl ?_
      refine gf_1_4 C dX1_lengthOf_17 wd_116 hT0 ?_
      refine g_iloadn C dX1_lengthOf_20 1 rfl ?_
      refine g_iloadn C dX1_lengthOf_21 2 rfl ?_
      refine g_cNi (st := [gF (c0 + 1)]) C dX1_lengthOf_22 ykX9_cell (gE_n0 C.2.2.2.2.2.2.2.2.2.2.2.2) ⟨by decide, by decide⟩ [gI a1, gI a2] rfl (Nat.le_of_ble_eq_true rfl) (fun hM ho => sX9_cell hD a1 a2 M11 _  h hM ho) (fun r15 M14 h => ?_)
      refine g_iald C dX1_lengthOf_25 (gt_1_4 hT0) gce_10144 h.1 ?_
      replace h := h.2
      refine g_goto (t := 30) C dX1_lengthOf_26 (by decide) ?_
      refine g_sub [] [] rfl ?_
      exact J6 (M14 (c0 + 1) r15) M14 h

set_option maxRecDepth 100000 in
set_option maxHeartbeats 4000000 in
theorem sX9_link {l : Launch} {V : gW} (hD : gD V) (c0 a1 a2 : Int) (M0 : gMem) (K : Int → gMem → Prop) (hT0 : gT c0 9) (h : wX9_link c0 a1 a2 K M0) (hM : gOM M0) (ho : ∀ q ∈ ([gI a1, gI a2] : List gSV), gOK q) : gMi l V yX9_link cX9_link 6 (some .int) 2 45 [gF c0, gI a1, gI a2] M0 K := by
  refine gMi_of hD (by decide) (Nat.le_of_ble_eq_true rfl) [(0, gF c0), (1, gI a1), (2, gI a2)] rfl (gok_L rfl (gok_n (q := gF c0) trivial ho)) hM (fun X C hR => ?_)
  unfold wX9_link at h
  refine g_aloadn C dX9_link_0 0 rfl ?_
  refine gf_9_0 C dX9_link_1 wd_338 hT0 ?_
  refine g_iloadn C dX9_link_4 1 rfl ?_
  refine g_cVi (st := []) C dX9_link_5 ykX1_cellOfLink wd_533 ⟨by decide, by decide⟩ [gI a1] rfl (Nat.le_of_ble_eq_true rfl) (gt_9_0 hT0) (fun hM ho => sX1_cellOfLink hD (c0 + 1) a1 M0 _ (gt_9_0 hT0) h hM ho) (fun r2 M1 h => ?_)
  refine g_istoren C [(3, gI r2), (0, gF c0), (1, gI a1), (2, gI a2)] dX9_link_8 (by decide) rfl ?_
  refine g_iloadn C dX9_link_9 0 rfl ?_
  refine g_iconst C dX9_link_10 gRc_m1 ?_
  refine g_ic_ne (t := 17) C dX9_link_11 (by decide) (fun c3 => ?_) (fun c3 => ?_)
  · replace h := h.1 c3
    refine g_iloadn C dX9_link_17 0 rfl ?_
    refine g_bipush C dX9_link_18 gRc_12 gRb_12 ?_
    refine g_idiv C dX9_link_20 h.1 ?_
    replace h := h.2
    obtain ⟨v4, ev4⟩ : ∃ x : Int, x = (r2 / 12) := ⟨_, rfl⟩
    refine g_nm ev4 ?_
    replace h := h v4 ev4
    refine g_istore C [(4, gI v4), (3, gI r2), (0, gF c0), (1, gI a1), (2, gI a2)] dX9_link_21 (by decide) rfl ?_
    refine g_iloadn C dX9_link_23 1 rfl ?_
    refine g_bipush C dX9_link_24 gRc_12 gRb_12 ?_
    refine g_irem C dX9_link_26 h.1 ?_
    replace h := h.2
    obtain ⟨v5, ev5⟩ : ∃ x : Int, x = (r2 % 12) := ⟨_, rfl⟩
    refine g_nm ev5 ?_
    replace h := h v5 ev5
    refine g_istore C [(5, gI v5), (4, gI v4), (3, gI r2), (0, gF c0), (1, gI a1), (2, gI a2)] dX9_link_27 (by decide) rfl ?_
    refine g_iloadn C dX9_link_29 5 rfl ?_
    refine g_switch (t := 74) C dX9_link_30 (by decide) (fun c => ?_) (fun c1 c2 => ?_)
    · replace h := h.2.2.2 c
      refine g_bipush C dX9_link_74 gRc_m3 gRb_m3 ?_
      exact g_iret C hR dX9_link_76 h
    · obtain ⟨q8, eq8⟩ : ∃ q8 : Nat, a2 = 0 + (q8 : Int) := ⟨(a2 - 0).toNat, by omega⟩
      match q8, eq8 with
      | 0, eq8 =>
        refine ⟨_, 56, by rw [eq8]; rfl, by decide, ?_⟩
        replace h := h.1 (by omega)
        refine g_iload C dX9_link_56 1 rfl ?_
        exact g_iret C hR dX9_link_58 h
      | 1, eq8 =>
        refine ⟨_, 59, by rw [eq8]; rfl, by decide, ?_⟩
        replace h := h.2.1 (by omega)
        refine g_iload C dX9_link_59 0 rfl ?_
        exact g_iret C hR dX9_link_61 h
      | 2, eq8 =>
        refine ⟨_, 62, by rw [eq8]; rfl, by decide, ?_⟩
        replace h := h.2.2.1 (by omega)
        refine g_aloadn C dX9_link_62 3 rfl ?_
        refine gf_9_0 C dX9_link_63 wd_338 hT0 ?_
        refine g_iload C dX9_link_66 1 rfl ?_
        refine g_iload C dX9_link_68 0 rfl ?_
        refine g_cVi (st := []) C dX9_link_70 ykX1_lengthOf wd_537 ⟨by decide, by decide⟩ [gI v4, gI v5] rfl (Nat.le_of_ble_eq_true rfl) (gt_9_0 hT0) (fun hM ho => sX1_lengthOf hD (c0 + 1) v4 v5 M1 _ (gt_9_0 hT0) h hM ho) (fun r7 M6 h => ?_)
        exact g_iret C hR dX9_link_73 h
      | q8 + 3, eq8 => exact absurd eq8 (by omega)
  · replace h := h.2 c3
    refine g_bipush C dX9_link_14 gRc_m2 gRb_m2 ?_
    exact g_iret C hR dX9_link_16 h

set_option maxRecDepth 100000 in
set_option maxHeartbeats 4000000 in
theorem sX1_levelOf {l : Launch} {V : gW} (hD : gD V) (c0 a1 : Int) (M0 : gMem) (K : Int → gMem → Prop) (hT0 : gT c0 1) (h : wX1_levelOf c0 a1 K M0) (hM : gOM M0) (ho : ∀ q ∈ ([gI a1] : List gSV), gOK q) : gMi l V yX1_levelOf cX1_levelOf 2 (some .int) 0 0 [gF c0, gI a1] M0 K := by
  refine gMi_of hD (by decide) (Nat.le_of_ble_eq_true rfl) [(0, gF c0), (1, gI a1)] rfl (gok_L rfl (gok_n (q := gF c0) trivial ho)) hM (fun X C hR => ?_)
  unfold wX1_levelOf at h
  refine g_iloadn C dX1_levelOf_0 1 rfl ?_
  obtain ⟨P3, h, hP3⟩ := h
  have J4 : ∀ (x1 : Int) (M2 : gMem), P3 x1 M2 → gG X V 2 22 [] [gI x1] M2 := by
    intro x1 M2 h
    replace h := hP3 x1 M2 h
    exact g_iret C hR dX1_levelOf_22 h
  obtain ⟨P6, h, hP6⟩ := h
  have J7 : ∀ (M5 : gMem), P6 M5 → gG X V 2 21 [] [] M5 := by
    intro M5 h
    replace h := hP6 M5 h
    refine g_iconst C dX1_levelOf_21 gRc_0 ?_
    exact J4 0 M5 h
  refine g_if_lt (t := 21) C dX1_levelOf_1 (by decide) (fun c8 => ?_) (fun c8 => ?_)
  · replace h := h.1 c8
    refine g_sub [] [] rfl ?_
    exact J7 M0 h
  · replace h := h.2 c8
    refine g_iloadn C dX1_levelOf_4 1 rfl ?_
    refine g_aloadn C dX1_levelOf_5 0 rfl ?_
    refine gf_1_0 C dX1_levelOf_6 wd_103 hT0 ?_
    refine g_ic_ge (t := 21) C dX1_levelOf_9 (by decide) (fun c9 => ?_) (fun c9 => ?_)
    · replace h := h.1 c9
      refine g_sub [] [] rfl ?_
      exact J7 M0 h
    · replace h := h.2 c9
      refine g_aloadn C dX1_levelOf_12 0 rfl ?_
      refine gf_1_5 C dX1_levelOf_13 wd_117 hT0 ?_
      refine g_iloadn C dX1_levelOf_16 1 rfl ?_
      refine g_iald C dX1_levelOf_17 (gt_1_5 hT0) gce_10012 h.1 ?_
      replace h := h.2
      refine g_goto (t := 22) C dX1_levelOf_18 (by decide) ?_
      refine g_sub [] [] rfl ?_
      exact J4 (M0 (c0 + 2) a1) M0 h

set_option maxRecDepth 100000 in
set_option maxHeartbeats 4000000 in
theorem sX9_level {l : Launch} {V : gW} (hD : gD V) (c0 a1 : Int) (M0 : gMem) (K : Int → gMem → Prop) (hT0 : gT c0 9) (h : wX9_level c0 a1 K M0) (hM : gOM M0) (ho : ∀ q ∈ ([gI a1] : List gSV), gOK q) : gMi l V yX9_level cX9_level 2 (some .int) 1 21 [gF c0, gI a1] M0 K := by
  refine gMi_of hD (by decide) (Nat.le_of_ble_eq_true rfl) [(0, gF c0), (1, gI a1)] rfl (gok_L rfl (gok_n (q := gF c0) trivial ho)) hM (fun X C hR => ?_)
  unfold wX9_level at h
  refine g_aloadn C dX9_level_0 0 rfl ?_
  refine gf_9_0 C dX9_level_1 wd_338 hT0 ?_
  refine g_iloadn C dX9_level_4 1 rfl ?_
  refine g_cVi (st := []) C dX9_level_5 ykX1_has wd_545 ⟨by decide, by decide⟩ [gI a1] rfl (Nat.le_of_ble_eq_true rfl) (gt_9_0 hT0) (fun hM ho => sX1_has hD (c0 + 1) a1 M0 _ (gt_9_0 hT0) h hM ho) (fun r2 M1 h => ?_)
  refine g_if_ne (t := 14) C dX9_level_8 (by decide) (fun c3 => ?_) (fun c3 => ?_)
  · replace h := h.1 c3
    refine g_aloadn C dX9_level_14 0 rfl ?_
    refine gf_9_0 C dX9_level_15 wd_338 hT0 ?_
    refine g_iloadn C dX9_level_18 1 rfl ?_
    refine g_cVi (st := []) C dX9_level_19 ykX1_levelOf wd_546 ⟨by decide, by decide⟩ [gI a1] rfl (Nat.le_of_ble_eq_true rfl) (gt_9_0 hT0) (fun hM ho => sX1_levelOf hD (c0 + 1) a1 M1 _ (gt_9_0 hT0) h hM ho) (fun r5 M4 h => ?_)
    exact g_iret C hR dX9_level_22 h
  · replace h := h.2 c3
    refine g_bipush C dX9_level_11 gRc_m2 gRb_m2 ?_
    exact g_iret C hR dX9_level_13 h

set_option maxRecDepth 100000 in
set_option maxHeartbeats 4000000 in
theorem sX9_bothThere {l : Launch} {V : gW} (hD : gD V) (c0 a1 a2 : Int) (M0 : gMem) (K : Int → gMem → Prop) (hT0 : gT c0 9) (h : wX9_bothThere c0 a1 a2 K M0) (hM : gOM M0) (ho : ∀ q ∈ ([gI a1, gI a2] : List gSV), gOK q) : gMi l V yX9_bothThere cX9_bothThere 3 (some .boolean) 1 21 [gF c0, gI a1, gI a2] M0 K := by
  refine gMi_of hD (by decide) (Nat.le_of_ble_eq_true rfl) [(0, gF c0), (1, gI a1), (2, gI a2)] rfl (gok_L rfl (gok_n (q := gF c0) trivial ho)) hM (fun X C hR => ?_)
  unfold wX9_bothThere at h
  refine g_aloadn C dX9_bothThere_0 0 rfl ?_
  refine gf_9_0 C dX9_bothThere_1 wd_338 hT0 ?_
  refine g_iloadn C dX9_bothThere_4 1 rfl ?_
  refine g_cVi (st := []) C dX9_bothThere_5 ykX1_has wd_545 ⟨by decide, by decide⟩ [gI a1] rfl (Nat.le_of_ble_eq_true rfl) (gt_9_0 hT0) (fun hM ho => sX1_has hD (c0 + 1) a1 M0 _ (gt_9_0 hT0) h hM ho) (fun r2 M1 h => ?_)
  obtain ⟨P5, h, hP5⟩ := h
  have J6 : ∀ (x3 : Int) (M4 : gMem), P5 x3 M4 → gG X V 3 27 [] [gI x3] M4 := by
    intro x3 M4 h
    replace h := hP5 x3 M4 h
    exact g_zret C hR dX9_bothThere_27 h.1 h.2
  obtain ⟨P8, h, hP8⟩ := h
  have J9 : ∀ (M7 : gMem), P8 M7 → gG X V 3 26 [] [] M7 := by
    intro M7 h
    replace h := hP8 M7 h
    refine g_iconst C dX9_bothThere_26 gRc_0 ?_
    exact J6 0 M7 h
  refine g_if_eq (t := 26) C dX9_bothThere_8 (by decide) (fun c10 => ?_) (fun c10 => ?_)
  · replace h := h.1 c10
    refine g_sub [] [] rfl ?_
    exact J9 M1 h
  · replace h := h.2 c10
    refine g_aloadn C dX9_bothThere_11 0 rfl ?_
    refine gf_9_0 C dX9_bothThere_12 wd_338 hT0 ?_
    refine g_iloadn C dX9_bothThere_15 2 rfl ?_
    refine g_cVi (st := []) C dX9_bothThere_16 ykX1_has wd_545 ⟨by decide, by decide⟩ [gI a2] rfl (Nat.le_of_ble_eq_true rfl) (gt_9_0 hT0) (fun hM ho => sX1_has hD (c0 + 1) a2 M1 _ (gt_9_0 hT0) h hM ho) (fun r12 M11 h => ?_)
    refine g_if_eq (t := 26) C dX9_bothThere_19 (by decide) (fun c13 => ?_) (fun c13 => ?_)
    · replace h := h.1 c13
      refine g_sub [] [] rfl ?_
      exact J9 M11 h
    · replace h := h.2 c13
      refine g_iconst C dX9_bothThere_22 gRc_1 ?_
      refine g_goto (t := 27) C dX9_bothThere_23 (by decide) ?_
      refine g_sub [] [] rfl ?_
      exact J6 1 M11 h

set_option maxRecDepth 100000 in
set_option maxHeartbeats 4000000 in
theorem sX3_push {l : Launch} {V : gW} (hD : gD V) (c0 a1 : Int) (M0 : gMem) (K : gMem → Prop) (hT0 : gT c0 3) (hT1 : gT a1 1) (h : wX3_push c0 a1 K M0) (hM : gOM M0) (ho : ∀ q ∈ ([gF a1] : List gSV), gOK q) : gMv l V yX3_push cX3_push 2 2 81 [gF c0, gF a1] M0 K := by
  refine gMv_of hD (by decide) (Nat.le_of_ble_eq_true rfl) [(0, gF c0), (1, gF a1)] rfl (gok_L rfl (gok_n (q := gF c0) trivial ho)) hM (fun X C hR => ?_)
  unfold wX3_push at h
  refine g_aloadn C dX3_push_0 0 rfl ?_
  refine gf_3_2 C dX3_push_1 wd_175 hT0 ?_
  refine g_aloadn C dX3_push_4 0 rfl ?_
  refine gf_3_1 C dX3_push_5 wd_174 hT0 ?_
  have hb1 := h.1
  replace h := h.2
  refine g_aald C dX3_push_8 (gt_3_2 hT0) gce_40008 3 rfl (by decide) rfl hb1 ?_
  refine g_aloadn C dX3_push_9 1 rfl ?_
  refine g_cVv (st := []) C dX3_push_10 ykX1_copyFrom wd_563 ⟨by decide, by decide⟩ [gF a1] rfl (Nat.le_of_ble_eq_true rfl) (gta_40008 (gt_3_2 hT0) hb1) (fun hM ho => sX1_copyFrom hD ((c0 + 1) + 1 + 3 * (M0 c0 1)) a1 M0 _ (gta_40008 (gt_3_2 hT0) hb1) hT1 h hM ho) (fun M2 h => ?_)
  refine g_aloadn C dX3_push_13 0 rfl ?_
  refine g_aloadn C dX3_push_14 0 rfl ?_
  refine gf_3_1 C dX3_push_15 wd_174 hT0 ?_
  refine g_iconst C dX3_push_18 gRc_1 ?_
  refine g_iadd C dX3_push_19 h.1 ?_
  replace h := h.2
  refine g_bipush C dX3_push_20 gRc_8 gRb_8 ?_
  refine g_irem C dX3_push_22 h.1 ?_
  replace h := h.2
  refine gp_3_1 C dX3_push_23 wd_174 hT0 ?_
  obtain ⟨M3, eM3⟩ : ∃ x : gMem, x = gup M2 c0 1 (((M2 c0 1) + 1) % 8) := ⟨_, rfl⟩
  refine g_nmM eM3 ?_
  replace h := h M3 eM3
  refine g_aloadn C dX3_push_26 0 rfl ?_
  refine g_aloadn C dX3_push_27 0 rfl ?_
  refine gf_3_0 C dX3_push_28 wd_172 hT0 ?_
  refine g_iconst C dX3_push_31 gRc_1 ?_
  refine g_iadd C dX3_push_32 h.1 ?_
  replace h := h.2
  refine g_bipush C dX3_push_33 gRc_8 gRb_8 ?_
  refine g_min C dX3_push_35 wd_564 gmin_s gmin_i gmin_c ⟨by decide, Nat.le_of_ble_eq_true rfl⟩ ?_
  refine gp_3_0 C dX3_push_38 wd_172 hT0 ?_
  obtain ⟨M4, eM4⟩ : ∃ x : gMem, x = gup M3 c0 0 (if 8 < ((M3 c0 0) + 1) then 8 else ((M3 c0 0) + 1)) := ⟨_, rfl⟩
  refine g_nmM eM4 ?_
  replace h := h M4 eM4
  exact g_vret C hR dX3_push_41 h

set_option maxRecDepth 100000 in
set_option maxHeartbeats 4000000 in
theorem sX9_join {l : Launch} {V : gW} (hD : gD V) (c0 a1 a2 a3 : Int) (M0 : gMem) (K : Int → gMem → Prop) (hT0 : gT c0 9) (h : wX9_join c0 a1 a2 a3 K M0) (hM : gOM M0) (ho : ∀ q ∈ ([gI a1, gI a2, gI a3] : List gSV), gOK q) : gMi l V yX9_join cX9_join 4 (some .int) 3 102 [gF c0, gI a1, gI a2, gI a3] M0 K := by
  refine gMi_of hD (by decide) (Nat.le_of_ble_eq_true rfl) [(0, gF c0), (1, gI a1), (2, gI a2), (3, gI a3)] rfl (gok_L rfl (gok_n (q := gF c0) trivial ho)) hM (fun X C hR => ?_)
  unfold wX9_join at h
  refine g_aloadn C dX9_join_0 0 rfl ?_
  refine g_iloadn C dX9_join_1 1 rfl ?_
  refine g_iloadn C dX9_join_2 2 rfl ?_
  refine g_cVi (st := []) C dX9_join_3 ykX9_bothThere wd_554 ⟨by decide, by decide⟩ [gI a1, gI a2] rfl (Nat.le_of_ble_eq_true rfl) hT0 (fun hM ho => sX9_bothThere hD c0 a1 a2 M0 _ hT0 h hM ho) (fun r2 M1 h => ?_)
  obtain ⟨P4, h, hP4⟩ := h
  have J5 : ∀ (M3 : gMem), P4 M3 → gG X V 4 14 [] [] M3 := by
    intro M3 h
    replace h := hP4 M3 h
    refine g_bipush C dX9_join_14 gRc_m2 gRb_m2 ?_
    exact g_iret C hR dX9_join_16 h
  refine g_if_eq (t := 14) C dX9_join_6 (by decide) (fun c6 => ?_) (fun c6 => ?_)
  · replace h := h.1 c6
    refine g_sub [] [] rfl ?_
    exact J5 M1 h
  · replace h := h.2 c6
    refine g_iloadn C dX9_join_9 1 rfl ?_
    refine g_iloadn C dX9_join_10 2 rfl ?_
    refine g_ic_ne (t := 17) C dX9_join_11 (by decide) (fun c7 => ?_) (fun c7 => ?_)
    · replace h := h.1 c7
      refine g_iloadn C dX9_join_17 3 rfl ?_
      refine g_iconst C dX9_join_18 gRc_1 ?_
      obtain ⟨P9, h, hP9⟩ := h
      have J10 : ∀ (M8 : gMem), P9 M8 → gG X V 4 28 [] [] M8 := by
        intro M8 h
        replace h := hP9 M8 h
        refine g_bipush C dX9_join_28 gRc_m3 gRb_m3 ?_
        exact g_iret C hR dX9_join_30 h
      refine g_ic_lt (t := 28) C dX9_join_19 (by decide) (fun c11 => ?_) (fun c11 => ?_)
      · replace h := h.1 c11
        refine g_sub [] [] rfl ?_
        exact J10 M1 h
      · replace h := h.2 c11
        refine g_iloadn C dX9_join_22 3 rfl ?_
        refine g_bipush C dX9_join_23 gRc_99 gRb_99 ?_
        refine g_ic_le (t := 31) C dX9_join_25 (by decide) (fun c12 => ?_) (fun c12 => ?_)
        · replace h := h.1 c12
          refine g_aloadn C dX9_join_31 0 rfl ?_
          refine gf_9_0 C dX9_join_32 wd_338 hT0 ?_
          refine g_iloadn C dX9_join_35 1 rfl ?_
          refine g_iloadn C dX9_join_36 2 rfl ?_
          refine g_cVi (st := []) C dX9_join_37 ykX1_hasRoomFor wd_558 ⟨by decide, by decide⟩ [gI a1, gI a2] rfl (Nat.le_of_ble_eq_true rfl) (gt_9_0 hT0) (fun hM ho => sX1_hasRoomFor hD (c0 + 1) a1 a2 M1 _ (gt_9_0 hT0) h hM ho) (fun r14 M13 h => ?_)
          refine g_if_ne (t := 46) C dX9_join_40 (by decide) (fun c15 => ?_) (fun c15 => ?_)
          · replace h := h.1 c15
            refine g_aloadn C dX9_join_46 0 rfl ?_
            refine gf_9_3 C dX9_join_47 wd_341 hT0 ?_
            refine g_aloadn C dX9_join_50 0 rfl ?_
            refine gf_9_0 C dX9_join_51 wd_338 hT0 ?_
            refine g_cVv (st := []) C dX9_join_54 ykX3_push wd_559 ⟨by decide, by decide⟩ [gF (c0 + 1)] rfl (Nat.le_of_ble_eq_true rfl) (gt_9_3 hT0) (fun hM ho => sX3_push hD (c0 + 9) (c0 + 1) M13 _ (gt_9_3 hT0) (gt_9_0 hT0) h hM ho) (fun M16 h => ?_)
            refine g_aloadn C dX9_join_57 0 rfl ?_
            refine gf_9_0 C dX9_join_58 wd_338 hT0 ?_
            refine g_iloadn C dX9_join_61 1 rfl ?_
            refine g_iloadn C dX9_join_62 2 rfl ?_
            refine g_iloadn C dX9_join_63 3 rfl ?_
            refine g_cVv (st := []) C dX9_join_64 ykX1_setLength wd_567 ⟨by decide, by decide⟩ [gI a1, gI a2, gI a3] rfl (Nat.le_of_ble_eq_true rfl) (gt_9_0 hT0) (fun hM ho => sX1_setLength hD (c0 + 1) a1 a2 a3 M16 _ (gt_9_0 hT0) h hM ho) (fun M17 h => ?_)
            refine g_aloadn C dX9_join_67 0 rfl ?_
            refine gf_9_0 C dX9_join_68 wd_338 hT0 ?_
            refine gf_1_1 C dX9_join_71 wd_110 (gt_9_0 hT0) ?_
            exact g_iret C hR dX9_join_74 h
          · replace h := h.2 c15
            refine g_bipush C dX9_join_43 gRc_m5 gRb_m5 ?_
            exact g_iret C hR dX9_join_45 h
        · replace h := h.2 c12
          refine g_sub [] [] rfl ?_
          exact J10 M1 h
    · replace h := h.2 c7
      refine g_sub [] [] rfl ?_
      exact J5 M1 h

set_option maxRecDepth 100000 in
set_option maxHeartbeats 4000000 in
theorem sX9_cut {l : Launch} {V : gW} (hD : gD V) (c0 a1 a2 : Int) (M0 : gMem) (K : Int → gMem → Prop) (hT0 : gT c0 9) (h : wX9_cut c0 a1 a2 K M0) (hM : gOM M0) (ho : ∀ q ∈ ([gI a1, gI a2] : List gSV), gOK q) : gMi l V yX9_cut cX9_cut 4 (some .int) 3 102 [gF c0, gI a1, gI a2] M0 K := by
  refine gMi_of hD (by decide) (Nat.le_of_ble_eq_true rfl) [(0, gF c0), (1, gI a1), (2, gI a2)] rfl (gok_L rfl (gok_n (q := gF c0) trivial ho)) hM (fun X C hR => ?_)
  unfold wX9_cut at h
  refine g_aloadn C dX9_cut_0 0 rfl ?_
  refine g_iloadn C dX9_cut_1 1 rfl ?_
  refine g_iloadn C dX9_cut_2 2 rfl ?_
  refine g_cVi (st := []) C dX9_cut_3 ykX9_bothThere wd_554 ⟨by decide, by decide⟩ [gI a1, gI a2] rfl (Nat.le_of_ble_eq_true rfl) hT0 (fun hM ho => sX9_bothThere hD c0 a1 a2 M0 _ hT0 h hM ho) (fun r2 M1 h => ?_)
  refine g_if_ne (t := 12) C dX9_cut_6 (by decide) (fun c3 => ?_) (fun c3 => ?_)
  · replace h := h.1 c3
    refine g_aloadn C dX9_cut_12 0 rfl ?_
    refine gf_9_0 C dX9_cut_13 wd_338 hT0 ?_
    refine g_iloadn C dX9_cut_16 1 rfl ?_
    refine g_iloadn C dX9_cut_17 2 rfl ?_
    refine g_cVi (st := []) C dX9_cut_18 ykX1_lengthOf wd_537 ⟨by decide, by decide⟩ [gI a1, gI a2] rfl (Nat.le_of_ble_eq_true rfl) (gt_9_0 hT0) (fun hM ho => sX1_lengthOf hD (c0 + 1) a1 a2 M1 _ (gt_9_0 hT0) h hM ho) (fun r5 M4 h => ?_)
    refine g_istoren C [(3, gI r5), (0, gF c0), (1, gI a1), (2, gI a2)] dX9_cut_21 (by decide) rfl ?_
    refine g_iloadn C dX9_cut_22 0 rfl ?_
    refine g_if_ne (t := 29) C dX9_cut_23 (by decide) (fun c6 => ?_) (fun c6 => ?_)
    · replace h := h.1 c6
      refine g_aloadn C dX9_cut_29 1 rfl ?_
      refine gf_9_3 C dX9_cut_30 wd_341 hT0 ?_
      refine g_aloadn C dX9_cut_33 1 rfl ?_
      refine gf_9_0 C dX9_cut_34 wd_338 hT0 ?_
      refine g_cVv (st := []) C dX9_cut_37 ykX3_push wd_559 ⟨by decide, by decide⟩ [gF (c0 + 1)] rfl (Nat.le_of_ble_eq_true rfl) (gt_9_3 hT0) (fun hM ho => sX3_push hD (c0 + 9) (c0 + 1) M4 _ (gt_9_3 hT0) (gt_9_0 hT0) h hM ho) (fun M7 h => ?_)
      refine g_aloadn C dX9_cut_40 1 rfl ?_
      refine gf_9_0 C dX9_cut_41 wd_338 hT0 ?_
      refine g_iloadn C dX9_cut_44 2 rfl ?_
      refine g_iloadn C dX9_cut_45 3 rfl ?_
      refine g_iconst C dX9_cut_46 gRc_0 ?_
      refine g_cVv (st := []) C dX9_cut_47 ykX1_setLength wd_567 ⟨by decide, by decide⟩ [gI a1, gI a2, gI 0] rfl (Nat.le_of_ble_eq_true rfl) (gt_9_0 hT0) (fun hM ho => sX1_setLength hD (c0 + 1) a1 a2 0 M7 _ (gt_9_0 hT0) h hM ho) (fun M8 h => ?_)
      refine g_iloadn C dX9_cut_50 0 rfl ?_
      exact g_iret C hR dX9_cut_51 h
    · replace h := h.2 c6
      refine g_bipush C dX9_cut_26 gRc_m4 gRb_m4 ?_
      exact g_iret C hR dX9_cut_28 h
  · replace h := h.2 c3
    refine g_bipush C dX9_cut_9 gRc_m2 gRb_m2 ?_
    exact g_iret C hR dX9_cut_11 h

set_option maxRecDepth 100000 in
set_option maxHeartbeats 4000000 in
theorem sX9_lift {l : Launch} {V : gW} (hD : gD V) (c0 a1 a2 : Int) (M0 : gMem) (K : Int → gMem → Prop) (hT0 : gT c0 9) (h : wX9_lift c0 a1 a2 K M0) (hM : gOM M0) (ho : ∀ q ∈ ([gI a1, gI a2] : List gSV), gOK q) : gMi l V yX9_lift cX9_lift 4 (some .int) 3 102 [gF c0, gI a1, gI a2] M0 K := by
  refine gMi_of hD (by decide) (Nat.le_of_ble_eq_true rfl) [(0, gF c0), (1, gI a1), (2, gI a2)] rfl (gok_L rfl (gok_n (q := gF c0) trivial ho)) hM (fun X C hR => ?_)
  unfold wX9_lift at h
  refine g_aloadn C dX9_lift_0 0 rfl ?_
  refine gf_9_0 C dX9_lift_1 wd_338 hT0 ?_
  refine g_iloadn C dX9_lift_4 1 rfl ?_
  refine g_cVi (st := []) C dX9_lift_5 ykX1_has wd_545 ⟨by decide, by decide⟩ [gI a1] rfl (Nat.le_of_ble_eq_true rfl) (gt_9_0 hT0) (fun hM ho => sX1_has hD (c0 + 1) a1 M0 _ (gt_9_0 hT0) h hM ho) (fun r2 M1 h => ?_)
  refine g_if_ne (t := 14) C dX9_lift_8 (by decide) (fun c3 => ?_) (fun c3 => ?_)
  · replace h := h.1 c3
    refine g_iloadn C dX9_lift_14 2 rfl ?_
    obtain ⟨P5, h, hP5⟩ := h
    have J6 : ∀ (M4 : gMem), P5 M4 → gG X V 4 23 [] [] M4 := by
      intro M4 h
      replace h := hP5 M4 h
      refine g_bipush C dX9_lift_23 gRc_m3 gRb_m3 ?_
      exact g_iret C hR dX9_lift_25 h
    refine g_if_lt (t := 23) C dX9_lift_15 (by decide) (fun c7 => ?_) (fun c7 => ?_)
    · replace h := h.1 c7
      refine g_sub [] [] rfl ?_
      exact J6 M1 h
    · replace h := h.2 c7
      refine g_iloadn C dX9_lift_18 2 rfl ?_
      refine g_iconst C dX9_lift_19 gRc_3 ?_
      refine g_ic_lt (t := 26) C dX9_lift_20 (by decide) (fun c8 => ?_) (fun c8 => ?_)
      · replace h := h.1 c8
        refine g_aloadn C dX9_lift_26 0 rfl ?_
        refine gf_9_0 C dX9_lift_27 wd_338 hT0 ?_
        refine g_iloadn C dX9_lift_30 1 rfl ?_
        refine g_cVi (st := []) C dX9_lift_31 ykX1_levelOf wd_546 ⟨by decide, by decide⟩ [gI a1] rfl (Nat.le_of_ble_eq_true rfl) (gt_9_0 hT0) (fun hM ho => sX1_levelOf hD (c0 + 1) a1 M1 _ (gt_9_0 hT0) h hM ho) (fun r10 M9 h => ?_)
        refine g_istoren C [(3, gI r10), (0, gF c0), (1, gI a1), (2, gI a2)] dX9_lift_34 (by decide) rfl ?_
        refine g_aloadn C dX9_lift_35 1 rfl ?_
        refine gf_9_3 C dX9_lift_36 wd_341 hT0 ?_
        refine g_aloadn C dX9_lift_39 1 rfl ?_
        refine gf_9_0 C dX9_lift_40 wd_338 hT0 ?_
        refine g_cVv (st := []) C dX9_lift_43 ykX3_push wd_559 ⟨by decide, by decide⟩ [gF (c0 + 1)] rfl (Nat.le_of_ble_eq_true rfl) (gt_9_3 hT0) (fun hM ho => sX3_push hD (c0 + 9) (c0 + 1) M9 _ (gt_9_3 hT0) (gt_9_0 hT0) h hM ho) (fun M11 h => ?_)
        refine g_aloadn C dX9_lift_46 1 rfl ?_
        refine gf_9_0 C dX9_lift_47 wd_338 hT0 ?_
        refine g_iloadn C dX9_lift_50 2 rfl ?_
        refine g_iloadn C dX9_lift_51 3 rfl ?_
        refine g_cVv (st := []) C dX9_lift_52 ykX1_setLevel wd_576 ⟨by decide, by decide⟩ [gI a1, gI a2] rfl (Nat.le_of_ble_eq_true rfl) (gt_9_0 hT0) (fun hM ho => sX1_setLevel hD (c0 + 1) a1 a2 M11 _ (gt_9_0 hT0) h hM ho) (fun M12 h => ?_)
        refine g_iloadn C dX9_lift_55 0 rfl ?_
        exact g_iret C hR dX9_lift_56 h
      · replace h := h.2 c8
        refine g_sub [] [] rfl ?_
        exact J6 M1 h
  · replace h := h.2 c3
    refine g_bipush C dX9_lift_11 gRc_m2 gRb_m2 ?_
    exact g_iret C hR dX9_lift_13 h

set_option maxRecDepth 100000 in
set_option maxHeartbeats 4000000 in
theorem sX1_drawLevels {l : Launch} {V : gW} (hD : gD V) (c0 a1 : Int) (M0 : gMem) (K : gMem → Prop) (hT0 : gT c0 1) (h : wX1_drawLevels c0 a1 K M0) (hM : gOM M0) (ho : ∀ q ∈ ([gI a1] : List gSV), gOK q) : gMv l V yX1_drawLevels cX1_drawLevels 4 0 0 [gF c0, gI a1] M0 K := by
  refine gMv_of hD (by decide) (Nat.le_of_ble_eq_true rfl) [(0, gF c0), (1, gI a1)] rfl (gok_L rfl (gok_n (q := gF c0) trivial ho)) hM (fun X C hR => ?_)
  unfold wX1_drawLevels at h
  refine g_aloadn C dX1_drawLevels_0 0 rfl ?_
  refine g_iloadn C dX1_drawLevels_1 1 rfl ?_
  refine gp_1_2 C dX1_drawLevels_2 wd_111 hT0 ?_
  obtain ⟨M1, eM1⟩ : ∃ x : gMem, x = gup M0 c0 2 a1 := ⟨_, rfl⟩
  refine g_nmM eM1 ?_
  replace h := h M1 eM1
  refine g_iconst C dX1_drawLevels_5 gRc_0 ?_
  refine g_istoren C [(2, gI 0), (0, gF c0), (1, gI a1)] dX1_drawLevels_6 (by decide) rfl ?_
  refine g_sub [(0, gF c0), (2, gI 0)] [1, 0] rfl ?_
  refine gL1_go (Gd := fun (v2 : Int) (M3 : gMem) => gG X V 4 7 [(0, gF c0), (2, gI v2)] [] M3) (fun rec4 hrec4 v2 M3 h => ?_) h
  refine g_iloadn C dX1_drawLevels_7 1 rfl ?_
  refine g_aloadn C dX1_drawLevels_8 0 rfl ?_
  refine gf_1_0 C dX1_drawLevels_9 wd_103 hT0 ?_
  refine g_ic_ge (t := 75) C dX1_drawLevels_12 (by decide) (fun c5 => ?_) (fun c5 => ?_)
  · replace h := h.1 c5
    exact g_vret C hR dX1_drawLevels_75 h
  · replace h := h.2 c5
    refine g_aloadn C dX1_drawLevels_15 0 rfl ?_
    refine g_aloadn C dX1_drawLevels_16 0 rfl ?_
    refine gf_1_2 C dX1_drawLevels_17 wd_111 hT0 ?_
    refine g_ldc C dX1_drawLevels_20 wd_585 gRc_69069 rfl ?_
    refine g_imulW C dX1_drawLevels_22 ?_
    refine g_iconst C dX1_drawLevels_23 gRc_1 ?_
    refine g_iaddW C dX1_drawLevels_24 ?_
    refine gp_1_2 C dX1_drawLevels_25 wd_111 hT0 ?_
    obtain ⟨M6, eM6⟩ : ∃ x : gMem, x = gup M3 c0 2 (gwr ((gwr ((M3 c0 2) * 69069)) + 1)) := ⟨_, rfl⟩
    refine g_nmM eM6 ?_
    replace h := h M6 eM6
    refine g_aloadn C dX1_drawLevels_28 0 rfl ?_
    refine gf_1_2 C dX1_drawLevels_29 wd_111 hT0 ?_
    refine g_bipush C dX1_drawLevels_32 gRc_16 gRb_16 ?_
    refine g_iushr16 C dX1_drawLevels_34 ?_
    refine g_bipush C dX1_drawLevels_35 gRc_8 gRb_8 ?_
    refine g_irem C dX1_drawLevels_37 h.1 ?_
    replace h := h.2
    obtain ⟨v7, ev7⟩ : ∃ x : Int, x = (((M6 c0 2) % 4294967296 / 65536) % 8) := ⟨_, rfl⟩
    refine g_nm ev7 ?_
    replace h := h v7 ev7
    refine g_istoren C [(3, gI v7), (0, gF c0), (2, gI v2)] dX1_drawLevels_38 (by decide) rfl ?_
    refine g_iloadn C dX1_drawLevels_39 0 rfl ?_
    obtain ⟨P9, h, hP9⟩ := h
    have J10 : ∀ (M8 : gMem), P9 M8 → gG X V 4 69 [(0, gF c0), (2, gI v2)] [] M8 := by
      intro M8 h
      replace h := hP9 M8 h
      refine g_iinc C [(2, gI (v2 + 1)), (0, gF c0)] dX1_drawLevels_69 1 rfl (by decide) h.1 rfl ?_
      replace h := h.2
      refine g_goto (t := 7) C dX1_drawLevels_72 (by decide) ?_
      refine g_sub [(0, gF c0), (2, gI (v2 + 1))] [1, 0] rfl ?_
      exact hrec4 (v2 + 1) M8 h
    refine g_if_ne (t := 53) C dX1_drawLevels_40 (by decide) (fun c11 => ?_) (fun c11 => ?_)
    · replace h := h.1 c11
      refine g_aloadn C dX1_drawLevels_53 1 rfl ?_
      refine gf_1_5 C dX1_drawLevels_54 wd_117 hT0 ?_
      refine g_iloadn C dX1_drawLevels_57 2 rfl ?_
      refine g_iloadn C dX1_drawLevels_58 0 rfl ?_
      refine g_iconst C dX1_drawLevels_59 gRc_2 ?_
      obtain ⟨P14, h, hP14⟩ := h
      have J15 : ∀ (x12 : Int) (M13 : gMem), P14 x12 M13 → gG X V 4 68 [(0, gF c0), (2, gI v2)] [gI x12, gI v2, gF (c0 + 2)] M13 := by
        intro x12 M13 h
        replace h := hP14 x12 M13 h
        refine g_iast C dX1_drawLevels_68 (gt_1_5 hT0) gce_10012 h.1 ?_
        replace h := h.2
        obtain ⟨M16, eM16⟩ : ∃ x : gMem, x = gup M13 (c0 + 2) v2 x12 := ⟨_, rfl⟩
        refine g_nmM eM16 ?_
        replace h := h M16 eM16
        exact J10 M16 h
      refine g_ic_gt (t := 67) C dX1_drawLevels_60 (by decide) (fun c17 => ?_) (fun c17 => ?_)
      · replace h := h.1 c17
        refine g_iconst C dX1_drawLevels_67 gRc_0 ?_
        refine g_sub [(0, gF c0), (2, gI v2)] [1, 2] rfl ?_
        exact J15 0 M6 h
      · replace h := h.2 c17
        refine g_iconst C dX1_drawLevels_63 gRc_1 ?_
        refine g_goto (t := 68) C dX1_drawLevels_64 (by decide) ?_
        refine g_sub [(0, gF c0), (2, gI v2)] [1, 2] rfl ?_
        exact J15 1 M6 h
    · replace h := h.2 c11
      refine g_aloadn C dX1_drawLevels_43 1 rfl ?_
      refine gf_1_5 C dX1_drawLevels_44 wd_117 hT0 ?_
      refine g_iloadn C dX1_drawLevels_47 2 rfl ?_
      refine g_iconst C dX1_drawLevels_48 gRc_2 ?_
      refine g_iast C dX1_drawLevels_49 (gt_1_5 hT0) gce_10012 h.1 ?_
      replace h := h.2
      obtain ⟨M18, eM18⟩ : ∃ x : gMem, x = gup M6 (c0 + 2) v2 2 := ⟨_, rfl⟩
      refine g_nmM eM18 ?_
      replace h := h M18 eM18
      refine g_goto (t := 69) C dX1_drawLevels_50 (by decide) ?_
      refine g_sub [(0, gF c0), (2, gI v2)] [1, 2] rfl ?_
      exact J10 M18 h

set_option maxRecDepth 100000 in
set_option maxHeartbeats 4000000 in
theorem sX1_nodesOfLevel {l : Launch} {V : gW} (hD : gD V) (c0 a1 : Int) (M0 : gMem) (K : Int → gMem → Prop) (hT0 : gT c0 1) (h : wX1_nodesOfLevel c0 a1 K M0) (hM : gOM M0) (ho : ∀ q ∈ ([gI a1] : List gSV), gOK q) : gMi l V yX1_nodesOfLevel cX1_nodesOfLevel 4 (some .int) 0 0 [gF c0, gI a1] M0 K := by
  refine gMi_of hD (by decide) (Nat.le_of_ble_eq_true rfl) [(0, gF c0), (1, gI a1)] rfl (gok_L rfl (gok_n (q := gF c0) trivial ho)) hM (fun X C hR => ?_)
  unfold wX1_nodesOfLevel at h
  refine g_iconst C dX1_nodesOfLevel_0 gRc_0 ?_
  refine g_istoren C [(2, gI 0), (0, gF c0), (1, gI a1)] dX1_nodesOfLevel_1 (by decide) rfl ?_
  refine g_iconst C dX1_nodesOfLevel_2 gRc_0 ?_
  refine g_istoren C [(3, gI 0), (2, gI 0), (0, gF c0), (1, gI a1)] dX1_nodesOfLevel_3 (by decide) rfl ?_
  refine g_sub [(0, gF c0), (1, gI a1), (2, gI 0), (3, gI 0)] [2, 3, 1, 0] rfl ?_
  refine gL2_go (Gd := fun (v1 : Int) (v2 : Int) (M3 : gMem) => gG X V 4 4 [(0, gF c0), (1, gI a1), (2, gI v1), (3, gI v2)] [] M3) (fun rec4 hrec4 v1 v2 M3 h => ?_) h
  refine g_iloadn C dX1_nodesOfLevel_4 3 rfl ?_
  refine g_aloadn C dX1_nodesOfLevel_5 0 rfl ?_
  refine gf_1_0 C dX1_nodesOfLevel_6 wd_103 hT0 ?_
  refine g_ic_ge (t := 31) C dX1_nodesOfLevel_9 (by decide) (fun c5 => ?_) (fun c5 => ?_)
  · replace h := h.1 c5
    refine g_iloadn C dX1_nodesOfLevel_31 2 rfl ?_
    exact g_iret C hR dX1_nodesOfLevel_32 h
  · replace h := h.2 c5
    refine g_aloadn C dX1_nodesOfLevel_12 0 rfl ?_
    refine gf_1_5 C dX1_nodesOfLevel_13 wd_117 hT0 ?_
    refine g_iloadn C dX1_nodesOfLevel_16 3 rfl ?_
    refine g_iald C dX1_nodesOfLevel_17 (gt_1_5 hT0) gce_10012 h.1 ?_
    replace h := h.2
    refine g_iloadn C dX1_nodesOfLevel_18 1 rfl ?_
    obtain ⟨P8, h, hP8⟩ := h
    have J9 : ∀ (v6 : Int) (M7 : gMem), P8 v6 M7 → gG X V 4 25 [(0, gF c0), (1, gI a1), (2, gI v6), (3, gI v2)] [] M7 := by
      intro v6 M7 h
      replace h := hP8 v6 M7 h
      refine g_iinc C [(3, gI (v2 + 1)), (0, gF c0), (1, gI a1), (2, gI v6)] dX1_nodesOfLevel_25 3 rfl (by decide) h.1 rfl ?_
      replace h := h.2
      refine g_goto (t := 4) C dX1_nodesOfLevel_28 (by decide) ?_
      refine g_sub [(0, gF c0), (1, gI a1), (2, gI v6), (3, gI (v2 + 1))] [1, 2, 3, 0] rfl ?_
      exact hrec4 v6 (v2 + 1) M7 h
    refine g_ic_ne (t := 25) C dX1_nodesOfLevel_19 (by decide) (fun c10 => ?_) (fun c10 => ?_)
    · replace h := h.1 c10
      exact J9 v1 M3 h
    · replace h := h.2 c10
      refine g_iinc C [(2, gI (v1 + 1)), (0, gF c0), (1, gI a1), (3, gI v2)] dX1_nodesOfLevel_22 2 rfl (by decide) h.1 rfl ?_
      replace h := h.2
      refine g_sub [(0, gF c0), (1, gI a1), (2, gI (v1 + 1)), (3, gI v2)] [1, 2, 0, 3] rfl ?_
      exact J9 (v1 + 1) M3 h

set_option maxRecDepth 100000 in
set_option maxHeartbeats 4000000 in
theorem sX9_draw {l : Launch} {V : gW} (hD : gD V) (c0 a1 : Int) (M0 : gMem) (K : Int → gMem → Prop) (hT0 : gT c0 9) (h : wX9_draw c0 a1 K M0) (hM : gOM M0) (ho : ∀ q ∈ ([gI a1] : List gSV), gOK q) : gMi l V yX9_draw cX9_draw 2 (some .int) 3 102 [gF c0, gI a1] M0 K := by
  refine gMi_of hD (by decide) (Nat.le_of_ble_eq_true rfl) [(0, gF c0), (1, gI a1)] rfl (gok_L rfl (gok_n (q := gF c0) trivial ho)) hM (fun X C hR => ?_)
  unfold wX9_draw at h
  refine g_aloadn C dX9_draw_0 0 rfl ?_
  refine gf_9_3 C dX9_draw_1 wd_341 hT0 ?_
  refine g_aloadn C dX9_draw_4 0 rfl ?_
  refine gf_9_0 C dX9_draw_5 wd_338 hT0 ?_
  refine g_cVv (st := []) C dX9_draw_8 ykX3_push wd_559 ⟨by decide, by decide⟩ [gF (c0 + 1)] rfl (Nat.le_of_ble_eq_true rfl) (gt_9_3 hT0) (fun hM ho => sX3_push hD (c0 + 9) (c0 + 1) M0 _ (gt_9_3 hT0) (gt_9_0 hT0) h hM ho) (fun M1 h => ?_)
  refine g_aloadn C dX9_draw_11 0 rfl ?_
  refine gf_9_0 C dX9_draw_12 wd_338 hT0 ?_
  refine g_iloadn C dX9_draw_15 1 rfl ?_
  refine g_cVv (st := []) C dX9_draw_16 ykX1_drawLevels wd_581 ⟨by decide, by decide⟩ [gI a1] rfl (Nat.le_of_ble_eq_true rfl) (gt_9_0 hT0) (fun hM ho => sX1_drawLevels hD (c0 + 1) a1 M1 _ (gt_9_0 hT0) h hM ho) (fun M2 h => ?_)
  refine g_aloadn C dX9_draw_19 0 rfl ?_
  refine gf_9_0 C dX9_draw_20 wd_338 hT0 ?_
  refine gf_1_0 C dX9_draw_23 wd_108 (gt_9_0 hT0) ?_
  refine g_aloadn C dX9_draw_26 0 rfl ?_
  refine gf_9_0 C dX9_draw_27 wd_338 hT0 ?_
  refine g_iconst C dX9_draw_30 gRc_0 ?_
  refine g_cVi (st := [gI (M2 (c0 + 1) 0)]) C dX9_draw_31 ykX1_nodesOfLevel wd_586 ⟨by decide, by decide⟩ [gI 0] rfl (Nat.le_of_ble_eq_true rfl) (gt_9_0 hT0) (fun hM ho => sX1_nodesOfLevel hD (c0 + 1) 0 M2 _ (gt_9_0 hT0) h hM ho) (fun r4 M3 h => ?_)
  refine g_isub C dX9_draw_34 h.1 ?_
  replace h := h.2
  exact g_iret C hR dX9_draw_35 h

set_option maxRecDepth 100000 in
set_option maxHeartbeats 4000000 in
theorem sX8_lengthAt {l : Launch} {V : gW} (hD : gD V) (c0 a1 a2 : Int) (M0 : gMem) (K : Int → gMem → Prop) (hT0 : gT c0 8) (hT1 : gT a1 1) (h : wX8_lengthAt c0 a1 a2 K M0) (hM : gOM M0) (ho : ∀ q ∈ ([gF a1, gI a2] : List gSV), gOK q) : gMi l V yX8_lengthAt cX8_lengthAt 3 (some .int) 2 43 [gF c0, gF a1, gI a2] M0 K := by
  refine gMi_of hD (by decide) (Nat.le_of_ble_eq_true rfl) [(0, gF c0), (1, gF a1), (2, gI a2)] rfl (gok_L rfl (gok_n (q := gF c0) trivial ho)) hM (fun X C hR => ?_)
  unfold wX8_lengthAt at h
  refine g_aloadn C dX8_lengthAt_0 1 rfl ?_
  refine g_aloadn C dX8_lengthAt_1 0 rfl ?_
  refine gf_8_5 C dX8_lengthAt_2 wd_267 hT0 ?_
  refine g_iloadn C dX8_lengthAt_5 2 rfl ?_
  refine g_iald C dX8_lengthAt_6 (gt_8_5 hT0) gce_10030 h.1 ?_
  replace h := h.2
  refine g_bipush C dX8_lengthAt_7 gRc_12 gRb_12 ?_
  refine g_idiv C dX8_lengthAt_9 h.1 ?_
  replace h := h.2
  refine g_aloadn C dX8_lengthAt_10 0 rfl ?_
  refine gf_8_5 C dX8_lengthAt_11 wd_267 hT0 ?_
  refine g_iloadn C dX8_lengthAt_14 2 rfl ?_
  refine g_iald C dX8_lengthAt_15 (gt_8_5 hT0) gce_10030 h.1 ?_
  replace h := h.2
  refine g_bipush C dX8_lengthAt_16 gRc_12 gRb_12 ?_
  refine g_irem C dX8_lengthAt_18 h.1 ?_
  replace h := h.2
  refine g_cVi (st := []) C dX8_lengthAt_19 ykX1_lengthOf wd_602 ⟨by decide, by decide⟩ [gI ((M0 (c0 + 15) a2) / 12), gI ((M0 (c0 + 15) a2) % 12)] rfl (Nat.le_of_ble_eq_true rfl) hT1 (fun hM ho => sX1_lengthOf hD a1 ((M0 (c0 + 15) a2) / 12) ((M0 (c0 + 15) a2) % 12) M0 _ hT1 h hM ho) (fun r2 M1 h => ?_)
  exact g_iret C hR dX8_lengthAt_22 h

set_option maxRecDepth 100000 in
set_option maxHeartbeats 4000000 in
theorem sX8_insert {l : Launch} {V : gW} (hD : gD V) (c0 a1 a2 a3 : Int) (M0 : gMem) (K : gMem → Prop) (hT0 : gT c0 8) (hT1 : gT a1 1) (h : wX8_insert c0 a1 a2 a3 K M0) (hM : gOM M0) (ho : ∀ q ∈ ([gF a1, gI a2, gI a3] : List gSV), gOK q) : gMv l V yX8_insert cX8_insert 6 3 65 [gF c0, gF a1, gI a2, gI a3] M0 K := by
  refine gMv_of hD (by decide) (Nat.le_of_ble_eq_true rfl) [(0, gF c0), (1, gF a1), (2, gI a2), (3, gI a3)] rfl (gok_L rfl (gok_n (q := gF c0) trivial ho)) hM (fun X C hR => ?_)
  unfold wX8_insert at h
  refine g_aloadn C dX8_insert_0 1 rfl ?_
  refine g_iloadn C dX8_insert_1 2 rfl ?_
  refine g_iloadn C dX8_insert_2 3 rfl ?_
  refine g_cVi (st := []) C dX8_insert_3 ykX1_lengthOf wd_602 ⟨by decide, by decide⟩ [gI a2, gI a3] rfl (Nat.le_of_ble_eq_true rfl) hT1 (fun hM ho => sX1_lengthOf hD a1 a2 a3 M0 _ hT1 h hM ho) (fun r2 M1 h => ?_)
  refine g_istore C [(4, gI r2), (0, gF c0), (1, gF a1), (2, gI a2), (3, gI a3)] dX8_insert_6 (by decide) rfl ?_
  refine g_aloadn C dX8_insert_8 1 rfl ?_
  refine gf_8_4 C dX8_insert_9 wd_266 hT0 ?_
  obtain ⟨v3, ev3⟩ : ∃ x : Int, x = (M1 c0 4) := ⟨_, rfl⟩
  refine g_nm ev3 ?_
  replace h := h v3 ev3
  refine g_istore C [(5, gI v3), (4, gI r2), (0, gF c0), (1, gF a1), (2, gI a2), (3, gI a3)] dX8_insert_12 (by decide) rfl ?_
  refine g_sub [(0, gF c0), (1, gF a1), (2, gI a2), (3, gI a3), (4, gI r2), (5, gI v3)] [2, 3, 4, 5, 1, 0] rfl ?_
  refine gL1_go (Gd := fun (v4 : Int) (M5 : gMem) => gG X V 6 14 [(0, gF c0), (1, gF a1), (2, gI a2), (3, gI a3), (4, gI r2), (5, gI v4)] [] M5) (fun rec6 hrec6 v4 M5 h => ?_) h
  refine g_iload C dX8_insert_14 5 rfl ?_
  obtain ⟨P8, h, hP8⟩ := h
  have J9 : ∀ (M7 : gMem), P8 M7 → gG X V 6 55 [(0, gF c0), (2, gI a2), (3, gI a3), (5, gI v4)] [] M7 := by
    intro M7 h
    replace h := hP8 M7 h
    refine g_aloadn C dX8_insert_55 0 rfl ?_
    refine gf_8_5 C dX8_insert_56 wd_267 hT0 ?_
    refine g_iload C dX8_insert_59 3 rfl ?_
    refine g_iloadn C dX8_insert_61 1 rfl ?_
    refine g_iloadn C dX8_insert_62 2 rfl ?_
    refine g_cNi (st := [gI v4, gF (c0 + 15)]) C dX8_insert_63 ykX9_cell (gE_n1 C.2.2.2.2.2.2.2.2.2.2.2.2) ⟨by decide, by decide⟩ [gI a2, gI a3] rfl (Nat.le_of_ble_eq_true rfl) (fun hM ho => sX9_cell hD a2 a3 M7 _  h hM ho) (fun r11 M10 h => ?_)
    refine g_iast C dX8_insert_66 (gt_8_5 hT0) gce_10030 h.1 ?_
    replace h := h.2
    obtain ⟨M12, eM12⟩ : ∃ x : gMem, x = gup M10 (c0 + 15) v4 r11 := ⟨_, rfl⟩
    refine g_nmM eM12 ?_
    replace h := h M12 eM12
    refine g_aloadn C dX8_insert_67 0 rfl ?_
    refine g_dup C dX8_insert_68 (fun e => by cases e) ?_
    refine gf_8_4 C dX8_insert_69 wd_266 hT0 ?_
    refine g_iconst C dX8_insert_72 gRc_1 ?_
    refine g_iadd C dX8_insert_73 h.1 ?_
    replace h := h.2
    refine gp_8_4 C dX8_insert_74 wd_266 hT0 ?_
    obtain ⟨M13, eM13⟩ : ∃ x : gMem, x = gup M12 c0 4 ((M12 c0 4) + 1) := ⟨_, rfl⟩
    refine g_nmM eM13 ?_
    replace h := h M13 eM13
    exact g_vret C hR dX8_insert_77 h
  refine g_if_le (t := 55) C dX8_insert_16 (by decide) (fun c14 => ?_) (fun c14 => ?_)
  · replace h := h.1 c14
    refine g_sub [(0, gF c0), (2, gI a2), (3, gI a3), (5, gI v4)] [0, 2, 3, 5] rfl ?_
    exact J9 M5 h
  · replace h := h.2 c14
    refine g_aloadn C dX8_insert_19 0 rfl ?_
    refine g_aloadn C dX8_insert_20 1 rfl ?_
    refine g_iload C dX8_insert_21 5 rfl ?_
    refine g_iconst C dX8_insert_23 gRc_1 ?_
    refine g_isub C dX8_insert_24 h.1 ?_
    replace h := h.2
    refine g_cVi (st := []) C dX8_insert_25 ykX8_lengthAt wd_607 ⟨by decide, by decide⟩ [gF a1, gI (v4 - 1)] rfl (Nat.le_of_ble_eq_true rfl) hT0 (fun hM ho => sX8_lengthAt hD c0 a1 (v4 - 1) M5 _ hT0 hT1 h hM ho) (fun r16 M15 h => ?_)
    refine g_iload C dX8_insert_28 4 rfl ?_
    refine g_ic_le (t := 55) C dX8_insert_30 (by decide) (fun c17 => ?_) (fun c17 => ?_)
    · replace h := h.1 c17
      refine g_sub [(0, gF c0), (2, gI a2), (3, gI a3), (5, gI v4)] [0, 2, 3, 5] rfl ?_
      exact J9 M15 h
    · replace h := h.2 c17
      refine g_aloadn C dX8_insert_33 0 rfl ?_
      refine gf_8_5 C dX8_insert_34 wd_267 hT0 ?_
      refine g_iload C dX8_insert_37 5 rfl ?_
      refine g_aloadn C dX8_insert_39 0 rfl ?_
      refine gf_8_5 C dX8_insert_40 wd_267 hT0 ?_
      refine g_iload C dX8_insert_43 5 rfl ?_
      refine g_iconst C dX8_insert_45 gRc_1 ?_
      refine g_isub C dX8_insert_46 h.1 ?_
      replace h := h.2
      refine g_iald C dX8_insert_47 (gt_8_5 hT0) gce_10030 h.1 ?_
      replace h := h.2
      refine g_iast C dX8_insert_48 (gt_8_5 hT0) gce_10030 h.1 ?_
      replace h := h.2
      obtain ⟨M18, eM18⟩ : ∃ x : gMem, x = gup M15 (c0 + 15) v4 (M15 (c0 + 15) (v4 - 1)) := ⟨_, rfl⟩
      refine g_nmM eM18 ?_
      replace h := h M18 eM18
      refine g_iinc C [(5, gI (v4 + (-1))), (0, gF c0), (1, gF a1), (2, gI a2), (3, gI a3), (4, gI r2)] dX8_insert_49 5 rfl (by decide) h.1 rfl ?_
      replace h := h.2
      refine g_goto (t := 14) C dX8_insert_52 (by decide) ?_
      refine g_sub [(0, gF c0), (1, gF a1), (2, gI a2), (3, gI a3), (4, gI r2), (5, gI (v4 + (-1)))] [1, 2, 3, 4, 5, 0] rfl ?_
      exact hrec6 (v4 + (-1)) M18 h

set_option maxRecDepth 100000 in
set_option maxHeartbeats 4000000 in
theorem sX8_sortLinks {l : Launch} {V : gW} (hD : gD V) (c0 a1 : Int) (M0 : gMem) (K : gMem → Prop) (hT0 : gT c0 8) (hT1 : gT a1 1) (h : wX8_sortLinks c0 a1 K M0) (hM : gOM M0) (ho : ∀ q ∈ ([gF a1] : List gSV), gOK q) : gMv l V yX8_sortLinks cX8_sortLinks 4 4 90 [gF c0, gF a1] M0 K := by
  refine gMv_of hD (by decide) (Nat.le_of_ble_eq_true rfl) [(0, gF c0), (1, gF a1)] rfl (gok_L rfl (gok_n (q := gF c0) trivial ho)) hM (fun X C hR => ?_)
  unfold wX8_sortLinks at h
  refine g_aloadn C dX8_sortLinks_0 0 rfl ?_
  refine g_iconst C dX8_sortLinks_1 gRc_0 ?_
  refine gp_8_4 C dX8_sortLinks_2 wd_266 hT0 ?_
  obtain ⟨M1, eM1⟩ : ∃ x : gMem, x = gup M0 c0 4 0 := ⟨_, rfl⟩
  refine g_nmM eM1 ?_
  replace h := h M1 eM1
  refine g_iconst C dX8_sortLinks_5 gRc_0 ?_
  refine g_istoren C [(2, gI 0), (0, gF c0), (1, gF a1)] dX8_sortLinks_6 (by decide) rfl ?_
  refine g_sub [(0, gF c0), (1, gF a1), (2, gI 0)] [1, 2, 0] rfl ?_
  refine gL1_go (Gd := fun (v2 : Int) (M3 : gMem) => gG X V 4 7 [(0, gF c0), (1, gF a1), (2, gI v2)] [] M3) (fun rec4 hrec4 v2 M3 h => ?_) h
  refine g_iloadn C dX8_sortLinks_7 2 rfl ?_
  refine g_aloadn C dX8_sortLinks_8 1 rfl ?_
  refine gf_1_0 C dX8_sortLinks_9 wd_105 hT1 ?_
  refine g_ic_ge (t := 64) C dX8_sortLinks_12 (by decide) (fun c5 => ?_) (fun c5 => ?_)
  · replace h := h.1 c5
    exact g_vret C hR dX8_sortLinks_64 h
  · replace h := h.2 c5
    refine g_iloadn C dX8_sortLinks_15 2 rfl ?_
    refine g_iconst C dX8_sortLinks_16 gRc_1 ?_
    refine g_iadd C dX8_sortLinks_17 h.1 ?_
    replace h := h.2
    obtain ⟨v6, ev6⟩ : ∃ x : Int, x = (v2 + 1) := ⟨_, rfl⟩
    refine g_nm ev6 ?_
    replace h := h v6 ev6
    refine g_istoren C [(3, gI v6), (0, gF c0), (1, gF a1), (2, gI v2)] dX8_sortLinks_18 (by decide) rfl ?_
    refine g_sub [(0, gF c0), (1, gF a1), (2, gI v2), (3, gI v6)] [1, 2, 3, 0] rfl ?_
    refine gL1_go (Gd := fun (v7 : Int) (M8 : gMem) => gG X V 4 19 [(0, gF c0), (1, gF a1), (2, gI v2), (3, gI v7)] [] M8) (fun rec9 hrec9 v7 M8 h => ?_) h
    refine g_iloadn C dX8_sortLinks_19 3 rfl ?_
    refine g_aloadn C dX8_sortLinks_20 1 rfl ?_
    refine gf_1_0 C dX8_sortLinks_21 wd_105 hT1 ?_
    refine g_ic_ge (t := 58) C dX8_sortLinks_24 (by decide) (fun c10 => ?_) (fun c10 => ?_)
    · replace h := h.1 c10
      refine g_iinc C [(2, gI (v2 + 1)), (0, gF c0), (1, gF a1), (3, gI v7)] dX8_sortLinks_58 2 rfl (by decide) h.1 rfl ?_
      replace h := h.2
      refine g_goto (t := 7) C dX8_sortLinks_61 (by decide) ?_
      refine g_sub [(0, gF c0), (1, gF a1), (2, gI (v2 + 1))] [1, 2, 0] rfl ?_
      exact hrec4 (v2 + 1) M8 h
    · replace h := h.2 c10
      refine g_aloadn C dX8_sortLinks_27 1 rfl ?_
      refine g_iloadn C dX8_sortLinks_28 2 rfl ?_
      refine g_iloadn C dX8_sortLinks_29 3 rfl ?_
      refine g_cVi (st := []) C dX8_sortLinks_30 ykX1_lengthOf wd_602 ⟨by decide, by decide⟩ [gI v2, gI v7] rfl (Nat.le_of_ble_eq_true rfl) hT1 (fun hM ho => sX1_lengthOf hD a1 v2 v7 M8 _ hT1 h hM ho) (fun r12 M11 h => ?_)
      obtain ⟨P14, h, hP14⟩ := h
      have J15 : ∀ (M13 : gMem), P14 M13 → gG X V 4 52 [(0, gF c0), (1, gF a1), (2, gI v2), (3, gI v7)] [] M13 := by
        intro M13 h
        replace h := hP14 M13 h
        refine g_iinc C [(3, gI (v7 + 1)), (0, gF c0), (1, gF a1), (2, gI v2)] dX8_sortLinks_52 3 rfl (by decide) h.1 rfl ?_
        replace h := h.2
        refine g_goto (t := 19) C dX8_sortLinks_55 (by decide) ?_
        refine g_sub [(0, gF c0), (1, gF a1), (2, gI v2), (3, gI (v7 + 1))] [1, 2, 3, 0] rfl ?_
        exact hrec9 (v7 + 1) M13 h
      refine g_if_le (t := 52) C dX8_sortLinks_33 (by decide) (fun c16 => ?_) (fun c16 => ?_)
      · replace h := h.1 c16
        exact J15 M11 h
      · replace h := h.2 c16
        refine g_aloadn C dX8_sortLinks_36 0 rfl ?_
        refine gf_8_4 C dX8_sortLinks_37 wd_266 hT0 ?_
        refine g_bipush C dX8_sortLinks_40 gRc_30 gRb_30 ?_
        refine g_ic_ge (t := 52) C dX8_sortLinks_42 (by decide) (fun c17 => ?_) (fun c17 => ?_)
        · replace h := h.1 c17
          exact J15 M11 h
        · replace h := h.2 c17
          refine g_aloadn C dX8_sortLinks_45 0 rfl ?_
          refine g_aloadn C dX8_sortLinks_46 1 rfl ?_
          refine g_iloadn C dX8_sortLinks_47 2 rfl ?_
          refine g_iloadn C dX8_sortLinks_48 3 rfl ?_
          refine g_cVv (st := []) C dX8_sortLinks_49 ykX8_insert wd_603 ⟨by decide, by decide⟩ [gF a1, gI v2, gI v7] rfl (Nat.le_of_ble_eq_true rfl) hT0 (fun hM ho => sX8_insert hD c0 a1 v2 v7 M11 _ hT0 hT1 h hM ho) (fun M18 h => ?_)
          exact J15 M18 h

set_option maxRecDepth 100000 in
set_option maxHeartbeats 4000000 in
theorem sX0_clear {l : Launch} {V : gW} (hD : gD V) (c0 a1 : Int) (M0 : gMem) (K : gMem → Prop) (hT0 : gT c0 0) (h : wX0_clear c0 a1 K M0) (hM : gOM M0) (ho : ∀ q ∈ ([gI a1] : List gSV), gOK q) : gMv l V yX0_clear cX0_clear 3 1 40 [gF c0, gI a1] M0 K := by
  refine gMv_of hD (by decide) (Nat.le_of_ble_eq_true rfl) [(0, gF c0), (1, gI a1)] rfl (gok_L rfl (gok_n (q := gF c0) trivial ho)) hM (fun X C hR => ?_)
  unfold wX0_clear at h
  refine g_aloadn C dX0_clear_0 0 rfl ?_
  refine g_iloadn C dX0_clear_1 1 rfl ?_
  refine g_bipush C dX0_clear_2 gRc_12 gRb_12 ?_
  refine g_min C dX0_clear_4 wd_621 gmin_s gmin_i gmin_c ⟨by decide, Nat.le_of_ble_eq_true rfl⟩ ?_
  refine gp_0_0 C dX0_clear_7 wd_242 hT0 ?_
  obtain ⟨M1, eM1⟩ : ∃ x : gMem, x = gup M0 c0 0 (if 12 < a1 then 12 else a1) := ⟨_, rfl⟩
  refine g_nmM eM1 ?_
  replace h := h M1 eM1
  refine g_iconst C dX0_clear_10 gRc_0 ?_
  refine g_istoren C [(2, gI 0), (0, gF c0), (1, gI a1)] dX0_clear_11 (by decide) rfl ?_
  refine g_sub [(0, gF c0), (2, gI 0)] [1, 0] rfl ?_
  refine gL1_go (Gd := fun (v2 : Int) (M3 : gMem) => gG X V 3 12 [(0, gF c0), (2, gI v2)] [] M3) (fun rec4 hrec4 v2 M3 h => ?_) h
  refine g_iloadn C dX0_clear_12 1 rfl ?_
  refine g_aloadn C dX0_clear_13 0 rfl ?_
  refine gf_0_0 C dX0_clear_14 wd_242 hT0 ?_
  refine g_ic_ge (t := 46) C dX0_clear_17 (by decide) (fun c5 => ?_) (fun c5 => ?_)
  · replace h := h.1 c5
    exact g_vret C hR dX0_clear_46 h
  · replace h := h.2 c5
    refine g_aloadn C dX0_clear_20 0 rfl ?_
    refine gf_0_2 C dX0_clear_21 wd_244 hT0 ?_
    refine g_iloadn C dX0_clear_24 1 rfl ?_
    have hb6 := h.1
    replace h := h.2
    refine g_aaldA C dX0_clear_25 (gt_0_2 hT0) gce_60012 (by decide) rfl hb6 ?_
    refine g_ldc C dX0_clear_26 wd_622 gRc_1000000 rfl ?_
    refine g_fill C dX0_clear_28 wd_623 ⟨by decide, by decide⟩ (Nat.le_of_ble_eq_true rfl) hD (gta_60012 (gt_0_2 hT0) hb6) gce_10012 (by decide) ?_
    obtain ⟨M7, eM7⟩ : ∃ x : gMem, x = gfl M3 ((c0 + 1) + 1 + 1 * v2) 12 1000000 := ⟨_, rfl⟩
    refine g_nmM eM7 ?_
    replace h := h M7 eM7
    refine g_aloadn C dX0_clear_31 0 rfl ?_
    refine gf_0_2 C dX0_clear_32 wd_244 hT0 ?_
    refine g_iloadn C dX0_clear_35 1 rfl ?_
    have hb8 := h.1
    replace h := h.2
    refine g_aaldA C dX0_clear_36 (gt_0_2 hT0) gce_60012 (by decide) rfl hb8 ?_
    refine g_iloadn C dX0_clear_37 1 rfl ?_
    refine g_iconst C dX0_clear_38 gRc_0 ?_
    refine g_iast C dX0_clear_39 (gta_60012 (gt_0_2 hT0) hb8) gce_10012 h.1 ?_
    replace h := h.2
    obtain ⟨M9, eM9⟩ : ∃ x : gMem, x = gup M7 ((c0 + 1) + 1 + 1 * v2) v2 0 := ⟨_, rfl⟩
    refine g_nmM eM9 ?_
    replace h := h M9 eM9
    refine g_iinc C [(2, gI (v2 + 1)), (0, gF c0)] dX0_clear_40 1 rfl (by decide) h.1 rfl ?_
    replace h := h.2
    refine g_goto (t := 12) C dX0_clear_43 (by decide) ?_
    refine g_sub [(0, gF c0), (2, gI (v2 + 1))] [1, 0] rfl ?_
    exact hrec4 (v2 + 1) M9 h

set_option maxRecDepth 100000 in
set_option maxHeartbeats 4000000 in
theorem sX8_clear {l : Launch} {V : gW} (hD : gD V) (c0 a1 : Int) (M0 : gMem) (K : gMem → Prop) (hT0 : gT c0 8) (h : wX8_clear c0 a1 K M0) (hM : gOM M0) (ho : ∀ q ∈ ([gI a1] : List gSV), gOK q) : gMv l V yX8_clear cX8_clear 2 2 62 [gF c0, gI a1] M0 K := by
  refine gMv_of hD (by decide) (Nat.le_of_ble_eq_true rfl) [(0, gF c0), (1, gI a1)] rfl (gok_L rfl (gok_n (q := gF c0) trivial ho)) hM (fun X C hR => ?_)
  unfold wX8_clear at h
  refine g_aloadn C dX8_clear_0 0 rfl ?_
  refine g_iconst C dX8_clear_1 gRc_0 ?_
  refine gp_8_0 C dX8_clear_2 wd_260 hT0 ?_
  obtain ⟨M1, eM1⟩ : ∃ x : gMem, x = gup M0 c0 0 0 := ⟨_, rfl⟩
  refine g_nmM eM1 ?_
  replace h := h M1 eM1
  refine g_aloadn C dX8_clear_5 0 rfl ?_
  refine gf_8_6 C dX8_clear_6 wd_268 hT0 ?_
  refine g_iconst C dX8_clear_9 gRc_0 ?_
  refine g_fill C dX8_clear_10 wd_616 ⟨by decide, by decide⟩ (Nat.le_of_ble_eq_true rfl) hD (gt_8_6 hT0) gce_10012 (by decide) ?_
  obtain ⟨M2, eM2⟩ : ∃ x : gMem, x = gfl M1 (c0 + 16) 12 0 := ⟨_, rfl⟩
  refine g_nmM eM2 ?_
  replace h := h M2 eM2
  refine g_aloadn C dX8_clear_13 0 rfl ?_
  refine gf_8_1 C dX8_clear_14 wd_262 hT0 ?_
  refine g_iloadn C dX8_clear_17 1 rfl ?_
  refine g_cVv (st := []) C dX8_clear_18 ykX0_clear wd_617 ⟨by decide, by decide⟩ [gI a1] rfl (Nat.le_of_ble_eq_true rfl) (gt_8_1 hT0) (fun hM ho => sX0_clear hD (c0 + 1) a1 M2 _ (gt_8_1 hT0) h hM ho) (fun M3 h => ?_)
  exact g_vret C hR dX8_clear_21 h

set_option maxRecDepth 100000 in
set_option maxHeartbeats 4000000 in
theorem sX0_between {l : Launch} {V : gW} (hD : gD V) (c0 a1 a2 : Int) (M0 : gMem) (K : Int → gMem → Prop) (hT0 : gT c0 0) (h : wX0_between c0 a1 a2 K M0) (hM : gOM M0) (ho : ∀ q ∈ ([gI a1, gI a2] : List gSV), gOK q) : gMi l V yX0_between cX0_between 3 (some .int) 0 0 [gF c0, gI a1, gI a2] M0 K := by
  refine gMi_of hD (by decide) (Nat.le_of_ble_eq_true rfl) [(0, gF c0), (1, gI a1), (2, gI a2)] rfl (gok_L rfl (gok_n (q := gF c0) trivial ho)) hM (fun X C hR => ?_)
  unfold wX0_between at h
  refine g_iloadn C dX0_between_0 1 rfl ?_
  obtain ⟨P2, h, hP2⟩ := h
  have J3 : ∀ (M1 : gMem), P2 M1 → gG X V 3 24 [] [] M1 := by
    intro M1 h
    replace h := hP2 M1 h
    refine g_iconst C dX0_between_24 gRc_m1 ?_
    exact g_iret C hR dX0_between_25 h
  refine g_if_lt (t := 24) C dX0_between_1 (by decide) (fun c4 => ?_) (fun c4 => ?_)
  · replace h := h.1 c4
    refine g_sub [] [] rfl ?_
    exact J3 M0 h
  · replace h := h.2 c4
    refine g_iloadn C dX0_between_4 1 rfl ?_
    refine g_aloadn C dX0_between_5 0 rfl ?_
    refine gf_0_0 C dX0_between_6 wd_242 hT0 ?_
    refine g_ic_ge (t := 24) C dX0_between_9 (by decide) (fun c5 => ?_) (fun c5 => ?_)
    · replace h := h.1 c5
      refine g_sub [] [] rfl ?_
      exact J3 M0 h
    · replace h := h.2 c5
      refine g_iloadn C dX0_between_12 2 rfl ?_
      refine g_if_lt (t := 24) C dX0_between_13 (by decide) (fun c6 => ?_) (fun c6 => ?_)
      · replace h := h.1 c6
        refine g_sub [] [] rfl ?_
        exact J3 M0 h
      · replace h := h.2 c6
        refine g_iloadn C dX0_between_16 2 rfl ?_
        refine g_aloadn C dX0_between_17 0 rfl ?_
        refine gf_0_0 C dX0_between_18 wd_242 hT0 ?_
        refine g_ic_lt (t := 26) C dX0_between_21 (by decide) (fun c7 => ?_) (fun c7 => ?_)
        · replace h := h.1 c7
          refine g_aloadn C dX0_between_26 0 rfl ?_
          refine gf_0_2 C dX0_between_27 wd_244 hT0 ?_
          refine g_iloadn C dX0_between_30 1 rfl ?_
          have hb8 := h.1
          replace h := h.2
          refine g_aaldA C dX0_between_31 (gt_0_2 hT0) gce_60012 (by decide) rfl hb8 ?_
          refine g_iloadn C dX0_between_32 2 rfl ?_
          refine g_iald C dX0_between_33 (gta_60012 (gt_0_2 hT0) hb8) gce_10012 h.1 ?_
          replace h := h.2
          refine g_ldc C dX0_between_34 wd_622 gRc_1000000 rfl ?_
          obtain ⟨P11, h, hP11⟩ := h
          have J12 : ∀ (x9 : Int) (M10 : gMem), P11 x9 M10 → gG X V 3 51 [] [gI x9] M10 := by
            intro x9 M10 h
            replace h := hP11 x9 M10 h
            exact g_iret C hR dX0_between_51 h
          refine g_ic_ge (t := 50) C dX0_between_36 (by decide) (fun c13 => ?_) (fun c13 => ?_)
          · replace h := h.1 c13
            refine g_iconst C dX0_between_50 gRc_m1 ?_
            refine g_sub [] [] rfl ?_
            exact J12 (-1) M0 h
          · replace h := h.2 c13
            refine g_aloadn C dX0_between_39 0 rfl ?_
            refine gf_0_2 C dX0_between_40 wd_244 hT0 ?_
            refine g_iloadn C dX0_between_43 1 rfl ?_
            have hb14 := h.1
            replace h := h.2
            refine g_aaldA C dX0_between_44 (gt_0_2 hT0) gce_60012 (by decide) rfl hb14 ?_
            refine g_iloadn C dX0_between_45 2 rfl ?_
            refine g_iald C dX0_between_46 (gta_60012 (gt_0_2 hT0) hb14) gce_10012 h.1 ?_
            replace h := h.2
            refine g_goto (t := 51) C dX0_between_47 (by decide) ?_
            refine g_sub [] [] rfl ?_
            exact J12 (M0 ((c0 + 1) + 1 + 1 * a1) a2) M0 h
        · replace h := h.2 c7
          refine g_sub [] [] rfl ?_
          exact J3 M0 h

set_option maxRecDepth 100000 in
set_option maxHeartbeats 4000000 in
theorem sX0_add {l : Launch} {V : gW} (hD : gD V) (c0 a1 a2 a3 : Int) (M0 : gMem) (K : gMem → Prop) (hT0 : gT c0 0) (h : wX0_add c0 a1 a2 a3 K M0) (hM : gOM M0) (ho : ∀ q ∈ ([gI a1, gI a2, gI a3] : List gSV), gOK q) : gMv l V yX0_add cX0_add 10 1 40 [gF c0, gI a1, gI a2, gI a3] M0 K := by
  refine gMv_of hD (by decide) (Nat.le_of_ble_eq_true rfl) [(0, gF c0), (1, gI a1), (2, gI a2), (3, gI a3)] rfl (gok_L rfl (gok_n (q := gF c0) trivial ho)) hM (fun X C hR => ?_)
  unfold wX0_add at h
  refine g_iloadn C dX0_add_0 1 rfl ?_
  obtain ⟨P2, h, hP2⟩ := h
  have J3 : ∀ (M1 : gMem), P2 M1 → gG X V 10 24 [] [] M1 := by
    intro M1 h
    replace h := hP2 M1 h
    exact g_vret C hR dX0_add_24 h
  refine g_if_lt (t := 24) C dX0_add_1 (by decide) (fun c4 => ?_) (fun c4 => ?_)
  · replace h := h.1 c4
    refine g_sub [] [] rfl ?_
    exact J3 M0 h
  · replace h := h.2 c4
    refine g_iloadn C dX0_add_4 1 rfl ?_
    refine g_aloadn C dX0_add_5 0 rfl ?_
    refine gf_0_0 C dX0_add_6 wd_242 hT0 ?_
    refine g_ic_ge (t := 24) C dX0_add_9 (by decide) (fun c5 => ?_) (fun c5 => ?_)
    · replace h := h.1 c5
      refine g_sub [] [] rfl ?_
      exact J3 M0 h
    · replace h := h.2 c5
      refine g_iloadn C dX0_add_12 2 rfl ?_
      refine g_if_lt (t := 24) C dX0_add_13 (by decide) (fun c6 => ?_) (fun c6 => ?_)
      · replace h := h.1 c6
        refine g_sub [] [] rfl ?_
        exact J3 M0 h
      · replace h := h.2 c6
        refine g_iloadn C dX0_add_16 2 rfl ?_
        refine g_aloadn C dX0_add_17 0 rfl ?_
        refine gf_0_0 C dX0_add_18 wd_242 hT0 ?_
        refine g_ic_lt (t := 25) C dX0_add_21 (by decide) (fun c7 => ?_) (fun c7 => ?_)
        · replace h := h.1 c7
          refine g_iconst C dX0_add_25 gRc_0 ?_
          refine g_istore C [(4, gI 0), (0, gF c0), (1, gI a1), (2, gI a2), (3, gI a3)] dX0_add_26 (by decide) rfl ?_
          refine g_sub [(0, gF c0), (1, gI a1), (2, gI a2), (3, gI a3), (4, gI 0)] [1, 2, 3, 4, 0] rfl ?_
          refine gL1_go (Gd := fun (v8 : Int) (M9 : gMem) => gG X V 10 28 [(0, gF c0), (1, gI a1), (2, gI a2), (3, gI a3), (4, gI v8)] [] M9) (fun rec10 hrec10 v8 M9 h => ?_) h
          refine g_iload C dX0_add_28 4 rfl ?_
          refine g_aloadn C dX0_add_30 0 rfl ?_
          refine gf_0_0 C dX0_add_31 wd_242 hT0 ?_
          refine g_ic_ge (t := 130) C dX0_add_34 (by decide) (fun c11 => ?_) (fun c11 => ?_)
          · replace h := h.1 c11
            exact g_vret C hR dX0_add_130 h
          · replace h := h.2 c11
            refine g_aloadn C dX0_add_37 0 rfl ?_
            refine gf_0_2 C dX0_add_38 wd_244 hT0 ?_
            refine g_iload C dX0_add_41 4 rfl ?_
            have hb12 := h.1
            replace h := h.2
            refine g_aaldA C dX0_add_43 (gt_0_2 hT0) gce_60012 (by decide) rfl hb12 ?_
            refine g_astore C [(5, gF ((c0 + 1) + 1 + 1 * v8)), (0, gF c0), (1, gI a1), (2, gI a2), (3, gI a3), (4, gI v8)] dX0_add_44 (by decide) rfl ?_
            refine g_aload C dX0_add_46 0 rfl ?_
            refine g_iloadn C dX0_add_48 2 rfl ?_
            refine g_iald C dX0_add_49 (gta_60012 (gt_0_2 hT0) hb12) gce_10012 h.1 ?_
            replace h := h.2
            refine g_iloadn C dX0_add_50 4 rfl ?_
            refine g_iadd C dX0_add_51 h.1 ?_
            replace h := h.2
            obtain ⟨v13, ev13⟩ : ∃ x : Int, x = ((M9 ((c0 + 1) + 1 + 1 * v8) a1) + a3) := ⟨_, rfl⟩
            refine g_nm ev13 ?_
            replace h := h v13 ev13
            refine g_istore C [(6, gI v13), (5, gF ((c0 + 1) + 1 + 1 * v8)), (0, gF c0), (1, gI a1), (2, gI a2), (3, gI a3), (4, gI v8)] dX0_add_52 (by decide) rfl ?_
            refine g_aload C dX0_add_54 1 rfl ?_
            refine g_iloadn C dX0_add_56 4 rfl ?_
            refine g_iald C dX0_add_57 (gta_60012 (gt_0_2 hT0) hb12) gce_10012 h.1 ?_
            replace h := h.2
            refine g_iloadn C dX0_add_58 5 rfl ?_
            refine g_iadd C dX0_add_59 h.1 ?_
            replace h := h.2
            obtain ⟨v14, ev14⟩ : ∃ x : Int, x = ((M9 ((c0 + 1) + 1 + 1 * v8) a2) + a3) := ⟨_, rfl⟩
            refine g_nm ev14 ?_
            replace h := h v14 ev14
            refine g_istore C [(7, gI v14), (6, gI v13), (5, gF ((c0 + 1) + 1 + 1 * v8)), (0, gF c0), (1, gI a1), (2, gI a2), (3, gI a3), (4, gI v8)] dX0_add_60 (by decide) rfl ?_
            refine g_iconst C dX0_add_62 gRc_0 ?_
            refine g_istore C [(8, gI 0), (7, gI v14), (6, gI v13), (5, gF ((c0 + 1) + 1 + 1 * v8)), (0, gF c0), (1, gI a1), (2, gI a2), (3, gI a3), (4, gI v8)] dX0_add_63 (by decide) rfl ?_
            refine g_sub [(0, gF c0), (1, gI a1), (2, gI a2), (3, gI a3), (4, gI v8), (5, gF ((c0 + 1) + 1 + 1 * v8)), (6, gI v13), (7, gI v14), (8, gI 0)] [4, 5, 6, 7, 8, 3, 2, 1, 0] rfl ?_
            refine gL1_go (Gd := fun (v15 : Int) (M16 : gMem) => gG X V 10 65 [(0, gF c0), (1, gI a1), (2, gI a2), (3, gI a3), (4, gI v8), (5, gF ((c0 + 1) + 1 + 1 * v8)), (6, gI v13), (7, gI v14), (8, gI v15)] [] M16) (fun rec17 hrec17 v15 M16 h => ?_) h
            refine g_iload C dX0_add_65 8 rfl ?_
            refine g_aloadn C dX0_add_67 0 rfl ?_
            refine gf_0_0 C dX0_add_68 wd_242 hT0 ?_
            refine g_ic_ge (t := 124) C dX0_add_71 (by decide) (fun c18 => ?_) (fun c18 => ?_)
            · replace h := h.1 c18
              refine g_iinc C [(4, gI (v8 + 1)), (0, gF c0), (1, gI a1), (2, gI a2), (3, gI a3), (5, gF ((c0 + 1) + 1 + 1 * v8)), (6, gI v13), (7, gI v14), (8, gI v15)] dX0_add_124 4 rfl (by decide) h.1 rfl ?_
              replace h := h.2
              refine g_goto (t := 28) C dX0_add_127 (by decide) ?_
              refine g_sub [(0, gF c0), (1, gI a1), (2, gI a2), (3, gI a3), (4, gI (v8 + 1))] [1, 2, 3, 4, 0] rfl ?_
              exact hrec10 (v8 + 1) M16 h
            · replace h := h.2 c18
              refine g_iload C dX0_add_74 6 rfl ?_
              refine g_aloadn C dX0_add_76 0 rfl ?_
              refine gf_0_2 C dX0_add_77 wd_244 hT0 ?_
              refine g_iloadn C dX0_add_80 2 rfl ?_
              have hb19 := h.1
              replace h := h.2
              refine g_aaldA C dX0_add_81 (gt_0_2 hT0) gce_60012 (by decide) rfl hb19 ?_
              refine g_iload C dX0_add_82 8 rfl ?_
              refine g_iald C dX0_add_84 (gta_60012 (gt_0_2 hT0) hb19) gce_10012 h.1 ?_
              replace h := h.2
              refine g_iadd C dX0_add_85 h.1 ?_
              replace h := h.2
              refine g_iload C dX0_add_86 7 rfl ?_
              refine g_aloadn C dX0_add_88 0 rfl ?_
              refine gf_0_2 C dX0_add_89 wd_244 hT0 ?_
              refine g_iloadn C dX0_add_92 1 rfl ?_
              have hb20 := h.1
              replace h := h.2
              refine g_aaldA C dX0_add_93 (gt_0_2 hT0) gce_60012 (by decide) rfl hb20 ?_
              refine g_iload C dX0_add_94 8 rfl ?_
              refine g_iald C dX0_add_96 (gta_60012 (gt_0_2 hT0) hb20) gce_10012 h.1 ?_
              replace h := h.2
              refine g_iadd C dX0_add_97 h.1 ?_
              replace h := h.2
              refine g_min C dX0_add_98 wd_621 gmin_s gmin_i gmin_c ⟨by decide, Nat.le_of_ble_eq_true rfl⟩ ?_
              obtain ⟨v21, ev21⟩ : ∃ x : Int, x = (if (v14 + (M16 ((c0 + 1) + 1 + 1 * a1) v15)) < (v13 + (M16 ((c0 + 1) + 1 + 1 * a2) v15)) then (v14 + (M16 ((c0 + 1) + 1 + 1 * a1) v15)) else (v13 + (M16 ((c0 + 1) + 1 + 1 * a2) v15))) := ⟨_, rfl⟩
              refine g_nm ev21 ?_
              replace h := h v21 ev21
              refine g_istore C [(9, gI v21), (0, gF c0), (1, gI a1), (2, gI a2), (3, gI a3), (4, gI v8), (5, gF ((c0 + 1) + 1 + 1 * v8)), (6, gI v13), (7, gI v14), (8, gI v15)] dX0_add_101 (by decide) rfl ?_
              refine g_aload C dX0_add_103 6 rfl ?_
              refine g_iload C dX0_add_105 9 rfl ?_
              refine g_aload C dX0_add_107 6 rfl ?_
              refine g_iload C dX0_add_109 9 rfl ?_
              refine g_iald C dX0_add_111 (gta_60012 (gt_0_2 hT0) hb12) gce_10012 h.1 ?_
              replace h := h.2
              refine g_iload C dX0_add_112 0 rfl ?_
              refine g_min C dX0_add_114 wd_621 gmin_s gmin_i gmin_c ⟨by decide, Nat.le_of_ble_eq_true rfl⟩ ?_
              refine g_iast C dX0_add_117 (gta_60012 (gt_0_2 hT0) hb12) gce_10012 h.1 ?_
              replace h := h.2
              obtain ⟨M22, eM22⟩ : ∃ x : gMem, x = gup M16 ((c0 + 1) + 1 + 1 * v8) v15 (if v21 < (M16 ((c0 + 1) + 1 + 1 * v8) v15) then v21 else (M16 ((c0 + 1) + 1 + 1 * v8) v15)) := ⟨_, rfl⟩
              refine g_nmM eM22 ?_
              replace h := h M22 eM22
              refine g_iinc C [(8, gI (v15 + 1)), (9, gI v21), (0, gF c0), (1, gI a1), (2, gI a2), (3, gI a3), (4, gI v8), (5, gF ((c0 + 1) + 1 + 1 * v8)), (6, gI v13), (7, gI v14)] dX0_add_118 9 rfl (by decide) h.1 rfl ?_
              replace h := h.2
              refine g_goto (t := 65) C dX0_add_121 (by decide) ?_
              refine g_sub [(0, gF c0), (1, gI a1), (2, gI a2), (3, gI a3), (4, gI v8), (5, gF ((c0 + 1) + 1 + 1 * v8)), (6, gI v13), (7, gI v14), (8, gI (v15 + 1))] [2, 3, 4, 5, 6, 7, 8, 9, 0] rfl ?_
              exact hrec17 (v15 + 1) M22 h
        · replace h := h.2 c7
          refine g_sub [] [] rfl ?_
          exact J3 M0 h
