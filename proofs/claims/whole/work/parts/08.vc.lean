/-! what is owed, but for end and giveAllUp -/
theorem i_vc0 : wpX_init (fun u => wpY_init (fun v => i_Rel 0 u v)) := tc_rel (k := 0) tc_new
theorem i_vc_begin {k : Nat} {u : SX} {v : SY} (I : i_Rel k u v) (hk : k + 4 ≤ 2048) (v1 : Int32) : wpX_begin (fun r u' => wpY_begin (fun r' v' => r' = r ∧ i_Rel (k + 4) u' v') v v1) u v1 := by
  obtain ⟨M, lev, R, W, V, R', W', rfl, rfl, h⟩ := I
  unfold wpX_begin wpY_begin
  dsimp only
  rcases tc_cc v1 4 (by decide) with hv | ⟨c, hc, rfl⟩
  · exact xw_ncore hv (br_t rfl (yw_ncore hv (br_t rfl ⟨rfl, tc_rel h⟩)))
  · obtain ⟨L, hC⟩ := h c hc
    have hl := hC.2.1
    have hL := hC.1
    have ic : vp_in (nI c) 4 := vp_in_nI hc (by decide)
    refine xw_core hc (br_f tc_10 ⟨ic, ?_⟩)
    rw [nI_clamp (show c < 2 ^ 31 by omega), hl]
    by_cases e : L < 3
    · have hi : vp_in (nI (4 * c + (L + 1))) 16 := vp_in_nI (by omega) (by decide)
      refine br_t (nI_lt (b := 3) e (by decide)) ⟨ic, ic, nm_r (show upd lev c (nI L + 1) = upd lev c (nI (L + 1)) by rw [nI_1]) ⟨ic, ?_⟩⟩
      rw [pk_us]
      refine yw_core hc (br_f tc_10 ⟨ic, br_f (fun z => ?_) ⟨ic, ic, nm_r (show upd lev c (nI L + 1) = upd lev c (nI (L + 1)) by rw [nI_1]) ⟨ic, ?_⟩⟩⟩)
      · have := (nI_eq (b := 3) (by omega) (by decide)).mp z
        omega
      · rw [pk_us, tc_iy4, nI_clamp (show 4 * c + (L + 1) < 2 ^ 31 by omega)]
        exact ⟨hi, nm_e ⟨ic, hi, nm_e ⟨ic, rfl, tc_rel (tc_begin h hC e)⟩⟩⟩
    · have e3 : L = 3 := by omega
      subst e3
      exact br_f (by decide) (yw_core hc (br_f tc_10 ⟨ic, br_t rfl ⟨rfl, tc_rel h⟩⟩))
theorem i_vc_read {k : Nat} {u : SX} {v : SY} (I : i_Rel k u v) (hk : k + 4 ≤ 2048) (v1 : Int32) (v2 : Int32) : wpX_read (fun r u' => wpY_read (fun r' v' => r' = r ∧ i_Rel (k + 4) u' v') v v1 v2) u v1 v2 := by
  obtain ⟨M, lev, R, W, V, R', W', rfl, rfl, h⟩ := I
  unfold wpX_read
  dsimp only
  rcases tc_cc v1 4 (by decide) with hv | ⟨c, hc, rfl⟩
  · refine xw_ncore hv (br_t rfl ?_)
    unfold wpY_read
    exact yw_ncore hv (br_t rfl ⟨rfl, tc_rel h⟩)
  rcases tc_cc v2 16 (by decide) with hv | ⟨x, hx, rfl⟩
  · refine xw_core hc (br_f tc_10 (xw_ncell hv (br_t rfl ?_)))
    unfold wpY_read
    exact yw_core hc (br_f tc_10 (yw_ncell hv (br_t rfl ⟨rfl, tc_rel h⟩)))
  obtain ⟨L, hC⟩ := h c hc
  have hl := hC.2.1
  have hL := hC.1
  refine xw_core hc (br_f tc_10 (xw_cell hx (br_f tc_10 (xw_riv false (by decide) hc hx ?_))))
  by_cases hr : tc_rv false R W c x = 0
  · refine br_t hr ?_
    by_cases h0 : L = 0
    · subst h0
      exact xw_note0 hc hl (yw_read0 h hc hx hl hr ⟨rfl, tc_rel h⟩)
    · exact xw_note1 hc (by omega) hL hl (yw_read1 h hc hx (by omega) hL hl hr ⟨rfl, tc_rel (tc_note h hC (by omega) _)⟩)
  · refine br_f hr ?_
    unfold wpY_read
    exact yw_core hc (br_f tc_10 (yw_cell hx (br_f tc_10 (yw_oth false (by decide) h hc hx (br_f hr ⟨rfl, tc_rel h⟩)))))
theorem i_vc_sees {k : Nat} {u : SX} {v : SY} (I : i_Rel k u v) (hk : k + 4 ≤ 2048) (v1 : Int32) (v2 : Int32) : wpX_sees (fun r => wpY_sees (fun r' => r' = r ∧ i_Rel (k + 4) u v) v v1 v2) u v1 v2 := by
  obtain ⟨M, lev, R, W, V, R', W', rfl, rfl, h⟩ := I
  unfold wpX_sees
  dsimp only
  rcases tc_cc v1 4 (by decide) with hv | ⟨c, hc, rfl⟩
  · refine xw_ncore hv (br_t rfl ?_)
    unfold wpY_sees
    exact yw_ncore hv (br_t rfl ⟨rfl, tc_rel h⟩)
  rcases tc_cc v2 16 (by decide) with hv | ⟨x, hx, rfl⟩
  · refine xw_core hc (br_f tc_10 (xw_ncell hv (br_t rfl ?_)))
    unfold wpY_sees
    exact yw_core hc (br_f tc_10 (yw_ncell hv (br_t rfl ⟨rfl, tc_rel h⟩)))
  obtain ⟨L, hC⟩ := h c hc
  exact xw_core hc (br_f tc_10 (xw_cell hx (br_f tc_10 (xw_see hc hx hC.1 hC.2.1 (yw_see hC hc hx ⟨rfl, tc_rel h⟩)))))
theorem i_vc_write {k : Nat} {u : SX} {v : SY} (I : i_Rel k u v) (hk : k + 4 ≤ 2048) (v1 : Int32) (v2 : Int32) (v3 : Int32) : wpX_write (fun r u' => wpY_write (fun r' v' => r' = r ∧ i_Rel (k + 4) u' v') v v1 v2 v3) u v1 v2 v3 := by
  obtain ⟨M, lev, R, W, V, R', W', rfl, rfl, h⟩ := I
  unfold wpX_write wpY_write
  dsimp only
  rcases tc_cc v1 4 (by decide) with hv | ⟨c, hc, rfl⟩
  · exact xw_ncore hv (br_t rfl (yw_ncore hv (br_t rfl ⟨rfl, tc_rel h⟩)))
  rcases tc_cc v2 16 (by decide) with hv | ⟨x, hx, rfl⟩
  · exact xw_core hc (br_f tc_10 (xw_ncell hv (br_t rfl (yw_core hc (br_f tc_10 (yw_ncell hv (br_t rfl ⟨rfl, tc_rel h⟩)))))))
  obtain ⟨L, hC⟩ := h c hc
  have hl := hC.2.1
  have hL := hC.1
  refine xw_core hc (br_f tc_10 (xw_cell hx (br_f tc_10 (xw_riv true (by decide) hc hx ?_))))
  by_cases hr : tc_rv true R W c x = 0
  · refine br_t hr ?_
    by_cases h0 : L = 0
    · subst h0
      exact xw_store0 hc hx hl (yw_core hc (br_f tc_10 (yw_cell hx (br_f tc_10 (yw_oth true (by decide) h hc hx (br_t hr (yw_put0 hc hx hl ⟨rfl, tc_rel h⟩)))))))
    · exact xw_store1 hc hx (by omega) hL hl (yw_core hc (br_f tc_10 (yw_cell hx (br_f tc_10 (yw_oth true (by decide) h hc hx (br_t hr (yw_put1 hc hx (by omega) hL hl ⟨rfl, tc_rel (tc_store h hC (by omega) hx)⟩)))))))
  · exact br_f hr (yw_core hc (br_f tc_10 (yw_cell hx (br_f tc_10 (yw_oth true (by decide) h hc hx (br_f hr ⟨rfl, tc_rel h⟩))))))
theorem i_vc_add {k : Nat} {u : SX} {v : SY} (I : i_Rel k u v) (hk : k + 4 ≤ 2048) (v1 : Int32) (v2 : Int32) (v3 : Int32) : wpX_add (fun r u' => wpY_add (fun r' v' => r' = r ∧ i_Rel (k + 4) u' v') v v1 v2 v3) u v1 v2 v3 := by
  obtain ⟨M, lev, R, W, V, R', W', rfl, rfl, h⟩ := I
  unfold wpX_add wpY_add
  dsimp only
  rcases tc_cc v1 4 (by decide) with hv | ⟨c, hc, rfl⟩
  · exact xw_ncore hv (br_t rfl (yw_ncore hv (br_t rfl ⟨rfl, tc_rel h⟩)))
  rcases tc_cc v2 16 (by decide) with hv | ⟨x, hx, rfl⟩
  · exact xw_core hc (br_f tc_10 (xw_ncell hv (br_t rfl (yw_core hc (br_f tc_10 (yw_ncell hv (br_t rfl ⟨rfl, tc_rel h⟩)))))))
  obtain ⟨L, hC⟩ := h c hc
  have hl := hC.2.1
  have hL := hC.1
  refine xw_core hc (br_f tc_10 (xw_cell hx (br_f tc_10 (xw_riv true (by decide) hc hx ?_))))
  by_cases hr : tc_rv true R W c x = 0
  · have hf := tc_rvF hr
    refine br_t hr (xw_see hc hx hL hl (nm_e ?_))
    by_cases h0 : L = 0
    · subst h0
      refine xw_note0 hc hl (xw_store0 hc hx hl ?_)
      refine yw_core hc (br_f tc_10 (yw_cell hx (br_f tc_10 (yw_oth true (by decide) h hc hx (br_t hr (yw_see hC hc hx (nm_e ?_)))))))
      exact yw_read0 h hc hx hl hf (yw_put0 hc hx hl ⟨rfl, tc_rel h⟩)
    · have h1 : 1 ≤ L := by omega
      have N := tc_note h hC h1 (tc_one x)
      have NC := tc_lev N hc hl hL
      refine xw_note1 hc h1 hL hl (xw_store1 hc hx h1 hL hl ?_)
      refine yw_core hc (br_f tc_10 (yw_cell hx (br_f tc_10 (yw_oth true (by decide) h hc hx (br_t hr (yw_see hC hc hx (nm_e ?_)))))))
      exact yw_read1 h hc hx h1 hL hl hf (yw_put1 hc hx h1 hL hl ⟨rfl, tc_rel (tc_store N NC h1 hx)⟩)
  · exact br_f hr (yw_core hc (br_f tc_10 (yw_cell hx (br_f tc_10 (yw_oth true (by decide) h hc hx (br_f hr ⟨rfl, tc_rel h⟩))))))
theorem i_vc_giveUp {k : Nat} {u : SX} {v : SY} (I : i_Rel k u v) (hk : k + 4 ≤ 2048) (v1 : Int32) : wpX_giveUp (fun r u' => wpY_giveUp (fun r' v' => r' = r ∧ i_Rel (k + 4) u' v') v v1) u v1 := by
  obtain ⟨M, lev, R, W, V, R', W', rfl, rfl, h⟩ := I
  unfold wpX_giveUp wpY_giveUp
  dsimp only
  rcases tc_cc v1 4 (by decide) with hv | ⟨c, hc, rfl⟩
  · exact xw_ncore hv (br_t rfl (yw_ncore hv (br_t rfl ⟨rfl, tc_rel h⟩)))
  obtain ⟨L, hC⟩ := h c hc
  have hl := hC.2.1
  have hL := hC.1
  have ic : vp_in (nI c) 4 := vp_in_nI hc (by decide)
  refine xw_core hc (br_f tc_10 ⟨ic, ?_⟩)
  rw [nI_clamp (show c < 2 ^ 31 by omega), hl]
  cases L with
  | zero => exact br_t rfl (yw_core hc (br_f tc_10 ⟨ic, br_t rfl ⟨rfl, tc_rel h⟩⟩))
  | succ L =>
    refine br_f (nI_ne0 (by omega) (by omega)) (xw_drop hc hL hl ⟨ic, ?_⟩)
    dsimp only
    rw [pk_us]
    refine yw_core hc (br_f tc_10 ⟨ic, br_f (nI_ne0 (by omega) (by omega)) ⟨ic, ic, nm_r (show upd lev c (nI (L + 1) - 1) = upd lev c (nI L) by rw [nI_pred L]) ⟨ic, ?_⟩⟩⟩)
    rw [pk_us]
    exact ⟨rfl, tc_rel (tc_drop h hC)⟩
theorem i_vc_level {k : Nat} {u : SX} {v : SY} (I : i_Rel k u v) (hk : k + 4 ≤ 2048) (v1 : Int32) : wpX_level (fun r => wpY_level (fun r' => r' = r ∧ i_Rel (k + 4) u v) v v1) u v1 := by
  obtain ⟨M, lev, R, W, V, R', W', rfl, rfl, h⟩ := I
  unfold wpX_level wpY_level
  dsimp only
  rcases tc_cc v1 4 (by decide) with hv | ⟨c, hc, rfl⟩
  · exact xw_ncore hv (br_t rfl (yw_ncore hv (br_t rfl ⟨rfl, tc_rel h⟩)))
  have ic : vp_in (nI c) 4 := vp_in_nI hc (by decide)
  exact xw_core hc (br_f tc_10 ⟨ic, yw_core hc (br_f tc_10 ⟨ic, rfl, tc_rel h⟩)⟩)
theorem i_vc_committed {k : Nat} {u : SX} {v : SY} (I : i_Rel k u v) (hk : k + 4 ≤ 2048) (v1 : Int32) : wpX_committed (fun r => wpY_committed (fun r' => r' = r ∧ i_Rel (k + 4) u v) v v1) u v1 := by
  obtain ⟨M, lev, R, W, V, R', W', rfl, rfl, h⟩ := I
  unfold wpX_committed wpY_committed
  dsimp only
  rcases tc_cc v1 16 (by decide) with hv | ⟨x, hx, rfl⟩
  · exact xw_ncell hv (br_t rfl (yw_ncell hv (br_t rfl ⟨rfl, tc_rel h⟩)))
  have ix : vp_in (nI x) 16 := vp_in_nI hx (by decide)
  exact xw_cell hx (br_f tc_10 ⟨ix, yw_cell hx (br_f tc_10 ⟨ix, rfl, tc_rel h⟩)⟩)
theorem i_vc_readBy {k : Nat} {u : SX} {v : SY} (I : i_Rel k u v) (hk : k + 4 ≤ 2048) (v1 : Int32) : wpX_readBy (fun r => wpY_readBy (fun r' => r' = r ∧ i_Rel (k + 4) u v) v v1) u v1 := by
  obtain ⟨M, lev, R, W, V, R', W', rfl, rfl, h⟩ := I
  unfold wpX_readBy wpY_readBy
  dsimp only
  rcases tc_cc v1 4 (by decide) with hv | ⟨c, hc, rfl⟩
  · exact xw_ncore hv (br_t rfl (yw_ncore hv (br_t rfl ⟨rfl, tc_rel h⟩)))
  obtain ⟨L, hC⟩ := h c hc
  exact xw_core hc (br_f tc_10 (xw_cr hc (yw_core hc (br_f tc_10 (yw_rs hC hc ⟨rfl, tc_rel h⟩)))))
theorem i_vc_writtenBy {k : Nat} {u : SX} {v : SY} (I : i_Rel k u v) (hk : k + 4 ≤ 2048) (v1 : Int32) : wpX_writtenBy (fun r => wpY_writtenBy (fun r' => r' = r ∧ i_Rel (k + 4) u v) v v1) u v1 := by
  obtain ⟨M, lev, R, W, V, R', W', rfl, rfl, h⟩ := I
  unfold wpX_writtenBy wpY_writtenBy
  dsimp only
  rcases tc_cc v1 4 (by decide) with hv | ⟨c, hc, rfl⟩
  · exact xw_ncore hv (br_t rfl (yw_ncore hv (br_t rfl ⟨rfl, tc_rel h⟩)))
  obtain ⟨L, hC⟩ := h c hc
  exact xw_core hc (br_f tc_10 (xw_cw hc (yw_core hc (br_f tc_10 (yw_ws hC hc ⟨rfl, tc_rel h⟩)))))
theorem i_vc_rivals {k : Nat} {u : SX} {v : SY} (I : i_Rel k u v) (hk : k + 4 ≤ 2048) (v1 : Int32) (v2 : Int32) (v3 : Int32) : wpX_rivals (fun r => wpY_rivals (fun r' => r' = r ∧ i_Rel (k + 4) u v) v v1 v2 v3) u v1 v2 v3 := by
  obtain ⟨M, lev, R, W, V, R', W', rfl, rfl, h⟩ := I
  unfold wpX_rivals wpY_rivals
  dsimp only
  rcases tc_cc v1 4 (by decide) with hv | ⟨c, hc, rfl⟩
  · exact xw_ncore hv (br_t rfl (yw_ncore hv (br_t rfl ⟨rfl, tc_rel h⟩)))
  rcases tc_cc v2 16 (by decide) with hv | ⟨x, hx, rfl⟩
  · exact xw_core hc (br_f tc_10 (xw_ncell hv (br_t rfl (yw_core hc (br_f tc_10 (yw_ncell hv (br_t rfl ⟨rfl, tc_rel h⟩)))))))
  refine xw_core hc (br_f tc_10 (xw_cell hx (br_f tc_10 ?_)))
  by_cases z0 : v3 = 0
  · subst z0
    refine br_t rfl ?_
    unfold wX_rivals_27
    refine xw_riv false (by decide) hc hx (yw_core hc (br_f tc_10 (yw_cell hx (br_f tc_10 (br_t rfl ?_)))))
    unfold wY_rivals_25 wY_rivals_37
    exact br_t rfl (yw_oth false (by decide) h hc hx ⟨rfl, tc_rel h⟩)
  · by_cases z1 : v3 = 1
    · subst z1
      refine br_f z0 (br_t rfl ?_)
      unfold wX_rivals_27
      refine xw_riv true (by decide) hc hx (yw_core hc (br_f tc_10 (yw_cell hx (br_f tc_10 (br_f z0 (br_t rfl ?_))))))
      unfold wY_rivals_25 wY_rivals_37
      exact br_f z0 (yw_oth true (by decide) h hc hx ⟨rfl, tc_rel h⟩)
    · exact br_f z0 (br_f z1 (yw_core hc (br_f tc_10 (yw_cell hx (br_f tc_10 (br_f z0 (br_f z1 ⟨rfl, tc_rel h⟩)))))))
theorem i_vc_digest {k : Nat} {u : SX} {v : SY} (I : i_Rel k u v) (hk : k + 4 ≤ 2048) : wpX_digest (fun r => wpY_digest (fun r' => r' = r ∧ i_Rel (k + 4) u v) v) u := by
  obtain ⟨M, lev, R, W, V, R', W', rfl, rfl, h⟩ := I
  exact xw_dig (yw_dig ⟨rfl, tc_rel h⟩)
