/-! what is owed: end, giveAllUp -/
theorem i_vc_end {k : Nat} {u : SX} {v : SY} (I : i_Rel k u v) (hk : k + 4 ≤ 2048) (v1 : Int32) : wpX_end (fun r u' => wpY_end (fun r' v' => r' = r ∧ i_Rel (k + 4) u' v') v v1) u v1 := by
  obtain ⟨M, lev, R, W, V, R', W', rfl, rfl, h⟩ := I
  unfold wpX_end
  dsimp only
  rcases tc_cc v1 4 (by decide) with hv | ⟨c, hc, rfl⟩
  · refine xw_ncore hv (br_t rfl ?_)
    unfold wpY_end
    exact yw_ncore hv (br_t rfl ⟨rfl, tc_rel h⟩)
  obtain ⟨L, hC⟩ := h c hc
  have hl := hC.2.1
  have hL := hC.1
  have ic : vp_in (nI c) 4 := vp_in_nI hc (by decide)
  refine xw_core hc (br_f tc_10 ⟨ic, ?_⟩)
  rw [nI_clamp (show c < 2 ^ 31 by omega), hl]
  cases L with
  | zero =>
    refine br_t rfl ?_
    unfold wpY_end
    dsimp only
    refine yw_core hc (br_f tc_10 ⟨ic, ?_⟩)
    rw [nI_clamp (show c < 2 ^ 31 by omega), hl]
    exact br_t rfl ⟨rfl, tc_rel h⟩
  | succ L =>
    refine br_f (nI_ne0 (by omega) (by omega)) ⟨ic, ?_⟩
    have cl := nI_clamp (show c < 2 ^ 31 by omega)
    by_cases h0 : L = 0
    · subst h0
      have ew : W' (4 * c + 1) = W (4 * c + 1) := (hC.2.2.1 1 (by omega) (by omega)).2
      refine br_t rfl (xw_commit hc hL hl ?_)
      unfold wX_end_41
      refine xw_drop hc hL hl ⟨ic, ?_⟩
      dsimp only
      rw [cl, pk_us]
      refine yw_end1 hc hl ⟨rfl, ?_⟩
      rw [ew]
      exact tc_rel (tc_drop h hC)
    · have h1 : 1 ≤ L := by omega
      have ew : W' (4 * c + (L + 1)) = W (4 * c + (L + 1)) := (hC.2.2.1 (L + 1) (by omega) (by omega)).2
      refine br_f (fun z => ?_) (xw_hand hc hL hl ?_)
      · have := (nI_eq (b := 1) (by omega) (by decide)).mp z
        omega
      · unfold wX_end_41
        refine xw_drop hc hL hl ⟨ic, ?_⟩
        dsimp only
        rw [cl, pk_us]
        refine yw_end2 hc h1 hL hl (fun W2 w1 w2 => ⟨rfl, ?_⟩)
        rw [ew]
        exact tc_rel (tc_end2 h hC h1 w1 w2)
theorem xw_all {post : Int32 → SX → Prop} {M lev R W V R' W' : Nat → Int32} {c L : Nat} (h : tc_Ok lev R W R' W') (hc : c < 4) (hL : L ≤ 3) (hl : lev c = nI L)
    (hp : ∀ R2 W2 : Nat → Int32, tc_Ok (upd lev c 0) R2 W2 R' W' → post (nI L) (M, upd lev c 0, R2, W2, V)) : ∃ n, wX_giveAllUp_18 post (nI c) (nI L) n 0 M lev R W V := by
  refine loop_0 (σ := (Nat → Int32) × (Nat → Int32) × (Nat → Int32)) (fun n i s => wX_giveAllUp_18 post (nI c) (nI L) n (nI i) M s.1 s.2.1 s.2.2 V)
    (fun i s => s.1 = upd lev c (nI (L - i)) ∧ tc_Ok s.1 s.2.1 s.2.2 R' W') L (lev, R, W) ⟨by rw [Nat.sub_zero, ← hl, tc_uu], h⟩ ?_ ?_
  · rintro n ⟨lv, R2, W2⟩ ⟨e1, e2⟩
    dsimp only at e1 e2
    rw [Nat.sub_self] at e1
    subst e1
    exact br_t (nI_le (Nat.le_refl L) (by omega)) (hp R2 W2 e2)
  · rintro n i ⟨lv, R2, W2⟩ hi ⟨e1, e2⟩ ih
    dsimp only at e1 e2
    obtain ⟨m, hm⟩ : ∃ m, L - i = m + 1 := ⟨L - i - 1, by omega⟩
    rw [hm] at e1
    have el : lv c = nI (m + 1) := by rw [e1, pk_us]
    have eC := tc_lev e2 hc el (by omega)
    have hd := tc_drop e2 eC
    refine br_f (nI_ge hi (by omega)) (xw_drop hc (by omega) el (nm_r (nI_1 i) (ih (upd lv c (nI m), upd R2 (4 * c + (m + 1)) 0, upd W2 (4 * c + (m + 1)) 0) ⟨?_, hd⟩)))
    show upd lv c (nI m) = upd lev c (nI (L - (i + 1)))
    rw [e1, tc_u2, show L - (i + 1) = m by omega]
theorem i_vc_giveAllUp {k : Nat} {u : SX} {v : SY} (I : i_Rel k u v) (hk : k + 4 ≤ 2048) (v1 : Int32) : wpX_giveAllUp (fun r u' => wpY_giveAllUp (fun r' v' => r' = r ∧ i_Rel (k + 4) u' v') v v1) u v1 := by
  obtain ⟨M, lev, R, W, V, R', W', rfl, rfl, h⟩ := I
  unfold wpX_giveAllUp wpY_giveAllUp
  dsimp only
  rcases tc_cc v1 4 (by decide) with hv | ⟨c, hc, rfl⟩
  · exact xw_ncore hv (br_t rfl (yw_ncore hv (br_t rfl ⟨rfl, tc_rel h⟩)))
  obtain ⟨L, hC⟩ := h c hc
  have hl := hC.2.1
  have hL := hC.1
  have ic : vp_in (nI c) 4 := vp_in_nI hc (by decide)
  refine xw_core hc (br_f tc_10 ⟨ic, ?_⟩)
  rw [nI_clamp (show c < 2 ^ 31 by omega), hl]
  exact nm_e (xw_all h hc hL hl (fun R2 W2 h2 => yw_core hc (br_f tc_10 ⟨ic, nm_e ⟨ic, nm_e ⟨rfl, tc_rel h2⟩⟩⟩)))
