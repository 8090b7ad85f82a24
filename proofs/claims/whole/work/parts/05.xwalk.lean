/-! X's own methods, each with a general post -/
section
variable {M lev R W V : Nat → Int32} {c x L : Nat}
theorem xw_core {post : Int32 → Prop} (hc : c < 4) (h : post 1) : wpX_isCore post (nI c) := by
  unfold wpX_isCore
  exact br_f (nI_pos (by omega)) (br_f (nI_ge (b := 4) hc (by decide)) h)
theorem xw_ncore {post : Int32 → Prop} {v : Int32} (hv : v < 0 ∨ nI 4 ≤ v) (h : post 0) : wpX_isCore post v := by
  unfold wpX_isCore
  exact br_c (fun _ => h) (fun z => br_t (hv.resolve_left z) h)
theorem xw_cell {post : Int32 → Prop} (hx : x < 16) (h : post 1) : wpX_isCell post (nI x) := by
  unfold wpX_isCell
  exact br_f (nI_pos (by omega)) (br_f (nI_ge (b := 16) hx (by decide)) h)
theorem xw_ncell {post : Int32 → Prop} {v : Int32} (hv : v < 0 ∨ nI 16 ≤ v) (h : post 0) : wpX_isCell post v := by
  unfold wpX_isCell
  exact br_c (fun _ => h) (fun z => br_t (hv.resolve_left z) h)
theorem xw_hasT {post : Int32 → Prop} {w : Int32} (hx : x < 16) (hb : bt w x = true) (h : post 1) : wpX_hasCell post w (nI x) := by
  unfold wpX_hasCell
  exact br_f (fun z => tc_tf hb ((tc_xbit w (by omega)).mp z)) h
theorem xw_hasF {post : Int32 → Prop} {w : Int32} (hx : x < 16) (hb : bt w x = false) (h : post 0) : wpX_hasCell post w (nI x) := by
  unfold wpX_hasCell
  exact br_t ((tc_xbit w (by omega)).mpr hb) h
theorem xw_top {post : Int32 → Prop} (hc : c < 4) (hl : lev c = nI L) (h : post (nI (4 * c + L))) : wpX_topRow post (M, lev, R, W, V) (nI c) := by
  unfold wpX_topRow
  dsimp only
  rw [nI_clamp (show c < 2 ^ 31 by omega), hl, tc_ix4]
  exact ⟨vp_in_nI hc (by decide), h⟩
theorem xw_cr {post : Int32 → Prop} (hc : c < 4) (h : post (tc_or R (4 * c) 4)) : wpX_cellsRead post (M, lev, R, W, V) (nI c) := by
  unfold wpX_cellsRead
  dsimp only
  refine loop_0 (fun n i s => wX_cellsRead_4 post (nI c) M lev R W V n s (nI i)) (fun i s => s = tc_or R (4 * c) i) 4 0 rfl ?_ ?_
  · intro n s hs
    subst hs
    exact br_t (nI_le (Nat.le_refl 4) (by decide)) h
  · intro n i s hi hs ih
    subst hs
    refine br_f (nI_ge (b := 4) hi (by decide)) ?_
    rw [tc_ix4, nI_clamp (show 4 * c + i < 2 ^ 31 by omega), nI_1 i]
    exact ⟨vp_in_nI (by omega) (by decide), nm_e (nm_e (ih _ rfl))⟩
theorem xw_cw {post : Int32 → Prop} (hc : c < 4) (h : post (tc_or W (4 * c) 4)) : wpX_cellsWritten post (M, lev, R, W, V) (nI c) := by
  unfold wpX_cellsWritten
  dsimp only
  refine loop_0 (fun n i s => wX_cellsWritten_4 post (nI c) M lev R W V n s (nI i)) (fun i s => s = tc_or W (4 * c) i) 4 0 rfl ?_ ?_
  · intro n s hs
    subst hs
    exact br_t (nI_le (Nat.le_refl 4) (by decide)) h
  · intro n i s hi hs ih
    subst hs
    refine br_f (nI_ge (b := 4) hi (by decide)) ?_
    rw [tc_ix4, nI_clamp (show 4 * c + i < 2 ^ 31 by omega), nI_1 i]
    exact ⟨vp_in_nI (by omega) (by decide), nm_e (nm_e (ih _ rfl))⟩
theorem xw_riv {post : Int32 → Prop} {q : Int32} (wr : Bool) (hq : q = 1 ↔ wr = true) (hc : c < 4) (hx : x < 16) (h : post (tc_rv wr R W c x)) : wpX_rivalCores post (M, lev, R, W, V) (nI c) (nI x) q := by
  unfold wpX_rivalCores
  dsimp only
  refine loop_0 (fun n i s => wX_rivalCores_6 post (nI c) (nI x) q M lev R W V n s (nI i)) (fun i s => s = tc_riv (tc_way wr R W) c x i) 4 0 rfl ?_ ?_
  · intro n s hs
    subst hs
    exact br_t (nI_le (Nat.le_refl 4) (by decide)) h
  · intro n i s hi hs ih
    subst hs
    have key : wX_rivalCores_36 post (wX_rivalCores_6 post (nI c) (nI x) q M lev R W V n) (nI c) (nI x) q (tc_riv (tc_way wr R W) c x i) (nI i) (tc_way wr R W i) M lev R W V := by
      unfold wX_rivalCores_36
      by_cases e : i = c
      · exact br_t (by rw [e]) (nm_r (nI_1 i) (ih _ (tc_rivQ e)))
      · refine br_f (fun z => e ((nI_eq (by omega) (by omega)).mp z)) ?_
        by_cases b : bt (tc_way wr R W i) x = true
        · exact xw_hasT hx b (br_f tc_10 (nm_e (nm_r (nI_1 i) (ih _ (tc_rivT e b)))))
        · exact xw_hasF hx (tc_nf b) (br_t rfl (nm_r (nI_1 i) (ih _ (tc_rivF b))))
    refine br_f (nI_ge (b := 4) hi (by decide)) (xw_cw hi ?_)
    by_cases w : wr = true
    · exact br_t (hq.mpr w) (xw_cr hi (nm_r (tc_wayT w).symm key))
    · refine br_f (fun z => w (hq.mp z)) ?_
      rw [tc_wayF w] at key
      exact key
theorem xw_see {post : Int32 → Prop} (hc : c < 4) (hx : x < 16) (hL : L ≤ 3) (hl : lev c = nI L) (h : post (tc_see W V M c x L)) : wpX_seenValue post (M, lev, R, W, V) (nI c) (nI x) := by
  have key : ∀ l, l ≤ 3 → post (tc_see W V M c x l) → wX_seenValue_7 post (nI c) (nI x) M lev R W V (l + 1) (nI l) := by
    intro l
    induction l with
    | zero =>
      intro _ h
      refine br_t (by decide) ?_
      rw [nI_clamp (show x < 2 ^ 31 by omega)]
      exact ⟨vp_in_nI hx (by decide), h⟩
    | succ l ih =>
      intro h3 h
      refine br_f (nI_nle (by omega) (by omega)) (nm_r (tc_ix4 c (l + 1)) ?_)
      rw [nI_clamp (show 4 * c + (l + 1) < 2 ^ 31 by omega)]
      refine ⟨vp_in_nI (by omega) (by decide), ?_⟩
      by_cases b : bt (W (4 * c + (l + 1))) x = true
      · refine xw_hasT hx b (br_f tc_10 ?_)
        rw [tc_ix16, nI_clamp (show (4 * c + (l + 1)) * 16 + x < 2 ^ 31 by omega)]
        rw [tc_seeT b] at h
        exact ⟨vp_in_nI (by omega) (by decide), h⟩
      · rw [tc_seeF b] at h
        exact xw_hasF hx (tc_nf b) (br_t rfl (nm_r (pk_m1 l) (ih (by omega) h)))
  unfold wpX_seenValue
  dsimp only
  rw [nI_clamp (show c < 2 ^ 31 by omega), hl]
  exact ⟨vp_in_nI hc (by decide), nm_e ⟨L + 1, key L hL h⟩⟩
theorem xw_note0 {post : SX → Prop} (hc : c < 4) (hl : lev c = nI 0) (h : post (M, lev, R, W, V)) : wpX_noteReading post (M, lev, R, W, V) (nI c) (nI x) := by
  unfold wpX_noteReading
  dsimp only
  rw [nI_clamp (show c < 2 ^ 31 by omega), hl]
  exact ⟨vp_in_nI hc (by decide), br_t (by decide) h⟩
theorem xw_note1 {post : SX → Prop} (hc : c < 4) (h0 : 1 ≤ L) (hL : L ≤ 3) (hl : lev c = nI L) (h : post (M, lev, upd R (4 * c + L) (R (4 * c + L) ||| tc_one x), W, V)) : wpX_noteReading post (M, lev, R, W, V) (nI c) (nI x) := by
  unfold wpX_noteReading
  dsimp only
  have i1 : vp_in (nI (4 * c + L)) 16 := vp_in_nI (by omega) (by decide)
  rw [nI_clamp (show c < 2 ^ 31 by omega), hl]
  refine ⟨vp_in_nI hc (by decide), br_f (nI_nle (by omega) (by omega)) (xw_top hc hl ?_)⟩
  rw [nI_clamp (show 4 * c + L < 2 ^ 31 by omega)]
  exact ⟨i1, i1, nm_e h⟩
theorem xw_store0 {post : SX → Prop} {y : Int32} (hc : c < 4) (hx : x < 16) (hl : lev c = nI 0) (h : post (upd M x y, lev, R, W, V)) : wpX_store post (M, lev, R, W, V) (nI c) (nI x) y := by
  unfold wpX_store
  dsimp only
  rw [nI_clamp (show c < 2 ^ 31 by omega), nI_clamp (show x < 2 ^ 31 by omega), hl]
  exact ⟨vp_in_nI hc (by decide), br_t rfl ⟨vp_in_nI hx (by decide), nm_e h⟩⟩
theorem xw_store1 {post : SX → Prop} {y : Int32} (hc : c < 4) (hx : x < 16) (h0 : 1 ≤ L) (hL : L ≤ 3) (hl : lev c = nI L) (h : post (M, lev, R, upd W (4 * c + L) (W (4 * c + L) ||| tc_one x), upd V ((4 * c + L) * 16 + x) y)) : wpX_store post (M, lev, R, W, V) (nI c) (nI x) y := by
  unfold wpX_store
  dsimp only
  have i1 : vp_in (nI (4 * c + L)) 16 := vp_in_nI (by omega) (by decide)
  rw [nI_clamp (show c < 2 ^ 31 by omega), hl]
  refine ⟨vp_in_nI hc (by decide), br_f (nI_ne0 (by omega) (by omega)) (xw_top hc hl ?_)⟩
  rw [tc_ix16, nI_clamp (show 4 * c + L < 2 ^ 31 by omega), nI_clamp (show (4 * c + L) * 16 + x < 2 ^ 31 by omega)]
  exact ⟨i1, i1, nm_e ⟨vp_in_nI (by omega) (by decide), nm_e h⟩⟩
theorem xw_commit {post : SX → Prop} (hc : c < 4) (hL : L ≤ 3) (hl : lev c = nI L) (h : post (tc_cm (W (4 * c + L)) V M ((4 * c + L) * 16) 16, lev, R, W, V)) : wpX_commitWrites post (M, lev, R, W, V) (nI c) := by
  unfold wpX_commitWrites
  dsimp only
  refine xw_top hc hl ?_
  refine loop_0 (fun n i s => wX_commitWrites_8 post (nI (4 * c + L)) n (nI i) s lev R W V) (fun i s => s = tc_cm (W (4 * c + L)) V M ((4 * c + L) * 16) i) 16 M (tc_cm0 _ _ _ _).symm ?_ ?_
  · intro n s hs
    subst hs
    exact br_t (nI_le (Nat.le_refl 16) (by decide)) h
  · intro n i s hi hs ih
    subst hs
    refine br_f (nI_ge (b := 16) hi (by decide)) ⟨vp_in_nI (by omega) (by decide), ?_⟩
    rw [nI_clamp (show 4 * c + L < 2 ^ 31 by omega)]
    by_cases b : bt (W (4 * c + L)) i = true
    · refine xw_hasT hi b (br_f tc_10 ?_)
      rw [tc_ix16, nI_clamp (show (4 * c + L) * 16 + i < 2 ^ 31 by omega), nI_clamp (show i < 2 ^ 31 by omega), nI_1 i]
      exact ⟨vp_in_nI (by omega) (by decide), vp_in_nI hi (by decide), nm_e (nm_e (ih _ (tc_cmT b)))⟩
    · exact xw_hasF hi (tc_nf b) (br_t rfl (nm_r (nI_1 i) (ih _ (tc_cmF (tc_nf b)))))
theorem xw_hand {post : SX → Prop} (hc : c < 4) (hL : L + 1 ≤ 3) (hl : lev c = nI (L + 1))
    (h : post (M, lev, upd R (4 * c + L) (R (4 * c + L) ||| R (4 * c + (L + 1))), upd W (4 * c + L) (W (4 * c + L) ||| W (4 * c + (L + 1))), tc_hd (W (4 * c + (L + 1))) V ((4 * c + L) * 16) 16)) : wpX_handDown post (M, lev, R, W, V) (nI c) := by
  unfold wpX_handDown
  dsimp only
  have i0 : vp_in (nI (4 * c + L)) 16 := vp_in_nI (by omega) (by decide)
  have i1 : vp_in (nI (4 * c + (L + 1))) 16 := vp_in_nI (by omega) (by decide)
  refine xw_top hc hl (nm_r (show nI (4 * c + (L + 1)) - 1 = nI (4 * c + L) from nI_pred _) ?_)
  refine loop_0 (fun n i s => wX_handDown_13 post (nI (4 * c + (L + 1))) (nI (4 * c + L)) n (nI i) M lev R W s) (fun i s => s = tc_hd (W (4 * c + (L + 1))) V ((4 * c + L) * 16) i) 16 V (tc_hd0 _ _ _).symm ?_ ?_
  · intro n s hs
    subst hs
    refine br_t (nI_le (Nat.le_refl 16) (by decide)) ?_
    rw [nI_clamp (show 4 * c + L < 2 ^ 31 by omega), nI_clamp (show 4 * c + (L + 1) < 2 ^ 31 by omega)]
    exact ⟨i0, i1, i0, nm_e ⟨i0, i1, i0, nm_e h⟩⟩
  · intro n i s hi hs ih
    subst hs
    refine br_f (nI_ge (b := 16) hi (by decide)) ⟨i1, ?_⟩
    rw [nI_clamp (show 4 * c + (L + 1) < 2 ^ 31 by omega)]
    by_cases b : bt (W (4 * c + (L + 1))) i = true
    · refine xw_hasT hi b (br_f tc_10 ?_)
      have r : tc_hd (W (4 * c + (L + 1))) V ((4 * c + L) * 16) i ((4 * c + (L + 1)) * 16 + i) = V ((4 * c + L) * 16 + i + 16) := by
        rw [tc_hdR (by omega)]
        congr 1
        omega
      rw [tc_ix16, tc_ix16, nI_clamp (show (4 * c + (L + 1)) * 16 + i < 2 ^ 31 by omega), nI_clamp (show (4 * c + L) * 16 + i < 2 ^ 31 by omega), nI_1 i, r]
      exact ⟨vp_in_nI (by omega) (by decide), vp_in_nI (by omega) (by decide), nm_e (nm_e (ih _ (tc_hdT b)))⟩
    · exact xw_hasF hi (tc_nf b) (br_t rfl (nm_r (nI_1 i) (ih _ (tc_hdF (tc_nf b)))))
theorem xw_drop {post : SX → Prop} (hc : c < 4) (hL : L + 1 ≤ 3) (hl : lev c = nI (L + 1)) (h : post (M, upd lev c (nI L), upd R (4 * c + (L + 1)) 0, upd W (4 * c + (L + 1)) 0, V)) : wpX_dropLevel post (M, lev, R, W, V) (nI c) := by
  unfold wpX_dropLevel
  dsimp only
  have i1 : vp_in (nI (4 * c + (L + 1))) 16 := vp_in_nI (by omega) (by decide)
  have ic : vp_in (nI c) 4 := vp_in_nI hc (by decide)
  refine xw_top hc hl ?_
  rw [nI_clamp (show 4 * c + (L + 1) < 2 ^ 31 by omega), nI_clamp (show c < 2 ^ 31 by omega), hl, nI_pred]
  exact ⟨i1, nm_e ⟨i1, nm_e ⟨ic, ic, nm_e h⟩⟩⟩
theorem xw_dig {post : Int32 → Prop} (h : post (tc_dig M 16)) : wpX_digest post (M, lev, R, W, V) := by
  unfold wpX_digest
  dsimp only
  refine loop_0 (fun n i s => wX_digest_4 post M lev R W V n s (nI i)) (fun i s => s = tc_dig M i) 16 0 rfl ?_ ?_
  · intro n s hs
    subst hs
    exact br_t (nI_le (Nat.le_refl 16) (by decide)) h
  · intro n i s hi hs ih
    subst hs
    refine br_f (nI_ge (b := 16) hi (by decide)) ?_
    rw [nI_clamp (show i < 2 ^ 31 by omega), nI_1 i]
    exact ⟨vp_in_nI hi (by decide), nm_e (nm_e (ih _ rfl))⟩
end
