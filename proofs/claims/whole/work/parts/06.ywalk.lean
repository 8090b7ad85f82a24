/-! Y's own methods, each with a general post; where the states are related, its answers in X's rows -/
section
variable {M lev R W V R' W' : Nat → Int32} {c x L : Nat}
theorem yw_core {post : Int32 → Prop} (hc : c < 4) (h : post 1) : wpY_core post (M, lev, R', W', V) (nI c) := by
  unfold wpY_core
  dsimp only
  exact br_f (nI_pos (by omega)) (br_f (nI_nlt (a := 3) (b := c) (by omega) (by decide)) h)
theorem yw_ncore {post : Int32 → Prop} {v : Int32} (hv : v < 0 ∨ nI 4 ≤ v) (h : post 0) : wpY_core post (M, lev, R', W', V) v := by
  unfold wpY_core
  dsimp only
  exact br_c (fun _ => h) (fun z => br_t (tc_gt3 (hv.resolve_left z)) h)
theorem yw_cell {post : Int32 → Prop} (hx : x < 16) (h : post 1) : wpY_cell post (M, lev, R', W', V) (nI x) := by
  unfold wpY_cell
  dsimp only
  exact br_f (nI_pos (by omega)) (br_f (nI_nlt (a := 15) (b := x) (by omega) (by decide)) h)
theorem yw_ncell {post : Int32 → Prop} {v : Int32} (hv : v < 0 ∨ nI 16 ≤ v) (h : post 0) : wpY_cell post (M, lev, R', W', V) v := by
  unfold wpY_cell
  dsimp only
  exact br_c (fun _ => h) (fun z => br_t (tc_gt15 (hv.resolve_left z)) h)
theorem yw_rs {post : Int32 → Prop} (hC : tc_C L c lev R W R' W') (hc : c < 4) (h : post (tc_or R (4 * c) 4)) : wpY_readSet post (M, lev, R', W', V) (nI c) := by
  rw [← tc_setR hC] at h
  obtain ⟨hL, hl, -, -, -⟩ := hC
  unfold wpY_readSet
  dsimp only
  refine loop_0 (fun n i s => wY_readSet_4 post (nI c) M lev R' W' V n s (nI (i + 1))) (fun i s => s = tc_or R' (4 * c + 1) i) L 0 rfl ?_ ?_
  · intro n s hs
    subst hs
    refine ⟨vp_in_nI hc (by decide), ?_⟩
    rw [nI_clamp (show c < 2 ^ 31 by omega), hl]
    exact br_t (nI_lt (by omega) (by omega)) h
  · intro n i s hi hs ih
    subst hs
    refine ⟨vp_in_nI hc (by decide), ?_⟩
    rw [nI_clamp (show c < 2 ^ 31 by omega), hl]
    refine br_f (nI_nlt (by omega) (by omega)) ?_
    rw [tc_iy4, show 4 * c + (i + 1) = 4 * c + 1 + i by omega, nI_clamp (show 4 * c + 1 + i < 2 ^ 31 by omega), nI_1 (i + 1)]
    exact ⟨vp_in_nI (by omega) (by decide), nm_e (nm_e (ih _ rfl))⟩
theorem yw_ws {post : Int32 → Prop} (hC : tc_C L c lev R W R' W') (hc : c < 4) (h : post (tc_or W (4 * c) 4)) : wpY_writeSet post (M, lev, R', W', V) (nI c) := by
  rw [← tc_setW hC] at h
  obtain ⟨hL, hl, -, -, -⟩ := hC
  unfold wpY_writeSet
  dsimp only
  refine loop_0 (fun n i s => wY_writeSet_4 post (nI c) M lev R' W' V n s (nI (i + 1))) (fun i s => s = tc_or W' (4 * c + 1) i) L 0 rfl ?_ ?_
  · intro n s hs
    subst hs
    refine ⟨vp_in_nI hc (by decide), ?_⟩
    rw [nI_clamp (show c < 2 ^ 31 by omega), hl]
    exact br_t (nI_lt (by omega) (by omega)) h
  · intro n i s hi hs ih
    subst hs
    refine ⟨vp_in_nI hc (by decide), ?_⟩
    rw [nI_clamp (show c < 2 ^ 31 by omega), hl]
    refine br_f (nI_nlt (by omega) (by omega)) ?_
    rw [tc_iy4, show 4 * c + (i + 1) = 4 * c + 1 + i by omega, nI_clamp (show 4 * c + 1 + i < 2 ^ 31 by omega), nI_1 (i + 1)]
    exact ⟨vp_in_nI (by omega) (by decide), nm_e (nm_e (ih _ rfl))⟩
theorem yw_oth {post : Int32 → Prop} {q : Int32} (wr : Bool) (hq : q = 0 ↔ wr = true) (hO : tc_Ok lev R W R' W') (hc : c < 4) (hx : x < 16) (h : post (tc_rv wr R W c x)) : wpY_others post (M, lev, R', W', V) (nI c) (nI x) q := by
  unfold wpY_others
  dsimp only
  refine loop_0 (fun n i s => wY_others_6 post (nI c) (nI x) q M lev R' W' V n s (nI i)) (fun i s => s = tc_riv (tc_way wr R W) c x i) 4 0 rfl ?_ ?_
  · intro n s hs
    subst hs
    exact br_t (nI_le (Nat.le_refl 4) (by decide)) h
  · intro n i s hi hs ih
    subst hs
    have key : wY_others_38 post (wY_others_6 post (nI c) (nI x) q M lev R' W' V n) (nI c) (nI x) q (tc_riv (tc_way wr R W) c x i) (nI i) (tc_way wr R W i) M lev R' W' V := by
      unfold wY_others_38
      by_cases e : i = c
      · exact br_t (by rw [e]) (nm_r (nI_1 i) (ih _ (tc_rivQ e)))
      · refine br_f (fun z => e ((nI_eq (by omega) (by omega)).mp z)) ?_
        by_cases b : bt (tc_way wr R W i) x = true
        · exact br_t ((tc_ybit _ (by omega)).mpr b) (nm_e (nm_r (nI_1 i) (ih _ (tc_rivT e b))))
        · exact br_f (fun z => b ((tc_ybit _ (by omega)).mp z)) (nm_r (nI_1 i) (ih _ (tc_rivF b)))
    obtain ⟨K, hK⟩ := hO i hi
    refine br_f (nI_ge (b := 4) hi (by decide)) ?_
    by_cases w : wr = true
    · rw [tc_wayT w] at key
      exact br_t (hq.mpr w) (yw_ws hK hi (yw_rs hK hi key))
    · rw [tc_wayF w] at key
      exact br_f (fun z => w (hq.mp z)) (yw_ws hK hi key)
theorem yw_see {post : Int32 → Prop} (hC : tc_C L c lev R W R' W') (hc : c < 4) (hx : x < 16) (h : post (tc_see W V M c x L)) : wpY_sees post (M, lev, R', W', V) (nI c) (nI x) := by
  have key : ∀ l, l ≤ 3 → post (tc_see W' V M c x l) → wY_sees_25 post (nI c) (nI x) M lev R' W' V (l + 1) (nI l) := by
    intro l
    induction l with
    | zero =>
      intro _ h
      refine br_t (by decide) ?_
      rw [nI_clamp (show x < 2 ^ 31 by omega)]
      exact ⟨vp_in_nI hx (by decide), h⟩
    | succ l ih =>
      intro h3 h
      refine br_f (nI_nlt (a := l + 1) (b := 1) (by omega) (by omega)) ?_
      rw [tc_iy4, tc_iy16, nI_clamp (show 4 * c + (l + 1) < 2 ^ 31 by omega), nI_clamp (show (4 * c + (l + 1)) * 16 + x < 2 ^ 31 by omega)]
      refine ⟨vp_in_nI (by omega) (by decide), ?_⟩
      by_cases b : bt (W' (4 * c + (l + 1))) x = true
      · rw [tc_seeT b] at h
        exact br_t ((tc_ybit _ (by omega)).mpr b) ⟨vp_in_nI (by omega) (by decide), h⟩
      · rw [tc_seeF b] at h
        exact br_f (fun z => b ((tc_ybit _ (by omega)).mp z)) (nm_r (pk_m1 l) (ih (by omega) h))
  rw [← tc_seeXY hC] at h
  unfold wpY_sees
  dsimp only
  refine yw_core hc (br_f tc_10 (yw_cell hx (br_f tc_10 ?_)))
  rw [nI_clamp (show c < 2 ^ 31 by omega), hC.2.1]
  exact ⟨vp_in_nI hc (by decide), nm_e ⟨L + 1, key L hC.1 h⟩⟩
theorem yw_put0 {post : SY → Prop} {y : Int32} (hc : c < 4) (hx : x < 16) (hl : lev c = nI 0) (h : post (upd M x y, lev, R', W', V)) : wpY_put post (M, lev, R', W', V) (nI c) (nI x) y := by
  unfold wpY_put
  dsimp only
  rw [nI_clamp (show c < 2 ^ 31 by omega), nI_clamp (show x < 2 ^ 31 by omega), hl]
  exact ⟨vp_in_nI hc (by decide), br_t rfl ⟨vp_in_nI hx (by decide), nm_e h⟩⟩
theorem yw_put1 {post : SY → Prop} {y : Int32} (hc : c < 4) (hx : x < 16) (h0 : 1 ≤ L) (hL : L ≤ 3) (hl : lev c = nI L) (h : post (M, lev, R', upd W' (4 * c + L) (W' (4 * c + L) ||| tc_one x), upd V ((4 * c + L) * 16 + x) y)) : wpY_put post (M, lev, R', W', V) (nI c) (nI x) y := by
  unfold wpY_put
  dsimp only
  have i1 : vp_in (nI (4 * c + L)) 16 := vp_in_nI (by omega) (by decide)
  have ic : vp_in (nI c) 4 := vp_in_nI hc (by decide)
  rw [nI_clamp (show c < 2 ^ 31 by omega), hl]
  refine ⟨ic, br_f (nI_ne0 (by omega) (by omega)) ⟨ic, nm_r (tc_iy4 c L) ?_⟩⟩
  rw [tc_iy16, nI_clamp (show 4 * c + L < 2 ^ 31 by omega), nI_clamp (show (4 * c + L) * 16 + x < 2 ^ 31 by omega)]
  exact ⟨i1, i1, nm_e ⟨vp_in_nI (by omega) (by decide), nm_e h⟩⟩
theorem yw_read0 {post : Int32 → SY → Prop} (hO : tc_Ok lev R W R' W') (hc : c < 4) (hx : x < 16) (hl : lev c = nI 0) (hr : tc_rv false R W c x = 0) (h : post 0 (M, lev, R', W', V)) : wpY_read post (M, lev, R', W', V) (nI c) (nI x) := by
  unfold wpY_read
  dsimp only
  have i1 : vp_in (nI (4 * c + 0)) 16 := vp_in_nI (by omega) (by decide)
  have ic : vp_in (nI c) 4 := vp_in_nI hc (by decide)
  refine yw_core hc (br_f tc_10 (yw_cell hx (br_f tc_10 (yw_oth false (by decide) hO hc hx (br_t hr ?_)))))
  rw [nI_clamp (show c < 2 ^ 31 by omega), hl]
  refine ⟨ic, nm_r (tc_iy4 c 0) ⟨ic, br_t (by decide) ?_⟩⟩
  rw [nI_clamp (show 4 * c + 0 < 2 ^ 31 by omega), tc_uu]
  exact ⟨i1, i1, nm_e h⟩
theorem yw_read1 {post : Int32 → SY → Prop} (hO : tc_Ok lev R W R' W') (hc : c < 4) (hx : x < 16) (h0 : 1 ≤ L) (hL : L ≤ 3) (hl : lev c = nI L) (hr : tc_rv false R W c x = 0) (h : post 0 (M, lev, upd R' (4 * c + L) (R' (4 * c + L) ||| tc_one x), W', V)) : wpY_read post (M, lev, R', W', V) (nI c) (nI x) := by
  unfold wpY_read
  dsimp only
  have i1 : vp_in (nI (4 * c + L)) 16 := vp_in_nI (by omega) (by decide)
  have ic : vp_in (nI c) 4 := vp_in_nI hc (by decide)
  refine yw_core hc (br_f tc_10 (yw_cell hx (br_f tc_10 (yw_oth false (by decide) hO hc hx (br_t hr ?_)))))
  rw [nI_clamp (show c < 2 ^ 31 by omega), hl]
  refine ⟨ic, nm_r (tc_iy4 c L) ⟨ic, br_f (nI_nle (by omega) (by omega)) ?_⟩⟩
  rw [nI_clamp (show 4 * c + L < 2 ^ 31 by omega)]
  exact ⟨i1, i1, nm_e h⟩
theorem yw_dig {post : Int32 → Prop} (h : post (tc_dig M 16)) : wpY_digest post (M, lev, R', W', V) := by
  unfold wpY_digest
  dsimp only
  refine loop_0 (fun n i s => wY_digest_4 post M lev R' W' V n s (nI i)) (fun i s => s = tc_dig M i) 16 0 rfl ?_ ?_
  · intro n s hs
    subst hs
    exact br_t (nI_le (Nat.le_refl 16) (by decide)) h
  · intro n i s hi hs ih
    subst hs
    refine br_f (nI_ge (b := 16) hi (by decide)) ?_
    rw [nI_clamp (show i < 2 ^ 31 by omega), nI_1 i, Int32.mul_comm (nI (i + 1)) (M i)]
    exact ⟨vp_in_nI hi (by decide), nm_e (nm_e (ih _ rfl))⟩
end
