/-! Y's end: at level 1 it commits, above it hands down -/
section
variable {M lev R' W' V : Nat → Int32} {c x L : Nat}
theorem yw_end1 {post : Int32 → SY → Prop} (hc : c < 4) (hl : lev c = nI 1)
    (h : post (nI 0) (tc_cm (W' (4 * c + 1)) V M ((4 * c + 1) * 16) 16, upd lev c (nI 0), R', W', V)) : wpY_end post (M, lev, R', W', V) (nI c) := by
  unfold wpY_end
  dsimp only
  have i1 : vp_in (nI (4 * c + 1)) 16 := vp_in_nI (by omega) (by decide)
  have i0 : vp_in (nI (4 * c)) 16 := vp_in_nI (by omega) (by decide)
  have ic : vp_in (nI c) 4 := vp_in_nI hc (by decide)
  have l0 : upd lev c (nI 0) c = nI 0 := pk_us
  refine yw_core hc (br_f tc_10 ?_)
  rw [nI_clamp (show c < 2 ^ 31 by omega), hl]
  refine ⟨ic, br_f (nI_ne0 (by omega) (by omega)) ⟨ic, nm_r (tc_iy4 c 1) ⟨ic, ic, nm_r (show upd lev c (nI 1 - 1) = upd lev c (nI 0) by rw [nI_pred 0]) ?_⟩⟩⟩
  refine loop_0 (fun n i s => wY_end_42 post (nI c) (nI (4 * c + 1)) n (nI i) s (upd lev c (nI 0)) R' W' V) (fun i s => s = tc_cm (W' (4 * c + 1)) V M ((4 * c + 1) * 16) i) 16 M (tc_cm0 _ _ _ _).symm ?_ ?_
  · intro n s hs
    subst hs
    refine br_t (nI_le (Nat.le_refl 16) (by decide)) ?_
    rw [nI_clamp (show c < 2 ^ 31 by omega), l0, nI_pred (4 * c), nI_clamp (show 4 * c < 2 ^ 31 by omega), tc_uu]
    exact ⟨ic, br_t (by decide) ⟨i0, i0, nm_e ⟨ic, h⟩⟩⟩
  · intro n i s hi hs ih
    subst hs
    refine br_f (nI_ge (b := 16) hi (by decide)) ⟨i1, ?_⟩
    rw [nI_clamp (show 4 * c + 1 < 2 ^ 31 by omega), tc_iy16, nI_clamp (show (4 * c + 1) * 16 + i < 2 ^ 31 by omega)]
    by_cases b : bt (W' (4 * c + 1)) i = true
    · exact br_t ((tc_ybit _ (by omega)).mpr b) ⟨vp_in_nI (by omega) (by decide), yw_put0 hc hi l0 (nm_r (nI_1 i) (ih _ (tc_cmT b)))⟩
    · exact br_f (fun z => b ((tc_ybit _ (by omega)).mp z)) (nm_r (nI_1 i) (ih _ (tc_cmF (tc_nf b))))
theorem yw_end2 {post : Int32 → SY → Prop} (hc : c < 4) (h0 : 1 ≤ L) (hL : L + 1 ≤ 3) (hl : lev c = nI (L + 1))
    (h : ∀ W2 : Nat → Int32, (∀ j, j ≠ 4 * c + L → W2 j = W' j) → W2 (4 * c + L) = W' (4 * c + L) ||| tc_mk (W' (4 * c + (L + 1))) 16 →
      post (nI L) (M, upd lev c (nI L), upd R' (4 * c + L) (R' (4 * c + L) ||| R' (4 * c + (L + 1))), W2, tc_hd (W' (4 * c + (L + 1))) V ((4 * c + L) * 16) 16)) : wpY_end post (M, lev, R', W', V) (nI c) := by
  unfold wpY_end
  dsimp only
  have i1 : vp_in (nI (4 * c + (L + 1))) 16 := vp_in_nI (by omega) (by decide)
  have i0 : vp_in (nI (4 * c + L)) 16 := vp_in_nI (by omega) (by decide)
  have ic : vp_in (nI c) 4 := vp_in_nI hc (by decide)
  have l0 : upd lev c (nI L) c = nI L := pk_us
  refine yw_core hc (br_f tc_10 ?_)
  rw [nI_clamp (show c < 2 ^ 31 by omega), hl]
  refine ⟨ic, br_f (nI_ne0 (by omega) (by omega)) ⟨ic, nm_r (tc_iy4 c (L + 1)) ⟨ic, ic, nm_r (show upd lev c (nI (L + 1) - 1) = upd lev c (nI L) by rw [nI_pred L]) ?_⟩⟩⟩
  refine loop_0 (σ := (Nat → Int32) × (Nat → Int32)) (fun n i s => wY_end_42 post (nI c) (nI (4 * c + (L + 1))) n (nI i) M (upd lev c (nI L)) R' s.1 s.2)
    (fun i s => ((∀ j, j ≠ 4 * c + L → s.1 j = W' j) ∧ s.1 (4 * c + L) = W' (4 * c + L) ||| tc_mk (W' (4 * c + (L + 1))) i) ∧ s.2 = tc_hd (W' (4 * c + (L + 1))) V ((4 * c + L) * 16) i) 16 (W', V) ⟨⟨fun _ _ => rfl, Int32.or_zero.symm⟩, (tc_hd0 _ _ _).symm⟩ ?_ ?_
  · rintro n ⟨W2, V2⟩ ⟨⟨w1, w2⟩, w3⟩
    dsimp only at w1 w2 w3
    subst w3
    refine br_t (nI_le (Nat.le_refl 16) (by decide)) ?_
    dsimp only
    rw [nI_clamp (show c < 2 ^ 31 by omega), l0, show nI (4 * c + (L + 1)) - 1 = nI (4 * c + L) from nI_pred _, nI_clamp (show 4 * c + L < 2 ^ 31 by omega), nI_clamp (show 4 * c + (L + 1) < 2 ^ 31 by omega)]
    exact ⟨ic, br_f (nI_nle (by omega) (by omega)) ⟨i0, i1, i0, nm_e ⟨ic, h W2 w1 w2⟩⟩⟩
  · rintro n i ⟨W2, V2⟩ hi ⟨⟨w1, w2⟩, w3⟩ ih
    dsimp only at w1 w2 w3
    subst w3
    have e1 : W2 (4 * c + (L + 1)) = W' (4 * c + (L + 1)) := w1 _ (by omega)
    refine br_f (nI_ge (b := 16) hi (by decide)) ⟨i1, ?_⟩
    dsimp only
    have r : tc_hd (W' (4 * c + (L + 1))) V ((4 * c + L) * 16) i ((4 * c + (L + 1)) * 16 + i) = V ((4 * c + L) * 16 + i + 16) := by
      rw [tc_hdR (by omega)]
      congr 1
      omega
    rw [nI_clamp (show 4 * c + (L + 1) < 2 ^ 31 by omega), tc_iy16, nI_clamp (show (4 * c + (L + 1)) * 16 + i < 2 ^ 31 by omega), e1, r]
    by_cases b : bt (W' (4 * c + (L + 1))) i = true
    · refine br_t ((tc_ybit _ (by omega)).mpr b) ⟨vp_in_nI (by omega) (by decide), yw_put1 hc hi h0 (by omega) l0 (nm_r (nI_1 i) (ih (upd W2 (4 * c + L) (W2 (4 * c + L) ||| tc_one i), upd (tc_hd (W' (4 * c + (L + 1))) V ((4 * c + L) * 16) i) ((4 * c + L) * 16 + i) (V ((4 * c + L) * 16 + i + 16))) ⟨⟨fun j hj => ?_, ?_⟩, tc_hdT b⟩))⟩
      · exact (pk_un hj).trans (w1 j hj)
      · show upd W2 (4 * c + L) (W2 (4 * c + L) ||| tc_one i) (4 * c + L) = _
        rw [pk_us, w2, tc_mkT b, Int32.or_assoc]
    · refine br_f (fun z => b ((tc_ybit _ (by omega)).mp z)) (nm_r (nI_1 i) (ih (W2, tc_hd (W' (4 * c + (L + 1))) V ((4 * c + L) * 16) i) ⟨⟨w1, ?_⟩, tc_hdF (tc_nf b)⟩))
      show W2 (4 * c + L) = _
      rw [w2, tc_mkF b]
end
