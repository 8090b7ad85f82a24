/-! the relation: memory, levels and values alike; of the rows of core c those of levels 1 .. L alike, in X all others empty -/
def tc_C (L c : Nat) (lev R W R' W' : Nat → Int32) : Prop :=
  L ≤ 3 ∧ lev c = nI L ∧ (∀ l, 1 ≤ l → l ≤ L → R' (4 * c + l) = R (4 * c + l) ∧ W' (4 * c + l) = W (4 * c + l)) ∧
  (∀ l, l < 4 → (l = 0 ∨ L < l) → R (4 * c + l) = 0 ∧ W (4 * c + l) = 0) ∧ (∀ l, l < 4 → tc_16 (W (4 * c + l)))
def tc_Ok (lev R W R' W' : Nat → Int32) : Prop := ∀ c, c < 4 → ∃ L, tc_C L c lev R W R' W'
theorem tc_fr {lev R W R' W' lev2 R2 W2 R2' W2' : Nat → Int32} {c : Nat} (h : tc_Ok lev R W R' W') (L : Nat) (hC : tc_C L c lev2 R2 W2 R2' W2')
    (hl : ∀ d, d ≠ c → lev2 d = lev d) (hr : ∀ j, (j < 4 * c ∨ 4 * c + 4 ≤ j) → R2 j = R j ∧ W2 j = W j ∧ R2' j = R' j ∧ W2' j = W' j) : tc_Ok lev2 R2 W2 R2' W2' := by
  intro d hd
  by_cases e : d = c
  · subst e
    exact ⟨L, hC⟩
  · obtain ⟨K, k1, k2, k3, k4, k5⟩ := h d hd
    have hj : ∀ l, l < 4 → R2 (4 * d + l) = R (4 * d + l) ∧ W2 (4 * d + l) = W (4 * d + l) ∧ R2' (4 * d + l) = R' (4 * d + l) ∧ W2' (4 * d + l) = W' (4 * d + l) := fun l hl4 => hr (4 * d + l) (by omega)
    refine ⟨K, k1, by rw [hl d e]; exact k2, fun l h1 h2 => ?_, fun l h1 h2 => ?_, fun l h1 => ?_⟩
    · obtain ⟨a1, a2, a3, a4⟩ := hj l (by omega)
      rw [a1, a2, a3, a4]
      exact k3 l h1 h2
    · obtain ⟨a1, a2, -, -⟩ := hj l h1
      rw [a1, a2]
      exact k4 l h1 h2
    · obtain ⟨-, a2, -, -⟩ := hj l h1
      rw [a2]
      exact k5 l h1
section
variable {lev R W R' W' : Nat → Int32} {c L : Nat}
theorem tc_begin (h : tc_Ok lev R W R' W') (hC : tc_C L c lev R W R' W') (hL : L < 3) : tc_Ok (upd lev c (nI (L + 1))) R W (upd R' (4 * c + (L + 1)) 0) (upd W' (4 * c + (L + 1)) 0) := by
  obtain ⟨k1, k2, k3, k4, k5⟩ := hC
  refine tc_fr (c := c) h (L + 1) ⟨by omega, pk_us, fun l h1 h2 => ?_, fun l h1 h2 => k4 l h1 (by omega), k5⟩ (fun d hd => pk_un hd) (fun j hj => ⟨rfl, rfl, pk_un (by omega), pk_un (by omega)⟩)
  by_cases e : l = L + 1
  · subst e
    have z := k4 (L + 1) (by omega) (Or.inr (by omega))
    rw [pk_us, pk_us]
    exact ⟨z.1.symm, z.2.symm⟩
  · rw [pk_un (by omega), pk_un (by omega)]
    exact k3 l h1 (by omega)
theorem tc_note (h : tc_Ok lev R W R' W') (hC : tc_C L c lev R W R' W') (h0 : 1 ≤ L) (b : Int32) : tc_Ok lev (upd R (4 * c + L) (R (4 * c + L) ||| b)) W (upd R' (4 * c + L) (R' (4 * c + L) ||| b)) W' := by
  obtain ⟨k1, k2, k3, k4, k5⟩ := hC
  refine tc_fr (c := c) h L ⟨k1, k2, fun l h1 h2 => ?_, fun l h1 h2 => ?_, k5⟩ (fun d _ => rfl) (fun j hj => ⟨pk_un (by omega), rfl, pk_un (by omega), rfl⟩)
  · by_cases e : l = L
    · subst e
      rw [pk_us, pk_us, (k3 l h1 h2).1]
      exact ⟨rfl, (k3 l h1 h2).2⟩
    · rw [pk_un (by omega), pk_un (by omega)]
      exact k3 l h1 h2
  · rw [pk_un (by omega)]
    exact k4 l h1 h2
theorem tc_store (h : tc_Ok lev R W R' W') (hC : tc_C L c lev R W R' W') (h0 : 1 ≤ L) {x : Nat} (hx : x < 16) : tc_Ok lev R (upd W (4 * c + L) (W (4 * c + L) ||| tc_one x)) R' (upd W' (4 * c + L) (W' (4 * c + L) ||| tc_one x)) := by
  obtain ⟨k1, k2, k3, k4, k5⟩ := hC
  refine tc_fr (c := c) h L ⟨k1, k2, fun l h1 h2 => ?_, fun l h1 h2 => ?_, fun l h1 => ?_⟩ (fun d _ => rfl) (fun j hj => ⟨rfl, pk_un (by omega), rfl, pk_un (by omega)⟩)
  · by_cases e : l = L
    · subst e
      rw [pk_us, pk_us, (k3 l h1 h2).2]
      exact ⟨(k3 l h1 h2).1, rfl⟩
    · rw [pk_un (by omega), pk_un (by omega)]
      exact k3 l h1 h2
  · rw [pk_un (by omega)]
    exact k4 l h1 h2
  · by_cases e : l = L
    · subst e
      rw [pk_us]
      exact tc_16_or (k5 l h1) (tc_16_one hx)
    · rw [pk_un (by omega)]
      exact k5 l h1
theorem tc_drop (h : tc_Ok lev R W R' W') (hC : tc_C (L + 1) c lev R W R' W') : tc_Ok (upd lev c (nI L)) (upd R (4 * c + (L + 1)) 0) (upd W (4 * c + (L + 1)) 0) R' W' := by
  obtain ⟨k1, k2, k3, k4, k5⟩ := hC
  refine tc_fr (c := c) h L ⟨by omega, pk_us, fun l h1 h2 => ?_, fun l h1 h2 => ?_, fun l h1 => ?_⟩ (fun d hd => pk_un hd) (fun j hj => ⟨pk_un (by omega), pk_un (by omega), rfl, rfl⟩)
  · rw [pk_un (by omega), pk_un (by omega)]
    exact k3 l h1 (by omega)
  · by_cases e : l = L + 1
    · subst e
      exact ⟨pk_us, pk_us⟩
    · rw [pk_un (by omega), pk_un (by omega)]
      exact k4 l h1 (by omega)
  · by_cases e : l = L + 1
    · subst e
      rw [pk_us]
      exact tc_16_0
    · rw [pk_un (by omega)]
      exact k5 l h1
theorem tc_end2 {W2' : Nat → Int32} (h : tc_Ok lev R W R' W') (hC : tc_C (L + 1) c lev R W R' W') (h0 : 1 ≤ L)
    (w1 : ∀ j, j ≠ 4 * c + L → W2' j = W' j) (w2 : W2' (4 * c + L) = W' (4 * c + L) ||| tc_mk (W' (4 * c + (L + 1))) 16) :
    tc_Ok (upd lev c (nI L)) (upd (upd R (4 * c + L) (R (4 * c + L) ||| R (4 * c + (L + 1)))) (4 * c + (L + 1)) 0) (upd (upd W (4 * c + L) (W (4 * c + L) ||| W (4 * c + (L + 1)))) (4 * c + (L + 1)) 0) (upd R' (4 * c + L) (R' (4 * c + L) ||| R' (4 * c + (L + 1)))) W2' := by
  obtain ⟨k1, k2, k3, k4, k5⟩ := hC
  refine tc_fr (c := c) h L ⟨by omega, pk_us, fun l h1 h2 => ?_, fun l h1 h2 => ?_, fun l h1 => ?_⟩ (fun d hd => pk_un hd) (fun j hj => ⟨(pk_un (by omega)).trans (pk_un (by omega)), (pk_un (by omega)).trans (pk_un (by omega)), pk_un (by omega), w1 j (by omega)⟩)
  · have e1 : ∀ f : Nat → Int32, ∀ a b : Int32, upd (upd f (4 * c + L) a) (4 * c + (L + 1)) b (4 * c + l) = upd f (4 * c + L) a (4 * c + l) := fun f a b => pk_un (by omega)
    rw [e1, e1]
    by_cases e : l = L
    · subst e
      have s1 := k3 l h1 (by omega)
      have s2 := k3 (l + 1) (by omega) (by omega)
      rw [pk_us, pk_us, pk_us, w2, s1.1, s1.2, s2.1, s2.2, tc_mk16 (k5 (l + 1) (by omega))]
      exact ⟨rfl, rfl⟩
    · rw [pk_un (by omega), pk_un (by omega), pk_un (by omega), w1 _ (by omega)]
      exact k3 l h1 (by omega)
  · by_cases e : l = L + 1
    · subst e
      exact ⟨pk_us, pk_us⟩
    · have e1 : ∀ f : Nat → Int32, ∀ a b : Int32, upd (upd f (4 * c + L) a) (4 * c + (L + 1)) b (4 * c + l) = f (4 * c + l) := fun f a b => (pk_un (by omega)).trans (pk_un (by omega))
      rw [e1, e1]
      exact k4 l h1 (by omega)
  · by_cases e : l = L + 1
    · subst e
      rw [pk_us]
      exact tc_16_0
    · rw [pk_un (by omega)]
      by_cases e2 : l = L
      · subst e2
        rw [pk_us]
        exact tc_16_or (k5 l h1) (k5 (l + 1) (by omega))
      · rw [pk_un (by omega)]
        exact k5 l h1
theorem tc_setR (hC : tc_C L c lev R W R' W') : tc_or R' (4 * c + 1) L = tc_or R (4 * c) 4 :=
  (tc_orXY hC.1 (fun l h1 h2 => (hC.2.2.1 l h1 h2).1) (fun l h1 h2 => (hC.2.2.2.1 l h1 h2).1)).symm
theorem tc_setW (hC : tc_C L c lev R W R' W') : tc_or W' (4 * c + 1) L = tc_or W (4 * c) 4 :=
  (tc_orXY hC.1 (fun l h1 h2 => (hC.2.2.1 l h1 h2).2) (fun l h1 h2 => (hC.2.2.2.1 l h1 h2).2)).symm
theorem tc_seeXY {V M : Nat → Int32} {x : Nat} (hC : tc_C L c lev R W R' W') : tc_see W' V M c x L = tc_see W V M c x L :=
  tc_seeE (fun l h1 h2 => (hC.2.2.1 l h1 h2).2)
end
theorem tc_new : tc_Ok (fun _ => 0) (fun _ => 0) (fun _ => 0) (fun _ => 0) (fun _ => 0) := fun _ _ =>
  ⟨0, by omega, rfl, fun _ _ _ => ⟨rfl, rfl⟩, fun _ _ _ => ⟨rfl, rfl⟩, fun _ _ => tc_16_0⟩
/-- who is in the way of core d's neighbours: what d has written, for a writing also what it has read -/
def tc_way (wr : Bool) (R W : Nat → Int32) (d : Nat) : Int32 := if wr = true then tc_or W (4 * d) 4 ||| tc_or R (4 * d) 4 else tc_or W (4 * d) 4
def tc_rv (wr : Bool) (R W : Nat → Int32) (c x : Nat) : Int32 := tc_riv (tc_way wr R W) c x 4
theorem tc_rvF {R W : Nat → Int32} {c x : Nat} (h : tc_rv true R W c x = 0) : tc_rv false R W c x = 0 := by
  apply tc_riv0
  intro d hd hdc
  have t := tc_rivN (by omega) h d hd hdc
  have t2 : bt (tc_or W (4 * d) 4 ||| tc_or R (4 * d) 4) x = false := t
  rw [b_or] at t2
  show bt (tc_or W (4 * d) 4) x = false
  revert t2
  cases bt (tc_or W (4 * d) 4) x
  · exact fun _ => rfl
  · exact fun z => z
theorem tc_lev {lev R W R' W' : Nat → Int32} {c L : Nat} (h : tc_Ok lev R W R' W') (hc : c < 4) (hl : lev c = nI L) (hL : L ≤ 3) : tc_C L c lev R W R' W' := by
  obtain ⟨K, k1, k2, k3⟩ := h c hc
  rw [hl] at k2
  have e : L = K := (nI_eq (by omega) (by omega)).mp k2
  subst e
  exact ⟨k1, hl, k3⟩
theorem tc_wayT {R W : Nat → Int32} {wr : Bool} {d : Nat} (h : wr = true) : tc_way wr R W d = tc_or W (4 * d) 4 ||| tc_or R (4 * d) 4 := if_pos h
theorem tc_wayF {R W : Nat → Int32} {wr : Bool} {d : Nat} (h : ¬ wr = true) : tc_way wr R W d = tc_or W (4 * d) 4 := if_neg h
def i_Rel (_ : Nat) (u : SX) (v : SY) : Prop := ∃ M lev R W V R' W' : Nat → Int32, u = (M, lev, R, W, V) ∧ v = (M, lev, R', W', V) ∧ tc_Ok lev R W R' W'
theorem i_up {k : Nat} {u : SX} {v : SY} (h : i_Rel k u v) : i_Rel (k + 4) u v := h
theorem tc_rel {k : Nat} {M lev R W V R' W' : Nat → Int32} (h : tc_Ok lev R W R' W') : i_Rel k (M, lev, R, W, V) (M, lev, R', W', V) := ⟨M, lev, R, W, V, R', W', rfl, rfl, h⟩
