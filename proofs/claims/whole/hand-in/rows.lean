section
/-! rows out of kit/rows (PURE-ROWS, BITS), pasted -/
theorem pk_us {f : Nat → Int32} {k : Nat} {x : Int32} : upd f k x k = x := if_pos rfl
theorem pk_un {f : Nat → Int32} {k j : Nat} {x : Int32} (h : j ≠ k) : upd f k x j = f j := if_neg h
theorem pk_sub {a b : Nat} (h : b ≤ a) : nI a - nI b = nI (a - b) := by
  obtain ⟨c, rfl⟩ : ∃ c, a = c + b := ⟨a - b, by omega⟩
  rw [← nI_add, Int32.add_sub_cancel, Nat.add_sub_cancel]
theorem pk_m1 (n : Nat) : nI (n + 1) + (-1) = nI n := by
  rw [← nI_1, Int32.add_assoc, show (1 : Int32) + (-1) = 0 from rfl, Int32.add_zero]
theorem pk_mul (a b : Nat) : nI a * nI b = nI (a * b) := (Int32.ofNat_mul a b).symm
theorem pk_ix (x : Int32) {n : Nat} (hn : n < 2 ^ 31) : x < 0 ∨ nI n ≤ x ∨ ∃ j : Nat, j < n ∧ x = nI j := by
  by_cases h : x < 0
  · exact Or.inl h
  · obtain ⟨j, hj, rfl⟩ := nI_of h
    by_cases h2 : j < n
    · exact Or.inr (Or.inr ⟨j, h2, rfl⟩)
    · exact Or.inr (Or.inl (nI_le (by omega) hj))
theorem pk_le {x y : Int32} {A B : Prop} (a b : Nat) (f : a ≤ b → A) (g : b < a → B) (hx : x = nI a := by rfl) (hy : y = nI b := by rfl) (ha : a < 2 ^ 31 := by omega) (hb : b < 2 ^ 31 := by omega) : (x ≤ y → A) ∧ (¬ x ≤ y → B) := by
  subst hx hy
  rw [nI_leI ha hb]
  exact ⟨f, fun z => g (by omega)⟩
theorem pk_lt {x y : Int32} {A B : Prop} (a b : Nat) (f : a < b → A) (g : b ≤ a → B) (hx : x = nI a := by rfl) (hy : y = nI b := by rfl) (ha : a < 2 ^ 31 := by omega) (hb : b < 2 ^ 31 := by omega) : (x < y → A) ∧ (¬ x < y → B) := by
  subst hx hy
  rw [nI_ltI ha hb]
  exact ⟨f, fun z => g (by omega)⟩
theorem pk_eq {x y : Int32} {A B : Prop} (a b : Nat) (f : a = b → A) (g : a ≠ b → B) (hx : x = nI a := by rfl) (hy : y = nI b := by rfl) (ha : a < 2 ^ 31 := by omega) (hb : b < 2 ^ 31 := by omega) : (x = y → A) ∧ (¬ x = y → B) := by
  subst hx hy
  rw [nI_eq ha hb]
  exact ⟨f, g⟩
theorem pk_in {x : Int32} (n N : Nat) (h : n < N) (hx : x = nI n := by rfl) (hN : N < 2 ^ 31 := by omega) : vp_in x N := by
  subst hx
  exact vp_in_nI h hN
theorem pk_cl {x : Int32} (n : Nat) (hx : x = nI n := by rfl) (h : n < 2 ^ 31 := by omega) : x.toNatClampNeg = n := by
  subst hx
  exact nI_clamp h
theorem sb_m1 {p : Nat} (h : 0 < p) : nI p + (-1) = nI (p - 1) := by
  obtain ⟨q, rfl⟩ : ∃ q, p = q + 1 := ⟨p - 1, by omega⟩
  exact pk_m1 q
theorem pk_loop {σ : Type} (W : Nat → Nat → σ → Prop) (I : Nat → σ → Prop) (e i0 : Nat) (s : σ) (hi : i0 ≤ e) (h0 : I i0 s) (hx : ∀ n s, I e s → W (n + 1) e s)
    (hs : ∀ n i s, i < e → I i s → (∀ s', I (i + 1) s' → W n (i + 1) s') → W (n + 1) i s) : ∃ n, W n i0 s :=
  ⟨e + 1, loop_i W I e hx hs (e + 1) i0 s hi (by omega) h0⟩
theorem pk_loopD {σ : Type} (W : Nat → Nat → σ → Prop) (I : Nat → σ → Prop) (hx : ∀ n s, I 0 s → W (n + 1) 0 s)
    (hs : ∀ n i s, I (i + 1) s → (∀ s', I i s' → W n i s') → W (n + 1) (i + 1) s) : ∀ (e : Nat) (s : σ), I e s → W (e + 1) e s := by
  intro e
  induction e with
  | zero => exact fun s h => hx 0 s h
  | succ e ih => exact fun s h => hs (e + 1) e s h (fun s' h' => ih s' h')
def bt (x : Int32) (i : Nat) : Bool := x.toBitVec.getLsbD i
theorem b_ext {x y : Int32} (h : ∀ i, i < 32 → bt x i = bt y i) : x = y := Int32.toBitVec_inj.mp (BitVec.eq_of_getLsbD_eq (fun i hi => h i hi))
theorem b_or (x y : Int32) (i : Nat) : bt (x ||| y) i = (bt x i || bt y i) := by unfold bt; rw [Int32.toBitVec_or, BitVec.getLsbD_or]
theorem b_and (x y : Int32) (i : Nat) : bt (x &&& y) i = (bt x i && bt y i) := by unfold bt; rw [Int32.toBitVec_and, BitVec.getLsbD_and]
theorem b_big {x : Int32} {i : Nat} (h : 32 ≤ i) : bt x i = false := BitVec.getLsbD_of_ge _ _ h
theorem b_0 (i : Nat) : bt 0 i = false := BitVec.getLsbD_zero
theorem s_l : ∀ n, n < 32 → ((nI n &&& 31).toBitVec.smod 32).toNat = n := by decide +kernel
theorem b_shl (n : Nat) (hn : n < 32) (x : Int32) {i : Nat} (hi : i < 32) : bt (x <<< (nI n &&& 31)) i = (decide (n ≤ i) && bt x (i - n)) := by
  unfold bt
  rw [Int32.toBitVec_shiftLeft]
  show (x.toBitVec <<< ((nI n &&& 31).toBitVec.smod 32).toNat).getLsbD i = _
  rw [s_l n hn, BitVec.getLsbD_shiftLeft]
  rcases Nat.lt_or_ge i n with h | h
  · simp [h, Nat.not_le.mpr h]
  · simp [hi, h, Nat.not_lt.mpr h]
theorem b_sshr (n : Nat) (hn : n < 32) (x : Int32) {i : Nat} (hi : i < 32) : bt (x >>> (nI n &&& 31)) i = if n + i < 32 then bt x (n + i) else bt x 31 := by
  unfold bt
  rw [Int32.toBitVec_shiftRight]
  show (x.toBitVec.sshiftRight ((nI n &&& 31).toBitVec.smod 32).toNat).getLsbD i = _
  rw [s_l n hn, BitVec.getLsbD_sshiftRight, BitVec.msb_eq_getLsbD_last]
  simp [hi]
end
section
/-! pure rows of this claim: one bit, sets over rows, rivals, the value seen, the digest, commit and handing down -/
def tc_one (x : Nat) : Int32 := (1 : Int32) <<< (nI x &&& 31)
theorem tc_oneB : ∀ x, x < 32 → ∀ i, i < 32 → bt (tc_one x) i = decide (i = x) := by decide +kernel
theorem tc_1B : ∀ i, i < 32 → bt (1 : Int32) i = decide (i = 0) := by decide +kernel
theorem tc_nf {b : Bool} (h : ¬ b = true) : b = false := by cases b <;> first | rfl | exact absurd rfl h
theorem tc_nt {b : Bool} (h : ¬ b = false) : b = true := by cases b <;> first | rfl | exact absurd rfl h
theorem tc_tf {b : Bool} (h : b = true) : ¬ b = false := by rw [h]; decide
theorem tc_ft {b : Bool} (h : b = false) : ¬ b = true := by rw [h]; decide
/-- X's test of a bit -/
theorem tc_xbit (w : Int32) {x : Nat} (hx : x < 32) : (w &&& ((1 : Int32) <<< (nI x &&& 31))) = 0 ↔ bt w x = false := by
  constructor
  · intro h
    have t := b_and w (tc_one x) x
    rw [show w &&& tc_one x = 0 from h, b_0, tc_oneB x hx x hx] at t
    simpa using t.symm
  · intro h
    apply b_ext
    intro i hi
    rw [b_and, b_0, show bt ((1 : Int32) <<< (nI x &&& 31)) i = decide (i = x) from tc_oneB x hx i hi]
    by_cases e : i = x
    · subst e
      rw [h, Bool.false_and]
    · rw [decide_eq_false e, Bool.and_false]
/-- Y's test of a bit -/
theorem tc_ybit (w : Int32) {x : Nat} (hx : x < 32) : ((w >>> (nI x &&& 31)) &&& 1) = 1 ↔ bt w x = true := by
  constructor
  · intro h
    have t := b_and (w >>> (nI x &&& 31)) 1 0
    rw [h, tc_1B 0 (by omega), b_sshr x hx w (by omega), if_pos (by omega), Nat.add_zero] at t
    simpa using t.symm
  · intro h
    apply b_ext
    intro i hi
    rw [b_and, tc_1B i hi]
    by_cases e : i = 0
    · subst e
      rw [b_sshr x hx w hi, if_pos (by omega), Nat.add_zero, h, Bool.true_and]
    · rw [decide_eq_false e, Bool.and_false]
theorem tc_uu (f : Nat → Int32) (k : Nat) : upd f k (f k) = f := by
  funext j
  by_cases e : j = k
  · subst e
    exact pk_us
  · exact pk_un e
theorem tc_u2 (f : Nat → Int32) (k : Nat) (a b : Int32) : upd (upd f k a) k b = upd f k b := by
  funext j
  by_cases e : j = k
  · subst e
    rw [pk_us, pk_us]
  · rw [pk_un e, pk_un e, pk_un e]
/-- the set of the rows b .. b + n - 1 -/
def tc_or (f : Nat → Int32) (b : Nat) : Nat → Int32
  | 0 => 0
  | n + 1 => tc_or f b n ||| f (b + n)
theorem tc_orXY {R R' : Nat → Int32} {c L : Nat} (hL : L ≤ 3) (ha : ∀ l, 1 ≤ l → l ≤ L → R' (4 * c + l) = R (4 * c + l)) (hz : ∀ l, l < 4 → (l = 0 ∨ L < l) → R (4 * c + l) = 0) : tc_or R (4 * c) 4 = tc_or R' (4 * c + 1) L := by
  have z0 := hz 0 (by omega) (Or.inl rfl)
  rcases (by omega : L = 0 ∨ L = 1 ∨ L = 2 ∨ L = 3) with rfl | rfl | rfl | rfl
  · have z1 := hz 1 (by omega) (Or.inr (by omega))
    have z2 := hz 2 (by omega) (Or.inr (by omega))
    have z3 := hz 3 (by omega) (Or.inr (by omega))
    show (((0 ||| R (4 * c + 0)) ||| R (4 * c + 1)) ||| R (4 * c + 2)) ||| R (4 * c + 3) = 0
    rw [z0, z1, z2, z3]
    decide
  · have a1 := ha 1 (by omega) (by omega)
    have z2 := hz 2 (by omega) (Or.inr (by omega))
    have z3 := hz 3 (by omega) (Or.inr (by omega))
    show (((0 ||| R (4 * c + 0)) ||| R (4 * c + 1)) ||| R (4 * c + 2)) ||| R (4 * c + 3) = 0 ||| R' (4 * c + 1)
    rw [z0, z2, z3, a1]
    simp
  · have a1 := ha 1 (by omega) (by omega)
    have a2 := ha 2 (by omega) (by omega)
    have z3 := hz 3 (by omega) (Or.inr (by omega))
    show (((0 ||| R (4 * c + 0)) ||| R (4 * c + 1)) ||| R (4 * c + 2)) ||| R (4 * c + 3) = (0 ||| R' (4 * c + 1)) ||| R' (4 * c + 2)
    rw [z0, z3, a1, a2]
    simp
  · have a1 := ha 1 (by omega) (by omega)
    have a2 := ha 2 (by omega) (by omega)
    have a3 := ha 3 (by omega) (by omega)
    show (((0 ||| R (4 * c + 0)) ||| R (4 * c + 1)) ||| R (4 * c + 2)) ||| R (4 * c + 3) = ((0 ||| R' (4 * c + 1)) ||| R' (4 * c + 2)) ||| R' (4 * c + 3)
    rw [z0, a1, a2, a3]
    simp
/-- the cores other than c, below n, whose set g has cell x -/
def tc_riv (g : Nat → Int32) (c x : Nat) : Nat → Int32
  | 0 => 0
  | d + 1 => if d ≠ c ∧ bt (g d) x = true then tc_riv g c x d ||| tc_one d else tc_riv g c x d
theorem tc_rivE {g g' : Nat → Int32} {c x : Nat} : ∀ {n : Nat}, (∀ d, d < n → g d = g' d) → tc_riv g c x n = tc_riv g' c x n
  | 0, _ => rfl
  | n + 1, h => by
    have ih := tc_rivE (g := g) (g' := g') (c := c) (x := x) (n := n) (fun d hd => h d (by omega))
    simp only [tc_riv]
    rw [ih, h n (by omega)]
theorem tc_riv0 {g : Nat → Int32} {c x : Nat} : ∀ {n : Nat}, (∀ d, d < n → d ≠ c → bt (g d) x = false) → tc_riv g c x n = 0
  | 0, _ => rfl
  | n + 1, h => by
    simp only [tc_riv]
    rw [if_neg (fun z => tc_ft (h n (by omega) z.1) z.2)]
    exact tc_riv0 (fun d hd => h d (by omega))
theorem tc_rivN {g : Nat → Int32} {c x : Nat} : ∀ {n : Nat}, n ≤ 32 → tc_riv g c x n = 0 → ∀ d, d < n → d ≠ c → bt (g d) x = false
  | 0, _, _ => fun d hd => by omega
  | n + 1, hn, h => by
    simp only [tc_riv] at h
    by_cases q : n ≠ c ∧ bt (g n) x = true
    · rw [if_pos q] at h
      have t := b_or (tc_riv g c x n) (tc_one n) n
      rw [h, b_0, tc_oneB n (by omega) n (by omega)] at t
      simp at t
    · rw [if_neg q] at h
      intro d hd hdc
      by_cases e : d = n
      · subst e
        exact tc_nf (fun z => q ⟨hdc, z⟩)
      · exact tc_rivN (by omega) h d (by omega) hdc
/-- the value that core c sees in cell x from level n downwards -/
def tc_see (W V M : Nat → Int32) (c x : Nat) : Nat → Int32
  | 0 => M x
  | l + 1 => if bt (W (4 * c + (l + 1))) x = true then V ((4 * c + (l + 1)) * 16 + x) else tc_see W V M c x l
theorem tc_seeE {W W' V M : Nat → Int32} {c x : Nat} : ∀ {n : Nat}, (∀ l, 1 ≤ l → l ≤ n → W' (4 * c + l) = W (4 * c + l)) → tc_see W' V M c x n = tc_see W V M c x n
  | 0, _ => rfl
  | n + 1, h => by
    have ih := tc_seeE (W := W) (W' := W') (V := V) (M := M) (c := c) (x := x) (n := n) (fun l h1 h2 => h l h1 (by omega))
    simp only [tc_see]
    rw [ih, h (n + 1) (by omega) (by omega)]
def tc_dig (M : Nat → Int32) : Nat → Int32
  | 0 => 0
  | n + 1 => tc_dig M n + M n * nI (n + 1)
/-- the cells below n of the set w -/
def tc_mk (w : Int32) : Nat → Int32
  | 0 => 0
  | n + 1 => if bt w n = true then tc_mk w n ||| tc_one n else tc_mk w n
theorem tc_mkB (w : Int32) : ∀ n, n ≤ 32 → ∀ i, i < 32 → bt (tc_mk w n) i = (decide (i < n) && bt w i)
  | 0, _, i, _ => by
    show bt 0 i = _
    rw [b_0, decide_eq_false (by omega), Bool.false_and]
  | n + 1, hn, i, hi => by
    have ih := tc_mkB w n (by omega) i hi
    simp only [tc_mk]
    by_cases q : bt w n = true
    · rw [if_pos q, b_or, ih, tc_oneB n (by omega) i hi]
      by_cases e : i = n
      · subst e
        rw [q, decide_eq_true (rfl : i = i), decide_eq_true (show i < i + 1 by omega)]
        simp
      · rw [decide_eq_false e, Bool.or_false]
        by_cases l : i < n
        · rw [decide_eq_true l, decide_eq_true (show i < n + 1 by omega)]
        · rw [decide_eq_false l, decide_eq_false (show ¬ i < n + 1 by omega)]
    · rw [if_neg q, ih]
      by_cases e : i = n
      · subst e
        rw [tc_nf q, Bool.and_false, Bool.and_false]
      · by_cases l : i < n
        · rw [decide_eq_true l, decide_eq_true (show i < n + 1 by omega)]
        · rw [decide_eq_false l, decide_eq_false (show ¬ i < n + 1 by omega)]
/-- a set of cells: nothing beyond cell 15 -/
def tc_16 (w : Int32) : Prop := ∀ i, 16 ≤ i → i < 32 → bt w i = false
theorem tc_16_0 : tc_16 0 := fun i _ _ => b_0 i
theorem tc_16_or {a b : Int32} (ha : tc_16 a) (hb : tc_16 b) : tc_16 (a ||| b) := fun i h1 h2 => by
  rw [b_or, ha i h1 h2, hb i h1 h2]
  rfl
theorem tc_16_one {x : Nat} (hx : x < 16) : tc_16 (tc_one x) := fun i h1 h2 => by
  rw [tc_oneB x (by omega) i h2]
  exact decide_eq_false (by omega)
theorem tc_mk16 {w : Int32} (h : tc_16 w) : tc_mk w 16 = w := by
  apply b_ext
  intro i hi
  rw [tc_mkB w 16 (by omega) i hi]
  by_cases l : i < 16
  · rw [decide_eq_true l, Bool.true_and]
  · rw [decide_eq_false l, Bool.false_and, h i (by omega) hi]
/-- the memory when the cells below n of the set w are committed from the values at b -/
def tc_cm (w : Int32) (V M : Nat → Int32) (b n : Nat) : Nat → Int32 := fun j => if j < n ∧ bt w j = true then V (b + j) else M j
theorem tc_cm0 (w : Int32) (V M : Nat → Int32) (b : Nat) : tc_cm w V M b 0 = M := by
  funext j
  exact if_neg (fun z => absurd z.1 (Nat.not_lt_zero j))
theorem tc_cmT {w : Int32} {V M : Nat → Int32} {b n : Nat} (h : bt w n = true) : upd (tc_cm w V M b n) n (V (b + n)) = tc_cm w V M b (n + 1) := by
  funext j
  show (if j = n then V (b + n) else if j < n ∧ bt w j = true then V (b + j) else M j) = if j < n + 1 ∧ bt w j = true then V (b + j) else M j
  by_cases e : j = n
  · subst e
    rw [if_pos rfl, if_pos ⟨Nat.lt_succ_self _, h⟩]
  · rw [if_neg e]
    by_cases q : j < n ∧ bt w j = true
    · rw [if_pos q, if_pos ⟨Nat.lt_succ_of_lt q.1, q.2⟩]
    · rw [if_neg q, if_neg (fun z => q ⟨by have := z.1; omega, z.2⟩)]
theorem tc_cmF {w : Int32} {V M : Nat → Int32} {b n : Nat} (h : bt w n = false) : tc_cm w V M b n = tc_cm w V M b (n + 1) := by
  funext j
  show (if j < n ∧ bt w j = true then V (b + j) else M j) = if j < n + 1 ∧ bt w j = true then V (b + j) else M j
  by_cases q : j < n ∧ bt w j = true
  · rw [if_pos q, if_pos ⟨Nat.lt_succ_of_lt q.1, q.2⟩]
  · rw [if_neg q, if_neg]
    intro z
    by_cases e : j = n
    · subst e
      exact tc_ft h z.2
    · exact q ⟨by have := z.1; omega, z.2⟩
/-- the values when the cells below n of the set w are handed down from b + 16 to b -/
def tc_hd (w : Int32) (V : Nat → Int32) (b n : Nat) : Nat → Int32 := fun j => if (b ≤ j ∧ j < b + n) ∧ bt w (j - b) = true then V (j + 16) else V j
theorem tc_hd0 (w : Int32) (V : Nat → Int32) (b : Nat) : tc_hd w V b 0 = V := by
  funext j
  exact if_neg (fun z => by have := z.1; omega)
theorem tc_hdR {w : Int32} {V : Nat → Int32} {b n j : Nat} (h : b + n ≤ j) : tc_hd w V b n j = V j := if_neg (fun z => by have := z.1; omega)
theorem tc_hdT {w : Int32} {V : Nat → Int32} {b n : Nat} (h : bt w n = true) : upd (tc_hd w V b n) (b + n) (V (b + n + 16)) = tc_hd w V b (n + 1) := by
  funext j
  show (if j = b + n then V (b + n + 16) else if (b ≤ j ∧ j < b + n) ∧ bt w (j - b) = true then V (j + 16) else V j) = if (b ≤ j ∧ j < b + (n + 1)) ∧ bt w (j - b) = true then V (j + 16) else V j
  by_cases e : j = b + n
  · subst e
    rw [if_pos rfl, if_pos ⟨by omega, by rw [Nat.add_sub_cancel_left]; exact h⟩]
  · rw [if_neg e]
    by_cases q : (b ≤ j ∧ j < b + n) ∧ bt w (j - b) = true
    · rw [if_pos q, if_pos ⟨by have := q.1; omega, q.2⟩]
    · rw [if_neg q, if_neg (fun z => q ⟨by have := z.1; omega, z.2⟩)]
theorem tc_hdF {w : Int32} {V : Nat → Int32} {b n : Nat} (h : bt w n = false) : tc_hd w V b n = tc_hd w V b (n + 1) := by
  funext j
  show (if (b ≤ j ∧ j < b + n) ∧ bt w (j - b) = true then V (j + 16) else V j) = if (b ≤ j ∧ j < b + (n + 1)) ∧ bt w (j - b) = true then V (j + 16) else V j
  by_cases q : (b ≤ j ∧ j < b + n) ∧ bt w (j - b) = true
  · rw [if_pos q, if_pos ⟨by have := q.1; omega, q.2⟩]
  · rw [if_neg q, if_neg]
    intro z
    by_cases e : j = b + n
    · subst e
      rw [Nat.add_sub_cancel_left] at z
      exact tc_ft h z.2
    · exact q ⟨by have := z.1; omega, z.2⟩
theorem tc_rivQ {g : Nat → Int32} {c x i : Nat} (e : i = c) : tc_riv g c x i = tc_riv g c x (i + 1) := by
  simp only [tc_riv]
  rw [if_neg (fun z => z.1 e)]
theorem tc_rivT {g : Nat → Int32} {c x i : Nat} (e : ¬ i = c) (b : bt (g i) x = true) : tc_riv g c x i ||| tc_one i = tc_riv g c x (i + 1) := by
  simp only [tc_riv]
  rw [if_pos ⟨e, b⟩]
theorem tc_rivF {g : Nat → Int32} {c x i : Nat} (b : ¬ bt (g i) x = true) : tc_riv g c x i = tc_riv g c x (i + 1) := by
  simp only [tc_riv]
  rw [if_neg (fun z => b z.2)]
theorem tc_mkT {w : Int32} {n : Nat} (b : bt w n = true) : tc_mk w (n + 1) = tc_mk w n ||| tc_one n := by
  simp only [tc_mk]
  rw [if_pos b]
theorem tc_mkF {w : Int32} {n : Nat} (b : ¬ bt w n = true) : tc_mk w (n + 1) = tc_mk w n := by
  simp only [tc_mk]
  rw [if_neg b]
theorem tc_seeT {W V M : Nat → Int32} {c x l : Nat} (b : bt (W (4 * c + (l + 1))) x = true) : tc_see W V M c x (l + 1) = V ((4 * c + (l + 1)) * 16 + x) := by
  simp only [tc_see]
  rw [if_pos b]
theorem tc_seeF {W V M : Nat → Int32} {c x l : Nat} (b : ¬ bt (W (4 * c + (l + 1))) x = true) : tc_see W V M c x (l + 1) = tc_see W V M c x l := by
  simp only [tc_see]
  rw [if_neg b]
end
section
/-! the relation: memory, levels and values alike; of the rows of core c those of levels 1 .. L alike, in X all others empty -/
def tc_C (L c : Nat) (lev R W R' W' : Nat → Int32) : Prop :=
  L ≤ 3 ∧ lev c = nI L ∧ (∀ l, 1 ≤ l → l ≤ L → R' (4 * c + l) = R (4 * c + l) ∧ W' (4 * c + l) = W (4 * c + l)) ∧
  (∀ l, l < 4 → (l = 0 ∨ L < l) → R (4 * c + l) = 0 ∧ W (4 * c + l) = 0) ∧ (∀ l, l < 4 → tc_16 (W (4 * c + l)))
def tc_Ok (lev R W R' W' : Nat → Int32) : Prop := ∀ c, c < 4 → ∃ L, tc_C L c lev R W R' W'
theorem tc_fr {lev R W R' W' lev2 R2 W2 R2' W2' : Nat → Int32} {c : Nat} (h : tc_Ok lev R W R' W') (L : Nat) (hC : tc_C L c lev2 R2 W2 R2' W2')
    (hl : ∀ d, d ≠ c → lev2 d = lev d) (hr : ∀ j, (j < 4 * c ∨ 4 * c + 4 ≤ j) → R2 j = R j ∧ W2 j = W j ∧ R2' j = R' j ∧ W2' j = W' j) : tc_Ok lev2 R2 W2 R2' W2' := by
  intro d hd
  by_cases e : d = c
  · subst e
    exact ⟨L, hC⟩
  · obtain ⟨K, k1, k2, k3, k4, k5⟩ := h d hd
    have hj : ∀ l, l < 4 → R2 (4 * d + l) = R (4 * d + l) ∧ W2 (4 * d + l) = W (4 * d + l) ∧ R2' (4 * d + l) = R' (4 * d + l) ∧ W2' (4 * d + l) = W' (4 * d + l) := fun l hl4 => hr (4 * d + l) (by omega)
    refine ⟨K, k1, by rw [hl d e]; exact k2, fun l h1 h2 => ?_, fun l h1 h2 => ?_, fun l h1 => ?_⟩
    · obtain ⟨a1, a2, a3, a4⟩ := hj l (by omega)
      rw [a1, a2, a3, a4]
      exact k3 l h1 h2
    · obtain ⟨a1, a2, -, -⟩ := hj l h1
      rw [a1, a2]
      exact k4 l h1 h2
    · obtain ⟨-, a2, -, -⟩ := hj l h1
      rw [a2]
      exact k5 l h1
section
variable {lev R W R' W' : Nat → Int32} {c L : Nat}
theorem tc_begin (h : tc_Ok lev R W R' W') (hC : tc_C L c lev R W R' W') (hL : L < 3) : tc_Ok (upd lev c (nI (L + 1))) R W (upd R' (4 * c + (L + 1)) 0) (upd W' (4 * c + (L + 1)) 0) := by
  obtain ⟨k1, k2, k3, k4, k5⟩ := hC
  refine tc_fr (c := c) h (L + 1) ⟨by omega, pk_us, fun l h1 h2 => ?_, fun l h1 h2 => k4 l h1 (by omega), k5⟩ (fun d hd => pk_un hd) (fun j hj => ⟨rfl, rfl, pk_un (by omega), pk_un (by omega)⟩)
  by_cases e : l = L + 1
  · subst e
    have z := k4 (L + 1) (by omega) (Or.inr (by omega))
    rw [pk_us, pk_us]
    exact ⟨z.1.symm, z.2.symm⟩
  · rw [pk_un (by omega), pk_un (by omega)]
    exact k3 l h1 (by omega)
theorem tc_note (h : tc_Ok lev R W R' W') (hC : tc_C L c lev R W R' W') (h0 : 1 ≤ L) (b : Int32) : tc_Ok lev (upd R (4 * c + L) (R (4 * c + L) ||| b)) W (upd R' (4 * c + L) (R' (4 * c + L) ||| b)) W' := by
  obtain ⟨k1, k2, k3, k4, k5⟩ := hC
  refine tc_fr (c := c) h L ⟨k1, k2, fun l h1 h2 => ?_, fun l h1 h2 => ?_, k5⟩ (fun d _ => rfl) (fun j hj => ⟨pk_un (by omega), rfl, pk_un (by omega), rfl⟩)
  · by_cases e : l = L
    · subst e
      rw [pk_us, pk_us, (k3 l h1 h2).1]
      exact ⟨rfl, (k3 l h1 h2).2⟩
    · rw [pk_un (by omega), pk_un (by omega)]
      exact k3 l h1 h2
  · rw [pk_un (by omega)]
    exact k4 l h1 h2
theorem tc_store (h : tc_Ok lev R W R' W') (hC : tc_C L c lev R W R' W') (h0 : 1 ≤ L) {x : Nat} (hx : x < 16) : tc_Ok lev R (upd W (4 * c + L) (W (4 * c + L) ||| tc_one x)) R' (upd W' (4 * c + L) (W' (4 * c + L) ||| tc_one x)) := by
  obtain ⟨k1, k2, k3, k4, k5⟩ := hC
  refine tc_fr (c := c) h L ⟨k1, k2, fun l h1 h2 => ?_, fun l h1 h2 => ?_, fun l h1 => ?_⟩ (fun d _ => rfl) (fun j hj => ⟨rfl, pk_un (by omega), rfl, pk_un (by omega)⟩)
  · by_cases e : l = L
    · subst e
      rw [pk_us, pk_us, (k3 l h1 h2).2]
      exact ⟨(k3 l h1 h2).1, rfl⟩
    · rw [pk_un (by omega), pk_un (by omega)]
      exact k3 l h1 h2
  · rw [pk_un (by omega)]
    exact k4 l h1 h2
  · by_cases e : l = L
    · subst e
      rw [pk_us]
      exact tc_16_or (k5 l h1) (tc_16_one hx)
    · rw [pk_un (by omega)]
      exact k5 l h1
theorem tc_drop (h : tc_Ok lev R W R' W') (hC : tc_C (L + 1) c lev R W R' W') : tc_Ok (upd lev c (nI L)) (upd R (4 * c + (L + 1)) 0) (upd W (4 * c + (L + 1)) 0) R' W' := by
  obtain ⟨k1, k2, k3, k4, k5⟩ := hC
  refine tc_fr (c := c) h L ⟨by omega, pk_us, fun l h1 h2 => ?_, fun l h1 h2 => ?_, fun l h1 => ?_⟩ (fun d hd => pk_un hd) (fun j hj => ⟨pk_un (by omega), pk_un (by omega), rfl, rfl⟩)
  · rw [pk_un (by omega), pk_un (by omega)]
    exact k3 l h1 (by omega)
  · by_cases e : l = L + 1
    · subst e
      exact ⟨pk_us, pk_us⟩
    · rw [pk_un (by omega), pk_un (by omega)]
      exact k4 l h1 (by omega)
  · by_cases e : l = L + 1
    · subst e
      rw [pk_us]
      exact tc_16_0
    · rw [pk_un (by omega)]
      exact k5 l h1
theorem tc_end2 {W2' : Nat → Int32} (h : tc_Ok lev R W R' W') (hC : tc_C (L + 1) c lev R W R' W') (h0 : 1 ≤ L)
    (w1 : ∀ j, j ≠ 4 * c + L → W2' j = W' j) (w2 : W2' (4 * c + L) = W' (4 * c + L) ||| tc_mk (W' (4 * c + (L + 1))) 16) :
    tc_Ok (upd lev c (nI L)) (upd (upd R (4 * c + L) (R (4 * c + L) ||| R (4 * c + (L + 1)))) (4 * c + (L + 1)) 0) (upd (upd W (4 * c + L) (W (4 * c + L) ||| W (4 * c + (L + 1)))) (4 * c + (L + 1)) 0) (upd R' (4 * c + L) (R' (4 * c + L) ||| R' (4 * c + (L + 1)))) W2' := by
  obtain ⟨k1, k2, k3, k4, k5⟩ := hC
  refine tc_fr (c := c) h L ⟨by omega, pk_us, fun l h1 h2 => ?_, fun l h1 h2 => ?_, fun l h1 => ?_⟩ (fun d hd => pk_un hd) (fun j hj => ⟨(pk_un (by omega)).trans (pk_un (by omega)), (pk_un (by omega)).trans (pk_un (by omega)), pk_un (by omega), w1 j (by omega)⟩)
  · have e1 : ∀ f : Nat → Int32, ∀ a b : Int32, upd (upd f (4 * c + L) a) (4 * c + (L + 1)) b (4 * c + l) = upd f (4 * c + L) a (4 * c + l) := fun f a b => pk_un (by omega)
    rw [e1, e1]
    by_cases e : l = L
    · subst e
      have s1 := k3 l h1 (by omega)
      have s2 := k3 (l + 1) (by omega) (by omega)
      rw [pk_us, pk_us, pk_us, w2, s1.1, s1.2, s2.1, s2.2, tc_mk16 (k5 (l + 1) (by omega))]
      exact ⟨rfl, rfl⟩
    · rw [pk_un (by omega), pk_un (by omega), pk_un (by omega), w1 _ (by omega)]
      exact k3 l h1 (by omega)
  · by_cases e : l = L + 1
    · subst e
      exact ⟨pk_us, pk_us⟩
    · have e1 : ∀ f : Nat → Int32, ∀ a b : Int32, upd (upd f (4 * c + L) a) (4 * c + (L + 1)) b (4 * c + l) = f (4 * c + l) := fun f a b => (pk_un (by omega)).trans (pk_un (by omega))
      rw [e1, e1]
      exact k4 l h1 (by omega)
  · by_cases e : l = L + 1
    · subst e
      rw [pk_us]
      exact tc_16_0
    · rw [pk_un (by omega)]
      by_cases e2 : l = L
      · subst e2
        rw [pk_us]
        exact tc_16_or (k5 l h1) (k5 (l + 1) (by omega))
      · rw [pk_un (by omega)]
        exact k5 l h1
theorem tc_setR (hC : tc_C L c lev R W R' W') : tc_or R' (4 * c + 1) L = tc_or R (4 * c) 4 :=
  (tc_orXY hC.1 (fun l h1 h2 => (hC.2.2.1 l h1 h2).1) (fun l h1 h2 => (hC.2.2.2.1 l h1 h2).1)).symm
theorem tc_setW (hC : tc_C L c lev R W R' W') : tc_or W' (4 * c + 1) L = tc_or W (4 * c) 4 :=
  (tc_orXY hC.1 (fun l h1 h2 => (hC.2.2.1 l h1 h2).2) (fun l h1 h2 => (hC.2.2.2.1 l h1 h2).2)).symm
theorem tc_seeXY {V M : Nat → Int32} {x : Nat} (hC : tc_C L c lev R W R' W') : tc_see W' V M c x L = tc_see W V M c x L :=
  tc_seeE (fun l h1 h2 => (hC.2.2.1 l h1 h2).2)
end
theorem tc_new : tc_Ok (fun _ => 0) (fun _ => 0) (fun _ => 0) (fun _ => 0) (fun _ => 0) := fun _ _ =>
  ⟨0, by omega, rfl, fun _ _ _ => ⟨rfl, rfl⟩, fun _ _ _ => ⟨rfl, rfl⟩, fun _ _ => tc_16_0⟩
/-- who is in the way of core d's neighbours: what d has written, for a writing also what it has read -/
def tc_way (wr : Bool) (R W : Nat → Int32) (d : Nat) : Int32 := if wr = true then tc_or W (4 * d) 4 ||| tc_or R (4 * d) 4 else tc_or W (4 * d) 4
def tc_rv (wr : Bool) (R W : Nat → Int32) (c x : Nat) : Int32 := tc_riv (tc_way wr R W) c x 4
theorem tc_rvF {R W : Nat → Int32} {c x : Nat} (h : tc_rv true R W c x = 0) : tc_rv false R W c x = 0 := by
  apply tc_riv0
  intro d hd hdc
  have t := tc_rivN (by omega) h d hd hdc
  have t2 : bt (tc_or W (4 * d) 4 ||| tc_or R (4 * d) 4) x = false := t
  rw [b_or] at t2
  show bt (tc_or W (4 * d) 4) x = false
  revert t2
  cases bt (tc_or W (4 * d) 4) x
  · exact fun _ => rfl
  · exact fun z => z
theorem tc_lev {lev R W R' W' : Nat → Int32} {c L : Nat} (h : tc_Ok lev R W R' W') (hc : c < 4) (hl : lev c = nI L) (hL : L ≤ 3) : tc_C L c lev R W R' W' := by
  obtain ⟨K, k1, k2, k3⟩ := h c hc
  rw [hl] at k2
  have e : L = K := (nI_eq (by omega) (by omega)).mp k2
  subst e
  exact ⟨k1, hl, k3⟩
theorem tc_wayT {R W : Nat → Int32} {wr : Bool} {d : Nat} (h : wr = true) : tc_way wr R W d = tc_or W (4 * d) 4 ||| tc_or R (4 * d) 4 := if_pos h
theorem tc_wayF {R W : Nat → Int32} {wr : Bool} {d : Nat} (h : ¬ wr = true) : tc_way wr R W d = tc_or W (4 * d) 4 := if_neg h
def i_Rel (_ : Nat) (u : SX) (v : SY) : Prop := ∃ M lev R W V R' W' : Nat → Int32, u = (M, lev, R, W, V) ∧ v = (M, lev, R', W', V) ∧ tc_Ok lev R W R' W'
theorem i_up {k : Nat} {u : SX} {v : SY} (h : i_Rel k u v) : i_Rel (k + 4) u v := h
theorem tc_rel {k : Nat} {M lev R W V R' W' : Nat → Int32} (h : tc_Ok lev R W R' W') : i_Rel k (M, lev, R, W, V) (M, lev, R', W', V) := ⟨M, lev, R, W, V, R', W', rfl, rfl, h⟩
end
section
/-! numbers and cases that the walks meet -/
theorem tc_ix4 (c i : Nat) : nI c * 4 + nI i = nI (4 * c + i) := by
  rw [show (4 : Int32) = nI 4 from rfl, pk_mul, nI_add, Nat.mul_comm]
theorem tc_iy4 (c i : Nat) : 4 * nI c + nI i = nI (4 * c + i) := by
  rw [show (4 : Int32) = nI 4 from rfl, pk_mul, nI_add]
theorem tc_ix16 (r x : Nat) : nI r * 16 + nI x = nI (r * 16 + x) := by
  rw [show (16 : Int32) = nI 16 from rfl, pk_mul, nI_add]
theorem tc_iy16 (r x : Nat) : 16 * nI r + nI x = nI (r * 16 + x) := by
  rw [show (16 : Int32) = nI 16 from rfl, pk_mul, nI_add, Nat.mul_comm]
theorem tc_cc (v : Int32) (n : Nat) (hn : n < 2 ^ 31) : (v < 0 ∨ nI n ≤ v) ∨ ∃ j : Nat, j < n ∧ v = nI j := by
  rcases pk_ix v hn with h | h | h
  · exact Or.inl (Or.inl h)
  · exact Or.inl (Or.inr h)
  · exact Or.inr h
theorem tc_10 : ¬ (1 : Int32) = 0 := by decide
theorem tc_01 : ¬ (0 : Int32) = 1 := by decide
theorem tc_gt3 {v : Int32} (h : nI 4 ≤ v) : (3 : Int32) < v := by
  rw [Int32.lt_iff_toInt_lt]
  rw [Int32.le_iff_toInt_le, nI_toInt (by decide)] at h
  have e : (3 : Int32).toInt = 3 := by decide
  omega
theorem tc_gt15 {v : Int32} (h : nI 16 ≤ v) : (15 : Int32) < v := by
  rw [Int32.lt_iff_toInt_lt]
  rw [Int32.le_iff_toInt_le, nI_toInt (by decide)] at h
  have e : (15 : Int32).toInt = 15 := by decide
  omega
end
section
/-! X's own methods, each with a general post -/
section
variable {M lev R W V : Nat → Int32} {c x L : Nat}
theorem xw_core {post : Int32 → Prop} (hc : c < 4) (h : post 1) : wpX_isCore post (nI c) := by
  unfold wpX_isCore
  exact br_f (nI_pos (by omega)) (br_f (nI_ge (b := 4) hc (by decide)) h)
theorem xw_ncore {post : Int32 → Prop} {v : Int32} (hv : v < 0 ∨ nI 4 ≤ v) (h : post 0) : wpX_isCore post v := by
  unfold wpX_isCore
  exact br_c (fun _ => h) (fun z => br_t (hv.resolve_left z) h)
theorem xw_cell {post : Int32 → Prop} (hx : x < 16) (h : post 1) : wpX_isCell post (nI x) := by
  unfold wpX_isCell
  exact br_f (nI_pos (by omega)) (br_f (nI_ge (b := 16) hx (by decide)) h)
theorem xw_ncell {post : Int32 → Prop} {v : Int32} (hv : v < 0 ∨ nI 16 ≤ v) (h : post 0) : wpX_isCell post v := by
  unfold wpX_isCell
  exact br_c (fun _ => h) (fun z => br_t (hv.resolve_left z) h)
theorem xw_hasT {post : Int32 → Prop} {w : Int32} (hx : x < 16) (hb : bt w x = true) (h : post 1) : wpX_hasCell post w (nI x) := by
  unfold wpX_hasCell
  exact br_f (fun z => tc_tf hb ((tc_xbit w (by omega)).mp z)) h
theorem xw_hasF {post : Int32 → Prop} {w : Int32} (hx : x < 16) (hb : bt w x = false) (h : post 0) : wpX_hasCell post w (nI x) := by
  unfold wpX_hasCell
  exact br_t ((tc_xbit w (by omega)).mpr hb) h
theorem xw_top {post : Int32 → Prop} (hc : c < 4) (hl : lev c = nI L) (h : post (nI (4 * c + L))) : wpX_topRow post (M, lev, R, W, V) (nI c) := by
  unfold wpX_topRow
  dsimp only
  rw [nI_clamp (show c < 2 ^ 31 by omega), hl, tc_ix4]
  exact ⟨vp_in_nI hc (by decide), h⟩
theorem xw_cr {post : Int32 → Prop} (hc : c < 4) (h : post (tc_or R (4 * c) 4)) : wpX_cellsRead post (M, lev, R, W, V) (nI c) := by
  unfold wpX_cellsRead
  dsimp only
  refine loop_0 (fun n i s => wX_cellsRead_4 post (nI c) M lev R W V n s (nI i)) (fun i s => s = tc_or R (4 * c) i) 4 0 rfl ?_ ?_
  · intro n s hs
    subst hs
    exact br_t (nI_le (Nat.le_refl 4) (by decide)) h
  · intro n i s hi hs ih
    subst hs
    refine br_f (nI_ge (b := 4) hi (by decide)) ?_
    rw [tc_ix4, nI_clamp (show 4 * c + i < 2 ^ 31 by omega), nI_1 i]
    exact ⟨vp_in_nI (by omega) (by decide), nm_e (nm_e (ih _ rfl))⟩
theorem xw_cw {post : Int32 → Prop} (hc : c < 4) (h : post (tc_or W (4 * c) 4)) : wpX_cellsWritten post (M, lev, R, W, V) (nI c) := by
  unfold wpX_cellsWritten
  dsimp only
  refine loop_0 (fun n i s => wX_cellsWritten_4 post (nI c) M lev R W V n s (nI i)) (fun i s => s = tc_or W (4 * c) i) 4 0 rfl ?_ ?_
  · intro n s hs
    subst hs
    exact br_t (nI_le (Nat.le_refl 4) (by decide)) h
  · intro n i s hi hs ih
    subst hs
    refine br_f (nI_ge (b := 4) hi (by decide)) ?_
    rw [tc_ix4, nI_clamp (show 4 * c + i < 2 ^ 31 by omega), nI_1 i]
    exact ⟨vp_in_nI (by omega) (by decide), nm_e (nm_e (ih _ rfl))⟩
theorem xw_riv {post : Int32 → Prop} {q : Int32} (wr : Bool) (hq : q = 1 ↔ wr = true) (hc : c < 4) (hx : x < 16) (h : post (tc_rv wr R W c x)) : wpX_rivalCores post (M, lev, R, W, V) (nI c) (nI x) q := by
  unfold wpX_rivalCores
  dsimp only
  refine loop_0 (fun n i s => wX_rivalCores_6 post (nI c) (nI x) q M lev R W V n s (nI i)) (fun i s => s = tc_riv (tc_way wr R W) c x i) 4 0 rfl ?_ ?_
  · intro n s hs
    subst hs
    exact br_t (nI_le (Nat.le_refl 4) (by decide)) h
  · intro n i s hi hs ih
    subst hs
    have key : wX_rivalCores_36 post (wX_rivalCores_6 post (nI c) (nI x) q M lev R W V n) (nI c) (nI x) q (tc_riv (tc_way wr R W) c x i) (nI i) (tc_way wr R W i) M lev R W V := by
      unfold wX_rivalCores_36
      by_cases e : i = c
      · exact br_t (by rw [e]) (nm_r (nI_1 i) (ih _ (tc_rivQ e)))
      · refine br_f (fun z => e ((nI_eq (by omega) (by omega)).mp z)) ?_
        by_cases b : bt (tc_way wr R W i) x = true
        · exact xw_hasT hx b (br_f tc_10 (nm_e (nm_r (nI_1 i) (ih _ (tc_rivT e b)))))
        · exact xw_hasF hx (tc_nf b) (br_t rfl (nm_r (nI_1 i) (ih _ (tc_rivF b))))
    refine br_f (nI_ge (b := 4) hi (by decide)) (xw_cw hi ?_)
    by_cases w : wr = true
    · exact br_t (hq.mpr w) (xw_cr hi (nm_r (tc_wayT w).symm key))
    · refine br_f (fun z => w (hq.mp z)) ?_
      rw [tc_wayF w] at key
      exact key
theorem xw_see {post : Int32 → Prop} (hc : c < 4) (hx : x < 16) (hL : L ≤ 3) (hl : lev c = nI L) (h : post (tc_see W V M c x L)) : wpX_seenValue post (M, lev, R, W, V) (nI c) (nI x) := by
  have key : ∀ l, l ≤ 3 → post (tc_see W V M c x l) → wX_seenValue_7 post (nI c) (nI x) M lev R W V (l + 1) (nI l) := by
    intro l
    induction l with
    | zero =>
      intro _ h
      refine br_t (by decide) ?_
      rw [nI_clamp (show x < 2 ^ 31 by omega)]
      exact ⟨vp_in_nI hx (by decide), h⟩
    | succ l ih =>
      intro h3 h
      refine br_f (nI_nle (by omega) (by omega)) (nm_r (tc_ix4 c (l + 1)) ?_)
      rw [nI_clamp (show 4 * c + (l + 1) < 2 ^ 31 by omega)]
      refine ⟨vp_in_nI (by omega) (by decide), ?_⟩
      by_cases b : bt (W (4 * c + (l + 1))) x = true
      · refine xw_hasT hx b (br_f tc_10 ?_)
        rw [tc_ix16, nI_clamp (show (4 * c + (l + 1)) * 16 + x < 2 ^ 31 by omega)]
        rw [tc_seeT b] at h
        exact ⟨vp_in_nI (by omega) (by decide), h⟩
      · rw [tc_seeF b] at h
        exact xw_hasF hx (tc_nf b) (br_t rfl (nm_r (pk_m1 l) (ih (by omega) h)))
  unfold wpX_seenValue
  dsimp only
  rw [nI_clamp (show c < 2 ^ 31 by omega), hl]
  exact ⟨vp_in_nI hc (by decide), nm_e ⟨L + 1, key L hL h⟩⟩
theorem xw_note0 {post : SX → Prop} (hc : c < 4) (hl : lev c = nI 0) (h : post (M, lev, R, W, V)) : wpX_noteReading post (M, lev, R, W, V) (nI c) (nI x) := by
  unfold wpX_noteReading
  dsimp only
  rw [nI_clamp (show c < 2 ^ 31 by omega), hl]
  exact ⟨vp_in_nI hc (by decide), br_t (by decide) h⟩
theorem xw_note1 {post : SX → Prop} (hc : c < 4) (h0 : 1 ≤ L) (hL : L ≤ 3) (hl : lev c = nI L) (h : post (M, lev, upd R (4 * c + L) (R (4 * c + L) ||| tc_one x), W, V)) : wpX_noteReading post (M, lev, R, W, V) (nI c) (nI x) := by
  unfold wpX_noteReading
  dsimp only
  have i1 : vp_in (nI (4 * c + L)) 16 := vp_in_nI (by omega) (by decide)
  rw [nI_clamp (show c < 2 ^ 31 by omega), hl]
  refine ⟨vp_in_nI hc (by decide), br_f (nI_nle (by omega) (by omega)) (xw_top hc hl ?_)⟩
  rw [nI_clamp (show 4 * c + L < 2 ^ 31 by omega)]
  exact ⟨i1, i1, nm_e h⟩
theorem xw_store0 {post : SX → Prop} {y : Int32} (hc : c < 4) (hx : x < 16) (hl : lev c = nI 0) (h : post (upd M x y, lev, R, W, V)) : wpX_store post (M, lev, R, W, V) (nI c) (nI x) y := by
  unfold wpX_store
  dsimp only
  rw [nI_clamp (show c < 2 ^ 31 by omega), nI_clamp (show x < 2 ^ 31 by omega), hl]
  exact ⟨vp_in_nI hc (by decide), br_t rfl ⟨vp_in_nI hx (by decide), nm_e h⟩⟩
theorem xw_store1 {post : SX → Prop} {y : Int32} (hc : c < 4) (hx : x < 16) (h0 : 1 ≤ L) (hL : L ≤ 3) (hl : lev c = nI L) (h : post (M, lev, R, upd W (4 * c + L) (W (4 * c + L) ||| tc_one x), upd V ((4 * c + L) * 16 + x) y)) : wpX_store post (M, lev, R, W, V) (nI c) (nI x) y := by
  unfold wpX_store
  dsimp only
  have i1 : vp_in (nI (4 * c + L)) 16 := vp_in_nI (by omega) (by decide)
  rw [nI_clamp (show c < 2 ^ 31 by omega), hl]
  refine ⟨vp_in_nI hc (by decide), br_f (nI_ne0 (by omega) (by omega)) (xw_top hc hl ?_)⟩
  rw [tc_ix16, nI_clamp (show 4 * c + L < 2 ^ 31 by omega), nI_clamp (show (4 * c + L) * 16 + x < 2 ^ 31 by omega)]
  exact ⟨i1, i1, nm_e ⟨vp_in_nI (by omega) (by decide), nm_e h⟩⟩
theorem xw_commit {post : SX → Prop} (hc : c < 4) (hL : L ≤ 3) (hl : lev c = nI L) (h : post (tc_cm (W (4 * c + L)) V M ((4 * c + L) * 16) 16, lev, R, W, V)) : wpX_commitWrites post (M, lev, R, W, V) (nI c) := by
  unfold wpX_commitWrites
  dsimp only
  refine xw_top hc hl ?_
  refine loop_0 (fun n i s => wX_commitWrites_8 post (nI (4 * c + L)) n (nI i) s lev R W V) (fun i s => s = tc_cm (W (4 * c + L)) V M ((4 * c + L) * 16) i) 16 M (tc_cm0 _ _ _ _).symm ?_ ?_
  · intro n s hs
    subst hs
    exact br_t (nI_le (Nat.le_refl 16) (by decide)) h
  · intro n i s hi hs ih
    subst hs
    refine br_f (nI_ge (b := 16) hi (by decide)) ⟨vp_in_nI (by omega) (by decide), ?_⟩
    rw [nI_clamp (show 4 * c + L < 2 ^ 31 by omega)]
    by_cases b : bt (W (4 * c + L)) i = true
    · refine xw_hasT hi b (br_f tc_10 ?_)
      rw [tc_ix16, nI_clamp (show (4 * c + L) * 16 + i < 2 ^ 31 by omega), nI_clamp (show i < 2 ^ 31 by omega), nI_1 i]
      exact ⟨vp_in_nI (by omega) (by decide), vp_in_nI hi (by decide), nm_e (nm_e (ih _ (tc_cmT b)))⟩
    · exact xw_hasF hi (tc_nf b) (br_t rfl (nm_r (nI_1 i) (ih _ (tc_cmF (tc_nf b)))))
theorem xw_hand {post : SX → Prop} (hc : c < 4) (hL : L + 1 ≤ 3) (hl : lev c = nI (L + 1))
    (h : post (M, lev, upd R (4 * c + L) (R (4 * c + L) ||| R (4 * c + (L + 1))), upd W (4 * c + L) (W (4 * c + L) ||| W (4 * c + (L + 1))), tc_hd (W (4 * c + (L + 1))) V ((4 * c + L) * 16) 16)) : wpX_handDown post (M, lev, R, W, V) (nI c) := by
  unfold wpX_handDown
  dsimp only
  have i0 : vp_in (nI (4 * c + L)) 16 := vp_in_nI (by omega) (by decide)
  have i1 : vp_in (nI (4 * c + (L + 1))) 16 := vp_in_nI (by omega) (by decide)
  refine xw_top hc hl (nm_r (show nI (4 * c + (L + 1)) - 1 = nI (4 * c + L) from nI_pred _) ?_)
  refine loop_0 (fun n i s => wX_handDown_13 post (nI (4 * c + (L + 1))) (nI (4 * c + L)) n (nI i) M lev R W s) (fun i s => s = tc_hd (W (4 * c + (L + 1))) V ((4 * c + L) * 16) i) 16 V (tc_hd0 _ _ _).symm ?_ ?_
  · intro n s hs
    subst hs
    refine br_t (nI_le (Nat.le_refl 16) (by decide)) ?_
    rw [nI_clamp (show 4 * c + L < 2 ^ 31 by omega), nI_clamp (show 4 * c + (L + 1) < 2 ^ 31 by omega)]
    exact ⟨i0, i1, i0, nm_e ⟨i0, i1, i0, nm_e h⟩⟩
  · intro n i s hi hs ih
    subst hs
    refine br_f (nI_ge (b := 16) hi (by decide)) ⟨i1, ?_⟩
    rw [nI_clamp (show 4 * c + (L + 1) < 2 ^ 31 by omega)]
    by_cases b : bt (W (4 * c + (L + 1))) i = true
    · refine xw_hasT hi b (br_f tc_10 ?_)
      have r : tc_hd (W (4 * c + (L + 1))) V ((4 * c + L) * 16) i ((4 * c + (L + 1)) * 16 + i) = V ((4 * c + L) * 16 + i + 16) := by
        rw [tc_hdR (by omega)]
        congr 1
        omega
      rw [tc_ix16, tc_ix16, nI_clamp (show (4 * c + (L + 1)) * 16 + i < 2 ^ 31 by omega), nI_clamp (show (4 * c + L) * 16 + i < 2 ^ 31 by omega), nI_1 i, r]
      exact ⟨vp_in_nI (by omega) (by decide), vp_in_nI (by omega) (by decide), nm_e (nm_e (ih _ (tc_hdT b)))⟩
    · exact xw_hasF hi (tc_nf b) (br_t rfl (nm_r (nI_1 i) (ih _ (tc_hdF (tc_nf b)))))
theorem xw_drop {post : SX → Prop} (hc : c < 4) (hL : L + 1 ≤ 3) (hl : lev c = nI (L + 1)) (h : post (M, upd lev c (nI L), upd R (4 * c + (L + 1)) 0, upd W (4 * c + (L + 1)) 0, V)) : wpX_dropLevel post (M, lev, R, W, V) (nI c) := by
  unfold wpX_dropLevel
  dsimp only
  have i1 : vp_in (nI (4 * c + (L + 1))) 16 := vp_in_nI (by omega) (by decide)
  have ic : vp_in (nI c) 4 := vp_in_nI hc (by decide)
  refine xw_top hc hl ?_
  rw [nI_clamp (show 4 * c + (L + 1) < 2 ^ 31 by omega), nI_clamp (show c < 2 ^ 31 by omega), hl, nI_pred]
  exact ⟨i1, nm_e ⟨i1, nm_e ⟨ic, ic, nm_e h⟩⟩⟩
theorem xw_dig {post : Int32 → Prop} (h : post (tc_dig M 16)) : wpX_digest post (M, lev, R, W, V) := by
  unfold wpX_digest
  dsimp only
  refine loop_0 (fun n i s => wX_digest_4 post M lev R W V n s (nI i)) (fun i s => s = tc_dig M i) 16 0 rfl ?_ ?_
  · intro n s hs
    subst hs
    exact br_t (nI_le (Nat.le_refl 16) (by decide)) h
  · intro n i s hi hs ih
    subst hs
    refine br_f (nI_ge (b := 16) hi (by decide)) ?_
    rw [nI_clamp (show i < 2 ^ 31 by omega), nI_1 i]
    exact ⟨vp_in_nI hi (by decide), nm_e (nm_e (ih _ rfl))⟩
end
end
section
/-! Y's own methods, each with a general post; where the states are related, its answers in X's rows -/
section
variable {M lev R W V R' W' : Nat → Int32} {c x L : Nat}
theorem yw_core {post : Int32 → Prop} (hc : c < 4) (h : post 1) : wpY_core post (M, lev, R', W', V) (nI c) := by
  unfold wpY_core
  dsimp only
  exact br_f (nI_pos (by omega)) (br_f (nI_nlt (a := 3) (b := c) (by omega) (by decide)) h)
theorem yw_ncore {post : Int32 → Prop} {v : Int32} (hv : v < 0 ∨ nI 4 ≤ v) (h : post 0) : wpY_core post (M, lev, R', W', V) v := by
  unfold wpY_core
  dsimp only
  exact br_c (fun _ => h) (fun z => br_t (tc_gt3 (hv.resolve_left z)) h)
theorem yw_cell {post : Int32 → Prop} (hx : x < 16) (h : post 1) : wpY_cell post (M, lev, R', W', V) (nI x) := by
  unfold wpY_cell
  dsimp only
  exact br_f (nI_pos (by omega)) (br_f (nI_nlt (a := 15) (b := x) (by omega) (by decide)) h)
theorem yw_ncell {post : Int32 → Prop} {v : Int32} (hv : v < 0 ∨ nI 16 ≤ v) (h : post 0) : wpY_cell post (M, lev, R', W', V) v := by
  unfold wpY_cell
  dsimp only
  exact br_c (fun _ => h) (fun z => br_t (tc_gt15 (hv.resolve_left z)) h)
theorem yw_rs {post : Int32 → Prop} (hC : tc_C L c lev R W R' W') (hc : c < 4) (h : post (tc_or R (4 * c) 4)) : wpY_readSet post (M, lev, R', W', V) (nI c) := by
  rw [← tc_setR hC] at h
  obtain ⟨hL, hl, -, -, -⟩ := hC
  unfold wpY_readSet
  dsimp only
  refine loop_0 (fun n i s => wY_readSet_4 post (nI c) M lev R' W' V n s (nI (i + 1))) (fun i s => s = tc_or R' (4 * c + 1) i) L 0 rfl ?_ ?_
  · intro n s hs
    subst hs
    refine ⟨vp_in_nI hc (by decide), ?_⟩
    rw [nI_clamp (show c < 2 ^ 31 by omega), hl]
    exact br_t (nI_lt (by omega) (by omega)) h
  · intro n i s hi hs ih
    subst hs
    refine ⟨vp_in_nI hc (by decide), ?_⟩
    rw [nI_clamp (show c < 2 ^ 31 by omega), hl]
    refine br_f (nI_nlt (by omega) (by omega)) ?_
    rw [tc_iy4, show 4 * c + (i + 1) = 4 * c + 1 + i by omega, nI_clamp (show 4 * c + 1 + i < 2 ^ 31 by omega), nI_1 (i + 1)]
    exact ⟨vp_in_nI (by omega) (by decide), nm_e (nm_e (ih _ rfl))⟩
theorem yw_ws {post : Int32 → Prop} (hC : tc_C L c lev R W R' W') (hc : c < 4) (h : post (tc_or W (4 * c) 4)) : wpY_writeSet post (M, lev, R', W', V) (nI c) := by
  rw [← tc_setW hC] at h
  obtain ⟨hL, hl, -, -, -⟩ := hC
  unfold wpY_writeSet
  dsimp only
  refine loop_0 (fun n i s => wY_writeSet_4 post (nI c) M lev R' W' V n s (nI (i + 1))) (fun i s => s = tc_or W' (4 * c + 1) i) L 0 rfl ?_ ?_
  · intro n s hs
    subst hs
    refine ⟨vp_in_nI hc (by decide), ?_⟩
    rw [nI_clamp (show c < 2 ^ 31 by omega), hl]
    exact br_t (nI_lt (by omega) (by omega)) h
  · intro n i s hi hs ih
    subst hs
    refine ⟨vp_in_nI hc (by decide), ?_⟩
    rw [nI_clamp (show c < 2 ^ 31 by omega), hl]
    refine br_f (nI_nlt (by omega) (by omega)) ?_
    rw [tc_iy4, show 4 * c + (i + 1) = 4 * c + 1 + i by omega, nI_clamp (show 4 * c + 1 + i < 2 ^ 31 by omega), nI_1 (i + 1)]
    exact ⟨vp_in_nI (by omega) (by decide), nm_e (nm_e (ih _ rfl))⟩
theorem yw_oth {post : Int32 → Prop} {q : Int32} (wr : Bool) (hq : q = 0 ↔ wr = true) (hO : tc_Ok lev R W R' W') (hc : c < 4) (hx : x < 16) (h : post (tc_rv wr R W c x)) : wpY_others post (M, lev, R', W', V) (nI c) (nI x) q := by
  unfold wpY_others
  dsimp only
  refine loop_0 (fun n i s => wY_others_6 post (nI c) (nI x) q M lev R' W' V n s (nI i)) (fun i s => s = tc_riv (tc_way wr R W) c x i) 4 0 rfl ?_ ?_
  · intro n s hs
    subst hs
    exact br_t (nI_le (Nat.le_refl 4) (by decide)) h
  · intro n i s hi hs ih
    subst hs
    have key : wY_others_38 post (wY_others_6 post (nI c) (nI x) q M lev R' W' V n) (nI c) (nI x) q (tc_riv (tc_way wr R W) c x i) (nI i) (tc_way wr R W i) M lev R' W' V := by
      unfold wY_others_38
      by_cases e : i = c
      · exact br_t (by rw [e]) (nm_r (nI_1 i) (ih _ (tc_rivQ e)))
      · refine br_f (fun z => e ((nI_eq (by omega) (by omega)).mp z)) ?_
        by_cases b : bt (tc_way wr R W i) x = true
        · exact br_t ((tc_ybit _ (by omega)).mpr b) (nm_e (nm_r (nI_1 i) (ih _ (tc_rivT e b))))
        · exact br_f (fun z => b ((tc_ybit _ (by omega)).mp z)) (nm_r (nI_1 i) (ih _ (tc_rivF b)))
    obtain ⟨K, hK⟩ := hO i hi
    refine br_f (nI_ge (b := 4) hi (by decide)) ?_
    by_cases w : wr = true
    · rw [tc_wayT w] at key
      exact br_t (hq.mpr w) (yw_ws hK hi (yw_rs hK hi key))
    · rw [tc_wayF w] at key
      exact br_f (fun z => w (hq.mp z)) (yw_ws hK hi key)
theorem yw_see {post : Int32 → Prop} (hC : tc_C L c lev R W R' W') (hc : c < 4) (hx : x < 16) (h : post (tc_see W V M c x L)) : wpY_sees post (M, lev, R', W', V) (nI c) (nI x) := by
  have key : ∀ l, l ≤ 3 → post (tc_see W' V M c x l) → wY_sees_25 post (nI c) (nI x) M lev R' W' V (l + 1) (nI l) := by
    intro l
    induction l with
    | zero =>
      intro _ h
      refine br_t (by decide) ?_
      rw [nI_clamp (show x < 2 ^ 31 by omega)]
      exact ⟨vp_in_nI hx (by decide), h⟩
    | succ l ih =>
      intro h3 h
      refine br_f (nI_nlt (a := l + 1) (b := 1) (by omega) (by omega)) ?_
      rw [tc_iy4, tc_iy16, nI_clamp (show 4 * c + (l + 1) < 2 ^ 31 by omega), nI_clamp (show (4 * c + (l + 1)) * 16 + x < 2 ^ 31 by omega)]
      refine ⟨vp_in_nI (by omega) (by decide), ?_⟩
      by_cases b : bt (W' (4 * c + (l + 1))) x = true
      · rw [tc_seeT b] at h
        exact br_t ((tc_ybit _ (by omega)).mpr b) ⟨vp_in_nI (by omega) (by decide), h⟩
      · rw [tc_seeF b] at h
        exact br_f (fun z => b ((tc_ybit _ (by omega)).mp z)) (nm_r (pk_m1 l) (ih (by omega) h))
  rw [← tc_seeXY hC] at h
  unfold wpY_sees
  dsimp only
  refine yw_core hc (br_f tc_10 (yw_cell hx (br_f tc_10 ?_)))
  rw [nI_clamp (show c < 2 ^ 31 by omega), hC.2.1]
  exact ⟨vp_in_nI hc (by decide), nm_e ⟨L + 1, key L hC.1 h⟩⟩
theorem yw_put0 {post : SY → Prop} {y : Int32} (hc : c < 4) (hx : x < 16) (hl : lev c = nI 0) (h : post (upd M x y, lev, R', W', V)) : wpY_put post (M, lev, R', W', V) (nI c) (nI x) y := by
  unfold wpY_put
  dsimp only
  rw [nI_clamp (show c < 2 ^ 31 by omega), nI_clamp (show x < 2 ^ 31 by omega), hl]
  exact ⟨vp_in_nI hc (by decide), br_t rfl ⟨vp_in_nI hx (by decide), nm_e h⟩⟩
theorem yw_put1 {post : SY → Prop} {y : Int32} (hc : c < 4) (hx : x < 16) (h0 : 1 ≤ L) (hL : L ≤ 3) (hl : lev c = nI L) (h : post (M, lev, R', upd W' (4 * c + L) (W' (4 * c + L) ||| tc_one x), upd V ((4 * c + L) * 16 + x) y)) : wpY_put post (M, lev, R', W', V) (nI c) (nI x) y := by
  unfold wpY_put
  dsimp only
  have i1 : vp_in (nI (4 * c + L)) 16 := vp_in_nI (by omega) (by decide)
  have ic : vp_in (nI c) 4 := vp_in_nI hc (by decide)
  rw [nI_clamp (show c < 2 ^ 31 by omega), hl]
  refine ⟨ic, br_f (nI_ne0 (by omega) (by omega)) ⟨ic, nm_r (tc_iy4 c L) ?_⟩⟩
  rw [tc_iy16, nI_clamp (show 4 * c + L < 2 ^ 31 by omega), nI_clamp (show (4 * c + L) * 16 + x < 2 ^ 31 by omega)]
  exact ⟨i1, i1, nm_e ⟨vp_in_nI (by omega) (by decide), nm_e h⟩⟩
theorem yw_read0 {post : Int32 → SY → Prop} (hO : tc_Ok lev R W R' W') (hc : c < 4) (hx : x < 16) (hl : lev c = nI 0) (hr : tc_rv false R W c x = 0) (h : post 0 (M, lev, R', W', V)) : wpY_read post (M, lev, R', W', V) (nI c) (nI x) := by
  unfold wpY_read
  dsimp only
  have i1 : vp_in (nI (4 * c + 0)) 16 := vp_in_nI (by omega) (by decide)
  have ic : vp_in (nI c) 4 := vp_in_nI hc (by decide)
  refine yw_core hc (br_f tc_10 (yw_cell hx (br_f tc_10 (yw_oth false (by decide) hO hc hx (br_t hr ?_)))))
  rw [nI_clamp (show c < 2 ^ 31 by omega), hl]
  refine ⟨ic, nm_r (tc_iy4 c 0) ⟨ic, br_t (by decide) ?_⟩⟩
  rw [nI_clamp (show 4 * c + 0 < 2 ^ 31 by omega), tc_uu]
  exact ⟨i1, i1, nm_e h⟩
theorem yw_read1 {post : Int32 → SY → Prop} (hO : tc_Ok lev R W R' W') (hc : c < 4) (hx : x < 16) (h0 : 1 ≤ L) (hL : L ≤ 3) (hl : lev c = nI L) (hr : tc_rv false R W c x = 0) (h : post 0 (M, lev, upd R' (4 * c + L) (R' (4 * c + L) ||| tc_one x), W', V)) : wpY_read post (M, lev, R', W', V) (nI c) (nI x) := by
  unfold wpY_read
  dsimp only
  have i1 : vp_in (nI (4 * c + L)) 16 := vp_in_nI (by omega) (by decide)
  have ic : vp_in (nI c) 4 := vp_in_nI hc (by decide)
  refine yw_core hc (br_f tc_10 (yw_cell hx (br_f tc_10 (yw_oth false (by decide) hO hc hx (br_t hr ?_)))))
  rw [nI_clamp (show c < 2 ^ 31 by omega), hl]
  refine ⟨ic, nm_r (tc_iy4 c L) ⟨ic, br_f (nI_nle (by omega) (by omega)) ?_⟩⟩
  rw [nI_clamp (show 4 * c + L < 2 ^ 31 by omega)]
  exact ⟨i1, i1, nm_e h⟩
theorem yw_dig {post : Int32 → Prop} (h : post (tc_dig M 16)) : wpY_digest post (M, lev, R', W', V) := by
  unfold wpY_digest
  dsimp only
  refine loop_0 (fun n i s => wY_digest_4 post M lev R' W' V n s (nI i)) (fun i s => s = tc_dig M i) 16 0 rfl ?_ ?_
  · intro n s hs
    subst hs
    exact br_t (nI_le (Nat.le_refl 16) (by decide)) h
  · intro n i s hi hs ih
    subst hs
    refine br_f (nI_ge (b := 16) hi (by decide)) ?_
    rw [nI_clamp (show i < 2 ^ 31 by omega), nI_1 i, Int32.mul_comm (nI (i + 1)) (M i)]
    exact ⟨vp_in_nI hi (by decide), nm_e (nm_e (ih _ rfl))⟩
end
end
section
/-! Y's end: at level 1 it commits, above it hands down -/
section
variable {M lev R' W' V : Nat → Int32} {c x L : Nat}
theorem yw_end1 {post : Int32 → SY → Prop} (hc : c < 4) (hl : lev c = nI 1)
    (h : post (nI 0) (tc_cm (W' (4 * c + 1)) V M ((4 * c + 1) * 16) 16, upd lev c (nI 0), R', W', V)) : wpY_end post (M, lev, R', W', V) (nI c) := by
  unfold wpY_end
  dsimp only
  have i1 : vp_in (nI (4 * c + 1)) 16 := vp_in_nI (by omega) (by decide)
  have i0 : vp_in (nI (4 * c)) 16 := vp_in_nI (by omega) (by decide)
  have ic : vp_in (nI c) 4 := vp_in_nI hc (by decide)
  have l0 : upd lev c (nI 0) c = nI 0 := pk_us
  refine yw_core hc (br_f tc_10 ?_)
  rw [nI_clamp (show c < 2 ^ 31 by omega), hl]
  refine ⟨ic, br_f (nI_ne0 (by omega) (by omega)) ⟨ic, nm_r (tc_iy4 c 1) ⟨ic, ic, nm_r (show upd lev c (nI 1 - 1) = upd lev c (nI 0) by rw [nI_pred 0]) ?_⟩⟩⟩
  refine loop_0 (fun n i s => wY_end_42 post (nI c) (nI (4 * c + 1)) n (nI i) s (upd lev c (nI 0)) R' W' V) (fun i s => s = tc_cm (W' (4 * c + 1)) V M ((4 * c + 1) * 16) i) 16 M (tc_cm0 _ _ _ _).symm ?_ ?_
  · intro n s hs
    subst hs
    refine br_t (nI_le (Nat.le_refl 16) (by decide)) ?_
    rw [nI_clamp (show c < 2 ^ 31 by omega), l0, nI_pred (4 * c), nI_clamp (show 4 * c < 2 ^ 31 by omega), tc_uu]
    exact ⟨ic, br_t (by decide) ⟨i0, i0, nm_e ⟨ic, h⟩⟩⟩
  · intro n i s hi hs ih
    subst hs
    refine br_f (nI_ge (b := 16) hi (by decide)) ⟨i1, ?_⟩
    rw [nI_clamp (show 4 * c + 1 < 2 ^ 31 by omega), tc_iy16, nI_clamp (show (4 * c + 1) * 16 + i < 2 ^ 31 by omega)]
    by_cases b : bt (W' (4 * c + 1)) i = true
    · exact br_t ((tc_ybit _ (by omega)).mpr b) ⟨vp_in_nI (by omega) (by decide), yw_put0 hc hi l0 (nm_r (nI_1 i) (ih _ (tc_cmT b)))⟩
    · exact br_f (fun z => b ((tc_ybit _ (by omega)).mp z)) (nm_r (nI_1 i) (ih _ (tc_cmF (tc_nf b))))
theorem yw_end2 {post : Int32 → SY → Prop} (hc : c < 4) (h0 : 1 ≤ L) (hL : L + 1 ≤ 3) (hl : lev c = nI (L + 1))
    (h : ∀ W2 : Nat → Int32, (∀ j, j ≠ 4 * c + L → W2 j = W' j) → W2 (4 * c + L) = W' (4 * c + L) ||| tc_mk (W' (4 * c + (L + 1))) 16 →
      post (nI L) (M, upd lev c (nI L), upd R' (4 * c + L) (R' (4 * c + L) ||| R' (4 * c + (L + 1))), W2, tc_hd (W' (4 * c + (L + 1))) V ((4 * c + L) * 16) 16)) : wpY_end post (M, lev, R', W', V) (nI c) := by
  unfold wpY_end
  dsimp only
  have i1 : vp_in (nI (4 * c + (L + 1))) 16 := vp_in_nI (by omega) (by decide)
  have i0 : vp_in (nI (4 * c + L)) 16 := vp_in_nI (by omega) (by decide)
  have ic : vp_in (nI c) 4 := vp_in_nI hc (by decide)
  have l0 : upd lev c (nI L) c = nI L := pk_us
  refine yw_core hc (br_f tc_10 ?_)
  rw [nI_clamp (show c < 2 ^ 31 by omega), hl]
  refine ⟨ic, br_f (nI_ne0 (by omega) (by omega)) ⟨ic, nm_r (tc_iy4 c (L + 1)) ⟨ic, ic, nm_r (show upd lev c (nI (L + 1) - 1) = upd lev c (nI L) by rw [nI_pred L]) ?_⟩⟩⟩
  refine loop_0 (σ := (Nat → Int32) × (Nat → Int32)) (fun n i s => wY_end_42 post (nI c) (nI (4 * c + (L + 1))) n (nI i) M (upd lev c (nI L)) R' s.1 s.2)
    (fun i s => ((∀ j, j ≠ 4 * c + L → s.1 j = W' j) ∧ s.1 (4 * c + L) = W' (4 * c + L) ||| tc_mk (W' (4 * c + (L + 1))) i) ∧ s.2 = tc_hd (W' (4 * c + (L + 1))) V ((4 * c + L) * 16) i) 16 (W', V) ⟨⟨fun _ _ => rfl, Int32.or_zero.symm⟩, (tc_hd0 _ _ _).symm⟩ ?_ ?_
  · rintro n ⟨W2, V2⟩ ⟨⟨w1, w2⟩, w3⟩
    dsimp only at w1 w2 w3
    subst w3
    refine br_t (nI_le (Nat.le_refl 16) (by decide)) ?_
    dsimp only
    rw [nI_clamp (show c < 2 ^ 31 by omega), l0, show nI (4 * c + (L + 1)) - 1 = nI (4 * c + L) from nI_pred _, nI_clamp (show 4 * c + L < 2 ^ 31 by omega), nI_clamp (show 4 * c + (L + 1) < 2 ^ 31 by omega)]
    exact ⟨ic, br_f (nI_nle (by omega) (by omega)) ⟨i0, i1, i0, nm_e ⟨ic, h W2 w1 w2⟩⟩⟩
  · rintro n i ⟨W2, V2⟩ hi ⟨⟨w1, w2⟩, w3⟩ ih
    dsimp only at w1 w2 w3
    subst w3
    have e1 : W2 (4 * c + (L + 1)) = W' (4 * c + (L + 1)) := w1 _ (by omega)
    refine br_f (nI_ge (b := 16) hi (by decide)) ⟨i1, ?_⟩
    dsimp only
    have r : tc_hd (W' (4 * c + (L + 1))) V ((4 * c + L) * 16) i ((4 * c + (L + 1)) * 16 + i) = V ((4 * c + L) * 16 + i + 16) := by
      rw [tc_hdR (by omega)]
      congr 1
      omega
    rw [nI_clamp (show 4 * c + (L + 1) < 2 ^ 31 by omega), tc_iy16, nI_clamp (show (4 * c + (L + 1)) * 16 + i < 2 ^ 31 by omega), e1, r]
    by_cases b : bt (W' (4 * c + (L + 1))) i = true
    · refine br_t ((tc_ybit _ (by omega)).mpr b) ⟨vp_in_nI (by omega) (by decide), yw_put1 hc hi h0 (by omega) l0 (nm_r (nI_1 i) (ih (upd W2 (4 * c + L) (W2 (4 * c + L) ||| tc_one i), upd (tc_hd (W' (4 * c + (L + 1))) V ((4 * c + L) * 16) i) ((4 * c + L) * 16 + i) (V ((4 * c + L) * 16 + i + 16))) ⟨⟨fun j hj => ?_, ?_⟩, tc_hdT b⟩))⟩
      · exact (pk_un hj).trans (w1 j hj)
      · show upd W2 (4 * c + L) (W2 (4 * c + L) ||| tc_one i) (4 * c + L) = _
        rw [pk_us, w2, tc_mkT b, Int32.or_assoc]
    · refine br_f (fun z => b ((tc_ybit _ (by omega)).mp z)) (nm_r (nI_1 i) (ih (W2, tc_hd (W' (4 * c + (L + 1))) V ((4 * c + L) * 16) i) ⟨⟨w1, ?_⟩, tc_hdF (tc_nf b)⟩))
      show W2 (4 * c + L) = _
      rw [w2, tc_mkF b]
end
end
section
/-! what is owed, but for end and giveAllUp -/
theorem i_vc0 : wpX_init (fun u => wpY_init (fun v => i_Rel 0 u v)) := tc_rel (k := 0) tc_new
theorem i_vc_begin {k : Nat} {u : SX} {v : SY} (I : i_Rel k u v) (hk : k + 4 ≤ 2048) (v1 : Int32) : wpX_begin (fun r u' => wpY_begin (fun r' v' => r' = r ∧ i_Rel (k + 4) u' v') v v1) u v1 := by
  obtain ⟨M, lev, R, W, V, R', W', rfl, rfl, h⟩ := I
  unfold wpX_begin wpY_begin
  dsimp only
  rcases tc_cc v1 4 (by decide) with hv | ⟨c, hc, rfl⟩
  · exact xw_ncore hv (br_t rfl (yw_ncore hv (br_t rfl ⟨rfl, tc_rel h⟩)))
  · obtain ⟨L, hC⟩ := h c hc
    have hl := hC.2.1
    have hL := hC.1
    have ic : vp_in (nI c) 4 := vp_in_nI hc (by decide)
    refine xw_core hc (br_f tc_10 ⟨ic, ?_⟩)
    rw [nI_clamp (show c < 2 ^ 31 by omega), hl]
    by_cases e : L < 3
    · have hi : vp_in (nI (4 * c + (L + 1))) 16 := vp_in_nI (by omega) (by decide)
      refine br_t (nI_lt (b := 3) e (by decide)) ⟨ic, ic, nm_r (show upd lev c (nI L + 1) = upd lev c (nI (L + 1)) by rw [nI_1]) ⟨ic, ?_⟩⟩
      rw [pk_us]
      refine yw_core hc (br_f tc_10 ⟨ic, br_f (fun z => ?_) ⟨ic, ic, nm_r (show upd lev c (nI L + 1) = upd lev c (nI (L + 1)) by rw [nI_1]) ⟨ic, ?_⟩⟩⟩)
      · have := (nI_eq (b := 3) (by omega) (by decide)).mp z
        omega
      · rw [pk_us, tc_iy4, nI_clamp (show 4 * c + (L + 1) < 2 ^ 31 by omega)]
        exact ⟨hi, nm_e ⟨ic, hi, nm_e ⟨ic, rfl, tc_rel (tc_begin h hC e)⟩⟩⟩
    · have e3 : L = 3 := by omega
      subst e3
      exact br_f (by decide) (yw_core hc (br_f tc_10 ⟨ic, br_t rfl ⟨rfl, tc_rel h⟩⟩))
theorem i_vc_read {k : Nat} {u : SX} {v : SY} (I : i_Rel k u v) (hk : k + 4 ≤ 2048) (v1 : Int32) (v2 : Int32) : wpX_read (fun r u' => wpY_read (fun r' v' => r' = r ∧ i_Rel (k + 4) u' v') v v1 v2) u v1 v2 := by
  obtain ⟨M, lev, R, W, V, R', W', rfl, rfl, h⟩ := I
  unfold wpX_read
  dsimp only
  rcases tc_cc v1 4 (by decide) with hv | ⟨c, hc, rfl⟩
  · refine xw_ncore hv (br_t rfl ?_)
    unfold wpY_read
    exact yw_ncore hv (br_t rfl ⟨rfl, tc_rel h⟩)
  rcases tc_cc v2 16 (by decide) with hv | ⟨x, hx, rfl⟩
  · refine xw_core hc (br_f tc_10 (xw_ncell hv (br_t rfl ?_)))
    unfold wpY_read
    exact yw_core hc (br_f tc_10 (yw_ncell hv (br_t rfl ⟨rfl, tc_rel h⟩)))
  obtain ⟨L, hC⟩ := h c hc
  have hl := hC.2.1
  have hL := hC.1
  refine xw_core hc (br_f tc_10 (xw_cell hx (br_f tc_10 (xw_riv false (by decide) hc hx ?_))))
  by_cases hr : tc_rv false R W c x = 0
  · refine br_t hr ?_
    by_cases h0 : L = 0
    · subst h0
      exact xw_note0 hc hl (yw_read0 h hc hx hl hr ⟨rfl, tc_rel h⟩)
    · exact xw_note1 hc (by omega) hL hl (yw_read1 h hc hx (by omega) hL hl hr ⟨rfl, tc_rel (tc_note h hC (by omega) _)⟩)
  · refine br_f hr ?_
    unfold wpY_read
    exact yw_core hc (br_f tc_10 (yw_cell hx (br_f tc_10 (yw_oth false (by decide) h hc hx (br_f hr ⟨rfl, tc_rel h⟩)))))
theorem i_vc_sees {k : Nat} {u : SX} {v : SY} (I : i_Rel k u v) (hk : k + 4 ≤ 2048) (v1 : Int32) (v2 : Int32) : wpX_sees (fun r => wpY_sees (fun r' => r' = r ∧ i_Rel (k + 4) u v) v v1 v2) u v1 v2 := by
  obtain ⟨M, lev, R, W, V, R', W', rfl, rfl, h⟩ := I
  unfold wpX_sees
  dsimp only
  rcases tc_cc v1 4 (by decide) with hv | ⟨c, hc, rfl⟩
  · refine xw_ncore hv (br_t rfl ?_)
    unfold wpY_sees
    exact yw_ncore hv (br_t rfl ⟨rfl, tc_rel h⟩)
  rcases tc_cc v2 16 (by decide) with hv | ⟨x, hx, rfl⟩
  · refine xw_core hc (br_f tc_10 (xw_ncell hv (br_t rfl ?_)))
    unfold wpY_sees
    exact yw_core hc (br_f tc_10 (yw_ncell hv (br_t rfl ⟨rfl, tc_rel h⟩)))
  obtain ⟨L, hC⟩ := h c hc
  exact xw_core hc (br_f tc_10 (xw_cell hx (br_f tc_10 (xw_see hc hx hC.1 hC.2.1 (yw_see hC hc hx ⟨rfl, tc_rel h⟩)))))
theorem i_vc_write {k : Nat} {u : SX} {v : SY} (I : i_Rel k u v) (hk : k + 4 ≤ 2048) (v1 : Int32) (v2 : Int32) (v3 : Int32) : wpX_write (fun r u' => wpY_write (fun r' v' => r' = r ∧ i_Rel (k + 4) u' v') v v1 v2 v3) u v1 v2 v3 := by
  obtain ⟨M, lev, R, W, V, R', W', rfl, rfl, h⟩ := I
  unfold wpX_write wpY_write
  dsimp only
  rcases tc_cc v1 4 (by decide) with hv | ⟨c, hc, rfl⟩
  · exact xw_ncore hv (br_t rfl (yw_ncore hv (br_t rfl ⟨rfl, tc_rel h⟩)))
  rcases tc_cc v2 16 (by decide) with hv | ⟨x, hx, rfl⟩
  · exact xw_core hc (br_f tc_10 (xw_ncell hv (br_t rfl (yw_core hc (br_f tc_10 (yw_ncell hv (br_t rfl ⟨rfl, tc_rel h⟩)))))))
  obtain ⟨L, hC⟩ := h c hc
  have hl := hC.2.1
  have hL := hC.1
  refine xw_core hc (br_f tc_10 (xw_cell hx (br_f tc_10 (xw_riv true (by decide) hc hx ?_))))
  by_cases hr : tc_rv true R W c x = 0
  · refine br_t hr ?_
    by_cases h0 : L = 0
    · subst h0
      exact xw_store0 hc hx hl (yw_core hc (br_f tc_10 (yw_cell hx (br_f tc_10 (yw_oth true (by decide) h hc hx (br_t hr (yw_put0 hc hx hl ⟨rfl, tc_rel h⟩)))))))
    · exact xw_store1 hc hx (by omega) hL hl (yw_core hc (br_f tc_10 (yw_cell hx (br_f tc_10 (yw_oth true (by decide) h hc hx (br_t hr (yw_put1 hc hx (by omega) hL hl ⟨rfl, tc_rel (tc_store h hC (by omega) hx)⟩)))))))
  · exact br_f hr (yw_core hc (br_f tc_10 (yw_cell hx (br_f tc_10 (yw_oth true (by decide) h hc hx (br_f hr ⟨rfl, tc_rel h⟩))))))
theorem i_vc_add {k : Nat} {u : SX} {v : SY} (I : i_Rel k u v) (hk : k + 4 ≤ 2048) (v1 : Int32) (v2 : Int32) (v3 : Int32) : wpX_add (fun r u' => wpY_add (fun r' v' => r' = r ∧ i_Rel (k + 4) u' v') v v1 v2 v3) u v1 v2 v3 := by
  obtain ⟨M, lev, R, W, V, R', W', rfl, rfl, h⟩ := I
  unfold wpX_add wpY_add
  dsimp only
  rcases tc_cc v1 4 (by decide) with hv | ⟨c, hc, rfl⟩
  · exact xw_ncore hv (br_t rfl (yw_ncore hv (br_t rfl ⟨rfl, tc_rel h⟩)))
  rcases tc_cc v2 16 (by decide) with hv | ⟨x, hx, rfl⟩
  · exact xw_core hc (br_f tc_10 (xw_ncell hv (br_t rfl (yw_core hc (br_f tc_10 (yw_ncell hv (br_t rfl ⟨rfl, tc_rel h⟩)))))))
  obtain ⟨L, hC⟩ := h c hc
  have hl := hC.2.1
  have hL := hC.1
  refine xw_core hc (br_f tc_10 (xw_cell hx (br_f tc_10 (xw_riv true (by decide) hc hx ?_))))
  by_cases hr : tc_rv true R W c x = 0
  · have hf := tc_rvF hr
    refine br_t hr (xw_see hc hx hL hl (nm_e ?_))
    by_cases h0 : L = 0
    · subst h0
      refine xw_note0 hc hl (xw_store0 hc hx hl ?_)
      refine yw_core hc (br_f tc_10 (yw_cell hx (br_f tc_10 (yw_oth true (by decide) h hc hx (br_t hr (yw_see hC hc hx (nm_e ?_)))))))
      exact yw_read0 h hc hx hl hf (yw_put0 hc hx hl ⟨rfl, tc_rel h⟩)
    · have h1 : 1 ≤ L := by omega
      have N := tc_note h hC h1 (tc_one x)
      have NC := tc_lev N hc hl hL
      refine xw_note1 hc h1 hL hl (xw_store1 hc hx h1 hL hl ?_)
      refine yw_core hc (br_f tc_10 (yw_cell hx (br_f tc_10 (yw_oth true (by decide) h hc hx (br_t hr (yw_see hC hc hx (nm_e ?_)))))))
      exact yw_read1 h hc hx h1 hL hl hf (yw_put1 hc hx h1 hL hl ⟨rfl, tc_rel (tc_store N NC h1 hx)⟩)
  · exact br_f hr (yw_core hc (br_f tc_10 (yw_cell hx (br_f tc_10 (yw_oth true (by decide) h hc hx (br_f hr ⟨rfl, tc_rel h⟩))))))
theorem i_vc_giveUp {k : Nat} {u : SX} {v : SY} (I : i_Rel k u v) (hk : k + 4 ≤ 2048) (v1 : Int32) : wpX_giveUp (fun r u' => wpY_giveUp (fun r' v' => r' = r ∧ i_Rel (k + 4) u' v') v v1) u v1 := by
  obtain ⟨M, lev, R, W, V, R', W', rfl, rfl, h⟩ := I
  unfold wpX_giveUp wpY_giveUp
  dsimp only
  rcases tc_cc v1 4 (by decide) with hv | ⟨c, hc, rfl⟩
  · exact xw_ncore hv (br_t rfl (yw_ncore hv (br_t rfl ⟨rfl, tc_rel h⟩)))
  obtain ⟨L, hC⟩ := h c hc
  have hl := hC.2.1
  have hL := hC.1
  have ic : vp_in (nI c) 4 := vp_in_nI hc (by decide)
  refine xw_core hc (br_f tc_10 ⟨ic, ?_⟩)
  rw [nI_clamp (show c < 2 ^ 31 by omega), hl]
  cases L with
  | zero => exact br_t rfl (yw_core hc (br_f tc_10 ⟨ic, br_t rfl ⟨rfl, tc_rel h⟩⟩))
  | succ L =>
    refine br_f (nI_ne0 (by omega) (by omega)) (xw_drop hc hL hl ⟨ic, ?_⟩)
    dsimp only
    rw [pk_us]
    refine yw_core hc (br_f tc_10 ⟨ic, br_f (nI_ne0 (by omega) (by omega)) ⟨ic, ic, nm_r (show upd lev c (nI (L + 1) - 1) = upd lev c (nI L) by rw [nI_pred L]) ⟨ic, ?_⟩⟩⟩)
    rw [pk_us]
    exact ⟨rfl, tc_rel (tc_drop h hC)⟩
theorem i_vc_level {k : Nat} {u : SX} {v : SY} (I : i_Rel k u v) (hk : k + 4 ≤ 2048) (v1 : Int32) : wpX_level (fun r => wpY_level (fun r' => r' = r ∧ i_Rel (k + 4) u v) v v1) u v1 := by
  obtain ⟨M, lev, R, W, V, R', W', rfl, rfl, h⟩ := I
  unfold wpX_level wpY_level
  dsimp only
  rcases tc_cc v1 4 (by decide) with hv | ⟨c, hc, rfl⟩
  · exact xw_ncore hv (br_t rfl (yw_ncore hv (br_t rfl ⟨rfl, tc_rel h⟩)))
  have ic : vp_in (nI c) 4 := vp_in_nI hc (by decide)
  exact xw_core hc (br_f tc_10 ⟨ic, yw_core hc (br_f tc_10 ⟨ic, rfl, tc_rel h⟩)⟩)
theorem i_vc_committed {k : Nat} {u : SX} {v : SY} (I : i_Rel k u v) (hk : k + 4 ≤ 2048) (v1 : Int32) : wpX_committed (fun r => wpY_committed (fun r' => r' = r ∧ i_Rel (k + 4) u v) v v1) u v1 := by
  obtain ⟨M, lev, R, W, V, R', W', rfl, rfl, h⟩ := I
  unfold wpX_committed wpY_committed
  dsimp only
  rcases tc_cc v1 16 (by decide) with hv | ⟨x, hx, rfl⟩
  · exact xw_ncell hv (br_t rfl (yw_ncell hv (br_t rfl ⟨rfl, tc_rel h⟩)))
  have ix : vp_in (nI x) 16 := vp_in_nI hx (by decide)
  exact xw_cell hx (br_f tc_10 ⟨ix, yw_cell hx (br_f tc_10 ⟨ix, rfl, tc_rel h⟩)⟩)
theorem i_vc_readBy {k : Nat} {u : SX} {v : SY} (I : i_Rel k u v) (hk : k + 4 ≤ 2048) (v1 : Int32) : wpX_readBy (fun r => wpY_readBy (fun r' => r' = r ∧ i_Rel (k + 4) u v) v v1) u v1 := by
  obtain ⟨M, lev, R, W, V, R', W', rfl, rfl, h⟩ := I
  unfold wpX_readBy wpY_readBy
  dsimp only
  rcases tc_cc v1 4 (by decide) with hv | ⟨c, hc, rfl⟩
  · exact xw_ncore hv (br_t rfl (yw_ncore hv (br_t rfl ⟨rfl, tc_rel h⟩)))
  obtain ⟨L, hC⟩ := h c hc
  exact xw_core hc (br_f tc_10 (xw_cr hc (yw_core hc (br_f tc_10 (yw_rs hC hc ⟨rfl, tc_rel h⟩)))))
theorem i_vc_writtenBy {k : Nat} {u : SX} {v : SY} (I : i_Rel k u v) (hk : k + 4 ≤ 2048) (v1 : Int32) : wpX_writtenBy (fun r => wpY_writtenBy (fun r' => r' = r ∧ i_Rel (k + 4) u v) v v1) u v1 := by
  obtain ⟨M, lev, R, W, V, R', W', rfl, rfl, h⟩ := I
  unfold wpX_writtenBy wpY_writtenBy
  dsimp only
  rcases tc_cc v1 4 (by decide) with hv | ⟨c, hc, rfl⟩
  · exact xw_ncore hv (br_t rfl (yw_ncore hv (br_t rfl ⟨rfl, tc_rel h⟩)))
  obtain ⟨L, hC⟩ := h c hc
  exact xw_core hc (br_f tc_10 (xw_cw hc (yw_core hc (br_f tc_10 (yw_ws hC hc ⟨rfl, tc_rel h⟩)))))
theorem i_vc_rivals {k : Nat} {u : SX} {v : SY} (I : i_Rel k u v) (hk : k + 4 ≤ 2048) (v1 : Int32) (v2 : Int32) (v3 : Int32) : wpX_rivals (fun r => wpY_rivals (fun r' => r' = r ∧ i_Rel (k + 4) u v) v v1 v2 v3) u v1 v2 v3 := by
  obtain ⟨M, lev, R, W, V, R', W', rfl, rfl, h⟩ := I
  unfold wpX_rivals wpY_rivals
  dsimp only
  rcases tc_cc v1 4 (by decide) with hv | ⟨c, hc, rfl⟩
  · exact xw_ncore hv (br_t rfl (yw_ncore hv (br_t rfl ⟨rfl, tc_rel h⟩)))
  rcases tc_cc v2 16 (by decide) with hv | ⟨x, hx, rfl⟩
  · exact xw_core hc (br_f tc_10 (xw_ncell hv (br_t rfl (yw_core hc (br_f tc_10 (yw_ncell hv (br_t rfl ⟨rfl, tc_rel h⟩)))))))
  refine xw_core hc (br_f tc_10 (xw_cell hx (br_f tc_10 ?_)))
  by_cases z0 : v3 = 0
  · subst z0
    refine br_t rfl ?_
    unfold wX_rivals_27
    refine xw_riv false (by decide) hc hx (yw_core hc (br_f tc_10 (yw_cell hx (br_f tc_10 (br_t rfl ?_)))))
    unfold wY_rivals_25 wY_rivals_37
    exact br_t rfl (yw_oth false (by decide) h hc hx ⟨rfl, tc_rel h⟩)
  · by_cases z1 : v3 = 1
    · subst z1
      refine br_f z0 (br_t rfl ?_)
      unfold wX_rivals_27
      refine xw_riv true (by decide) hc hx (yw_core hc (br_f tc_10 (yw_cell hx (br_f tc_10 (br_f z0 (br_t rfl ?_))))))
      unfold wY_rivals_25 wY_rivals_37
      exact br_f z0 (yw_oth true (by decide) h hc hx ⟨rfl, tc_rel h⟩)
    · exact br_f z0 (br_f z1 (yw_core hc (br_f tc_10 (yw_cell hx (br_f tc_10 (br_f z0 (br_f z1 ⟨rfl, tc_rel h⟩)))))))
theorem i_vc_digest {k : Nat} {u : SX} {v : SY} (I : i_Rel k u v) (hk : k + 4 ≤ 2048) : wpX_digest (fun r => wpY_digest (fun r' => r' = r ∧ i_Rel (k + 4) u v) v) u := by
  obtain ⟨M, lev, R, W, V, R', W', rfl, rfl, h⟩ := I
  exact xw_dig (yw_dig ⟨rfl, tc_rel h⟩)
end
section
/-! what is owed: end, giveAllUp -/
theorem i_vc_end {k : Nat} {u : SX} {v : SY} (I : i_Rel k u v) (hk : k + 4 ≤ 2048) (v1 : Int32) : wpX_end (fun r u' => wpY_end (fun r' v' => r' = r ∧ i_Rel (k + 4) u' v') v v1) u v1 := by
  obtain ⟨M, lev, R, W, V, R', W', rfl, rfl, h⟩ := I
  unfold wpX_end
  dsimp only
  rcases tc_cc v1 4 (by decide) with hv | ⟨c, hc, rfl⟩
  · refine xw_ncore hv (br_t rfl ?_)
    unfold wpY_end
    exact yw_ncore hv (br_t rfl ⟨rfl, tc_rel h⟩)
  obtain ⟨L, hC⟩ := h c hc
  have hl := hC.2.1
  have hL := hC.1
  have ic : vp_in (nI c) 4 := vp_in_nI hc (by decide)
  refine xw_core hc (br_f tc_10 ⟨ic, ?_⟩)
  rw [nI_clamp (show c < 2 ^ 31 by omega), hl]
  cases L with
  | zero =>
    refine br_t rfl ?_
    unfold wpY_end
    dsimp only
    refine yw_core hc (br_f tc_10 ⟨ic, ?_⟩)
    rw [nI_clamp (show c < 2 ^ 31 by omega), hl]
    exact br_t rfl ⟨rfl, tc_rel h⟩
  | succ L =>
    refine br_f (nI_ne0 (by omega) (by omega)) ⟨ic, ?_⟩
    have cl := nI_clamp (show c < 2 ^ 31 by omega)
    by_cases h0 : L = 0
    · subst h0
      have ew : W' (4 * c + 1) = W (4 * c + 1) := (hC.2.2.1 1 (by omega) (by omega)).2
      refine br_t rfl (xw_commit hc hL hl ?_)
      unfold wX_end_41
      refine xw_drop hc hL hl ⟨ic, ?_⟩
      dsimp only
      rw [cl, pk_us]
      refine yw_end1 hc hl ⟨rfl, ?_⟩
      rw [ew]
      exact tc_rel (tc_drop h hC)
    · have h1 : 1 ≤ L := by omega
      have ew : W' (4 * c + (L + 1)) = W (4 * c + (L + 1)) := (hC.2.2.1 (L + 1) (by omega) (by omega)).2
      refine br_f (fun z => ?_) (xw_hand hc hL hl ?_)
      · have := (nI_eq (b := 1) (by omega) (by decide)).mp z
        omega
      · unfold wX_end_41
        refine xw_drop hc hL hl ⟨ic, ?_⟩
        dsimp only
        rw [cl, pk_us]
        refine yw_end2 hc h1 hL hl (fun W2 w1 w2 => ⟨rfl, ?_⟩)
        rw [ew]
        exact tc_rel (tc_end2 h hC h1 w1 w2)
theorem xw_all {post : Int32 → SX → Prop} {M lev R W V R' W' : Nat → Int32} {c L : Nat} (h : tc_Ok lev R W R' W') (hc : c < 4) (hL : L ≤ 3) (hl : lev c = nI L)
    (hp : ∀ R2 W2 : Nat → Int32, tc_Ok (upd lev c 0) R2 W2 R' W' → post (nI L) (M, upd lev c 0, R2, W2, V)) : ∃ n, wX_giveAllUp_18 post (nI c) (nI L) n 0 M lev R W V := by
  refine loop_0 (σ := (Nat → Int32) × (Nat → Int32) × (Nat → Int32)) (fun n i s => wX_giveAllUp_18 post (nI c) (nI L) n (nI i) M s.1 s.2.1 s.2.2 V)
    (fun i s => s.1 = upd lev c (nI (L - i)) ∧ tc_Ok s.1 s.2.1 s.2.2 R' W') L (lev, R, W) ⟨by rw [Nat.sub_zero, ← hl, tc_uu], h⟩ ?_ ?_
  · rintro n ⟨lv, R2, W2⟩ ⟨e1, e2⟩
    dsimp only at e1 e2
    rw [Nat.sub_self] at e1
    subst e1
    exact br_t (nI_le (Nat.le_refl L) (by omega)) (hp R2 W2 e2)
  · rintro n i ⟨lv, R2, W2⟩ hi ⟨e1, e2⟩ ih
    dsimp only at e1 e2
    obtain ⟨m, hm⟩ : ∃ m, L - i = m + 1 := ⟨L - i - 1, by omega⟩
    rw [hm] at e1
    have el : lv c = nI (m + 1) := by rw [e1, pk_us]
    have eC := tc_lev e2 hc el (by omega)
    have hd := tc_drop e2 eC
    refine br_f (nI_ge hi (by omega)) (xw_drop hc (by omega) el (nm_r (nI_1 i) (ih (upd lv c (nI m), upd R2 (4 * c + (m + 1)) 0, upd W2 (4 * c + (m + 1)) 0) ⟨?_, hd⟩)))
    show upd lv c (nI m) = upd lev c (nI (L - (i + 1)))
    rw [e1, tc_u2, show L - (i + 1) = m by omega]
theorem i_vc_giveAllUp {k : Nat} {u : SX} {v : SY} (I : i_Rel k u v) (hk : k + 4 ≤ 2048) (v1 : Int32) : wpX_giveAllUp (fun r u' => wpY_giveAllUp (fun r' v' => r' = r ∧ i_Rel (k + 4) u' v') v v1) u v1 := by
  obtain ⟨M, lev, R, W, V, R', W', rfl, rfl, h⟩ := I
  unfold wpX_giveAllUp wpY_giveAllUp
  dsimp only
  rcases tc_cc v1 4 (by decide) with hv | ⟨c, hc, rfl⟩
  · exact xw_ncore hv (br_t rfl (yw_ncore hv (br_t rfl ⟨rfl, tc_rel h⟩)))
  obtain ⟨L, hC⟩ := h c hc
  have hl := hC.2.1
  have hL := hC.1
  have ic : vp_in (nI c) 4 := vp_in_nI hc (by decide)
  refine xw_core hc (br_f tc_10 ⟨ic, ?_⟩)
  rw [nI_clamp (show c < 2 ^ 31 by omega), hl]
  exact nm_e (xw_all h hc hL hl (fun R2 W2 h2 => yw_core hc (br_f tc_10 ⟨ic, nm_e ⟨ic, nm_e ⟨rfl, tc_rel h2⟩⟩⟩)))
end
