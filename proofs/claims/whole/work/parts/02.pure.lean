/-! pure rows of this claim: one bit, sets over rows, rivals, the value seen, the digest, commit and handing down -/
def tc_one (x : Nat) : Int32 := (1 : Int32) <<< (nI x &&& 31)
theorem tc_oneB : ∀ x, x < 32 → ∀ i, i < 32 → bt (tc_one x) i = decide (i = x) := by decide +kernel
theorem tc_1B : ∀ i, i < 32 → bt (1 : Int32) i = decide (i = 0) := by decide +kernel
theorem tc_nf {b : Bool} (h : ¬ b = true) : b = false := by cases b <;> first | rfl | exact absurd rfl h
theorem tc_nt {b : Bool} (h : ¬ b = false) : b = true := by cases b <;> first | rfl | exact absurd rfl h
theorem tc_tf {b : Bool} (h : b = true) : ¬ b = false := by rw [h]; decide
theorem tc_ft {b : Bool} (h : b = false) : ¬ b = true := by rw [h]; decide
/-- X's test of a bit -/
theorem tc_xbit (w : Int32) {x : Nat} (hx : x < 32) : (w &&& ((1 : Int32) <<< (nI x &&& 31))) = 0 ↔ bt w x = false := by
  constructor
  · intro h
    have t := b_and w (tc_one x) x
    rw [show w &&& tc_one x = 0 from h, b_0, tc_oneB x hx x hx] at t
    simpa using t.symm
  · intro h
    apply b_ext
    intro i hi
    rw [b_and, b_0, show bt ((1 : Int32) <<< (nI x &&& 31)) i = decide (i = x) from tc_oneB x hx i hi]
    by_cases e : i = x
    · subst e
      rw [h, Bool.false_and]
    · rw [decide_eq_false e, Bool.and_false]
/-- Y's test of a bit -/
theorem tc_ybit (w : Int32) {x : Nat} (hx : x < 32) : ((w >>> (nI x &&& 31)) &&& 1) = 1 ↔ bt w x = true := by
  constructor
  · intro h
    have t := b_and (w >>> (nI x &&& 31)) 1 0
    rw [h, tc_1B 0 (by omega), b_sshr x hx w (by omega), if_pos (by omega), Nat.add_zero] at t
    simpa using t.symm
  · intro h
    apply b_ext
    intro i hi
    rw [b_and, tc_1B i hi]
    by_cases e : i = 0
    · subst e
      rw [b_sshr x hx w hi, if_pos (by omega), Nat.add_zero, h, Bool.true_and]
    · rw [decide_eq_false e, Bool.and_false]
theorem tc_uu (f : Nat → Int32) (k : Nat) : upd f k (f k) = f := by
  funext j
  by_cases e : j = k
  · subst e
    exact pk_us
  · exact pk_un e
theorem tc_u2 (f : Nat → Int32) (k : Nat) (a b : Int32) : upd (upd f k a) k b = upd f k b := by
  funext j
  by_cases e : j = k
  · subst e
    rw [pk_us, pk_us]
  · rw [pk_un e, pk_un e, pk_un e]
/-- the set of the rows b .. b + n - 1 -/
def tc_or (f : Nat → Int32) (b : Nat) : Nat → Int32
  | 0 => 0
  | n + 1 => tc_or f b n ||| f (b + n)
theorem tc_orXY {R R' : Nat → Int32} {c L : Nat} (hL : L ≤ 3) (ha : ∀ l, 1 ≤ l → l ≤ L → R' (4 * c + l) = R (4 * c + l)) (hz : ∀ l, l < 4 → (l = 0 ∨ L < l) → R (4 * c + l) = 0) : tc_or R (4 * c) 4 = tc_or R' (4 * c + 1) L := by
  have z0 := hz 0 (by omega) (Or.inl rfl)
  rcases (by omega : L = 0 ∨ L = 1 ∨ L = 2 ∨ L = 3) with rfl | rfl | rfl | rfl
  · have z1 := hz 1 (by omega) (Or.inr (by omega))
    have z2 := hz 2 (by omega) (Or.inr (by omega))
    have z3 := hz 3 (by omega) (Or.inr (by omega))
    show (((0 ||| R (4 * c + 0)) ||| R (4 * c + 1)) ||| R (4 * c + 2)) ||| R (4 * c + 3) = 0
    rw [z0, z1, z2, z3]
    decide
  · have a1 := ha 1 (by omega) (by omega)
    have z2 := hz 2 (by omega) (Or.inr (by omega))
    have z3 := hz 3 (by omega) (Or.inr (by omega))
    show (((0 ||| R (4 * c + 0)) ||| R (4 * c + 1)) ||| R (4 * c + 2)) ||| R (4 * c + 3) = 0 ||| R' (4 * c + 1)
    rw [z0, z2, z3, a1]
    simp
  · have a1 := ha 1 (by omega) (by omega)
    have a2 := ha 2 (by omega) (by omega)
    have z3 := hz 3 (by omega) (Or.inr (by omega))
    show (((0 ||| R (4 * c + 0)) ||| R (4 * c + 1)) ||| R (4 * c + 2)) ||| R (4 * c + 3) = (0 ||| R' (4 * c + 1)) ||| R' (4 * c + 2)
    rw [z0, z3, a1, a2]
    simp
  · have a1 := ha 1 (by omega) (by omega)
    have a2 := ha 2 (by omega) (by omega)
    have a3 := ha 3 (by omega) (by omega)
    show (((0 ||| R (4 * c + 0)) ||| R (4 * c + 1)) ||| R (4 * c + 2)) ||| R (4 * c + 3) = ((0 ||| R' (4 * c + 1)) ||| R' (4 * c + 2)) ||| R' (4 * c + 3)
    rw [z0, a1, a2, a3]
    simp
/-- the cores other than c, below n, whose set g has cell x -/
def tc_riv (g : Nat → Int32) (c x : Nat) : Nat → Int32
  | 0 => 0
  | d + 1 => if d ≠ c ∧ bt (g d) x = true then tc_riv g c x d ||| tc_one d else tc_riv g c x d
theorem tc_rivE {g g' : Nat → Int32} {c x : Nat} : ∀ {n : Nat}, (∀ d, d < n → g d = g' d) → tc_riv g c x n = tc_riv g' c x n
  | 0, _ => rfl
  | n + 1, h => by
    have ih := tc_rivE (g := g) (g' := g') (c := c) (x := x) (n := n) (fun d hd => h d (by omega))
    simp only [tc_riv]
    rw [ih, h n (by omega)]
theorem tc_riv0 {g : Nat → Int32} {c x : Nat} : ∀ {n : Nat}, (∀ d, d < n → d ≠ c → bt (g d) x = false) → tc_riv g c x n = 0
  | 0, _ => rfl
  | n + 1, h => by
    simp only [tc_riv]
    rw [if_neg (fun z => tc_ft (h n (by omega) z.1) z.2)]
    exact tc_riv0 (fun d hd => h d (by omega))
theorem tc_rivN {g : Nat → Int32} {c x : Nat} : ∀ {n : Nat}, n ≤ 32 → tc_riv g c x n = 0 → ∀ d, d < n → d ≠ c → bt (g d) x = false
  | 0, _, _ => fun d hd => by omega
  | n + 1, hn, h => by
    simp only [tc_riv] at h
    by_cases q : n ≠ c ∧ bt (g n) x = true
    · rw [if_pos q] at h
      have t := b_or (tc_riv g c x n) (tc_one n) n
      rw [h, b_0, tc_oneB n (by omega) n (by omega)] at t
      simp at t
    · rw [if_neg q] at h
      intro d hd hdc
      by_cases e : d = n
      · subst e
        exact tc_nf (fun z => q ⟨hdc, z⟩)
      · exact tc_rivN (by omega) h d (by omega) hdc
/-- the value that core c sees in cell x from level n downwards -/
def tc_see (W V M : Nat → Int32) (c x : Nat) : Nat → Int32
  | 0 => M x
  | l + 1 => if bt (W (4 * c + (l + 1))) x = true then V ((4 * c + (l + 1)) * 16 + x) else tc_see W V M c x l
theorem tc_seeE {W W' V M : Nat → Int32} {c x : Nat} : ∀ {n : Nat}, (∀ l, 1 ≤ l → l ≤ n → W' (4 * c + l) = W (4 * c + l)) → tc_see W' V M c x n = tc_see W V M c x n
  | 0, _ => rfl
  | n + 1, h => by
    have ih := tc_seeE (W := W) (W' := W') (V := V) (M := M) (c := c) (x := x) (n := n) (fun l h1 h2 => h l h1 (by omega))
    simp only [tc_see]
    rw [ih, h (n + 1) (by omega) (by omega)]
def tc_dig (M : Nat → Int32) : Nat → Int32
  | 0 => 0
  | n + 1 => tc_dig M n + M n * nI (n + 1)
/-- the cells below n of the set w -/
def tc_mk (w : Int32) : Nat → Int32
  | 0 => 0
  | n + 1 => if bt w n = true then tc_mk w n ||| tc_one n else tc_mk w n
theorem tc_mkB (w : Int32) : ∀ n, n ≤ 32 → ∀ i, i < 32 → bt (tc_mk w n) i = (decide (i < n) && bt w i)
  | 0, _, i, _ => by
    show bt 0 i = _
    rw [b_0, decide_eq_false (by omega), Bool.false_and]
  | n + 1, hn, i, hi => by
    have ih := tc_mkB w n (by omega) i hi
    simp only [tc_mk]
    by_cases q : bt w n = true
    · rw [if_pos q, b_or, ih, tc_oneB n (by omega) i hi]
      by_cases e : i = n
      · subst e
        rw [q, decide_eq_true (rfl : i = i), decide_eq_true (show i < i + 1 by omega)]
        simp
      · rw [decide_eq_false e, Bool.or_false]
        by_cases l : i < n
        · rw [decide_eq_true l, decide_eq_true (show i < n + 1 by omega)]
        · rw [decide_eq_false l, decide_eq_false (show ¬ i < n + 1 by omega)]
    · rw [if_neg q, ih]
      by_cases e : i = n
      · subst e
        rw [tc_nf q, Bool.and_false, Bool.and_false]
      · by_cases l : i < n
        · rw [decide_eq_true l, decide_eq_true (show i < n + 1 by omega)]
        · rw [decide_eq_false l, decide_eq_false (show ¬ i < n + 1 by omega)]
/-- a set of cells: nothing beyond cell 15 -/
def tc_16 (w : Int32) : Prop := ∀ i, 16 ≤ i → i < 32 → bt w i = false
theorem tc_16_0 : tc_16 0 := fun i _ _ => b_0 i
theorem tc_16_or {a b : Int32} (ha : tc_16 a) (hb : tc_16 b) : tc_16 (a ||| b) := fun i h1 h2 => by
  rw [b_or, ha i h1 h2, hb i h1 h2]
  rfl
theorem tc_16_one {x : Nat} (hx : x < 16) : tc_16 (tc_one x) := fun i h1 h2 => by
  rw [tc_oneB x (by omega) i h2]
  exact decide_eq_false (by omega)
theorem tc_mk16 {w : Int32} (h : tc_16 w) : tc_mk w 16 = w := by
  apply b_ext
  intro i hi
  rw [tc_mkB w 16 (by omega) i hi]
  by_cases l : i < 16
  · rw [decide_eq_true l, Bool.true_and]
  · rw [decide_eq_false l, Bool.false_and, h i (by omega) hi]
/-- the memory when the cells below n of the set w are committed from the values at b -/
def tc_cm (w : Int32) (V M : Nat → Int32) (b n : Nat) : Nat → Int32 := fun j => if j < n ∧ bt w j = true then V (b + j) else M j
theorem tc_cm0 (w : Int32) (V M : Nat → Int32) (b : Nat) : tc_cm w V M b 0 = M := by
  funext j
  exact if_neg (fun z => absurd z.1 (Nat.not_lt_zero j))
theorem tc_cmT {w : Int32} {V M : Nat → Int32} {b n : Nat} (h : bt w n = true) : upd (tc_cm w V M b n) n (V (b + n)) = tc_cm w V M b (n + 1) := by
  funext j
  show (if j = n then V (b + n) else if j < n ∧ bt w j = true then V (b + j) else M j) = if j < n + 1 ∧ bt w j = true then V (b + j) else M j
  by_cases e : j = n
  · subst e
    rw [if_pos rfl, if_pos ⟨Nat.lt_succ_self _, h⟩]
  · rw [if_neg e]
    by_cases q : j < n ∧ bt w j = true
    · rw [if_pos q, if_pos ⟨Nat.lt_succ_of_lt q.1, q.2⟩]
    · rw [if_neg q, if_neg (fun z => q ⟨by have := z.1; omega, z.2⟩)]
theorem tc_cmF {w : Int32} {V M : Nat → Int32} {b n : Nat} (h : bt w n = false) : tc_cm w V M b n = tc_cm w V M b (n + 1) := by
  funext j
  show (if j < n ∧ bt w j = true then V (b + j) else M j) = if j < n + 1 ∧ bt w j = true then V (b + j) else M j
  by_cases q : j < n ∧ bt w j = true
  · rw [if_pos q, if_pos ⟨Nat.lt_succ_of_lt q.1, q.2⟩]
  · rw [if_neg q, if_neg]
    intro z
    by_cases e : j = n
    · subst e
      exact tc_ft h z.2
    · exact q ⟨by have := z.1; omega, z.2⟩
/-- the values when the cells below n of the set w are handed down from b + 16 to b -/
def tc_hd (w : Int32) (V : Nat → Int32) (b n : Nat) : Nat → Int32 := fun j => if (b ≤ j ∧ j < b + n) ∧ bt w (j - b) = true then V (j + 16) else V j
theorem tc_hd0 (w : Int32) (V : Nat → Int32) (b : Nat) : tc_hd w V b 0 = V := by
  funext j
  exact if_neg (fun z => by have := z.1; omega)
theorem tc_hdR {w : Int32} {V : Nat → Int32} {b n j : Nat} (h : b + n ≤ j) : tc_hd w V b n j = V j := if_neg (fun z => by have := z.1; omega)
theorem tc_hdT {w : Int32} {V : Nat → Int32} {b n : Nat} (h : bt w n = true) : upd (tc_hd w V b n) (b + n) (V (b + n + 16)) = tc_hd w V b (n + 1) := by
  funext j
  show (if j = b + n then V (b + n + 16) else if (b ≤ j ∧ j < b + n) ∧ bt w (j - b) = true then V (j + 16) else V j) = if (b ≤ j ∧ j < b + (n + 1)) ∧ bt w (j - b) = true then V (j + 16) else V j
  by_cases e : j = b + n
  · subst e
    rw [if_pos rfl, if_pos ⟨by omega, by rw [Nat.add_sub_cancel_left]; exact h⟩]
  · rw [if_neg e]
    by_cases q : (b ≤ j ∧ j < b + n) ∧ bt w (j - b) = true
    · rw [if_pos q, if_pos ⟨by have := q.1; omega, q.2⟩]
    · rw [if_neg q, if_neg (fun z => q ⟨by have := z.1; omega, z.2⟩)]
theorem tc_hdF {w : Int32} {V : Nat → Int32} {b n : Nat} (h : bt w n = false) : tc_hd w V b n = tc_hd w V b (n + 1) := by
  funext j
  show (if (b ≤ j ∧ j < b + n) ∧ bt w (j - b) = true then V (j + 16) else V j) = if (b ≤ j ∧ j < b + (n + 1)) ∧ bt w (j - b) = true then V (j + 16) else V j
  by_cases q : (b ≤ j ∧ j < b + n) ∧ bt w (j - b) = true
  · rw [if_pos q, if_pos ⟨by have := q.1; omega, q.2⟩]
  · rw [if_neg q, if_neg]
    intro z
    by_cases e : j = b + n
    · subst e
      rw [Nat.add_sub_cancel_left] at z
      exact tc_ft h z.2
    · exact q ⟨by have := z.1; omega, z.2⟩
theorem tc_rivQ {g : Nat → Int32} {c x i : Nat} (e : i = c) : tc_riv g c x i = tc_riv g c x (i + 1) := by
  simp only [tc_riv]
  rw [if_neg (fun z => z.1 e)]
theorem tc_rivT {g : Nat → Int32} {c x i : Nat} (e : ¬ i = c) (b : bt (g i) x = true) : tc_riv g c x i ||| tc_one i = tc_riv g c x (i + 1) := by
  simp only [tc_riv]
  rw [if_pos ⟨e, b⟩]
theorem tc_rivF {g : Nat → Int32} {c x i : Nat} (b : ¬ bt (g i) x = true) : tc_riv g c x i = tc_riv g c x (i + 1) := by
  simp only [tc_riv]
  rw [if_neg (fun z => b z.2)]
theorem tc_mkT {w : Int32} {n : Nat} (b : bt w n = true) : tc_mk w (n + 1) = tc_mk w n ||| tc_one n := by
  simp only [tc_mk]
  rw [if_pos b]
theorem tc_mkF {w : Int32} {n : Nat} (b : ¬ bt w n = true) : tc_mk w (n + 1) = tc_mk w n := by
  simp only [tc_mk]
  rw [if_neg b]
theorem tc_seeT {W V M : Nat → Int32} {c x l : Nat} (b : bt (W (4 * c + (l + 1))) x = true) : tc_see W V M c x (l + 1) = V ((4 * c + (l + 1)) * 16 + x) := by
  simp only [tc_see]
  rw [if_pos b]
theorem tc_seeF {W V M : Nat → Int32} {c x l : Nat} (b : ¬ bt (W (4 * c + (l + 1))) x = true) : tc_see W V M c x (l + 1) = tc_see W V M c x l := by
  simp only [tc_see]
  rw [if_neg b]
