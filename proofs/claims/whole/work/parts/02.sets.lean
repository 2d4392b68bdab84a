/-- a set of states: no bit from 8 up -/
def cm_sm (x : Int32) : Prop := ∀ i, 8 ≤ i → bt x i = false
theorem cm_ext {x y : Int32} (hx : cm_sm x) (hy : cm_sm y) (h : ∀ i, i < 8 → (bt x i = true ↔ bt y i = true)) : x = y := by
  refine b_ext fun i _ => ?_
  rcases Nat.lt_or_ge i 8 with h8 | h8
  · have := h i h8
    cases hb : bt x i <;> cases hc : bt y i <;> simp_all
  · rw [hx i h8, hy i h8]
theorem cm_0 : cm_sm 0 := fun i _ => b_0 i
theorem cm_255 : cm_sm 255 := fun i hi => by rw [b_255, decide_eq_false (by omega)]
theorem cm_or {x y : Int32} (hx : cm_sm x) (hy : cm_sm y) : cm_sm (x ||| y) := fun i hi => by rw [b_or, hx i hi, hy i hi]; rfl
theorem cm_and {x y : Int32} (hx : cm_sm x) : cm_sm (x &&& y) := fun i hi => by rw [b_and, hx i hi]; rfl
theorem cm_and' {x y : Int32} (hy : cm_sm y) : cm_sm (x &&& y) := fun i hi => by rw [b_and, hy i hi, Bool.and_false]
theorem cm_b1 : ∀ j, j < 32 → bt 1 j = decide (j = 0) := by decide +kernel
theorem cm_one {b : Nat} (hb : b < 8) (i : Nat) : bt ((1 : Int32) <<< (nI b &&& 31)) i = decide (i = b) := by
  rcases Nat.lt_or_ge i 32 with hi | hi
  · rw [b_shl b (by omega) 1 hi, cm_b1 (i - b) (by omega)]
    by_cases e : i = b
    · subst e; simp
    · by_cases l : b ≤ i
      · simp [e, l, show ¬ i - b = 0 by omega]
      · simp [e, l]
  · rw [b_big hi, decide_eq_false (by omega)]
theorem cm_one_sm {b : Nat} (hb : b < 8) : cm_sm ((1 : Int32) <<< (nI b &&& 31)) := fun i hi => by
  rw [cm_one hb, decide_eq_false (by omega)]
theorem cm_not (x : Int32) {i : Nat} (hi : i < 32) : bt (x ^^^ (-1)) i = !bt x i := by
  rw [b_xor, b_m1 i hi, Bool.xor_true]
theorem cm_has (x : Int32) {b : Nat} (hb : b < 8) : (x >>> (nI b &&& 31)) &&& 1 = 0 ↔ bt x b = false := by
  constructor
  · intro h
    have h1 : bt ((x >>> (nI b &&& 31)) &&& 1) 0 = false := by rw [h]; exact b_0 0
    rw [b_and, b_sshr b (by omega) x (by omega), cm_b1 0 (by omega), if_pos (by omega)] at h1
    simpa using h1
  · intro h
    refine b_ext fun i hi => ?_
    rw [b_and, b_sshr b (by omega) x hi, cm_b1 i hi, b_0]
    by_cases e : i = 0
    · subst e
      rw [if_pos (by omega)]
      simpa using h
    · simp [e]
theorem cm_has1 (x : Int32) {b : Nat} (hb : b < 8) (h : bt x b = true) : (x >>> (nI b &&& 31)) &&& 1 = 1 := by
  refine b_ext fun i hi => ?_
  rw [b_and, b_sshr b (by omega) x hi, cm_b1 i hi]
  by_cases e : i = 0
  · subst e
    rw [if_pos (by omega)]
    simpa using h
  · simp [e]
theorem cm_has0 (x : Int32) {b : Nat} (hb : b < 8) (h : bt x b = false) : (x >>> (nI b &&& 31)) &&& 1 = 0 := (cm_has x hb).mpr h
/-- x holds nothing outside y -/
theorem cm_sub {x y : Int32} (hx : cm_sm x) : x &&& (y ^^^ (-1)) = 0 ↔ ∀ d, d < 8 → bt x d = true → bt y d = true := by
  constructor
  · intro h d hd hb
    have h1 : bt (x &&& (y ^^^ (-1))) d = false := by rw [h]; exact b_0 d
    rw [b_and, cm_not y (by omega), hb] at h1
    simpa using h1
  · intro h
    refine cm_ext (cm_and hx) cm_0 fun i hi => ?_
    rw [b_and, cm_not y (by omega), b_0]
    have := h i hi
    cases hb : bt x i <;> cases hc : bt y i <;> simp_all
/-- x and y have nothing in common -/
theorem cm_dis {x y : Int32} (hx : cm_sm x) : x &&& y = 0 ↔ ∀ d, d < 8 → bt x d = true → ¬ bt y d = true := by
  constructor
  · intro h d hd hb hc
    have h1 : bt (x &&& y) d = false := by rw [h]; exact b_0 d
    rw [b_and, hb, hc] at h1
    exact absurd h1 (by decide)
  · intro h
    refine cm_ext (cm_and hx) cm_0 fun i hi => ?_
    rw [b_and, b_0]
    have := h i hi
    cases hb : bt x i <;> cases hc : bt y i <;> simp_all
theorem cm_put {x : Int32} {b : Nat} (hb : b < 8) (i : Nat) : bt (x ||| ((1 : Int32) <<< (nI b &&& 31))) i = true ↔ bt x i = true ∨ i = b := by
  rw [b_or, cm_one hb]; simp
theorem cm_del {x : Int32} {b : Nat} (hb : b < 8) {i : Nat} (hi : i < 8) : bt (x &&& (((1 : Int32) <<< (nI b &&& 31)) ^^^ (-1))) i = true ↔ bt x i = true ∧ i ≠ b := by
  rw [b_and, cm_not _ (by omega), cm_one hb]; simp
/-- what a holds below its own bit: (1 << a) - 1 -/
theorem cm_low : ∀ a, a < 8 → ∀ i, i < 32 → bt (((1 : Int32) <<< (nI a &&& 31)) - 1) i = decide (i < a) := by decide +kernel
theorem cm_low_sm {a : Nat} (ha : a < 8) : cm_sm (((1 : Int32) <<< (nI a &&& 31)) - 1) := by
  intro i hi
  rcases Nat.lt_or_ge i 32 with h | h
  · rw [cm_low a ha i h, decide_eq_false (by omega)]
  · exact b_big h
