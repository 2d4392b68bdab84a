/-- the set x is P -/
def cm_P (x : Int32) (P : Nat → Prop) : Prop := cm_sm x ∧ ∀ b, b < 8 → (bt x b = true ↔ P b)
theorem cm_P_u {x y : Int32} {P Q : Nat → Prop} (h : cm_P x P) (h' : cm_P y Q) (e : ∀ b, b < 8 → (P b ↔ Q b)) : x = y :=
  cm_ext h.1 h'.1 fun i hi => (h.2 i hi).trans ((e i hi).trans (h'.2 i hi).symm)
theorem cm_P_e {x y : Int32} {P Q : Nat → Prop} (h : cm_P x P) (h' : cm_P y Q) : x = y ↔ ∀ b, b < 8 → (P b ↔ Q b) := by
  refine ⟨?_, cm_P_u h h'⟩
  intro e b hb
  subst e
  exact (h.2 b hb).symm.trans (h'.2 b hb)
theorem cm_P_c {x : Int32} {P Q : Nat → Prop} (h : cm_P x P) (e : ∀ b, b < 8 → (P b ↔ Q b)) : cm_P x Q :=
  ⟨h.1, fun b hb => (h.2 b hb).trans (e b hb)⟩
theorem cm_P_or {x y : Int32} {P Q : Nat → Prop} (h : cm_P x P) (h' : cm_P y Q) : cm_P (x ||| y) (fun b => P b ∨ Q b) := by
  refine ⟨cm_or h.1 h'.1, fun b hb => ?_⟩
  rw [b_or, Bool.or_eq_true]
  exact or_congr (h.2 b hb) (h'.2 b hb)
theorem cm_P_one {b : Nat} (hb : b < 8) : cm_P ((1 : Int32) <<< (nI b &&& 31)) (fun i => i = b) := by
  refine ⟨cm_one_sm hb, fun i _ => ?_⟩
  rw [cm_one hb]
  exact decide_eq_true_iff
theorem cm_P_put {x : Int32} {P : Nat → Prop} {b : Nat} (h : cm_P x P) (hb : b < 8) : cm_P (x ||| ((1 : Int32) <<< (nI b &&& 31))) (fun i => P i ∨ i = b) :=
  cm_P_or h (cm_P_one hb)
theorem cm_P_del {x : Int32} {P : Nat → Prop} {b : Nat} (h : cm_P x P) (hb : b < 8) : cm_P (x &&& (((1 : Int32) <<< (nI b &&& 31)) ^^^ (-1))) (fun i => P i ∧ i ≠ b) := by
  refine ⟨cm_and h.1, fun i hi => ?_⟩
  rw [cm_del hb hi]
  exact and_congr (h.2 i hi) Iff.rfl
theorem cm_P_0 : cm_P 0 (fun _ => False) := ⟨cm_0, fun b _ => by rw [b_0]; exact ⟨fun z => absurd z (by decide), fun z => False.elim z⟩⟩
theorem cm_P_255 : cm_P 255 (fun _ => True) := ⟨cm_255, fun b hb => by rw [b_255]; exact ⟨fun _ => True.intro, fun _ => decide_eq_true hb⟩⟩
theorem cm_P_n {x : Int32} {P : Nat → Prop} {b : Nat} (h : cm_P x P) (hb : b < 8) (n : ¬ P b) : (x >>> (nI b &&& 31)) &&& 1 = 0 := by
  refine cm_has0 x hb ?_
  cases e : bt x b
  · rfl
  · exact absurd ((h.2 b hb).mp e) n
theorem cm_P_y {x : Int32} {P : Nat → Prop} {b : Nat} (h : cm_P x P) (hb : b < 8) (p : P b) : (x >>> (nI b &&& 31)) &&& 1 = 1 :=
  cm_has1 x hb ((h.2 b hb).mpr p)
theorem cm_10 : ¬ (1 : Int32) = 0 := by decide
theorem cm_01 : ¬ (0 : Int32) = 1 := by decide
/-- a branch on a bit that is asked to be 0 -/
theorem cm_b0 {x : Int32} {P : Nat → Prop} {b : Nat} {A B : Prop} (h : cm_P x P) (hb : b < 8) (f : ¬ P b → A) (g : P b → B) : ((x >>> (nI b &&& 31)) &&& 1 = 0 → A) ∧ (¬ (x >>> (nI b &&& 31)) &&& 1 = 0 → B) := by
  by_cases p : P b
  · rw [cm_P_y h hb p]
    exact br_f cm_10 (g p)
  · rw [cm_P_n h hb p]
    exact br_t rfl (f p)
/-- a branch on a bit that is asked to be 1 -/
theorem cm_b1' {x : Int32} {P : Nat → Prop} {b : Nat} {A B : Prop} (h : cm_P x P) (hb : b < 8) (f : P b → A) (g : ¬ P b → B) : ((x >>> (nI b &&& 31)) &&& 1 = 1 → A) ∧ (¬ (x >>> (nI b &&& 31)) &&& 1 = 1 → B) := by
  by_cases p : P b
  · rw [cm_P_y h hb p]
    exact br_t rfl (f p)
  · rw [cm_P_n h hb p]
    exact br_f cm_01 (g p)
theorem cm_P_sub {x y : Int32} {P Q : Nat → Prop} (h : cm_P x P) (h' : cm_P y Q) : x &&& (y ^^^ (-1)) = 0 ↔ ∀ d, d < 8 → P d → Q d := by
  rw [cm_sub h.1]
  exact ⟨fun z d hd p => (h'.2 d hd).mp (z d hd ((h.2 d hd).mpr p)), fun z d hd p => (h'.2 d hd).mpr (z d hd ((h.2 d hd).mp p))⟩
theorem cm_P_dis {x y : Int32} {P Q : Nat → Prop} (h : cm_P x P) (h' : cm_P y Q) : x &&& y = 0 ↔ ∀ d, d < 8 → P d → ¬ Q d := by
  rw [cm_dis h.1]
  exact ⟨fun z d hd p q => z d hd ((h.2 d hd).mpr p) ((h'.2 d hd).mpr q), fun z d hd p q => z d hd ((h.2 d hd).mp p) ((h'.2 d hd).mp q)⟩
theorem cm_P_low {a : Nat} (ha : a < 8) : cm_P (((1 : Int32) <<< (nI a &&& 31)) - 1) (fun i => i < a) := by
  refine ⟨cm_low_sm ha, fun i hi => ?_⟩
  rw [cm_low a ha i (by omega)]
  exact decide_eq_true_iff
/-- all but x: 255 & ~x -/
theorem cm_P_rest {x : Int32} {P : Nat → Prop} (h : cm_P x P) : cm_P (255 &&& (x ^^^ (-1))) (fun i => ¬ P i) := by
  refine ⟨cm_and cm_255, fun i hi => ?_⟩
  rw [b_and, b_255, decide_eq_true hi, Bool.true_and, cm_not x (by omega)]
  have := h.2 i hi
  cases e : bt x i
  · rw [e] at this
    exact ⟨fun _ p => absurd (this.mpr p) (by decide), fun _ => rfl⟩
  · rw [e] at this
    exact ⟨fun z => absurd z (by decide), fun n => absurd (this.mp rfl) n⟩
/-- a table of sets, a row a state -/
def cx_P (p : Nat → Int32) (Q : Nat → Nat → Prop) : Prop := ∀ a, a < 8 → cm_P (p a) (Q a)
theorem cx_P_c {p : Nat → Int32} {Q Q' : Nat → Nat → Prop} (h : cx_P p Q) (e : ∀ a b, a < 8 → b < 8 → (Q a b ↔ Q' a b)) : cx_P p Q' :=
  fun a ha => cm_P_c (h a ha) fun b hb => e a b ha hb
theorem cx_same {p p' : Nat → Int32} {Q Q' : Nat → Nat → Prop} (h : cx_P p Q) (h' : cx_P p' Q') : (∀ a, a < 8 → p a = p' a) ↔ ∀ a b, a < 8 → b < 8 → (Q a b ↔ Q' a b) :=
  ⟨fun z a b ha hb => (cm_P_e (h a ha) (h' a ha)).mp (z a ha) b hb, fun z a ha => cm_P_u (h a ha) (h' a ha) fun b hb => z a b ha hb⟩
/-- the class's table of steps is M -/
def cx_T (s : Nat → Int32) (M : Nat → Nat → Nat → Prop) : Prop := ∀ a l, a < 8 → l < 3 → cm_P (s (a * 3 + l)) (M a l)
/-- the reference's table of steps is M -/
def cy_T (f : Nat → Int32) (M : Nat → Nat → Nat → Prop) : Prop := ∀ a l, a < 8 → l < 3 → cm_P (f (8 * l + a)) (M a l)

/-- the pair x, y has been looked at when a, b is next -/
def cx_pr (a b x y : Nat) : Prop := (y < x ∧ (x < a ∨ (x = a ∧ y < b))) ∨ (x < y ∧ (y < a ∨ (y = a ∧ x < b)))
/-- each pair told apart has its round -/
def cx_told (M : Nat → Nat → Nat → Prop) (p t : Nat → Int32) : Prop :=
  ∀ x y, x < 8 → y < 8 → bt (p x) y = true → ∃ k, t (x * 8 + y) = nI k ∧ ma_told M k x y
def cx_J (M : Nat → Nat → Nat → Prop) (n a b : Nat) (p t : Nat → Int32) : Prop :=
  cx_P p (fun x y => ma_T M n x y ∨ (cx_pr a b x y ∧ ma_T M (n + 1) x y)) ∧ cx_told M p t
theorem cx_J0 {M : Nat → Nat → Nat → Prop} {n : Nat} {p t : Nat → Int32} (h : cx_P p (ma_T M n)) (h' : cx_told M p t) : cx_J M n 0 0 p t := by
  refine ⟨cx_P_c h fun x y _ _ => ⟨Or.inl, ?_⟩, h'⟩
  rintro (z | ⟨z, _⟩)
  · exact z
  · unfold cx_pr at z
    omega
theorem cx_J_keep {M : Nat → Nat → Nat → Prop} {n a b : Nat} {p t : Nat → Int32} (hb : b < a) (h : cx_J M n a b p t) (c : ma_T M n a b ∨ ¬ ma_T M (n + 1) a b) : cx_J M n a (b + 1) p t := by
  refine ⟨cx_P_c h.1 fun x y _ _ => ?_, h.2⟩
  constructor
  · rintro (z | ⟨z, z'⟩)
    · exact Or.inl z
    · refine Or.inr ⟨?_, z'⟩
      unfold cx_pr at z ⊢
      omega
  · rintro (z | ⟨z, z'⟩)
    · exact Or.inl z
    · by_cases e : cx_pr a b x y
      · exact Or.inr ⟨e, z'⟩
      · have e' : (x = a ∧ y = b) ∨ (x = b ∧ y = a) := by
          unfold cx_pr at z e
          omega
        rcases e' with ⟨e1, e2⟩ | ⟨e1, e2⟩
        · subst e1; subst e2
          exact Or.inl (c.resolve_right fun z => z z')
        · subst e1; subst e2
          exact Or.inl (ma_T_sym _ _ _ (c.resolve_right fun z => z (ma_T_sym _ _ _ z')))
theorem cx_J_row {M : Nat → Nat → Nat → Prop} {n a : Nat} {p t : Nat → Int32} (h : cx_J M n a a p t) : cx_J M n (a + 1) 0 p t := by
  refine ⟨cx_P_c h.1 fun x y _ _ => ?_, h.2⟩
  have e : cx_pr a a x y ↔ cx_pr (a + 1) 0 x y := by
    unfold cx_pr
    omega
  rw [e]
theorem cx_J_end {M : Nat → Nat → Nat → Prop} {n : Nat} {p t : Nat → Int32} (h : cx_J M n 8 0 p t) : cx_P p (ma_T M (n + 1)) ∧ cx_told M p t := by
  refine ⟨cx_P_c h.1 fun x y hx hy => ?_, h.2⟩
  constructor
  · rintro (z | ⟨_, z⟩)
    · exact ma_T_up _ _ _ z
    · exact z
  · intro z
    refine Or.inr ⟨?_, z⟩
    have ne : x ≠ y := by
      intro e
      subst e
      exact ma_T_irr _ _ z
    unfold cx_pr
    omega
theorem cx_J_put {M : Nat → Nat → Nat → Prop} {n a b : Nat} {p t : Nat → Int32} (ha : a < 8) (hb : b < a) (h : cx_J M n a b p t) (c : ¬ ma_T M n a b) (c' : ma_T M (n + 1) a b) :
    cx_J M n a (b + 1) (upd (upd p a (p a ||| ((1 : Int32) <<< (nI b &&& 31)))) b ((upd p a (p a ||| ((1 : Int32) <<< (nI b &&& 31)))) b ||| ((1 : Int32) <<< (nI a &&& 31))))
      (upd (upd t (a * 8 + b) (nI (n + 1))) (b * 8 + a) (nI (n + 1))) := by
  have e0 : (upd p a (p a ||| ((1 : Int32) <<< (nI b &&& 31)))) b = p b := if_neg (by omega)
  rw [e0]
  have hrow : ∀ x, x < 8 → cm_P (upd (upd p a (p a ||| ((1 : Int32) <<< (nI b &&& 31)))) b (p b ||| ((1 : Int32) <<< (nI a &&& 31))) x) (fun y => (ma_T M n x y ∨ (cx_pr a b x y ∧ ma_T M (n + 1) x y)) ∨ (x = a ∧ y = b) ∨ (x = b ∧ y = a)) := by
    intro x hx
    by_cases e1 : x = b
    · subst e1
      have e2 : upd (upd p a (p a ||| ((1 : Int32) <<< (nI x &&& 31)))) x (p x ||| ((1 : Int32) <<< (nI a &&& 31))) x = (p x ||| ((1 : Int32) <<< (nI a &&& 31))) := if_pos rfl
      rw [e2]
      refine cm_P_c (cm_P_put (h.1 x hx) ha) fun y _ => ?_
      constructor
      · rintro (z | z)
        · exact Or.inl z
        · exact Or.inr (Or.inr ⟨rfl, z⟩)
      · rintro (z | ⟨z, _⟩ | ⟨_, z⟩)
        · exact Or.inl z
        · omega
        · exact Or.inr z
    · by_cases e3 : x = a
      · subst e3
        have e2 : upd (upd p x (p x ||| ((1 : Int32) <<< (nI b &&& 31)))) b (p b ||| ((1 : Int32) <<< (nI x &&& 31))) x = (p x ||| ((1 : Int32) <<< (nI b &&& 31))) := (if_neg e1).trans (if_pos rfl)
        rw [e2]
        refine cm_P_c (cm_P_put (h.1 x hx) (by omega)) fun y _ => ?_
        constructor
        · rintro (z | z)
          · exact Or.inl z
          · exact Or.inr (Or.inl ⟨rfl, z⟩)
        · rintro (z | ⟨_, z⟩ | ⟨z, _⟩)
          · exact Or.inl z
          · exact Or.inr z
          · exact absurd z e1
      · have e2 : upd (upd p a (p a ||| ((1 : Int32) <<< (nI b &&& 31)))) b (p b ||| ((1 : Int32) <<< (nI a &&& 31))) x = p x := (if_neg e1).trans (if_neg e3)
        rw [e2]
        refine cm_P_c (h.1 x hx) fun y _ => ?_
        constructor
        · exact Or.inl
        · rintro (z | ⟨z, _⟩ | ⟨z, _⟩)
          · exact z
          · exact absurd z e3
          · exact absurd z e1
  refine ⟨fun x hx => cm_P_c (hrow x hx) fun y _ => ?_, ?_⟩
  · constructor
    · rintro ((z | ⟨z, z'⟩) | ⟨e1, e2⟩ | ⟨e1, e2⟩)
      · exact Or.inl z
      · refine Or.inr ⟨?_, z'⟩
        unfold cx_pr at z ⊢
        omega
      · subst e1; subst e2
        refine Or.inr ⟨?_, c'⟩
        unfold cx_pr
        omega
      · subst e1; subst e2
        refine Or.inr ⟨?_, ma_T_sym _ _ _ c'⟩
        unfold cx_pr
        omega
    · rintro (z | ⟨z, z'⟩)
      · exact Or.inl (Or.inl z)
      · by_cases e : cx_pr a b x y
        · exact Or.inl (Or.inr ⟨e, z'⟩)
        · refine Or.inr ?_
          unfold cx_pr at z e
          omega
  · intro x y hx hy hbit
    by_cases e1 : x = b ∧ y = a
    · obtain ⟨e1, e2⟩ := e1
      subst e1; subst e2
      exact ⟨n + 1, if_pos rfl, ma_told_sym (ma_told_new c' c)⟩
    · by_cases e2 : x = a ∧ y = b
      · obtain ⟨e2, e3⟩ := e2
        subst e2; subst e3
        exact ⟨n + 1, (if_neg (by omega)).trans (if_pos rfl), ma_told_new c' c⟩
      · have hz := ((hrow x hx).2 y hy).mp hbit
        have hz' : ma_T M n x y ∨ (cx_pr a b x y ∧ ma_T M (n + 1) x y) := by
          rcases hz with z | z | z
          · exact z
          · exact absurd z e2
          · exact absurd z e1
        obtain ⟨k, hk, hk'⟩ := h.2 x y hx hy (((h.1 x hx).2 y hy).mpr hz')
        refine ⟨k, ?_, hk'⟩
        exact (if_neg (by omega)).trans ((if_neg (by omega)).trans hk)
/-- what the class's rounds leave: the pairs told apart, their rounds, the last round that told -/
def cx_E (M : Nat → Nat → Nat → Prop) (p t : Nat → Int32) (r : Int32) : Prop :=
  cx_P p (ma_T M 7) ∧ cx_told M p t ∧ ∃ k, r = nI k ∧ ma_last M k
theorem cx_E_st {M : Nat → Nat → Nat → Prop} {n : Nat} {p t : Nat → Int32} (hp : cx_P p (ma_T M n)) (ht : cx_told M p t) (hs : ma_st M n) (hl : ∀ m, m < n → ¬ ma_st M m) : cx_E M p t (nI n) := by
  refine ⟨cx_P_c hp fun a b ha hb => ⟨ma_T7 ha hb, fun z => ma_st_all hs 7 a b ha hb (ma_T_le (by omega) z)⟩, ht, n, rfl, ma_last_st hs hl⟩
theorem cx_st {M : Nat → Nat → Nat → Prop} {n : Nat} {p p' : Nat → Int32} (hp : cx_P p (ma_T M (n + 1))) (hp' : cx_P p' (ma_T M n)) : (∀ a, a < 8 → p a = p' a) ↔ ma_st M n := by
  rw [cx_same hp hp']
  exact ⟨fun z a b ha hb => (z a b ha hb).mp, fun z a b ha hb => ⟨z a b ha hb, ma_T_up _ _ _⟩⟩
