/-- the reference's table after round n: the round of each pair told apart, -1 for the others -/
def cy_t (M : Nat → Nat → Nat → Prop) (n : Nat) (t : Nat → Int32) : Prop :=
  ∀ x y, x < 8 → y < 8 → (ma_T M n x y → ∃ k, t (8 * x + y) = nI k ∧ ma_told M k x y) ∧ (¬ ma_T M n x y → t (8 * x + y) = -1)
/-- in the midst of round n + 1, cell c next -/
def cy_J (M : Nat → Nat → Nat → Prop) (n c : Nat) (t : Nat → Int32) : Prop :=
  ∀ x y, x < 8 → y < 8 →
    (ma_T M n x y → ∃ k, t (8 * x + y) = nI k ∧ ma_told M k x y) ∧
    (¬ ma_T M n x y → 8 * x + y < c → ma_T M (n + 1) x y → t (8 * x + y) = nI (n + 1)) ∧
    (¬ ma_T M n x y → ¬ (8 * x + y < c ∧ ma_T M (n + 1) x y) → t (8 * x + y) = -1)
theorem cy_J0 {M : Nat → Nat → Nat → Prop} {n : Nat} {t : Nat → Int32} (h : cy_t M n t) : cy_J M n 0 t :=
  fun x y hx hy => ⟨(h x y hx hy).1, fun _ z => absurd z (Nat.not_lt_zero _), fun z _ => (h x y hx hy).2 z⟩
theorem cy_J_end {M : Nat → Nat → Nat → Prop} {n : Nat} {t : Nat → Int32} (h : cy_J M n 64 t) : cy_t M (n + 1) t := by
  intro x y hx hy
  have h1 := h x y hx hy
  refine ⟨fun z => ?_, fun z => h1.2.2 (fun z' => z (ma_T_up _ _ _ z')) (fun z' => z z'.2)⟩
  by_cases e : ma_T M n x y
  · exact h1.1 e
  · exact ⟨n + 1, h1.2.1 e (by omega) z, ma_told_new z e⟩
theorem cy_J_keep {M : Nat → Nat → Nat → Prop} {n c a b : Nat} {t : Nat → Int32} (ha : a < 8) (hb : b < 8) (hc : c = 8 * a + b) (h : cy_J M n c t) (k : ma_T M n a b ∨ ¬ ma_T M (n + 1) a b) : cy_J M n (c + 1) t := by
  intro x y hx hy
  have h1 := h x y hx hy
  refine ⟨h1.1, fun z hz hz' => ?_, fun z hz => h1.2.2 z fun w => hz ⟨by omega, w.2⟩⟩
  by_cases e : x = a ∧ y = b
  · obtain ⟨e1, e2⟩ := e
    subst e1; subst e2
    exact absurd hz' (k.resolve_left z)
  · exact h1.2.1 z (by omega) hz'
theorem cy_J_put {M : Nat → Nat → Nat → Prop} {n c a b : Nat} {t : Nat → Int32} (ha : a < 8) (hb : b < 8) (hc : c = 8 * a + b) (h : cy_J M n c t) (k : ¬ ma_T M n a b) (k' : ma_T M (n + 1) a b) : cy_J M n (c + 1) (upd t c (nI (n + 1))) := by
  intro x y hx hy
  have h1 := h x y hx hy
  by_cases e : x = a ∧ y = b
  · obtain ⟨e1, e2⟩ := e
    subst e1; subst e2
    have e3 : upd t c (nI (n + 1)) (8 * x + y) = nI (n + 1) := if_pos hc.symm
    rw [e3]
    exact ⟨fun z => absurd z k, fun _ _ _ => rfl, fun _ z => absurd ⟨by omega, k'⟩ z⟩
  · have e3 : upd t c (nI (n + 1)) (8 * x + y) = t (8 * x + y) := if_neg (by omega)
    rw [e3]
    exact ⟨h1.1, fun z hz hz' => h1.2.1 z (by omega) hz', fun z hz => h1.2.2 z fun w => hz ⟨by omega, w.2⟩⟩
theorem cy_told_7 {M : Nat → Nat → Nat → Prop} {k x y : Nat} (hx : x < 8) (hy : y < 8) (h : ma_told M k x y) : k ≤ 7 := by
  refine Classical.byContradiction fun z => ?_
  exact h.2 7 (by omega) (ma_T7 hx hy h.1)
theorem cy_told_n {M : Nat → Nat → Nat → Prop} {k n x y : Nat} (h : ma_told M k x y) (h' : ma_T M n x y) : k ≤ n := by
  refine Classical.byContradiction fun z => ?_
  exact h.2 n (by omega) h'
theorem cy_m1 : ¬ (0 : Int32) ≤ -1 := by decide
theorem cy_m1' : (-1 : Int32) < 0 := by decide
theorem cy_nn {k : Nat} (h : k < 2 ^ 31) : (0 : Int32) ≤ nI k := nI_pos' h
/-- the cell of c, d in round n + 1 says whether the rounds before told them apart -/
theorem cy_J_y {M : Nat → Nat → Nat → Prop} {n c x y : Nat} {t : Nat → Int32} (h : cy_J M n c t) (hx : x < 8) (hy : y < 8) (hn : n < 30) (z : ma_T M n x y) : 0 ≤ t (8 * x + y) ∧ t (8 * x + y) < nI (n + 1) := by
  obtain ⟨k, e, hk⟩ := (h x y hx hy).1 z
  have := cy_told_n hk z
  rw [e]
  exact ⟨cy_nn (by omega), nI_lt (by omega) (by omega)⟩
theorem cy_J_n {M : Nat → Nat → Nat → Prop} {n c x y : Nat} {t : Nat → Int32} (h : cy_J M n c t) (hx : x < 8) (hy : y < 8) (hn : n < 30) (z : ¬ ma_T M n x y) : ¬ 0 ≤ t (8 * x + y) ∨ ¬ t (8 * x + y) < nI (n + 1) := by
  by_cases e : 8 * x + y < c ∧ ma_T M (n + 1) x y
  · rw [(h x y hx hy).2.1 z e.1 e.2]
    exact Or.inr (nI_nlt (by omega) (by omega))
  · rw [(h x y hx hy).2.2 z e]
    exact Or.inl cy_m1
/-- what the reference's rounds leave -/
def cy_E (M : Nat → Nat → Nat → Prop) (t : Nat → Int32) : Prop := cy_t M 7 t
theorem cy_E_st {M : Nat → Nat → Nat → Prop} {n : Nat} {t : Nat → Int32} (h : cy_t M n t) (hs : ma_st M n ∨ 7 ≤ n) : cy_E M t := by
  intro x y hx hy
  have e : ma_T M n x y ↔ ma_T M 7 x y := by
    refine ⟨ma_T7 hx hy, fun z => ?_⟩
    rcases hs with hs | hs
    · exact ma_st_all hs 7 x y hx hy (ma_T_le (by omega) z)
    · exact ma_T_le hs z
  rw [← e]
  exact h x y hx hy
theorem cy_E_y {M : Nat → Nat → Nat → Prop} {t : Nat → Int32} {x y : Nat} (h : cy_E M t) (hx : x < 8) (hy : y < 8) (z : ma_T M 7 x y) : ∃ k, k ≤ 7 ∧ t (8 * x + y) = nI k ∧ ma_told M k x y := by
  obtain ⟨k, e, hk⟩ := (h x y hx hy).1 z
  exact ⟨k, cy_told_7 hx hy hk, e, hk⟩
theorem cy_E_n {M : Nat → Nat → Nat → Prop} {t : Nat → Int32} {x y : Nat} (h : cy_E M t) (hx : x < 8) (hy : y < 8) (z : ¬ ma_T M 7 x y) : t (8 * x + y) = -1 :=
  (h x y hx hy).2 z
theorem cy_E_lt {M : Nat → Nat → Nat → Prop} {t : Nat → Int32} {x y : Nat} (h : cy_E M t) (hx : x < 8) (hy : y < 8) : t (8 * x + y) < 0 ↔ ¬ ma_T M 7 x y := by
  by_cases z : ma_T M 7 x y
  · obtain ⟨k, hk, e, _⟩ := cy_E_y h hx hy z
    rw [e]
    exact ⟨fun w => absurd w (nI_pos (by omega)), fun w => absurd z w⟩
  · rw [cy_E_n h hx hy z]
    exact ⟨fun _ => z, fun _ => cy_m1'⟩
/-- both sides' answer to toldAfter -/
theorem cxy_told {M : Nat → Nat → Nat → Prop} {p t t' : Nat → Int32} {r : Int32} {x y : Nat} (h : cx_E M p t r) (h' : cy_E M t') (hx : x < 8) (hy : y < 8) (z : ma_T M 7 x y) : t' (8 * x + y) = t (x * 8 + y) := by
  obtain ⟨k, e, hk⟩ := h.2.1 x y hx hy (((h.1 x hx).2 y hy).mpr z)
  obtain ⟨m, _, e', hm⟩ := cy_E_y h' hx hy z
  rw [e, e', ma_told_u hm hk]
/-- the greatest round in the reference's table is the last that told -/
theorem cy_most {M : Nat → Nat → Nat → Prop} {t : Nat → Int32} {r : Nat} (h : cy_E M t) (h1 : ∀ x y, x < 8 → y < 8 → ∀ k, ma_told M k x y → k ≤ r) (h2 : r = 0 ∨ ∃ x y, x < 8 ∧ y < 8 ∧ ma_told M r x y) : ma_last M r := by
  refine ⟨fun a b ha hb z => ?_, fun m hm => ?_⟩
  · obtain ⟨k, _, _, hk⟩ := cy_E_y h ha hb z
    exact ma_T_le (h1 a b ha hb k hk) hk.1
  · rcases h2 with h2 | ⟨x, y, hx, hy, hk⟩
    · omega
    · exact ⟨x, y, hx, hy, ma_T7 hx hy hk.1, hk.2 m hm⟩

/-- how many pairs S holds -/
noncomputable def fo_mu (S : Nat → Nat → Prop) : Nat := ma_cnt (fun c => S (c / 8) (c % 8)) 64
/-- a pass of striking: F kept; while nothing is struck, the pairs looked at (D) hold; each strike makes S smaller -/
def fo_I (M : Nat → Nat → Nat → Prop) (S D : Nat → Nat → Prop) (m : Nat) (ch : Int32) : Prop :=
  (∀ c d, c < 8 → d < 8 → ma_F M c d → S c d) ∧
  ((ch = 0 ∧ fo_mu S ≤ m ∧ ∀ x y, x < 8 → y < 8 → D x y → S x y → ma_fo M S y x) ∨ (ch = 1 ∧ fo_mu S < m))
theorem fo_I0 {M : Nat → Nat → Nat → Prop} {S D : Nat → Nat → Prop} {m : Nat} (h : ∀ c d, c < 8 → d < 8 → ma_F M c d → S c d) (hm : fo_mu S ≤ m) (hD : ∀ x y, x < 8 → y < 8 → ¬ D x y) : fo_I M S D m 0 :=
  ⟨h, Or.inl ⟨rfl, hm, fun x y hx hy hd => absurd hd (hD x y hx hy)⟩⟩
theorem fo_I_keep {M : Nat → Nat → Nat → Prop} {S D D' : Nat → Nat → Prop} {m : Nat} {ch : Int32} {a b : Nat} (h : fo_I M S D m ch) (hD : ∀ x y, x < 8 → y < 8 → D' x y → D x y ∨ (x = a ∧ y = b)) (k : S a b → ma_fo M S b a) : fo_I M S D' m ch := by
  refine ⟨h.1, ?_⟩
  rcases h.2 with ⟨h1, h2, h3⟩ | h1
  · refine Or.inl ⟨h1, h2, fun x y hx hy hd hs => ?_⟩
    rcases hD x y hx hy hd with z | ⟨z, z'⟩
    · exact h3 x y hx hy z hs
    · subst z; subst z'
      exact k hs
  · exact Or.inr h1
theorem fo_I_D {M : Nat → Nat → Nat → Prop} {S D D' : Nat → Nat → Prop} {m : Nat} {ch : Int32} (h : fo_I M S D m ch) (hD : ∀ x y, x < 8 → y < 8 → D' x y → D x y) : fo_I M S D' m ch :=
  ⟨h.1, h.2.imp (fun z => ⟨z.1, z.2.1, fun x y hx hy hd => z.2.2 x y hx hy (hD x y hx hy hd)⟩) id⟩
theorem fo_I_strike {M : Nat → Nat → Nat → Prop} {S S' D D' : Nat → Nat → Prop} {m : Nat} {ch : Int32} {a b : Nat} (ha : a < 8) (hb : b < 8) (h : fo_I M S D m ch) (hS : ∀ x y, x < 8 → y < 8 → (S' x y ↔ S x y ∧ ¬ (x = a ∧ y = b))) (k : S a b) (k' : ¬ ma_fo M S b a) : fo_I M S' D' m 1 := by
  refine ⟨fun c d hc hd hf => (hS c d hc hd).mpr ⟨h.1 c d hc hd hf, ?_⟩, Or.inr ⟨rfl, ?_⟩⟩
  · rintro ⟨e1, e2⟩
    subst e1; subst e2
    exact ma_F_keep h.1 hc hd k' hf
  · have hlt : fo_mu S' < fo_mu S := by
      refine ma_cnt_lt 64 (fun i hi z => ((hS (i / 8) (i % 8) (by omega) (by omega)).mp z).1) (8 * a + b) (by omega) ?_ ?_
      · have e1 : (8 * a + b) / 8 = a := by omega
        have e2 : (8 * a + b) % 8 = b := by omega
        show S ((8 * a + b) / 8) ((8 * a + b) % 8)
        rw [e1, e2]; exact k
      · intro z
        exact ((hS _ _ (by omega) (by omega)).mp z).2 ⟨by omega, by omega⟩
    rcases h.2 with ⟨_, h2, _⟩ | ⟨_, h2⟩ <;> omega
/-- the head of a pass p -/
def fo_H (M : Nat → Nat → Nat → Prop) (S : Nat → Nat → Prop) (p : Nat) (ch : Int32) : Prop :=
  (∀ c d, c < 8 → d < 8 → ma_F M c d → S c d) ∧
  ((ch = 0 ∧ ∀ a b, a < 8 → b < 8 → S a b → ma_F M a b) ∨ (ch = 1 ∧ fo_mu S + p ≤ 64))
theorem fo_mu_le (S : Nat → Nat → Prop) : fo_mu S ≤ 64 := ma_cnt_le _ 64
theorem fo_H0 {M : Nat → Nat → Nat → Prop} {S : Nat → Nat → Prop} (h : ∀ c d, c < 8 → d < 8 → S c d) : fo_H M S 0 1 :=
  ⟨fun c d hc hd _ => h c d hc hd, Or.inr ⟨rfl, by have := fo_mu_le S; omega⟩⟩
theorem fo_H_s {M : Nat → Nat → Nat → Prop} {S D : Nat → Nat → Prop} {p m : Nat} {ch : Int32} (h : fo_I M S D m ch) (hm : m + p ≤ 64) (hD : ∀ x y, x < 8 → y < 8 → D x y) : fo_H M S (p + 1) ch := by
  refine ⟨h.1, ?_⟩
  rcases h.2 with ⟨h1, _, h3⟩ | ⟨h1, h2⟩
  · refine Or.inl ⟨h1, fun a b ha hb hs => ?_⟩
    exact ma_F_max (S := S) (fun x y hx hy hz => h3 x y hx hy (hD x y hx hy) hz) hs
  · exact Or.inr ⟨h1, by omega⟩
theorem fo_H_end {M : Nat → Nat → Nat → Prop} {S : Nat → Nat → Prop} {p : Nat} {ch : Int32} (h : fo_H M S p ch) (he : ch = 0 ∨ 65 ≤ p) : ∀ a b, a < 8 → b < 8 → (S a b ↔ ma_F M a b) := by
  intro a b ha hb
  refine ⟨?_, h.1 a b ha hb⟩
  rcases h.2 with ⟨_, h2⟩ | ⟨h1, h2⟩
  · exact h2 a b ha hb
  · rcases he with he | he
    · rw [h1] at he
      exact absurd he cm_10
    · omega

/-- what is reached from the first i states of P by a step l -/
def rc_s (M : Nat → Nat → Nat → Prop) (P : Nat → Prop) (l i b : Nat) : Prop := ∃ a, a < i ∧ P a ∧ M a l b
theorem rc_s0 {M : Nat → Nat → Nat → Prop} {P : Nat → Prop} {l b : Nat} : ¬ rc_s M P l 0 b := fun ⟨_, h, _⟩ => absurd h (Nat.not_lt_zero _)
theorem rc_s1 {M : Nat → Nat → Nat → Prop} {P : Nat → Prop} {l i b : Nat} : rc_s M P l (i + 1) b ↔ rc_s M P l i b ∨ (P i ∧ M i l b) := by
  constructor
  · rintro ⟨a, h, h1, h2⟩
    by_cases e : a = i
    · subst e
      exact Or.inr ⟨h1, h2⟩
    · exact Or.inl ⟨a, by omega, h1, h2⟩
  · rintro (⟨a, h, h1, h2⟩ | ⟨h1, h2⟩)
    · exact ⟨a, by omega, h1, h2⟩
    · exact ⟨i, by omega, h1, h2⟩
/-- the union of the sets of the first i states of P -/
theorem rc_P0 {M : Nat → Nat → Nat → Prop} {P : Nat → Prop} {l : Nat} : cm_P 0 (rc_s M P l 0) := cm_P_c cm_P_0 fun _ _ => ⟨fun z => z.elim, fun z => (rc_s0 z).elim⟩
theorem rc_Py {M : Nat → Nat → Nat → Prop} {P : Nat → Prop} {l i : Nat} {x y : Int32} (h : cm_P x (rc_s M P l i)) (h' : cm_P y (M i l)) (p : P i) : cm_P (x ||| y) (rc_s M P l (i + 1)) :=
  cm_P_c (cm_P_or h h') fun b _ => by
    rw [rc_s1]
    exact ⟨fun z => z.imp id fun w => ⟨p, w⟩, fun z => z.imp id fun w => w.2⟩
theorem rc_Pn {M : Nat → Nat → Nat → Prop} {P : Nat → Prop} {l i : Nat} {x : Int32} (h : cm_P x (rc_s M P l i)) (p : ¬ P i) : cm_P x (rc_s M P l (i + 1)) :=
  cm_P_c h fun b _ => by
    rw [rc_s1]
    exact ⟨Or.inl, fun z => z.resolve_right fun w => p w.1⟩
theorem rc_R0 {M : Nat → Nat → Nat → Prop} {a : Nat} (ha : a < 8) : cm_P ((1 : Int32) <<< (nI a &&& 31)) (ma_R M a 0) :=
  cm_P_c (cm_P_one ha) fun _ _ => ⟨fun z => z.symm, fun z => Eq.symm z⟩
theorem rc_R1 {M : Nat → Nat → Nat → Prop} {a n : Nat} {x y : Int32} (h : cm_P x (ma_R M a n)) (h' : cm_P y (rc_s M (ma_R M a n) 0 8)) : cm_P (x ||| y) (ma_R M a (n + 1)) := cm_P_or h h'
theorem rc_R8 {M : Nat → Nat → Nat → Prop} {a : Nat} {x : Int32} (ha : a < 8) (h : cm_P x (ma_R M a 8)) : cm_P x (ma_rch M a) :=
  cm_P_c h fun b hb => ⟨ma_rst7 ha b hb, Or.inl⟩
/-- the reference's widening, the set itself first -/
def rc_o (M : Nat → Nat → Nat → Prop) (P : Nat → Prop) (l i b : Nat) : Prop := P b ∨ rc_s M P l i b
theorem rc_o0 {M : Nat → Nat → Nat → Prop} {P : Nat → Prop} {l : Nat} {x : Int32} (h : cm_P x P) : cm_P x (rc_o M P l 0) :=
  cm_P_c h fun _ _ => ⟨Or.inl, fun z => z.resolve_right rc_s0⟩
theorem rc_oy {M : Nat → Nat → Nat → Prop} {P : Nat → Prop} {l i : Nat} {x y : Int32} (h : cm_P x (rc_o M P l i)) (h' : cm_P y (M i l)) (p : P i) : cm_P (x ||| y) (rc_o M P l (i + 1)) :=
  cm_P_c (cm_P_or h h') fun b _ => by
    unfold rc_o
    rw [rc_s1, or_assoc]
    exact ⟨fun z => z.imp id fun w => w.imp id fun v => ⟨p, v⟩, fun z => z.imp id fun w => w.imp id fun v => v.2⟩
theorem rc_on {M : Nat → Nat → Nat → Prop} {P : Nat → Prop} {l i : Nat} {x : Int32} (h : cm_P x (rc_o M P l i)) (p : ¬ P i) : cm_P x (rc_o M P l (i + 1)) :=
  cm_P_c h fun b _ => by
    unfold rc_o
    rw [rc_s1]
    exact ⟨fun z => z.imp id Or.inl, fun z => z.imp id fun w => w.resolve_right fun v => p v.1⟩
theorem rc_R1' {M : Nat → Nat → Nat → Prop} {a n : Nat} {x : Int32} (h : cm_P x (rc_o M (ma_R M a n) 0 8)) : cm_P x (ma_R M a (n + 1)) := h
/-- long steps -/
theorem rc_L0 {M : Nat → Nat → Nat → Prop} {a : Nat} {x : Int32} (h : cm_P x (ma_rch M a)) : cm_P x (ma_L M a 0) :=
  cm_P_c h fun _ _ => ⟨fun z => Or.inl ⟨rfl, z⟩, fun z => z.elim (fun w => w.2) fun w => absurd rfl w.1⟩
/-- M's silent reach as a machine's step, whatever the label -/
def rc_q (M : Nat → Nat → Nat → Prop) (a _l b : Nat) : Prop := ma_rch M a b
theorem rc_L1 {M : Nat → Nat → Nat → Prop} {a l : Nat} {x : Int32} (hl : l ≠ 0) (h : cm_P x (rc_s (rc_q M) (rc_s M (ma_rch M a) l 8) 0 8)) : cm_P x (ma_L M a l) :=
  cm_P_c h fun b _ => by
    constructor
    · rintro ⟨y, hy, ⟨x, hx, h1, h2⟩, h3⟩
      exact Or.inr ⟨hl, x, y, hx, hy, h1, h2, h3⟩
    · rintro (⟨z, _⟩ | ⟨_, x, y, hx, hy, h1, h2, h3⟩)
      · exact absurd z hl
      · exact ⟨y, hy, ⟨x, hx, h1, h2⟩, h3⟩

/-- sums -/
def sq_m (g : Nat → Nat) : Nat → Nat
  | 0 => 0
  | n + 1 => sq_m g n + g n
def sq_b (x : Int32) : Nat → Nat := sq_m fun b => (bt x b).toNat
theorem sq_1 (x : Int32) {b : Nat} (hb : b < 8) : (x >>> (nI b &&& 31)) &&& 1 = nI (bt x b).toNat := by
  cases e : bt x b
  · rw [cm_has0 x hb e]; rfl
  · rw [cm_has1 x hb e]; rfl
theorem sq_perm {g g' : Nat → Nat} (h : ∀ a l, a < 8 → l < 3 → g (a * 3 + l) = g' (8 * l + a)) : sq_m g 24 = sq_m g' 24 := by
  have h00 : g 0 = g' 0 := h 0 0 (by omega) (by omega)
  have h01 : g 1 = g' 8 := h 0 1 (by omega) (by omega)
  have h02 : g 2 = g' 16 := h 0 2 (by omega) (by omega)
  have h10 : g 3 = g' 1 := h 1 0 (by omega) (by omega)
  have h11 : g 4 = g' 9 := h 1 1 (by omega) (by omega)
  have h12 : g 5 = g' 17 := h 1 2 (by omega) (by omega)
  have h20 : g 6 = g' 2 := h 2 0 (by omega) (by omega)
  have h21 : g 7 = g' 10 := h 2 1 (by omega) (by omega)
  have h22 : g 8 = g' 18 := h 2 2 (by omega) (by omega)
  have h30 : g 9 = g' 3 := h 3 0 (by omega) (by omega)
  have h31 : g 10 = g' 11 := h 3 1 (by omega) (by omega)
  have h32 : g 11 = g' 19 := h 3 2 (by omega) (by omega)
  have h40 : g 12 = g' 4 := h 4 0 (by omega) (by omega)
  have h41 : g 13 = g' 12 := h 4 1 (by omega) (by omega)
  have h42 : g 14 = g' 20 := h 4 2 (by omega) (by omega)
  have h50 : g 15 = g' 5 := h 5 0 (by omega) (by omega)
  have h51 : g 16 = g' 13 := h 5 1 (by omega) (by omega)
  have h52 : g 17 = g' 21 := h 5 2 (by omega) (by omega)
  have h60 : g 18 = g' 6 := h 6 0 (by omega) (by omega)
  have h61 : g 19 = g' 14 := h 6 1 (by omega) (by omega)
  have h62 : g 20 = g' 22 := h 6 2 (by omega) (by omega)
  have h70 : g 21 = g' 7 := h 7 0 (by omega) (by omega)
  have h71 : g 22 = g' 15 := h 7 1 (by omega) (by omega)
  have h72 : g 23 = g' 23 := h 7 2 (by omega) (by omega)
  simp only [sq_m, h00, h01, h02, h10, h11, h12, h20, h21, h22, h30, h31, h32, h40, h41, h42, h50, h51, h52, h60, h61, h62, h70, h71, h72]
  omega
theorem sq_same {s f : Nat → Int32} (h : ∀ a l, a < 8 → l < 3 → s (a * 3 + l) = f (8 * l + a)) : sq_m (fun i => sq_b (s i) 8) 24 = sq_m (fun i => sq_b (f i) 8) 24 :=
  sq_perm fun a l ha hl => congrArg (fun x => sq_b x 8) (h a l ha hl)
