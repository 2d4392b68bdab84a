/-- a loop with no state but its counter -/
theorem lq_1 (W : Nat → Nat → Prop) (I : Nat → Prop) (e i0 : Nat) (hi : i0 ≤ e) (h0 : I i0) (hx : ∀ n, I e → W (n + 1) e) (hs : ∀ n i, i < e → I i → (I (i + 1) → W n (i + 1)) → W (n + 1) i) : ∃ n, W n i0 := by
  have key : ∀ d i, i + d = e → I i → W (d + 1) i := by
    intro d
    induction d with
    | zero =>
      intro i h h'
      have h'' : i = e := by omega
      subst h''
      exact hx 0 h'
    | succ d ih =>
      intro i h h'
      exact hs (d + 1) i (by omega) h' (fun z => ih (i + 1) (by omega) z)
  exact ⟨e - i0 + 1, key (e - i0) i0 (by omega) h0⟩
/-- a state's number -/
def st_S (x : Int32) : Prop := ∃ j, j < 8 ∧ x = nI j
/-- a label's number -/
def st_L (x : Int32) : Prop := ∃ j, j < 3 ∧ x = nI j
theorem st_Sn {j : Nat} (hj : j < 2 ^ 31) : st_S (nI j) ↔ j < 8 := by
  constructor
  · rintro ⟨i, hi, e⟩
    rw [nI_eq hj (by omega)] at e
    omega
  · exact fun h => ⟨j, h, rfl⟩
theorem st_Ln {j : Nat} (hj : j < 2 ^ 31) : st_L (nI j) ↔ j < 3 := by
  constructor
  · rintro ⟨i, hi, e⟩
    rw [nI_eq hj (by omega)] at e
    omega
  · exact fun h => ⟨j, h, rfl⟩
theorem st_S0 {x : Int32} (h : x < 0) : ¬ st_S x := by
  rintro ⟨j, hj, rfl⟩
  exact nI_pos (by omega) h
theorem st_L0 {x : Int32} (h : x < 0) : ¬ st_L x := by
  rintro ⟨j, hj, rfl⟩
  exact nI_pos (by omega) h
theorem st_S8 {x : Int32} (h : ¬ x < 0) : 8 ≤ x ↔ ¬ st_S x := by
  obtain ⟨j, hj, rfl⟩ := nI_of h
  rw [st_Sn hj]
  exact (nI_leI (a := 8) (by omega) hj).trans (by omega)
theorem st_S8' {x : Int32} (h : ¬ x < 0) : x < 8 ↔ st_S x := by
  obtain ⟨j, hj, rfl⟩ := nI_of h
  rw [st_Sn hj]
  exact nI_ltI (b := 8) hj (by omega)
theorem st_S7 {x : Int32} (h : ¬ x < 0) : 7 < x ↔ ¬ st_S x := by
  obtain ⟨j, hj, rfl⟩ := nI_of h
  rw [st_Sn hj]
  exact (nI_ltI (a := 7) (by omega) hj).trans (by omega)
theorem st_S7' {x : Int32} (h : ¬ x < 0) : x ≤ 7 ↔ st_S x := by
  obtain ⟨j, hj, rfl⟩ := nI_of h
  rw [st_Sn hj]
  exact (nI_leI (b := 7) hj (by omega)).trans (by omega)
theorem st_L3 {x : Int32} (h : ¬ x < 0) : 3 ≤ x ↔ ¬ st_L x := by
  obtain ⟨j, hj, rfl⟩ := nI_of h
  rw [st_Ln hj]
  exact (nI_leI (a := 3) (by omega) hj).trans (by omega)
theorem st_L3' {x : Int32} (h : ¬ x < 0) : x < 3 ↔ st_L x := by
  obtain ⟨j, hj, rfl⟩ := nI_of h
  rw [st_Ln hj]
  exact nI_ltI (b := 3) hj (by omega)
theorem st_L2 {x : Int32} (h : ¬ x < 0) : 2 < x ↔ ¬ st_L x := by
  obtain ⟨j, hj, rfl⟩ := nI_of h
  rw [st_Ln hj]
  exact (nI_ltI (a := 2) (by omega) hj).trans (by omega)
theorem st_L2' {x : Int32} (h : ¬ x < 0) : x ≤ 2 ↔ st_L x := by
  obtain ⟨j, hj, rfl⟩ := nI_of h
  rw [st_Ln hj]
  exact (nI_leI (b := 2) hj (by omega)).trans (by omega)
theorem ix_3 (a l : Nat) : nI a * 3 + nI l = nI (a * 3 + l) := by
  show nI a * nI 3 + nI l = _
  rw [pk_mul, nI_add]
theorem ix_8 (a b : Nat) : nI a * 8 + nI b = nI (a * 8 + b) := by
  show nI a * nI 8 + nI b = _
  rw [pk_mul, nI_add]
theorem iy_8 (l a : Nat) : 8 * nI l + nI a = nI (8 * l + a) := by
  show nI 8 * nI l + nI a = _
  rw [pk_mul, nI_add]
theorem iy_d {c : Nat} (hc : c < 2 ^ 31) : nI c / 8 = nI (c / 8) := pk_div (d := 8) hc (by omega) (by omega)
theorem iy_m {c : Nat} (hc : c < 2 ^ 31) : nI c - nI c / 8 * 8 = nI (c % 8) := pk_rem (d := 8) hc (by omega) (by omega)
theorem nb_0 : narrow .boolean (.int 0) = .int 0 := rfl
theorem nb_1 : narrow .boolean (.int 1) = .int 1 := rfl
theorem nb_v0 : vp_nar .boolean 0 = 0 := rfl
theorem nb_v1 : vp_nar .boolean 1 = 1 := rfl
/-- the boolean x says P -/
def bo_s (x : Int32) (P : Prop) : Prop := (x = 1 ∧ P) ∨ (x = 0 ∧ ¬ P)
theorem bo_1 {P : Prop} (h : P) : bo_s 1 P := Or.inl ⟨rfl, h⟩
theorem bo_0 {P : Prop} (h : ¬ P) : bo_s 0 P := Or.inr ⟨rfl, h⟩
theorem bo_c {x : Int32} {P Q : Prop} (h : bo_s x P) (e : P ↔ Q) : bo_s x Q := h.imp (fun z => ⟨z.1, e.mp z.2⟩) (fun z => ⟨z.1, fun q => z.2 (e.mpr q)⟩)
theorem bo_u {x y : Int32} {P Q : Prop} (h : bo_s x P) (h' : bo_s y Q) (e : P ↔ Q) : x = y := by
  rcases h with ⟨h1, h2⟩ | ⟨h1, h2⟩ <;> rcases h' with ⟨h3, h4⟩ | ⟨h3, h4⟩
  · rw [h1, h3]
  · exact absurd (e.mp h2) h4
  · exact absurd (e.mpr h4) h2
  · rw [h1, h3]
theorem bo_n {x : Int32} {P : Prop} (h : bo_s x P) : narrow .boolean (.int x) = .int x := by
  rcases h with ⟨h, _⟩ | ⟨h, _⟩
  · rw [h]; exact nb_1
  · rw [h]; exact nb_0
theorem bo_v {x : Int32} {P : Prop} (h : bo_s x P) : vp_nar .boolean x = x := by
  rcases h with ⟨h, _⟩ | ⟨h, _⟩
  · rw [h]; exact nb_v1
  · rw [h]; exact nb_v0
theorem bo_t {x : Int32} {P : Prop} (h : bo_s x P) (p : P) : x = 1 := by
  rcases h with ⟨h, _⟩ | ⟨_, h⟩
  · exact h
  · exact absurd p h
theorem bo_f {x : Int32} {P : Prop} (h : bo_s x P) (p : ¬ P) : x = 0 := by
  rcases h with ⟨_, h⟩ | ⟨h, _⟩
  · exact absurd h p
  · exact h
theorem bo_z {x : Int32} {P : Prop} (h : bo_s x P) : x = 0 ↔ ¬ P := by
  rcases h with ⟨h, p⟩ | ⟨h, p⟩
  · rw [h]; exact ⟨fun z => absurd z (by decide), fun z => absurd p z⟩
  · rw [h]; exact ⟨fun _ => p, fun _ => rfl⟩
/-- a branch on a boolean that is asked to be 0 -/
theorem bo_b {x : Int32} {P A B : Prop} (h : bo_s x P) (f : ¬ P → A) (g : P → B) : (x = 0 → A) ∧ (¬ x = 0 → B) :=
  ⟨fun z => f ((bo_z h).mp z), fun z => g (Classical.byContradiction fun p => z ((bo_z h).mpr p))⟩
/-- a branch on a boolean that is asked to be 1 -/
theorem bo_b1 {x : Int32} {P A B : Prop} (h : bo_s x P) (f : P → A) (g : ¬ P → B) : (x = 1 → A) ∧ (¬ x = 1 → B) := by
  rcases h with ⟨h, p⟩ | ⟨h, p⟩
  · rw [h]; exact br_t rfl (f p)
  · rw [h]; exact br_f (by decide) (g p)
