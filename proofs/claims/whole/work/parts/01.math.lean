/-- how many of the first k numbers have P -/
noncomputable def ma_cnt (P : Nat → Prop) : Nat → Nat
  | 0 => 0
  | k + 1 => ma_cnt P k + @ite Nat (P k) (Classical.propDecidable _) 1 0
theorem ma_cnt_t {P : Nat → Prop} {k : Nat} (h : P k) : ma_cnt P (k + 1) = ma_cnt P k + 1 := by
  rw [ma_cnt, if_pos h]
theorem ma_cnt_f {P : Nat → Prop} {k : Nat} (h : ¬ P k) : ma_cnt P (k + 1) = ma_cnt P k := by
  rw [ma_cnt, if_neg h] <;> rfl
theorem ma_cnt_le (P : Nat → Prop) : ∀ k, ma_cnt P k ≤ k
  | 0 => Nat.le_refl 0
  | k + 1 => by
    have ih := ma_cnt_le P k
    by_cases h : P k
    · rw [ma_cnt_t h]; omega
    · rw [ma_cnt_f h]; omega
theorem ma_cnt_mono {P Q : Nat → Prop} : ∀ k, (∀ i, i < k → P i → Q i) → ma_cnt P k ≤ ma_cnt Q k
  | 0, _ => Nat.le_refl 0
  | k + 1, h => by
    have ih := ma_cnt_mono (P := P) (Q := Q) k (fun i hi => h i (by omega))
    by_cases hp : P k
    · rw [ma_cnt_t hp, ma_cnt_t (h k (by omega) hp)]; omega
    · rw [ma_cnt_f hp]
      by_cases hq : Q k
      · rw [ma_cnt_t hq]; omega
      · rw [ma_cnt_f hq]; exact ih
theorem ma_cnt_lt {P Q : Nat → Prop} : ∀ k, (∀ i, i < k → P i → Q i) → (x : Nat) → x < k → Q x → ¬ P x → ma_cnt P k < ma_cnt Q k
  | 0, _, _, hx, _, _ => absurd hx (Nat.not_lt_zero _)
  | k + 1, h, x, hx, hq, hp => by
    have hm := ma_cnt_mono (P := P) (Q := Q) k (fun i hi => h i (by omega))
    by_cases e : x = k
    · cases e
      rw [ma_cnt_f hp, ma_cnt_t hq]; omega
    · have ih := ma_cnt_lt (P := P) (Q := Q) k (fun i hi => h i (by omega)) x (by omega) hq hp
      by_cases hp' : P k
      · rw [ma_cnt_t hp', ma_cnt_t (h k (by omega) hp')]; omega
      · rw [ma_cnt_f hp']
        by_cases hq' : Q k
        · rw [ma_cnt_t hq']; omega
        · rw [ma_cnt_f hq']; exact ih
theorem ma_cnt_pos {P : Nat → Prop} {k x : Nat} (hx : x < k) (h : P x) : 1 ≤ ma_cnt P k := by
  have := ma_cnt_lt (P := fun _ => False) (Q := P) k (fun i _ z => z.elim) x hx h (fun z => z)
  omega
theorem ma_cnt_congr {P Q : Nat → Prop} (k : Nat) (h : ∀ i, i < k → (P i ↔ Q i)) : ma_cnt P k = ma_cnt Q k :=
  Nat.le_antisymm (ma_cnt_mono k fun i hi => (h i hi).mp) (ma_cnt_mono k fun i hi => (h i hi).mpr)
theorem ma_cnt_ext {P Q : Nat → Prop} (k : Nat) (h : ∀ i, i < k → P i → Q i) (hc : ma_cnt Q k ≤ ma_cnt P k) : ∀ i, i < k → Q i → P i := by
  intro i hi hq
  refine Classical.byContradiction fun hp => ?_
  have := ma_cnt_lt k h i hi hq hp
  omega

/-- a has a step that b cannot answer, as far as Q tells apart -/
def ma_one (M : Nat → Nat → Nat → Prop) (Q : Nat → Nat → Prop) (a b : Nat) : Prop :=
  ∃ l c, l < 3 ∧ c < 8 ∧ M a l c ∧ ∀ d, d < 8 → M b l d → Q c d
def ma_nx (M : Nat → Nat → Nat → Prop) (Q : Nat → Nat → Prop) (a b : Nat) : Prop :=
  ma_one M Q a b ∨ ma_one M Q b a
/-- told apart after round n -/
def ma_T (M : Nat → Nat → Nat → Prop) : Nat → Nat → Nat → Prop
  | 0 => fun _ _ => False
  | n + 1 => ma_nx M (ma_T M n)
theorem ma_one_mono {M : Nat → Nat → Nat → Prop} {Q Q' : Nat → Nat → Prop} (h : ∀ c d, c < 8 → d < 8 → Q c d → Q' c d) {a b : Nat} : ma_one M Q a b → ma_one M Q' a b := by
  rintro ⟨l, c, hl, hc, hm, hd⟩
  exact ⟨l, c, hl, hc, hm, fun d hd' hm' => h c d hc hd' (hd d hd' hm')⟩
theorem ma_nx_mono {M : Nat → Nat → Nat → Prop} {Q Q' : Nat → Nat → Prop} (h : ∀ c d, c < 8 → d < 8 → Q c d → Q' c d) {a b : Nat} : ma_nx M Q a b → ma_nx M Q' a b :=
  fun z => z.imp (ma_one_mono h) (ma_one_mono h)
theorem ma_one_M {M M' : Nat → Nat → Nat → Prop} {Q : Nat → Nat → Prop} (h : ∀ a l b, a < 8 → l < 3 → b < 8 → (M a l b ↔ M' a l b)) {a b : Nat} (ha : a < 8) (hb : b < 8) : ma_one M Q a b → ma_one M' Q a b := by
  rintro ⟨l, c, hl, hc, hm, hd⟩
  exact ⟨l, c, hl, hc, (h a l c ha hl hc).mp hm, fun d hd' hm' => hd d hd' ((h b l d hb hl hd').mpr hm')⟩
theorem ma_nx_M {M M' : Nat → Nat → Nat → Prop} {Q : Nat → Nat → Prop} (h : ∀ a l b, a < 8 → l < 3 → b < 8 → (M a l b ↔ M' a l b)) {a b : Nat} (ha : a < 8) (hb : b < 8) : ma_nx M Q a b → ma_nx M' Q a b :=
  fun z => z.imp (ma_one_M h ha hb) (ma_one_M h hb ha)
theorem ma_T_M {M M' : Nat → Nat → Nat → Prop} (h : ∀ a l b, a < 8 → l < 3 → b < 8 → (M a l b ↔ M' a l b)) : ∀ n a b, a < 8 → b < 8 → ma_T M n a b → ma_T M' n a b
  | 0, _, _, _, _, z => z
  | n + 1, a, b, ha, hb, z => ma_nx_M (Q := ma_T M' n) h ha hb (ma_nx_mono (fun c d hc hd => ma_T_M h n c d hc hd) z)
theorem ma_T_sym {M : Nat → Nat → Nat → Prop} : ∀ n a b, ma_T M n a b → ma_T M n b a
  | 0, _, _, z => z
  | _ + 1, _, _, z => Or.symm z
theorem ma_T_irr {M : Nat → Nat → Nat → Prop} : ∀ n a, ¬ ma_T M n a a := by
  intro n
  induction n with
  | zero => exact fun _ z => z
  | succ n ih =>
    have key : ∀ x, ¬ ma_one M (ma_T M n) x x := by
      rintro x ⟨l, c, hl, hc, hm, hd⟩
      exact ih c (hd c hc hm)
    intro a z
    have z' : ma_one M (ma_T M n) a a ∨ ma_one M (ma_T M n) a a := z
    rcases z' with z' | z'
    · exact key a z'
    · exact key a z'
theorem ma_T_up {M : Nat → Nat → Nat → Prop} : ∀ n a b, ma_T M n a b → ma_T M (n + 1) a b
  | 0, _, _, z => False.elim z
  | n + 1, _, _, z => ma_nx_mono (fun c d _ _ => ma_T_up n c d) z
theorem ma_T_le {M : Nat → Nat → Nat → Prop} {m n a b : Nat} (h : m ≤ n) (z : ma_T M m a b) : ma_T M n a b := by
  induction h with
  | refl => exact z
  | step _ ih => exact ma_T_up _ _ _ ih
theorem ma_one_tr {M : Nat → Nat → Nat → Prop} {Q : Nat → Nat → Prop} (hQ : ∀ x y z, x < 8 → y < 8 → z < 8 → ¬ Q x y → ¬ Q y z → ¬ Q x z) {a b c : Nat} (h1 : ¬ ma_one M Q a b) (h2 : ¬ ma_one M Q b c) : ¬ ma_one M Q a c := by
  rintro ⟨l, x, hl, hx, hm, hd⟩
  have h3 : ∃ y, y < 8 ∧ M b l y ∧ ¬ Q x y := Classical.byContradiction fun hn =>
    h1 ⟨l, x, hl, hx, hm, fun d hd' hm' => Classical.byContradiction fun hq => hn ⟨d, hd', hm', hq⟩⟩
  obtain ⟨y, hy, hmy, hxy⟩ := h3
  have h4 : ∃ z, z < 8 ∧ M c l z ∧ ¬ Q y z := Classical.byContradiction fun hn =>
    h2 ⟨l, y, hl, hy, hmy, fun d hd' hm' => Classical.byContradiction fun hq => hn ⟨d, hd', hm', hq⟩⟩
  obtain ⟨z, hz, hmz, hyz⟩ := h4
  exact hQ x y z hx hy hz hxy hyz (hd z hz hmz)
theorem ma_T_tr {M : Nat → Nat → Nat → Prop} : ∀ n a b c, ¬ ma_T M n a b → ¬ ma_T M n b c → ¬ ma_T M n a c
  | 0, _, _, _, _, _ => fun z => z
  | n + 1, a, b, c, h1, h2 => by
    have hQ : ∀ x y z, x < 8 → y < 8 → z < 8 → ¬ ma_T M n x y → ¬ ma_T M n y z → ¬ ma_T M n x z := fun x y z _ _ _ => ma_T_tr n x y z
    intro h
    have h' : ma_one M (ma_T M n) a c ∨ ma_one M (ma_T M n) c a := h
    rcases h' with h | h
    · exact ma_one_tr hQ (fun z => h1 (Or.inl z)) (fun z => h2 (Or.inl z)) h
    · exact ma_one_tr hQ (fun z => h2 (Or.inr z)) (fun z => h1 (Or.inr z)) h
/-- round n + 1 tells nothing new -/
def ma_st (M : Nat → Nat → Nat → Prop) (n : Nat) : Prop := ∀ a b, a < 8 → b < 8 → ma_T M (n + 1) a b → ma_T M n a b
theorem ma_st_all {M : Nat → Nat → Nat → Prop} {n : Nat} (h : ma_st M n) : ∀ k a b, a < 8 → b < 8 → ma_T M (n + k) a b → ma_T M n a b
  | 0, _, _, _, _, z => z
  | k + 1, a, b, ha, hb, z => h a b ha hb (ma_nx_mono (Q := ma_T M (n + k)) (fun c d hc hd => ma_st_all h k c d hc hd) z)
theorem ma_st_up {M : Nat → Nat → Nat → Prop} {n : Nat} (h : ma_st M n) : ma_st M (n + 1) := fun a b ha hb z =>
  ma_T_up _ _ _ (ma_st_all h 2 a b ha hb z)
/-- a is the least of its group after round n -/
def ma_ld (M : Nat → Nat → Nat → Prop) (n a : Nat) : Prop := ∀ b, b < a → ma_T M n a b
theorem ma_least (P : Nat → Prop) : ∀ x, P x → ∃ y, y ≤ x ∧ P y ∧ ∀ z, z < y → ¬ P z := by
  intro x
  induction x using Nat.strongRecOn with
  | ind x ih =>
    intro hx
    by_cases h : ∃ z, z < x ∧ P z
    · obtain ⟨z, hz, hp⟩ := h
      obtain ⟨y, hy, hpy, hl⟩ := ih z hz hp
      exact ⟨y, by omega, hpy, hl⟩
    · exact ⟨x, Nat.le_refl x, hx, fun z hz hp => h ⟨z, hz, hp⟩⟩
theorem ma_strict {M : Nat → Nat → Nat → Prop} {n : Nat} (h : ¬ ma_st M n) : ma_cnt (ma_ld M n) 8 < ma_cnt (ma_ld M (n + 1)) 8 := by
  have h' : ∃ a b, a < 8 ∧ b < 8 ∧ ma_T M (n + 1) a b ∧ ¬ ma_T M n a b := Classical.byContradiction fun hn =>
    h fun a b ha hb z => Classical.byContradiction fun hz => hn ⟨a, b, ha, hb, z, hz⟩
  obtain ⟨a, b, ha, hb, h1, h0⟩ := h'
  obtain ⟨r, hra, hr, hrl⟩ := ma_least (fun r => ¬ ma_T M n r a) a (ma_T_irr n a)
  have hex : ∃ x, x < 8 ∧ ¬ ma_T M n x r ∧ ma_T M (n + 1) x r := by
    by_cases hz : ma_T M (n + 1) a r
    · exact ⟨a, ha, fun z => hr (ma_T_sym _ _ _ z), hz⟩
    · refine ⟨b, hb, ?_, ?_⟩
      · exact ma_T_tr n b a r (fun z => h0 (ma_T_sym _ _ _ z)) (fun z => hr (ma_T_sym _ _ _ z))
      · refine Classical.byContradiction fun hbr => ?_
        exact ma_T_tr (n + 1) a r b hz (fun z => hbr (ma_T_sym _ _ _ z)) h1
  obtain ⟨x0, hx0, hx1, hx2⟩ := hex
  obtain ⟨x, hxx, ⟨hxn, hxs⟩, hxl⟩ := ma_least (fun x => ¬ ma_T M n x r ∧ ma_T M (n + 1) x r) x0 ⟨hx1, hx2⟩
  refine ma_cnt_lt 8 (fun i _ hi b hb => ma_T_up _ _ _ (hi b hb)) x (by omega) ?_ ?_
  · intro y hy
    refine Classical.byContradiction fun hxy => ?_
    refine hxl y hy ⟨?_, ?_⟩
    · exact ma_T_tr n y x r (fun z => hxy (ma_T_up _ _ _ (ma_T_sym _ _ _ z))) hxn
    · refine Classical.byContradiction fun hyr => ?_
      exact ma_T_tr (n + 1) x y r hxy hyr hxs
  · intro hl
    have hrx : r < x := by
      refine Classical.byContradiction fun hge => ?_
      by_cases e : x = r
      · exact ma_T_irr (n + 1) x (by rw [← e] at hxs; exact hxs)
      · refine hrl x (by omega) ?_
        exact fun z => ma_T_tr n x r a hxn hr z
    exact hxn (hl r hrx)
theorem ma_grow {M : Nat → Nat → Nat → Prop} : ∀ n, ma_st M n ∨ n + 2 ≤ ma_cnt (ma_ld M (n + 1)) 8
  | 0 => by
    by_cases h : ma_st M 0
    · exact Or.inl h
    · have h1 := ma_strict h
      have h2 : 1 ≤ ma_cnt (ma_ld M 0) 8 := ma_cnt_pos (x := 0) (by omega) (fun b hb => absurd hb (Nat.not_lt_zero _))
      exact Or.inr (by omega)
  | n + 1 => by
    by_cases h : ma_st M (n + 1)
    · exact Or.inl h
    · have h1 := ma_strict h
      rcases ma_grow (M := M) n with h2 | h2
      · exact absurd (ma_st_up h2) h
      · exact Or.inr (by omega)
theorem ma_st7 {M : Nat → Nat → Nat → Prop} : ma_st M 7 := by
  rcases ma_grow (M := M) 7 with h | h
  · exact h
  · have := ma_cnt_le (ma_ld M (7 + 1)) 8
    omega
/-- what is ever told apart is so after round 7 -/
theorem ma_T7 {M : Nat → Nat → Nat → Prop} {k a b : Nat} (ha : a < 8) (hb : b < 8) (h : ma_T M k a b) : ma_T M 7 a b := by
  have h1 : ma_T M (7 + k) a b := ma_T_le (by omega) h
  exact ma_st_all ma_st7 k a b ha hb h1
/-- r is the least round after which nothing new is told -/
def ma_last (M : Nat → Nat → Nat → Prop) (r : Nat) : Prop :=
  (∀ a b, a < 8 → b < 8 → ma_T M 7 a b → ma_T M r a b) ∧ ∀ m, m < r → ∃ a b, a < 8 ∧ b < 8 ∧ ma_T M 7 a b ∧ ¬ ma_T M m a b
theorem ma_last_u {M : Nat → Nat → Nat → Prop} {r s : Nat} (h : ma_last M r) (h' : ma_last M s) : r = s := by
  rcases Nat.lt_trichotomy r s with hl | he | hl
  · obtain ⟨a, b, ha, hb, h7, hn⟩ := h'.2 r hl
    exact absurd (h.1 a b ha hb h7) hn
  · exact he
  · obtain ⟨a, b, ha, hb, h7, hn⟩ := h.2 s hl
    exact absurd (h'.1 a b ha hb h7) hn
theorem ma_last_st {M : Nat → Nat → Nat → Prop} {r : Nat} (hs : ma_st M r) (h : ∀ m, m < r → ¬ ma_st M m) : ma_last M r := by
  refine ⟨fun a b ha hb z => ma_st_all hs 7 a b ha hb (ma_T_le (by omega) z), fun m hm => ?_⟩
  refine Classical.byContradiction fun hn => h m hm fun a b ha hb z => ?_
  exact Classical.byContradiction fun hz => hn ⟨a, b, ha, hb, ma_T7 ha hb z, hz⟩
/-- n is the least round after which a and b are told apart -/
def ma_told (M : Nat → Nat → Nat → Prop) (n a b : Nat) : Prop := ma_T M n a b ∧ ∀ m, m < n → ¬ ma_T M m a b
theorem ma_told_u {M : Nat → Nat → Nat → Prop} {n m a b : Nat} (h : ma_told M n a b) (h' : ma_told M m a b) : n = m := by
  rcases Nat.lt_trichotomy n m with hl | he | hl
  · exact absurd h.1 (h'.2 n hl)
  · exact he
  · exact absurd h'.1 (h.2 m hl)
theorem ma_told_sym {M : Nat → Nat → Nat → Prop} {n a b : Nat} (h : ma_told M n a b) : ma_told M n b a :=
  ⟨ma_T_sym _ _ _ h.1, fun m hm z => h.2 m hm (ma_T_sym _ _ _ z)⟩
theorem ma_told_new {M : Nat → Nat → Nat → Prop} {n a b : Nat} (h : ma_T M (n + 1) a b) (h' : ¬ ma_T M n a b) : ma_told M (n + 1) a b :=
  ⟨h, fun m hm z => h' (ma_T_le (by omega) z)⟩

/-- b can follow a, as far as S says who follows whom (S c d: d follows c) -/
def ma_fo (M : Nat → Nat → Nat → Prop) (S : Nat → Nat → Prop) (b a : Nat) : Prop :=
  ∀ l c, l < 3 → c < 8 → M a l c → ∃ d, d < 8 ∧ M b l d ∧ S c d
theorem ma_fo_mono {M : Nat → Nat → Nat → Prop} {S S' : Nat → Nat → Prop} (h : ∀ c d, c < 8 → d < 8 → S c d → S' c d) {b a : Nat} (z : ma_fo M S b a) : ma_fo M S' b a := by
  intro l c hl hc hm
  obtain ⟨d, hd, hm', hs⟩ := z l c hl hc hm
  exact ⟨d, hd, hm', h c d hc hd hs⟩
def ma_sim (M : Nat → Nat → Nat → Prop) (S : Nat → Nat → Prop) : Prop := ∀ a b, a < 8 → b < 8 → S a b → ma_fo M S b a
/-- b follows a -/
def ma_F (M : Nat → Nat → Nat → Prop) (a b : Nat) : Prop := ∃ S, ma_sim M S ∧ S a b
theorem ma_F_max {M : Nat → Nat → Nat → Prop} {S : Nat → Nat → Prop} (h : ma_sim M S) {a b : Nat} (z : S a b) : ma_F M a b := ⟨S, h, z⟩
theorem ma_F_sim {M : Nat → Nat → Nat → Prop} : ma_sim M (ma_F M) := by
  rintro a b ha hb ⟨S, hs, hz⟩
  exact ma_fo_mono (fun c d _ _ z => ma_F_max hs z) (hs a b ha hb hz)
/-- striking a pair that fails keeps all that follow -/
theorem ma_F_keep {M : Nat → Nat → Nat → Prop} {S : Nat → Nat → Prop} (h : ∀ c d, c < 8 → d < 8 → ma_F M c d → S c d) {a b : Nat} (ha : a < 8) (hb : b < 8) (z : ¬ ma_fo M S b a) : ¬ ma_F M a b :=
  fun hf => z (ma_fo_mono h (ma_F_sim a b ha hb hf))

/-- reached from a by at most n silent steps -/
def ma_R (M : Nat → Nat → Nat → Prop) (a : Nat) : Nat → Nat → Prop
  | 0 => fun b => a = b
  | n + 1 => fun b => ma_R M a n b ∨ ∃ c, c < 8 ∧ ma_R M a n c ∧ M c 0 b
def ma_rst (M : Nat → Nat → Nat → Prop) (a n : Nat) : Prop := ∀ b, b < 8 → ma_R M a (n + 1) b → ma_R M a n b
theorem ma_rst_up {M : Nat → Nat → Nat → Prop} {a n : Nat} (h : ma_rst M a n) : ma_rst M a (n + 1) := by
  intro b hb z
  rcases z with z | ⟨c, hc, hr, hm⟩
  · exact z
  · exact Or.inr ⟨c, hc, h c hc hr, hm⟩
theorem ma_R_le {M : Nat → Nat → Nat → Prop} {a m n b : Nat} (h : m ≤ n) (z : ma_R M a m b) : ma_R M a n b := by
  induction h with
  | refl => exact z
  | step _ ih => exact Or.inl ih
theorem ma_R_grow {M : Nat → Nat → Nat → Prop} {a : Nat} (ha : a < 8) : ∀ n, ma_rst M a n ∨ n + 2 ≤ ma_cnt (ma_R M a (n + 1)) 8 := by
  have strict : ∀ n, ¬ ma_rst M a n → ma_cnt (ma_R M a n) 8 < ma_cnt (ma_R M a (n + 1)) 8 := by
    intro n h
    have h' : ∃ b, b < 8 ∧ ma_R M a (n + 1) b ∧ ¬ ma_R M a n b := Classical.byContradiction fun hn =>
      h fun b hb z => Classical.byContradiction fun hz => hn ⟨b, hb, z, hz⟩
    obtain ⟨b, hb, h1, h0⟩ := h'
    exact ma_cnt_lt 8 (fun i _ hi => Or.inl hi) b hb h1 h0
  intro n
  induction n with
  | zero =>
    by_cases h : ma_rst M a 0
    · exact Or.inl h
    · have h1 := strict 0 h
      have h2 : 1 ≤ ma_cnt (ma_R M a 0) 8 := ma_cnt_pos (x := a) ha rfl
      exact Or.inr (by omega)
  | succ n ih =>
    by_cases h : ma_rst M a (n + 1)
    · exact Or.inl h
    · have h1 := strict (n + 1) h
      rcases ih with h2 | h2
      · exact absurd (ma_rst_up h2) h
      · exact Or.inr (by omega)
theorem ma_rst7 {M : Nat → Nat → Nat → Prop} {a : Nat} (ha : a < 8) : ma_rst M a 7 := by
  rcases ma_R_grow (M := M) ha 7 with h | h
  · exact h
  · have := ma_cnt_le (ma_R M a (7 + 1)) 8
    omega
/-- c is reached from a silently -/
def ma_rch (M : Nat → Nat → Nat → Prop) (a c : Nat) : Prop := ma_R M a 7 c
theorem ma_rch_0 {M : Nat → Nat → Nat → Prop} (a : Nat) : ma_rch M a a := ma_R_le (m := 0) (by omega) rfl
theorem ma_rch_s {M : Nat → Nat → Nat → Prop} {a b c : Nat} (ha : a < 8) (hb : b < 8) (hc : c < 8) (h : ma_rch M a c) (hm : M c 0 b) : ma_rch M a b :=
  ma_rst7 ha b hb (Or.inr ⟨c, hc, h, hm⟩)
theorem ma_rch_min {M : Nat → Nat → Nat → Prop} {a : Nat} (P : Nat → Prop) (h0 : P a) (hs : ∀ c b, c < 8 → P c → M c 0 b → P b) : ∀ n b, ma_R M a n b → P b
  | 0, _, z => by cases z; exact h0
  | n + 1, b, z => by
    rcases z with z | ⟨c, hc, hr, hm⟩
    · exact ma_rch_min P h0 hs n b z
    · exact hs c b hc (ma_rch_min P h0 hs n c hr) hm
theorem ma_rch_tr {M : Nat → Nat → Nat → Prop} {a b c : Nat} (ha : a < 8) (hM : ∀ x y, x < 8 → M x 0 y → y < 8) (hb : b < 8) (h1 : ma_rch M a b) (h2 : ma_rch M b c) : ma_rch M a c := by
  have := ma_rch_min (M := M) (a := b) (fun x => x < 8 ∧ ma_rch M a x) ⟨hb, h1⟩ (fun x y hx hp hm => ⟨hM x y hx hm, ma_rch_s ha (hM x y hx hm) hx hp.2 hm⟩) 7 c h2
  exact this.2
/-- the long steps -/
def ma_L (M : Nat → Nat → Nat → Prop) (a l c : Nat) : Prop :=
  (l = 0 ∧ ma_rch M a c) ∨ (l ≠ 0 ∧ ∃ x y, x < 8 ∧ y < 8 ∧ ma_rch M a x ∧ M x l y ∧ ma_rch M y c)
/-- the machine without one step -/
def ma_cut (M : Nat → Nat → Nat → Prop) (a b l : Nat) : Nat → Nat → Nat → Prop := fun x k y => M x k y ∧ ¬ (x = a ∧ k = l ∧ y = b)
