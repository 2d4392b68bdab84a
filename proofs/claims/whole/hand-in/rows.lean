section
theorem pk_us {f : Nat → Int32} {k : Nat} {x : Int32} : upd f k x k = x := if_pos rfl
theorem pk_un {f : Nat → Int32} {k j : Nat} {x : Int32} (h : j ≠ k) : upd f k x j = f j := if_neg h
theorem pk_sub {a b : Nat} (h : b ≤ a) : nI a - nI b = nI (a - b) := by
  obtain ⟨c, rfl⟩ : ∃ c, a = c + b := ⟨a - b, by omega⟩
  rw [← nI_add, Int32.add_sub_cancel, Nat.add_sub_cancel]
theorem pk_m1 (n : Nat) : nI (n + 1) + (-1) = nI n := by
  rw [← nI_1, Int32.add_assoc, show (1 : Int32) + (-1) = 0 from rfl, Int32.add_zero]
theorem pk_mul (a b : Nat) : nI a * nI b = nI (a * b) := (Int32.ofNat_mul a b).symm
theorem pk_div {a d : Nat} (ha : a < 2 ^ 31) (h0 : 0 < d) (hd : d < 2 ^ 31) : nI a / nI d = nI (a / d) := by
  apply Int32.toInt_inj.mp
  rw [lg_idiv_nonneg (by rw [nI_toInt ha]; omega) (by rw [nI_toInt hd]; omega), nI_toInt ha, nI_toInt hd, nI_toInt (Nat.lt_of_le_of_lt (Nat.div_le_self a d) ha)]
  first | rfl | exact (Int.natCast_ediv _ _).symm
theorem pk_rem {a d : Nat} (ha : a < 2 ^ 31) (h0 : 0 < d) (hd : d < 2 ^ 31) : nI a - nI a / nI d * nI d = nI (a % d) := by
  rw [pk_div ha h0 hd, pk_mul, pk_sub (Nat.div_mul_le_self a d)]
  exact congrArg nI (by have := Nat.div_add_mod' a d; omega)
theorem pk_ix (x : Int32) {n : Nat} (hn : n < 2 ^ 31) : x < 0 ∨ nI n ≤ x ∨ ∃ j : Nat, j < n ∧ x = nI j := by
  by_cases h : x < 0
  · exact Or.inl h
  · obtain ⟨j, hj, rfl⟩ := nI_of h
    by_cases h2 : j < n
    · exact Or.inr (Or.inr ⟨j, h2, rfl⟩)
    · exact Or.inr (Or.inl (nI_le (by omega) hj))
theorem pk_le {x y : Int32} {A B : Prop} (a b : Nat) (f : a ≤ b → A) (g : b < a → B) (hx : x = nI a := by rfl) (hy : y = nI b := by rfl) (ha : a < 2 ^ 31 := by omega) (hb : b < 2 ^ 31 := by omega) : (x ≤ y → A) ∧ (¬ x ≤ y → B) := by
  subst hx hy
  rw [nI_leI ha hb]
  exact ⟨f, fun z => g (by omega)⟩
theorem pk_lt {x y : Int32} {A B : Prop} (a b : Nat) (f : a < b → A) (g : b ≤ a → B) (hx : x = nI a := by rfl) (hy : y = nI b := by rfl) (ha : a < 2 ^ 31 := by omega) (hb : b < 2 ^ 31 := by omega) : (x < y → A) ∧ (¬ x < y → B) := by
  subst hx hy
  rw [nI_ltI ha hb]
  exact ⟨f, fun z => g (by omega)⟩
theorem pk_eq {x y : Int32} {A B : Prop} (a b : Nat) (f : a = b → A) (g : a ≠ b → B) (hx : x = nI a := by rfl) (hy : y = nI b := by rfl) (ha : a < 2 ^ 31 := by omega) (hb : b < 2 ^ 31 := by omega) : (x = y → A) ∧ (¬ x = y → B) := by
  subst hx hy
  rw [nI_eq ha hb]
  exact ⟨f, g⟩
theorem pk_in {x : Int32} (n N : Nat) (h : n < N) (hx : x = nI n := by rfl) (hN : N < 2 ^ 31 := by omega) : vp_in x N := by
  subst hx
  exact vp_in_nI h hN
theorem pk_cl {x : Int32} (n : Nat) (hx : x = nI n := by rfl) (h : n < 2 ^ 31 := by omega) : x.toNatClampNeg = n := by
  subst hx
  exact nI_clamp h
theorem pk_loop {σ : Type} (W : Nat → Nat → σ → Prop) (I : Nat → σ → Prop) (e i0 : Nat) (s : σ) (hi : i0 ≤ e) (h0 : I i0 s) (hx : ∀ n s, I e s → W (n + 1) e s)
    (hs : ∀ n i s, i < e → I i s → (∀ s', I (i + 1) s' → W n (i + 1) s') → W (n + 1) i s) : ∃ n, W n i0 s :=
  ⟨e + 1, loop_i W I e hx hs (e + 1) i0 s hi (by omega) h0⟩
theorem ek_if {c d A B : Prop} (e : c ↔ d) (f : d → A) (g : ¬ d → B) : (c → A) ∧ (¬ c → B) :=
  ⟨fun z => f (e.mp z), fun z => g (fun y => z (e.mpr y))⟩
theorem ek_v {α : Sort _} {P : α → Prop} {a b : α} (e : a = b) (h : P b) : P a := e ▸ h
def bt (x : Int32) (i : Nat) : Bool := x.toBitVec.getLsbD i
theorem b_ext {x y : Int32} (h : ∀ i, i < 32 → bt x i = bt y i) : x = y := Int32.toBitVec_inj.mp (BitVec.eq_of_getLsbD_eq (fun i hi => h i hi))
theorem b_or (x y : Int32) (i : Nat) : bt (x ||| y) i = (bt x i || bt y i) := by unfold bt; rw [Int32.toBitVec_or, BitVec.getLsbD_or]
theorem b_and (x y : Int32) (i : Nat) : bt (x &&& y) i = (bt x i && bt y i) := by unfold bt; rw [Int32.toBitVec_and, BitVec.getLsbD_and]
theorem b_xor (x y : Int32) (i : Nat) : bt (x ^^^ y) i = (bt x i ^^ bt y i) := by unfold bt; rw [Int32.toBitVec_xor, BitVec.getLsbD_xor]
theorem b_big {x : Int32} {i : Nat} (h : 32 ≤ i) : bt x i = false := BitVec.getLsbD_of_ge _ _ h
theorem b_255 (i : Nat) : bt 255 i = decide (i < 8) := by
  rcases Nat.lt_or_ge i 32 with h | h
  · exact (by decide +kernel : ∀ i, i < 32 → bt 255 i = decide (i < 8)) i h
  · rw [b_big h, decide_eq_false (by omega)]
theorem b_65535 (i : Nat) : bt 65535 i = decide (i < 16) := by
  rcases Nat.lt_or_ge i 32 with h | h
  · exact (by decide +kernel : ∀ i, i < 32 → bt 65535 i = decide (i < 16)) i h
  · rw [b_big h, decide_eq_false (by omega)]
theorem b_m1 : ∀ i, i < 32 → bt (-1) i = true := by decide +kernel
theorem b_0 (i : Nat) : bt 0 i = false := BitVec.getLsbD_zero
theorem s_l : ∀ n, n < 32 → ((nI n &&& 31).toBitVec.smod 32).toNat = n := by decide +kernel
theorem s_u : ∀ n, n < 32 → (((nI n).toUInt32 &&& Int32.toUInt32 31).toBitVec % 32).toNat = n := by decide +kernel
theorem b_shl (n : Nat) (hn : n < 32) (x : Int32) {i : Nat} (hi : i < 32) : bt (x <<< (nI n &&& 31)) i = (decide (n ≤ i) && bt x (i - n)) := by
  unfold bt
  rw [Int32.toBitVec_shiftLeft]
  show (x.toBitVec <<< ((nI n &&& 31).toBitVec.smod 32).toNat).getLsbD i = _
  rw [s_l n hn, BitVec.getLsbD_shiftLeft]
  rcases Nat.lt_or_ge i n with h | h
  · simp [h, Nat.not_le.mpr h]
  · simp [hi, h, Nat.not_lt.mpr h]
theorem b_ushr (n : Nat) (hn : n < 32) (x : Int32) (i : Nat) : bt ((x.toUInt32 >>> ((nI n).toUInt32 &&& Int32.toUInt32 31)).toInt32) i = bt x (n + i) := by
  show (x.toUInt32 >>> ((nI n).toUInt32 &&& Int32.toUInt32 31)).toBitVec.getLsbD i = x.toUInt32.toBitVec.getLsbD (n + i)
  rw [UInt32.toBitVec_shiftRight]
  show (x.toUInt32.toBitVec >>> (((nI n).toUInt32 &&& Int32.toUInt32 31).toBitVec % 32).toNat).getLsbD i = _
  rw [s_u n hn, BitVec.getLsbD_ushiftRight]
theorem b_sshr (n : Nat) (hn : n < 32) (x : Int32) {i : Nat} (hi : i < 32) : bt (x >>> (nI n &&& 31)) i = if n + i < 32 then bt x (n + i) else bt x 31 := by
  unfold bt
  rw [Int32.toBitVec_shiftRight]
  show (x.toBitVec.sshiftRight ((nI n &&& 31).toBitVec.smod 32).toNat).getLsbD i = _
  rw [s_l n hn, BitVec.getLsbD_sshiftRight, BitVec.msb_eq_getLsbD_last]
  simp [hi]
end
section
/-- how many of the first k numbers have P -/
noncomputable def ma_cnt (P : Nat → Prop) : Nat → Nat
  | 0 => 0
  | k + 1 => ma_cnt P k + @ite Nat (P k) (Classical.propDecidable _) 1 0
theorem ma_cnt_t {P : Nat → Prop} {k : Nat} (h : P k) : ma_cnt P (k + 1) = ma_cnt P k + 1 := by
  rw [ma_cnt, if_pos h]
theorem ma_cnt_f {P : Nat → Prop} {k : Nat} (h : ¬ P k) : ma_cnt P (k + 1) = ma_cnt P k := by
  rw [ma_cnt, if_neg h] <;> rfl
theorem ma_cnt_le (P : Nat → Prop) : ∀ k, ma_cnt P k ≤ k
  | 0 => Nat.le_refl 0
  | k + 1 => by
    have ih := ma_cnt_le P k
    by_cases h : P k
    · rw [ma_cnt_t h]; omega
    · rw [ma_cnt_f h]; omega
theorem ma_cnt_mono {P Q : Nat → Prop} : ∀ k, (∀ i, i < k → P i → Q i) → ma_cnt P k ≤ ma_cnt Q k
  | 0, _ => Nat.le_refl 0
  | k + 1, h => by
    have ih := ma_cnt_mono (P := P) (Q := Q) k (fun i hi => h i (by omega))
    by_cases hp : P k
    · rw [ma_cnt_t hp, ma_cnt_t (h k (by omega) hp)]; omega
    · rw [ma_cnt_f hp]
      by_cases hq : Q k
      · rw [ma_cnt_t hq]; omega
      · rw [ma_cnt_f hq]; exact ih
theorem ma_cnt_lt {P Q : Nat → Prop} : ∀ k, (∀ i, i < k → P i → Q i) → (x : Nat) → x < k → Q x → ¬ P x → ma_cnt P k < ma_cnt Q k
  | 0, _, _, hx, _, _ => absurd hx (Nat.not_lt_zero _)
  | k + 1, h, x, hx, hq, hp => by
    have hm := ma_cnt_mono (P := P) (Q := Q) k (fun i hi => h i (by omega))
    by_cases e : x = k
    · cases e
      rw [ma_cnt_f hp, ma_cnt_t hq]; omega
    · have ih := ma_cnt_lt (P := P) (Q := Q) k (fun i hi => h i (by omega)) x (by omega) hq hp
      by_cases hp' : P k
      · rw [ma_cnt_t hp', ma_cnt_t (h k (by omega) hp')]; omega
      · rw [ma_cnt_f hp']
        by_cases hq' : Q k
        · rw [ma_cnt_t hq']; omega
        · rw [ma_cnt_f hq']; exact ih
theorem ma_cnt_pos {P : Nat → Prop} {k x : Nat} (hx : x < k) (h : P x) : 1 ≤ ma_cnt P k := by
  have := ma_cnt_lt (P := fun _ => False) (Q := P) k (fun i _ z => z.elim) x hx h (fun z => z)
  omega
theorem ma_cnt_congr {P Q : Nat → Prop} (k : Nat) (h : ∀ i, i < k → (P i ↔ Q i)) : ma_cnt P k = ma_cnt Q k :=
  Nat.le_antisymm (ma_cnt_mono k fun i hi => (h i hi).mp) (ma_cnt_mono k fun i hi => (h i hi).mpr)
theorem ma_cnt_ext {P Q : Nat → Prop} (k : Nat) (h : ∀ i, i < k → P i → Q i) (hc : ma_cnt Q k ≤ ma_cnt P k) : ∀ i, i < k → Q i → P i := by
  intro i hi hq
  refine Classical.byContradiction fun hp => ?_
  have := ma_cnt_lt k h i hi hq hp
  omega

/-- a has a step that b cannot answer, as far as Q tells apart -/
def ma_one (M : Nat → Nat → Nat → Prop) (Q : Nat → Nat → Prop) (a b : Nat) : Prop :=
  ∃ l c, l < 3 ∧ c < 8 ∧ M a l c ∧ ∀ d, d < 8 → M b l d → Q c d
def ma_nx (M : Nat → Nat → Nat → Prop) (Q : Nat → Nat → Prop) (a b : Nat) : Prop :=
  ma_one M Q a b ∨ ma_one M Q b a
/-- told apart after round n -/
def ma_T (M : Nat → Nat → Nat → Prop) : Nat → Nat → Nat → Prop
  | 0 => fun _ _ => False
  | n + 1 => ma_nx M (ma_T M n)
theorem ma_one_mono {M : Nat → Nat → Nat → Prop} {Q Q' : Nat → Nat → Prop} (h : ∀ c d, c < 8 → d < 8 → Q c d → Q' c d) {a b : Nat} : ma_one M Q a b → ma_one M Q' a b := by
  rintro ⟨l, c, hl, hc, hm, hd⟩
  exact ⟨l, c, hl, hc, hm, fun d hd' hm' => h c d hc hd' (hd d hd' hm')⟩
theorem ma_nx_mono {M : Nat → Nat → Nat → Prop} {Q Q' : Nat → Nat → Prop} (h : ∀ c d, c < 8 → d < 8 → Q c d → Q' c d) {a b : Nat} : ma_nx M Q a b → ma_nx M Q' a b :=
  fun z => z.imp (ma_one_mono h) (ma_one_mono h)
theorem ma_one_M {M M' : Nat → Nat → Nat → Prop} {Q : Nat → Nat → Prop} (h : ∀ a l b, a < 8 → l < 3 → b < 8 → (M a l b ↔ M' a l b)) {a b : Nat} (ha : a < 8) (hb : b < 8) : ma_one M Q a b → ma_one M' Q a b := by
  rintro ⟨l, c, hl, hc, hm, hd⟩
  exact ⟨l, c, hl, hc, (h a l c ha hl hc).mp hm, fun d hd' hm' => hd d hd' ((h b l d hb hl hd').mpr hm')⟩
theorem ma_nx_M {M M' : Nat → Nat → Nat → Prop} {Q : Nat → Nat → Prop} (h : ∀ a l b, a < 8 → l < 3 → b < 8 → (M a l b ↔ M' a l b)) {a b : Nat} (ha : a < 8) (hb : b < 8) : ma_nx M Q a b → ma_nx M' Q a b :=
  fun z => z.imp (ma_one_M h ha hb) (ma_one_M h hb ha)
theorem ma_T_M {M M' : Nat → Nat → Nat → Prop} (h : ∀ a l b, a < 8 → l < 3 → b < 8 → (M a l b ↔ M' a l b)) : ∀ n a b, a < 8 → b < 8 → ma_T M n a b → ma_T M' n a b
  | 0, _, _, _, _, z => z
  | n + 1, a, b, ha, hb, z => ma_nx_M (Q := ma_T M' n) h ha hb (ma_nx_mono (fun c d hc hd => ma_T_M h n c d hc hd) z)
theorem ma_T_sym {M : Nat → Nat → Nat → Prop} : ∀ n a b, ma_T M n a b → ma_T M n b a
  | 0, _, _, z => z
  | _ + 1, _, _, z => Or.symm z
theorem ma_T_irr {M : Nat → Nat → Nat → Prop} : ∀ n a, ¬ ma_T M n a a := by
  intro n
  induction n with
  | zero => exact fun _ z => z
  | succ n ih =>
    have key : ∀ x, ¬ ma_one M (ma_T M n) x x := by
      rintro x ⟨l, c, hl, hc, hm, hd⟩
      exact ih c (hd c hc hm)
    intro a z
    have z' : ma_one M (ma_T M n) a a ∨ ma_one M (ma_T M n) a a := z
    rcases z' with z' | z'
    · exact key a z'
    · exact key a z'
theorem ma_T_up {M : Nat → Nat → Nat → Prop} : ∀ n a b, ma_T M n a b → ma_T M (n + 1) a b
  | 0, _, _, z => False.elim z
  | n + 1, _, _, z => ma_nx_mono (fun c d _ _ => ma_T_up n c d) z
theorem ma_T_le {M : Nat → Nat → Nat → Prop} {m n a b : Nat} (h : m ≤ n) (z : ma_T M m a b) : ma_T M n a b := by
  induction h with
  | refl => exact z
  | step _ ih => exact ma_T_up _ _ _ ih
theorem ma_one_tr {M : Nat → Nat → Nat → Prop} {Q : Nat → Nat → Prop} (hQ : ∀ x y z, x < 8 → y < 8 → z < 8 → ¬ Q x y → ¬ Q y z → ¬ Q x z) {a b c : Nat} (h1 : ¬ ma_one M Q a b) (h2 : ¬ ma_one M Q b c) : ¬ ma_one M Q a c := by
  rintro ⟨l, x, hl, hx, hm, hd⟩
  have h3 : ∃ y, y < 8 ∧ M b l y ∧ ¬ Q x y := Classical.byContradiction fun hn =>
    h1 ⟨l, x, hl, hx, hm, fun d hd' hm' => Classical.byContradiction fun hq => hn ⟨d, hd', hm', hq⟩⟩
  obtain ⟨y, hy, hmy, hxy⟩ := h3
  have h4 : ∃ z, z < 8 ∧ M c l z ∧ ¬ Q y z := Classical.byContradiction fun hn =>
    h2 ⟨l, y, hl, hy, hmy, fun d hd' hm' => Classical.byContradiction fun hq => hn ⟨d, hd', hm', hq⟩⟩
  obtain ⟨z, hz, hmz, hyz⟩ := h4
  exact hQ x y z hx hy hz hxy hyz (hd z hz hmz)
theorem ma_T_tr {M : Nat → Nat → Nat → Prop} : ∀ n a b c, ¬ ma_T M n a b → ¬ ma_T M n b c → ¬ ma_T M n a c
  | 0, _, _, _, _, _ => fun z => z
  | n + 1, a, b, c, h1, h2 => by
    have hQ : ∀ x y z, x < 8 → y < 8 → z < 8 → ¬ ma_T M n x y → ¬ ma_T M n y z → ¬ ma_T M n x z := fun x y z _ _ _ => ma_T_tr n x y z
    intro h
    have h' : ma_one M (ma_T M n) a c ∨ ma_one M (ma_T M n) c a := h
    rcases h' with h | h
    · exact ma_one_tr hQ (fun z => h1 (Or.inl z)) (fun z => h2 (Or.inl z)) h
    · exact ma_one_tr hQ (fun z => h2 (Or.inr z)) (fun z => h1 (Or.inr z)) h
/-- round n + 1 tells nothing new -/
def ma_st (M : Nat → Nat → Nat → Prop) (n : Nat) : Prop := ∀ a b, a < 8 → b < 8 → ma_T M (n + 1) a b → ma_T M n a b
theorem ma_st_all {M : Nat → Nat → Nat → Prop} {n : Nat} (h : ma_st M n) : ∀ k a b, a < 8 → b < 8 → ma_T M (n + k) a b → ma_T M n a b
  | 0, _, _, _, _, z => z
  | k + 1, a, b, ha, hb, z => h a b ha hb (ma_nx_mono (Q := ma_T M (n + k)) (fun c d hc hd => ma_st_all h k c d hc hd) z)
theorem ma_st_up {M : Nat → Nat → Nat → Prop} {n : Nat} (h : ma_st M n) : ma_st M (n + 1) := fun a b ha hb z =>
  ma_T_up _ _ _ (ma_st_all h 2 a b ha hb z)
/-- a is the least of its group after round n -/
def ma_ld (M : Nat → Nat → Nat → Prop) (n a : Nat) : Prop := ∀ b, b < a → ma_T M n a b
theorem ma_least (P : Nat → Prop) : ∀ x, P x → ∃ y, y ≤ x ∧ P y ∧ ∀ z, z < y → ¬ P z := by
  intro x
  induction x using Nat.strongRecOn with
  | ind x ih =>
    intro hx
    by_cases h : ∃ z, z < x ∧ P z
    · obtain ⟨z, hz, hp⟩ := h
      obtain ⟨y, hy, hpy, hl⟩ := ih z hz hp
      exact ⟨y, by omega, hpy, hl⟩
    · exact ⟨x, Nat.le_refl x, hx, fun z hz hp => h ⟨z, hz, hp⟩⟩
theorem ma_strict {M : Nat → Nat → Nat → Prop} {n : Nat} (h : ¬ ma_st M n) : ma_cnt (ma_ld M n) 8 < ma_cnt (ma_ld M (n + 1)) 8 := by
  have h' : ∃ a b, a < 8 ∧ b < 8 ∧ ma_T M (n + 1) a b ∧ ¬ ma_T M n a b := Classical.byContradiction fun hn =>
    h fun a b ha hb z => Classical.byContradiction fun hz => hn ⟨a, b, ha, hb, z, hz⟩
  obtain ⟨a, b, ha, hb, h1, h0⟩ := h'
  obtain ⟨r, hra, hr, hrl⟩ := ma_least (fun r => ¬ ma_T M n r a) a (ma_T_irr n a)
  have hex : ∃ x, x < 8 ∧ ¬ ma_T M n x r ∧ ma_T M (n + 1) x r := by
    by_cases hz : ma_T M (n + 1) a r
    · exact ⟨a, ha, fun z => hr (ma_T_sym _ _ _ z), hz⟩
    · refine ⟨b, hb, ?_, ?_⟩
      · exact ma_T_tr n b a r (fun z => h0 (ma_T_sym _ _ _ z)) (fun z => hr (ma_T_sym _ _ _ z))
      · refine Classical.byContradiction fun hbr => ?_
        exact ma_T_tr (n + 1) a r b hz (fun z => hbr (ma_T_sym _ _ _ z)) h1
  obtain ⟨x0, hx0, hx1, hx2⟩ := hex
  obtain ⟨x, hxx, ⟨hxn, hxs⟩, hxl⟩ := ma_least (fun x => ¬ ma_T M n x r ∧ ma_T M (n + 1) x r) x0 ⟨hx1, hx2⟩
  refine ma_cnt_lt 8 (fun i _ hi b hb => ma_T_up _ _ _ (hi b hb)) x (by omega) ?_ ?_
  · intro y hy
    refine Classical.byContradiction fun hxy => ?_
    refine hxl y hy ⟨?_, ?_⟩
    · exact ma_T_tr n y x r (fun z => hxy (ma_T_up _ _ _ (ma_T_sym _ _ _ z))) hxn
    · refine Classical.byContradiction fun hyr => ?_
      exact ma_T_tr (n + 1) x y r hxy hyr hxs
  · intro hl
    have hrx : r < x := by
      refine Classical.byContradiction fun hge => ?_
      by_cases e : x = r
      · exact ma_T_irr (n + 1) x (by rw [← e] at hxs; exact hxs)
      · refine hrl x (by omega) ?_
        exact fun z => ma_T_tr n x r a hxn hr z
    exact hxn (hl r hrx)
theorem ma_grow {M : Nat → Nat → Nat → Prop} : ∀ n, ma_st M n ∨ n + 2 ≤ ma_cnt (ma_ld M (n + 1)) 8
  | 0 => by
    by_cases h : ma_st M 0
    · exact Or.inl h
    · have h1 := ma_strict h
      have h2 : 1 ≤ ma_cnt (ma_ld M 0) 8 := ma_cnt_pos (x := 0) (by omega) (fun b hb => absurd hb (Nat.not_lt_zero _))
      exact Or.inr (by omega)
  | n + 1 => by
    by_cases h : ma_st M (n + 1)
    · exact Or.inl h
    · have h1 := ma_strict h
      rcases ma_grow (M := M) n with h2 | h2
      · exact absurd (ma_st_up h2) h
      · exact Or.inr (by omega)
theorem ma_st7 {M : Nat → Nat → Nat → Prop} : ma_st M 7 := by
  rcases ma_grow (M := M) 7 with h | h
  · exact h
  · have := ma_cnt_le (ma_ld M (7 + 1)) 8
    omega
/-- what is ever told apart is so after round 7 -/
theorem ma_T7 {M : Nat → Nat → Nat → Prop} {k a b : Nat} (ha : a < 8) (hb : b < 8) (h : ma_T M k a b) : ma_T M 7 a b := by
  have h1 : ma_T M (7 + k) a b := ma_T_le (by omega) h
  exact ma_st_all ma_st7 k a b ha hb h1
/-- r is the least round after which nothing new is told -/
def ma_last (M : Nat → Nat → Nat → Prop) (r : Nat) : Prop :=
  (∀ a b, a < 8 → b < 8 → ma_T M 7 a b → ma_T M r a b) ∧ ∀ m, m < r → ∃ a b, a < 8 ∧ b < 8 ∧ ma_T M 7 a b ∧ ¬ ma_T M m a b
theorem ma_last_u {M : Nat → Nat → Nat → Prop} {r s : Nat} (h : ma_last M r) (h' : ma_last M s) : r = s := by
  rcases Nat.lt_trichotomy r s with hl | he | hl
  · obtain ⟨a, b, ha, hb, h7, hn⟩ := h'.2 r hl
    exact absurd (h.1 a b ha hb h7) hn
  · exact he
  · obtain ⟨a, b, ha, hb, h7, hn⟩ := h.2 s hl
    exact absurd (h'.1 a b ha hb h7) hn
theorem ma_last_st {M : Nat → Nat → Nat → Prop} {r : Nat} (hs : ma_st M r) (h : ∀ m, m < r → ¬ ma_st M m) : ma_last M r := by
  refine ⟨fun a b ha hb z => ma_st_all hs 7 a b ha hb (ma_T_le (by omega) z), fun m hm => ?_⟩
  refine Classical.byContradiction fun hn => h m hm fun a b ha hb z => ?_
  exact Classical.byContradiction fun hz => hn ⟨a, b, ha, hb, ma_T7 ha hb z, hz⟩
/-- n is the least round after which a and b are told apart -/
def ma_told (M : Nat → Nat → Nat → Prop) (n a b : Nat) : Prop := ma_T M n a b ∧ ∀ m, m < n → ¬ ma_T M m a b
theorem ma_told_u {M : Nat → Nat → Nat → Prop} {n m a b : Nat} (h : ma_told M n a b) (h' : ma_told M m a b) : n = m := by
  rcases Nat.lt_trichotomy n m with hl | he | hl
  · exact absurd h.1 (h'.2 n hl)
  · exact he
  · exact absurd h'.1 (h.2 m hl)
theorem ma_told_sym {M : Nat → Nat → Nat → Prop} {n a b : Nat} (h : ma_told M n a b) : ma_told M n b a :=
  ⟨ma_T_sym _ _ _ h.1, fun m hm z => h.2 m hm (ma_T_sym _ _ _ z)⟩
theorem ma_told_new {M : Nat → Nat → Nat → Prop} {n a b : Nat} (h : ma_T M (n + 1) a b) (h' : ¬ ma_T M n a b) : ma_told M (n + 1) a b :=
  ⟨h, fun m hm z => h' (ma_T_le (by omega) z)⟩

/-- b can follow a, as far as S says who follows whom (S c d: d follows c) -/
def ma_fo (M : Nat → Nat → Nat → Prop) (S : Nat → Nat → Prop) (b a : Nat) : Prop :=
  ∀ l c, l < 3 → c < 8 → M a l c → ∃ d, d < 8 ∧ M b l d ∧ S c d
theorem ma_fo_mono {M : Nat → Nat → Nat → Prop} {S S' : Nat → Nat → Prop} (h : ∀ c d, c < 8 → d < 8 → S c d → S' c d) {b a : Nat} (z : ma_fo M S b a) : ma_fo M S' b a := by
  intro l c hl hc hm
  obtain ⟨d, hd, hm', hs⟩ := z l c hl hc hm
  exact ⟨d, hd, hm', h c d hc hd hs⟩
def ma_sim (M : Nat → Nat → Nat → Prop) (S : Nat → Nat → Prop) : Prop := ∀ a b, a < 8 → b < 8 → S a b → ma_fo M S b a
/-- b follows a -/
def ma_F (M : Nat → Nat → Nat → Prop) (a b : Nat) : Prop := ∃ S, ma_sim M S ∧ S a b
theorem ma_F_max {M : Nat → Nat → Nat → Prop} {S : Nat → Nat → Prop} (h : ma_sim M S) {a b : Nat} (z : S a b) : ma_F M a b := ⟨S, h, z⟩
theorem ma_F_sim {M : Nat → Nat → Nat → Prop} : ma_sim M (ma_F M) := by
  rintro a b ha hb ⟨S, hs, hz⟩
  exact ma_fo_mono (fun c d _ _ z => ma_F_max hs z) (hs a b ha hb hz)
/-- striking a pair that fails keeps all that follow -/
theorem ma_F_keep {M : Nat → Nat → Nat → Prop} {S : Nat → Nat → Prop} (h : ∀ c d, c < 8 → d < 8 → ma_F M c d → S c d) {a b : Nat} (ha : a < 8) (hb : b < 8) (z : ¬ ma_fo M S b a) : ¬ ma_F M a b :=
  fun hf => z (ma_fo_mono h (ma_F_sim a b ha hb hf))

/-- reached from a by at most n silent steps -/
def ma_R (M : Nat → Nat → Nat → Prop) (a : Nat) : Nat → Nat → Prop
  | 0 => fun b => a = b
  | n + 1 => fun b => ma_R M a n b ∨ ∃ c, c < 8 ∧ ma_R M a n c ∧ M c 0 b
def ma_rst (M : Nat → Nat → Nat → Prop) (a n : Nat) : Prop := ∀ b, b < 8 → ma_R M a (n + 1) b → ma_R M a n b
theorem ma_rst_up {M : Nat → Nat → Nat → Prop} {a n : Nat} (h : ma_rst M a n) : ma_rst M a (n + 1) := by
  intro b hb z
  rcases z with z | ⟨c, hc, hr, hm⟩
  · exact z
  · exact Or.inr ⟨c, hc, h c hc hr, hm⟩
theorem ma_R_le {M : Nat → Nat → Nat → Prop} {a m n b : Nat} (h : m ≤ n) (z : ma_R M a m b) : ma_R M a n b := by
  induction h with
  | refl => exact z
  | step _ ih => exact Or.inl ih
theorem ma_R_grow {M : Nat → Nat → Nat → Prop} {a : Nat} (ha : a < 8) : ∀ n, ma_rst M a n ∨ n + 2 ≤ ma_cnt (ma_R M a (n + 1)) 8 := by
  have strict : ∀ n, ¬ ma_rst M a n → ma_cnt (ma_R M a n) 8 < ma_cnt (ma_R M a (n + 1)) 8 := by
    intro n h
    have h' : ∃ b, b < 8 ∧ ma_R M a (n + 1) b ∧ ¬ ma_R M a n b := Classical.byContradiction fun hn =>
      h fun b hb z => Classical.byContradiction fun hz => hn ⟨b, hb, z, hz⟩
    obtain ⟨b, hb, h1, h0⟩ := h'
    exact ma_cnt_lt 8 (fun i _ hi => Or.inl hi) b hb h1 h0
  intro n
  induction n with
  | zero =>
    by_cases h : ma_rst M a 0
    · exact Or.inl h
    · have h1 := strict 0 h
      have h2 : 1 ≤ ma_cnt (ma_R M a 0) 8 := ma_cnt_pos (x := a) ha rfl
      exact Or.inr (by omega)
  | succ n ih =>
    by_cases h : ma_rst M a (n + 1)
    · exact Or.inl h
    · have h1 := strict (n + 1) h
      rcases ih with h2 | h2
      · exact absurd (ma_rst_up h2) h
      · exact Or.inr (by omega)
theorem ma_rst7 {M : Nat → Nat → Nat → Prop} {a : Nat} (ha : a < 8) : ma_rst M a 7 := by
  rcases ma_R_grow (M := M) ha 7 with h | h
  · exact h
  · have := ma_cnt_le (ma_R M a (7 + 1)) 8
    omega
/-- c is reached from a silently -/
def ma_rch (M : Nat → Nat → Nat → Prop) (a c : Nat) : Prop := ma_R M a 7 c
theorem ma_rch_0 {M : Nat → Nat → Nat → Prop} (a : Nat) : ma_rch M a a := ma_R_le (m := 0) (by omega) rfl
theorem ma_rch_s {M : Nat → Nat → Nat → Prop} {a b c : Nat} (ha : a < 8) (hb : b < 8) (hc : c < 8) (h : ma_rch M a c) (hm : M c 0 b) : ma_rch M a b :=
  ma_rst7 ha b hb (Or.inr ⟨c, hc, h, hm⟩)
theorem ma_rch_min {M : Nat → Nat → Nat → Prop} {a : Nat} (P : Nat → Prop) (h0 : P a) (hs : ∀ c b, c < 8 → P c → M c 0 b → P b) : ∀ n b, ma_R M a n b → P b
  | 0, _, z => by cases z; exact h0
  | n + 1, b, z => by
    rcases z with z | ⟨c, hc, hr, hm⟩
    · exact ma_rch_min P h0 hs n b z
    · exact hs c b hc (ma_rch_min P h0 hs n c hr) hm
theorem ma_rch_tr {M : Nat → Nat → Nat → Prop} {a b c : Nat} (ha : a < 8) (hM : ∀ x y, x < 8 → M x 0 y → y < 8) (hb : b < 8) (h1 : ma_rch M a b) (h2 : ma_rch M b c) : ma_rch M a c := by
  have := ma_rch_min (M := M) (a := b) (fun x => x < 8 ∧ ma_rch M a x) ⟨hb, h1⟩ (fun x y hx hp hm => ⟨hM x y hx hm, ma_rch_s ha (hM x y hx hm) hx hp.2 hm⟩) 7 c h2
  exact this.2
/-- the long steps -/
def ma_L (M : Nat → Nat → Nat → Prop) (a l c : Nat) : Prop :=
  (l = 0 ∧ ma_rch M a c) ∨ (l ≠ 0 ∧ ∃ x y, x < 8 ∧ y < 8 ∧ ma_rch M a x ∧ M x l y ∧ ma_rch M y c)
/-- the machine without one step -/
def ma_cut (M : Nat → Nat → Nat → Prop) (a b l : Nat) : Nat → Nat → Nat → Prop := fun x k y => M x k y ∧ ¬ (x = a ∧ k = l ∧ y = b)
end
section
/-- a set of states: no bit from 8 up -/
def cm_sm (x : Int32) : Prop := ∀ i, 8 ≤ i → bt x i = false
theorem cm_ext {x y : Int32} (hx : cm_sm x) (hy : cm_sm y) (h : ∀ i, i < 8 → (bt x i = true ↔ bt y i = true)) : x = y := by
  refine b_ext fun i _ => ?_
  rcases Nat.lt_or_ge i 8 with h8 | h8
  · have := h i h8
    cases hb : bt x i <;> cases hc : bt y i <;> simp_all
  · rw [hx i h8, hy i h8]
theorem cm_0 : cm_sm 0 := fun i _ => b_0 i
theorem cm_255 : cm_sm 255 := fun i hi => by rw [b_255, decide_eq_false (by omega)]
theorem cm_or {x y : Int32} (hx : cm_sm x) (hy : cm_sm y) : cm_sm (x ||| y) := fun i hi => by rw [b_or, hx i hi, hy i hi]; rfl
theorem cm_and {x y : Int32} (hx : cm_sm x) : cm_sm (x &&& y) := fun i hi => by rw [b_and, hx i hi]; rfl
theorem cm_and' {x y : Int32} (hy : cm_sm y) : cm_sm (x &&& y) := fun i hi => by rw [b_and, hy i hi, Bool.and_false]
theorem cm_b1 : ∀ j, j < 32 → bt 1 j = decide (j = 0) := by decide +kernel
theorem cm_one {b : Nat} (hb : b < 8) (i : Nat) : bt ((1 : Int32) <<< (nI b &&& 31)) i = decide (i = b) := by
  rcases Nat.lt_or_ge i 32 with hi | hi
  · rw [b_shl b (by omega) 1 hi, cm_b1 (i - b) (by omega)]
    by_cases e : i = b
    · subst e; simp
    · by_cases l : b ≤ i
      · simp [e, l, show ¬ i - b = 0 by omega]
      · simp [e, l]
  · rw [b_big hi, decide_eq_false (by omega)]
theorem cm_one_sm {b : Nat} (hb : b < 8) : cm_sm ((1 : Int32) <<< (nI b &&& 31)) := fun i hi => by
  rw [cm_one hb, decide_eq_false (by omega)]
theorem cm_not (x : Int32) {i : Nat} (hi : i < 32) : bt (x ^^^ (-1)) i = !bt x i := by
  rw [b_xor, b_m1 i hi, Bool.xor_true]
theorem cm_has (x : Int32) {b : Nat} (hb : b < 8) : (x >>> (nI b &&& 31)) &&& 1 = 0 ↔ bt x b = false := by
  constructor
  · intro h
    have h1 : bt ((x >>> (nI b &&& 31)) &&& 1) 0 = false := by rw [h]; exact b_0 0
    rw [b_and, b_sshr b (by omega) x (by omega), cm_b1 0 (by omega), if_pos (by omega)] at h1
    simpa using h1
  · intro h
    refine b_ext fun i hi => ?_
    rw [b_and, b_sshr b (by omega) x hi, cm_b1 i hi, b_0]
    by_cases e : i = 0
    · subst e
      rw [if_pos (by omega)]
      simpa using h
    · simp [e]
theorem cm_has1 (x : Int32) {b : Nat} (hb : b < 8) (h : bt x b = true) : (x >>> (nI b &&& 31)) &&& 1 = 1 := by
  refine b_ext fun i hi => ?_
  rw [b_and, b_sshr b (by omega) x hi, cm_b1 i hi]
  by_cases e : i = 0
  · subst e
    rw [if_pos (by omega)]
    simpa using h
  · simp [e]
theorem cm_has0 (x : Int32) {b : Nat} (hb : b < 8) (h : bt x b = false) : (x >>> (nI b &&& 31)) &&& 1 = 0 := (cm_has x hb).mpr h
/-- x holds nothing outside y -/
theorem cm_sub {x y : Int32} (hx : cm_sm x) : x &&& (y ^^^ (-1)) = 0 ↔ ∀ d, d < 8 → bt x d = true → bt y d = true := by
  constructor
  · intro h d hd hb
    have h1 : bt (x &&& (y ^^^ (-1))) d = false := by rw [h]; exact b_0 d
    rw [b_and, cm_not y (by omega), hb] at h1
    simpa using h1
  · intro h
    refine cm_ext (cm_and hx) cm_0 fun i hi => ?_
    rw [b_and, cm_not y (by omega), b_0]
    have := h i hi
    cases hb : bt x i <;> cases hc : bt y i <;> simp_all
/-- x and y have nothing in common -/
theorem cm_dis {x y : Int32} (hx : cm_sm x) : x &&& y = 0 ↔ ∀ d, d < 8 → bt x d = true → ¬ bt y d = true := by
  constructor
  · intro h d hd hb hc
    have h1 : bt (x &&& y) d = false := by rw [h]; exact b_0 d
    rw [b_and, hb, hc] at h1
    exact absurd h1 (by decide)
  · intro h
    refine cm_ext (cm_and hx) cm_0 fun i hi => ?_
    rw [b_and, b_0]
    have := h i hi
    cases hb : bt x i <;> cases hc : bt y i <;> simp_all
theorem cm_put {x : Int32} {b : Nat} (hb : b < 8) (i : Nat) : bt (x ||| ((1 : Int32) <<< (nI b &&& 31))) i = true ↔ bt x i = true ∨ i = b := by
  rw [b_or, cm_one hb]; simp
theorem cm_del {x : Int32} {b : Nat} (hb : b < 8) {i : Nat} (hi : i < 8) : bt (x &&& (((1 : Int32) <<< (nI b &&& 31)) ^^^ (-1))) i = true ↔ bt x i = true ∧ i ≠ b := by
  rw [b_and, cm_not _ (by omega), cm_one hb]; simp
/-- what a holds below its own bit: (1 << a) - 1 -/
theorem cm_low : ∀ a, a < 8 → ∀ i, i < 32 → bt (((1 : Int32) <<< (nI a &&& 31)) - 1) i = decide (i < a) := by decide +kernel
theorem cm_low_sm {a : Nat} (ha : a < 8) : cm_sm (((1 : Int32) <<< (nI a &&& 31)) - 1) := by
  intro i hi
  rcases Nat.lt_or_ge i 32 with h | h
  · rw [cm_low a ha i h, decide_eq_false (by omega)]
  · exact b_big h
end
section
/-- the set x is P -/
def cm_P (x : Int32) (P : Nat → Prop) : Prop := cm_sm x ∧ ∀ b, b < 8 → (bt x b = true ↔ P b)
theorem cm_P_u {x y : Int32} {P Q : Nat → Prop} (h : cm_P x P) (h' : cm_P y Q) (e : ∀ b, b < 8 → (P b ↔ Q b)) : x = y :=
  cm_ext h.1 h'.1 fun i hi => (h.2 i hi).trans ((e i hi).trans (h'.2 i hi).symm)
theorem cm_P_e {x y : Int32} {P Q : Nat → Prop} (h : cm_P x P) (h' : cm_P y Q) : x = y ↔ ∀ b, b < 8 → (P b ↔ Q b) := by
  refine ⟨?_, cm_P_u h h'⟩
  intro e b hb
  subst e
  exact (h.2 b hb).symm.trans (h'.2 b hb)
theorem cm_P_c {x : Int32} {P Q : Nat → Prop} (h : cm_P x P) (e : ∀ b, b < 8 → (P b ↔ Q b)) : cm_P x Q :=
  ⟨h.1, fun b hb => (h.2 b hb).trans (e b hb)⟩
theorem cm_P_or {x y : Int32} {P Q : Nat → Prop} (h : cm_P x P) (h' : cm_P y Q) : cm_P (x ||| y) (fun b => P b ∨ Q b) := by
  refine ⟨cm_or h.1 h'.1, fun b hb => ?_⟩
  rw [b_or, Bool.or_eq_true]
  exact or_congr (h.2 b hb) (h'.2 b hb)
theorem cm_P_one {b : Nat} (hb : b < 8) : cm_P ((1 : Int32) <<< (nI b &&& 31)) (fun i => i = b) := by
  refine ⟨cm_one_sm hb, fun i _ => ?_⟩
  rw [cm_one hb]
  exact decide_eq_true_iff
theorem cm_P_put {x : Int32} {P : Nat → Prop} {b : Nat} (h : cm_P x P) (hb : b < 8) : cm_P (x ||| ((1 : Int32) <<< (nI b &&& 31))) (fun i => P i ∨ i = b) :=
  cm_P_or h (cm_P_one hb)
theorem cm_P_del {x : Int32} {P : Nat → Prop} {b : Nat} (h : cm_P x P) (hb : b < 8) : cm_P (x &&& (((1 : Int32) <<< (nI b &&& 31)) ^^^ (-1))) (fun i => P i ∧ i ≠ b) := by
  refine ⟨cm_and h.1, fun i hi => ?_⟩
  rw [cm_del hb hi]
  exact and_congr (h.2 i hi) Iff.rfl
theorem cm_P_0 : cm_P 0 (fun _ => False) := ⟨cm_0, fun b _ => by rw [b_0]; exact ⟨fun z => absurd z (by decide), fun z => False.elim z⟩⟩
theorem cm_P_255 : cm_P 255 (fun _ => True) := ⟨cm_255, fun b hb => by rw [b_255]; exact ⟨fun _ => True.intro, fun _ => decide_eq_true hb⟩⟩
theorem cm_P_n {x : Int32} {P : Nat → Prop} {b : Nat} (h : cm_P x P) (hb : b < 8) (n : ¬ P b) : (x >>> (nI b &&& 31)) &&& 1 = 0 := by
  refine cm_has0 x hb ?_
  cases e : bt x b
  · rfl
  · exact absurd ((h.2 b hb).mp e) n
theorem cm_P_y {x : Int32} {P : Nat → Prop} {b : Nat} (h : cm_P x P) (hb : b < 8) (p : P b) : (x >>> (nI b &&& 31)) &&& 1 = 1 :=
  cm_has1 x hb ((h.2 b hb).mpr p)
theorem cm_10 : ¬ (1 : Int32) = 0 := by decide
theorem cm_01 : ¬ (0 : Int32) = 1 := by decide
/-- a branch on a bit that is asked to be 0 -/
theorem cm_b0 {x : Int32} {P : Nat → Prop} {b : Nat} {A B : Prop} (h : cm_P x P) (hb : b < 8) (f : ¬ P b → A) (g : P b → B) : ((x >>> (nI b &&& 31)) &&& 1 = 0 → A) ∧ (¬ (x >>> (nI b &&& 31)) &&& 1 = 0 → B) := by
  by_cases p : P b
  · rw [cm_P_y h hb p]
    exact br_f cm_10 (g p)
  · rw [cm_P_n h hb p]
    exact br_t rfl (f p)
/-- a branch on a bit that is asked to be 1 -/
theorem cm_b1' {x : Int32} {P : Nat → Prop} {b : Nat} {A B : Prop} (h : cm_P x P) (hb : b < 8) (f : P b → A) (g : ¬ P b → B) : ((x >>> (nI b &&& 31)) &&& 1 = 1 → A) ∧ (¬ (x >>> (nI b &&& 31)) &&& 1 = 1 → B) := by
  by_cases p : P b
  · rw [cm_P_y h hb p]
    exact br_t rfl (f p)
  · rw [cm_P_n h hb p]
    exact br_f cm_01 (g p)
theorem cm_P_sub {x y : Int32} {P Q : Nat → Prop} (h : cm_P x P) (h' : cm_P y Q) : x &&& (y ^^^ (-1)) = 0 ↔ ∀ d, d < 8 → P d → Q d := by
  rw [cm_sub h.1]
  exact ⟨fun z d hd p => (h'.2 d hd).mp (z d hd ((h.2 d hd).mpr p)), fun z d hd p => (h'.2 d hd).mpr (z d hd ((h.2 d hd).mp p))⟩
theorem cm_P_dis {x y : Int32} {P Q : Nat → Prop} (h : cm_P x P) (h' : cm_P y Q) : x &&& y = 0 ↔ ∀ d, d < 8 → P d → ¬ Q d := by
  rw [cm_dis h.1]
  exact ⟨fun z d hd p q => z d hd ((h.2 d hd).mpr p) ((h'.2 d hd).mpr q), fun z d hd p q => z d hd ((h.2 d hd).mp p) ((h'.2 d hd).mp q)⟩
theorem cm_P_low {a : Nat} (ha : a < 8) : cm_P (((1 : Int32) <<< (nI a &&& 31)) - 1) (fun i => i < a) := by
  refine ⟨cm_low_sm ha, fun i hi => ?_⟩
  rw [cm_low a ha i (by omega)]
  exact decide_eq_true_iff
/-- all but x: 255 & ~x -/
theorem cm_P_rest {x : Int32} {P : Nat → Prop} (h : cm_P x P) : cm_P (255 &&& (x ^^^ (-1))) (fun i => ¬ P i) := by
  refine ⟨cm_and cm_255, fun i hi => ?_⟩
  rw [b_and, b_255, decide_eq_true hi, Bool.true_and, cm_not x (by omega)]
  have := h.2 i hi
  cases e : bt x i
  · rw [e] at this
    exact ⟨fun _ p => absurd (this.mpr p) (by decide), fun _ => rfl⟩
  · rw [e] at this
    exact ⟨fun z => absurd z (by decide), fun n => absurd (this.mp rfl) n⟩
/-- a table of sets, a row a state -/
def cx_P (p : Nat → Int32) (Q : Nat → Nat → Prop) : Prop := ∀ a, a < 8 → cm_P (p a) (Q a)
theorem cx_P_c {p : Nat → Int32} {Q Q' : Nat → Nat → Prop} (h : cx_P p Q) (e : ∀ a b, a < 8 → b < 8 → (Q a b ↔ Q' a b)) : cx_P p Q' :=
  fun a ha => cm_P_c (h a ha) fun b hb => e a b ha hb
theorem cx_same {p p' : Nat → Int32} {Q Q' : Nat → Nat → Prop} (h : cx_P p Q) (h' : cx_P p' Q') : (∀ a, a < 8 → p a = p' a) ↔ ∀ a b, a < 8 → b < 8 → (Q a b ↔ Q' a b) :=
  ⟨fun z a b ha hb => (cm_P_e (h a ha) (h' a ha)).mp (z a ha) b hb, fun z a ha => cm_P_u (h a ha) (h' a ha) fun b hb => z a b ha hb⟩
/-- the class's table of steps is M -/
def cx_T (s : Nat → Int32) (M : Nat → Nat → Nat → Prop) : Prop := ∀ a l, a < 8 → l < 3 → cm_P (s (a * 3 + l)) (M a l)
/-- the reference's table of steps is M -/
def cy_T (f : Nat → Int32) (M : Nat → Nat → Nat → Prop) : Prop := ∀ a l, a < 8 → l < 3 → cm_P (f (8 * l + a)) (M a l)

/-- the pair x, y has been looked at when a, b is next -/
def cx_pr (a b x y : Nat) : Prop := (y < x ∧ (x < a ∨ (x = a ∧ y < b))) ∨ (x < y ∧ (y < a ∨ (y = a ∧ x < b)))
/-- each pair told apart has its round -/
def cx_told (M : Nat → Nat → Nat → Prop) (p t : Nat → Int32) : Prop :=
  ∀ x y, x < 8 → y < 8 → bt (p x) y = true → ∃ k, t (x * 8 + y) = nI k ∧ ma_told M k x y
def cx_J (M : Nat → Nat → Nat → Prop) (n a b : Nat) (p t : Nat → Int32) : Prop :=
  cx_P p (fun x y => ma_T M n x y ∨ (cx_pr a b x y ∧ ma_T M (n + 1) x y)) ∧ cx_told M p t
theorem cx_J0 {M : Nat → Nat → Nat → Prop} {n : Nat} {p t : Nat → Int32} (h : cx_P p (ma_T M n)) (h' : cx_told M p t) : cx_J M n 0 0 p t := by
  refine ⟨cx_P_c h fun x y _ _ => ⟨Or.inl, ?_⟩, h'⟩
  rintro (z | ⟨z, _⟩)
  · exact z
  · unfold cx_pr at z
    omega
theorem cx_J_keep {M : Nat → Nat → Nat → Prop} {n a b : Nat} {p t : Nat → Int32} (hb : b < a) (h : cx_J M n a b p t) (c : ma_T M n a b ∨ ¬ ma_T M (n + 1) a b) : cx_J M n a (b + 1) p t := by
  refine ⟨cx_P_c h.1 fun x y _ _ => ?_, h.2⟩
  constructor
  · rintro (z | ⟨z, z'⟩)
    · exact Or.inl z
    · refine Or.inr ⟨?_, z'⟩
      unfold cx_pr at z ⊢
      omega
  · rintro (z | ⟨z, z'⟩)
    · exact Or.inl z
    · by_cases e : cx_pr a b x y
      · exact Or.inr ⟨e, z'⟩
      · have e' : (x = a ∧ y = b) ∨ (x = b ∧ y = a) := by
          unfold cx_pr at z e
          omega
        rcases e' with ⟨e1, e2⟩ | ⟨e1, e2⟩
        · subst e1; subst e2
          exact Or.inl (c.resolve_right fun z => z z')
        · subst e1; subst e2
          exact Or.inl (ma_T_sym _ _ _ (c.resolve_right fun z => z (ma_T_sym _ _ _ z')))
theorem cx_J_row {M : Nat → Nat → Nat → Prop} {n a : Nat} {p t : Nat → Int32} (h : cx_J M n a a p t) : cx_J M n (a + 1) 0 p t := by
  refine ⟨cx_P_c h.1 fun x y _ _ => ?_, h.2⟩
  have e : cx_pr a a x y ↔ cx_pr (a + 1) 0 x y := by
    unfold cx_pr
    omega
  rw [e]
theorem cx_J_end {M : Nat → Nat → Nat → Prop} {n : Nat} {p t : Nat → Int32} (h : cx_J M n 8 0 p t) : cx_P p (ma_T M (n + 1)) ∧ cx_told M p t := by
  refine ⟨cx_P_c h.1 fun x y hx hy => ?_, h.2⟩
  constructor
  · rintro (z | ⟨_, z⟩)
    · exact ma_T_up _ _ _ z
    · exact z
  · intro z
    refine Or.inr ⟨?_, z⟩
    have ne : x ≠ y := by
      intro e
      subst e
      exact ma_T_irr _ _ z
    unfold cx_pr
    omega
theorem cx_J_put {M : Nat → Nat → Nat → Prop} {n a b : Nat} {p t : Nat → Int32} (ha : a < 8) (hb : b < a) (h : cx_J M n a b p t) (c : ¬ ma_T M n a b) (c' : ma_T M (n + 1) a b) :
    cx_J M n a (b + 1) (upd (upd p a (p a ||| ((1 : Int32) <<< (nI b &&& 31)))) b ((upd p a (p a ||| ((1 : Int32) <<< (nI b &&& 31)))) b ||| ((1 : Int32) <<< (nI a &&& 31))))
      (upd (upd t (a * 8 + b) (nI (n + 1))) (b * 8 + a) (nI (n + 1))) := by
  have e0 : (upd p a (p a ||| ((1 : Int32) <<< (nI b &&& 31)))) b = p b := if_neg (by omega)
  rw [e0]
  have hrow : ∀ x, x < 8 → cm_P (upd (upd p a (p a ||| ((1 : Int32) <<< (nI b &&& 31)))) b (p b ||| ((1 : Int32) <<< (nI a &&& 31))) x) (fun y => (ma_T M n x y ∨ (cx_pr a b x y ∧ ma_T M (n + 1) x y)) ∨ (x = a ∧ y = b) ∨ (x = b ∧ y = a)) := by
    intro x hx
    by_cases e1 : x = b
    · subst e1
      have e2 : upd (upd p a (p a ||| ((1 : Int32) <<< (nI x &&& 31)))) x (p x ||| ((1 : Int32) <<< (nI a &&& 31))) x = (p x ||| ((1 : Int32) <<< (nI a &&& 31))) := if_pos rfl
      rw [e2]
      refine cm_P_c (cm_P_put (h.1 x hx) ha) fun y _ => ?_
      constructor
      · rintro (z | z)
        · exact Or.inl z
        · exact Or.inr (Or.inr ⟨rfl, z⟩)
      · rintro (z | ⟨z, _⟩ | ⟨_, z⟩)
        · exact Or.inl z
        · omega
        · exact Or.inr z
    · by_cases e3 : x = a
      · subst e3
        have e2 : upd (upd p x (p x ||| ((1 : Int32) <<< (nI b &&& 31)))) b (p b ||| ((1 : Int32) <<< (nI x &&& 31))) x = (p x ||| ((1 : Int32) <<< (nI b &&& 31))) := (if_neg e1).trans (if_pos rfl)
        rw [e2]
        refine cm_P_c (cm_P_put (h.1 x hx) (by omega)) fun y _ => ?_
        constructor
        · rintro (z | z)
          · exact Or.inl z
          · exact Or.inr (Or.inl ⟨rfl, z⟩)
        · rintro (z | ⟨_, z⟩ | ⟨z, _⟩)
          · exact Or.inl z
          · exact Or.inr z
          · exact absurd z e1
      · have e2 : upd (upd p a (p a ||| ((1 : Int32) <<< (nI b &&& 31)))) b (p b ||| ((1 : Int32) <<< (nI a &&& 31))) x = p x := (if_neg e1).trans (if_neg e3)
        rw [e2]
        refine cm_P_c (h.1 x hx) fun y _ => ?_
        constructor
        · exact Or.inl
        · rintro (z | ⟨z, _⟩ | ⟨z, _⟩)
          · exact z
          · exact absurd z e3
          · exact absurd z e1
  refine ⟨fun x hx => cm_P_c (hrow x hx) fun y _ => ?_, ?_⟩
  · constructor
    · rintro ((z | ⟨z, z'⟩) | ⟨e1, e2⟩ | ⟨e1, e2⟩)
      · exact Or.inl z
      · refine Or.inr ⟨?_, z'⟩
        unfold cx_pr at z ⊢
        omega
      · subst e1; subst e2
        refine Or.inr ⟨?_, c'⟩
        unfold cx_pr
        omega
      · subst e1; subst e2
        refine Or.inr ⟨?_, ma_T_sym _ _ _ c'⟩
        unfold cx_pr
        omega
    · rintro (z | ⟨z, z'⟩)
      · exact Or.inl (Or.inl z)
      · by_cases e : cx_pr a b x y
        · exact Or.inl (Or.inr ⟨e, z'⟩)
        · refine Or.inr ?_
          unfold cx_pr at z e
          omega
  · intro x y hx hy hbit
    by_cases e1 : x = b ∧ y = a
    · obtain ⟨e1, e2⟩ := e1
      subst e1; subst e2
      exact ⟨n + 1, if_pos rfl, ma_told_sym (ma_told_new c' c)⟩
    · by_cases e2 : x = a ∧ y = b
      · obtain ⟨e2, e3⟩ := e2
        subst e2; subst e3
        exact ⟨n + 1, (if_neg (by omega)).trans (if_pos rfl), ma_told_new c' c⟩
      · have hz := ((hrow x hx).2 y hy).mp hbit
        have hz' : ma_T M n x y ∨ (cx_pr a b x y ∧ ma_T M (n + 1) x y) := by
          rcases hz with z | z | z
          · exact z
          · exact absurd z e2
          · exact absurd z e1
        obtain ⟨k, hk, hk'⟩ := h.2 x y hx hy (((h.1 x hx).2 y hy).mpr hz')
        refine ⟨k, ?_, hk'⟩
        exact (if_neg (by omega)).trans ((if_neg (by omega)).trans hk)
/-- what the class's rounds leave: the pairs told apart, their rounds, the last round that told -/
def cx_E (M : Nat → Nat → Nat → Prop) (p t : Nat → Int32) (r : Int32) : Prop :=
  cx_P p (ma_T M 7) ∧ cx_told M p t ∧ ∃ k, r = nI k ∧ ma_last M k
theorem cx_E_st {M : Nat → Nat → Nat → Prop} {n : Nat} {p t : Nat → Int32} (hp : cx_P p (ma_T M n)) (ht : cx_told M p t) (hs : ma_st M n) (hl : ∀ m, m < n → ¬ ma_st M m) : cx_E M p t (nI n) := by
  refine ⟨cx_P_c hp fun a b ha hb => ⟨ma_T7 ha hb, fun z => ma_st_all hs 7 a b ha hb (ma_T_le (by omega) z)⟩, ht, n, rfl, ma_last_st hs hl⟩
theorem cx_st {M : Nat → Nat → Nat → Prop} {n : Nat} {p p' : Nat → Int32} (hp : cx_P p (ma_T M (n + 1))) (hp' : cx_P p' (ma_T M n)) : (∀ a, a < 8 → p a = p' a) ↔ ma_st M n := by
  rw [cx_same hp hp']
  exact ⟨fun z a b ha hb => (z a b ha hb).mp, fun z a b ha hb => ⟨z a b ha hb, ma_T_up _ _ _⟩⟩
end
section
/-- the reference's table after round n: the round of each pair told apart, -1 for the others -/
def cy_t (M : Nat → Nat → Nat → Prop) (n : Nat) (t : Nat → Int32) : Prop :=
  ∀ x y, x < 8 → y < 8 → (ma_T M n x y → ∃ k, t (8 * x + y) = nI k ∧ ma_told M k x y) ∧ (¬ ma_T M n x y → t (8 * x + y) = -1)
/-- in the midst of round n + 1, cell c next -/
def cy_J (M : Nat → Nat → Nat → Prop) (n c : Nat) (t : Nat → Int32) : Prop :=
  ∀ x y, x < 8 → y < 8 →
    (ma_T M n x y → ∃ k, t (8 * x + y) = nI k ∧ ma_told M k x y) ∧
    (¬ ma_T M n x y → 8 * x + y < c → ma_T M (n + 1) x y → t (8 * x + y) = nI (n + 1)) ∧
    (¬ ma_T M n x y → ¬ (8 * x + y < c ∧ ma_T M (n + 1) x y) → t (8 * x + y) = -1)
theorem cy_J0 {M : Nat → Nat → Nat → Prop} {n : Nat} {t : Nat → Int32} (h : cy_t M n t) : cy_J M n 0 t :=
  fun x y hx hy => ⟨(h x y hx hy).1, fun _ z => absurd z (Nat.not_lt_zero _), fun z _ => (h x y hx hy).2 z⟩
theorem cy_J_end {M : Nat → Nat → Nat → Prop} {n : Nat} {t : Nat → Int32} (h : cy_J M n 64 t) : cy_t M (n + 1) t := by
  intro x y hx hy
  have h1 := h x y hx hy
  refine ⟨fun z => ?_, fun z => h1.2.2 (fun z' => z (ma_T_up _ _ _ z')) (fun z' => z z'.2)⟩
  by_cases e : ma_T M n x y
  · exact h1.1 e
  · exact ⟨n + 1, h1.2.1 e (by omega) z, ma_told_new z e⟩
theorem cy_J_keep {M : Nat → Nat → Nat → Prop} {n c a b : Nat} {t : Nat → Int32} (ha : a < 8) (hb : b < 8) (hc : c = 8 * a + b) (h : cy_J M n c t) (k : ma_T M n a b ∨ ¬ ma_T M (n + 1) a b) : cy_J M n (c + 1) t := by
  intro x y hx hy
  have h1 := h x y hx hy
  refine ⟨h1.1, fun z hz hz' => ?_, fun z hz => h1.2.2 z fun w => hz ⟨by omega, w.2⟩⟩
  by_cases e : x = a ∧ y = b
  · obtain ⟨e1, e2⟩ := e
    subst e1; subst e2
    exact absurd hz' (k.resolve_left z)
  · exact h1.2.1 z (by omega) hz'
theorem cy_J_put {M : Nat → Nat → Nat → Prop} {n c a b : Nat} {t : Nat → Int32} (ha : a < 8) (hb : b < 8) (hc : c = 8 * a + b) (h : cy_J M n c t) (k : ¬ ma_T M n a b) (k' : ma_T M (n + 1) a b) : cy_J M n (c + 1) (upd t c (nI (n + 1))) := by
  intro x y hx hy
  have h1 := h x y hx hy
  by_cases e : x = a ∧ y = b
  · obtain ⟨e1, e2⟩ := e
    subst e1; subst e2
    have e3 : upd t c (nI (n + 1)) (8 * x + y) = nI (n + 1) := if_pos hc.symm
    rw [e3]
    exact ⟨fun z => absurd z k, fun _ _ _ => rfl, fun _ z => absurd ⟨by omega, k'⟩ z⟩
  · have e3 : upd t c (nI (n + 1)) (8 * x + y) = t (8 * x + y) := if_neg (by omega)
    rw [e3]
    exact ⟨h1.1, fun z hz hz' => h1.2.1 z (by omega) hz', fun z hz => h1.2.2 z fun w => hz ⟨by omega, w.2⟩⟩
theorem cy_told_7 {M : Nat → Nat → Nat → Prop} {k x y : Nat} (hx : x < 8) (hy : y < 8) (h : ma_told M k x y) : k ≤ 7 := by
  refine Classical.byContradiction fun z => ?_
  exact h.2 7 (by omega) (ma_T7 hx hy h.1)
theorem cy_told_n {M : Nat → Nat → Nat → Prop} {k n x y : Nat} (h : ma_told M k x y) (h' : ma_T M n x y) : k ≤ n := by
  refine Classical.byContradiction fun z => ?_
  exact h.2 n (by omega) h'
theorem cy_m1 : ¬ (0 : Int32) ≤ -1 := by decide
theorem cy_m1' : (-1 : Int32) < 0 := by decide
theorem cy_nn {k : Nat} (h : k < 2 ^ 31) : (0 : Int32) ≤ nI k := nI_pos' h
/-- the cell of c, d in round n + 1 says whether the rounds before told them apart -/
theorem cy_J_y {M : Nat → Nat → Nat → Prop} {n c x y : Nat} {t : Nat → Int32} (h : cy_J M n c t) (hx : x < 8) (hy : y < 8) (hn : n < 30) (z : ma_T M n x y) : 0 ≤ t (8 * x + y) ∧ t (8 * x + y) < nI (n + 1) := by
  obtain ⟨k, e, hk⟩ := (h x y hx hy).1 z
  have := cy_told_n hk z
  rw [e]
  exact ⟨cy_nn (by omega), nI_lt (by omega) (by omega)⟩
theorem cy_J_n {M : Nat → Nat → Nat → Prop} {n c x y : Nat} {t : Nat → Int32} (h : cy_J M n c t) (hx : x < 8) (hy : y < 8) (hn : n < 30) (z : ¬ ma_T M n x y) : ¬ 0 ≤ t (8 * x + y) ∨ ¬ t (8 * x + y) < nI (n + 1) := by
  by_cases e : 8 * x + y < c ∧ ma_T M (n + 1) x y
  · rw [(h x y hx hy).2.1 z e.1 e.2]
    exact Or.inr (nI_nlt (by omega) (by omega))
  · rw [(h x y hx hy).2.2 z e]
    exact Or.inl cy_m1
/-- what the reference's rounds leave -/
def cy_E (M : Nat → Nat → Nat → Prop) (t : Nat → Int32) : Prop := cy_t M 7 t
theorem cy_E_st {M : Nat → Nat → Nat → Prop} {n : Nat} {t : Nat → Int32} (h : cy_t M n t) (hs : ma_st M n ∨ 7 ≤ n) : cy_E M t := by
  intro x y hx hy
  have e : ma_T M n x y ↔ ma_T M 7 x y := by
    refine ⟨ma_T7 hx hy, fun z => ?_⟩
    rcases hs with hs | hs
    · exact ma_st_all hs 7 x y hx hy (ma_T_le (by omega) z)
    · exact ma_T_le hs z
  rw [← e]
  exact h x y hx hy
theorem cy_E_y {M : Nat → Nat → Nat → Prop} {t : Nat → Int32} {x y : Nat} (h : cy_E M t) (hx : x < 8) (hy : y < 8) (z : ma_T M 7 x y) : ∃ k, k ≤ 7 ∧ t (8 * x + y) = nI k ∧ ma_told M k x y := by
  obtain ⟨k, e, hk⟩ := (h x y hx hy).1 z
  exact ⟨k, cy_told_7 hx hy hk, e, hk⟩
theorem cy_E_n {M : Nat → Nat → Nat → Prop} {t : Nat → Int32} {x y : Nat} (h : cy_E M t) (hx : x < 8) (hy : y < 8) (z : ¬ ma_T M 7 x y) : t (8 * x + y) = -1 :=
  (h x y hx hy).2 z
theorem cy_E_lt {M : Nat → Nat → Nat → Prop} {t : Nat → Int32} {x y : Nat} (h : cy_E M t) (hx : x < 8) (hy : y < 8) : t (8 * x + y) < 0 ↔ ¬ ma_T M 7 x y := by
  by_cases z : ma_T M 7 x y
  · obtain ⟨k, hk, e, _⟩ := cy_E_y h hx hy z
    rw [e]
    exact ⟨fun w => absurd w (nI_pos (by omega)), fun w => absurd z w⟩
  · rw [cy_E_n h hx hy z]
    exact ⟨fun _ => z, fun _ => cy_m1'⟩
/-- both sides' answer to toldAfter -/
theorem cxy_told {M : Nat → Nat → Nat → Prop} {p t t' : Nat → Int32} {r : Int32} {x y : Nat} (h : cx_E M p t r) (h' : cy_E M t') (hx : x < 8) (hy : y < 8) (z : ma_T M 7 x y) : t' (8 * x + y) = t (x * 8 + y) := by
  obtain ⟨k, e, hk⟩ := h.2.1 x y hx hy (((h.1 x hx).2 y hy).mpr z)
  obtain ⟨m, _, e', hm⟩ := cy_E_y h' hx hy z
  rw [e, e', ma_told_u hm hk]
/-- the greatest round in the reference's table is the last that told -/
theorem cy_most {M : Nat → Nat → Nat → Prop} {t : Nat → Int32} {r : Nat} (h : cy_E M t) (h1 : ∀ x y, x < 8 → y < 8 → ∀ k, ma_told M k x y → k ≤ r) (h2 : r = 0 ∨ ∃ x y, x < 8 ∧ y < 8 ∧ ma_told M r x y) : ma_last M r := by
  refine ⟨fun a b ha hb z => ?_, fun m hm => ?_⟩
  · obtain ⟨k, _, _, hk⟩ := cy_E_y h ha hb z
    exact ma_T_le (h1 a b ha hb k hk) hk.1
  · rcases h2 with h2 | ⟨x, y, hx, hy, hk⟩
    · omega
    · exact ⟨x, y, hx, hy, ma_T7 hx hy hk.1, hk.2 m hm⟩

/-- how many pairs S holds -/
noncomputable def fo_mu (S : Nat → Nat → Prop) : Nat := ma_cnt (fun c => S (c / 8) (c % 8)) 64
/-- a pass of striking: F kept; while nothing is struck, the pairs looked at (D) hold; each strike makes S smaller -/
def fo_I (M : Nat → Nat → Nat → Prop) (S D : Nat → Nat → Prop) (m : Nat) (ch : Int32) : Prop :=
  (∀ c d, c < 8 → d < 8 → ma_F M c d → S c d) ∧
  ((ch = 0 ∧ fo_mu S ≤ m ∧ ∀ x y, x < 8 → y < 8 → D x y → S x y → ma_fo M S y x) ∨ (ch = 1 ∧ fo_mu S < m))
theorem fo_I0 {M : Nat → Nat → Nat → Prop} {S D : Nat → Nat → Prop} {m : Nat} (h : ∀ c d, c < 8 → d < 8 → ma_F M c d → S c d) (hm : fo_mu S ≤ m) (hD : ∀ x y, x < 8 → y < 8 → ¬ D x y) : fo_I M S D m 0 :=
  ⟨h, Or.inl ⟨rfl, hm, fun x y hx hy hd => absurd hd (hD x y hx hy)⟩⟩
theorem fo_I_keep {M : Nat → Nat → Nat → Prop} {S D D' : Nat → Nat → Prop} {m : Nat} {ch : Int32} {a b : Nat} (h : fo_I M S D m ch) (hD : ∀ x y, x < 8 → y < 8 → D' x y → D x y ∨ (x = a ∧ y = b)) (k : S a b → ma_fo M S b a) : fo_I M S D' m ch := by
  refine ⟨h.1, ?_⟩
  rcases h.2 with ⟨h1, h2, h3⟩ | h1
  · refine Or.inl ⟨h1, h2, fun x y hx hy hd hs => ?_⟩
    rcases hD x y hx hy hd with z | ⟨z, z'⟩
    · exact h3 x y hx hy z hs
    · subst z; subst z'
      exact k hs
  · exact Or.inr h1
theorem fo_I_D {M : Nat → Nat → Nat → Prop} {S D D' : Nat → Nat → Prop} {m : Nat} {ch : Int32} (h : fo_I M S D m ch) (hD : ∀ x y, x < 8 → y < 8 → D' x y → D x y) : fo_I M S D' m ch :=
  ⟨h.1, h.2.imp (fun z => ⟨z.1, z.2.1, fun x y hx hy hd => z.2.2 x y hx hy (hD x y hx hy hd)⟩) id⟩
theorem fo_I_strike {M : Nat → Nat → Nat → Prop} {S S' D D' : Nat → Nat → Prop} {m : Nat} {ch : Int32} {a b : Nat} (ha : a < 8) (hb : b < 8) (h : fo_I M S D m ch) (hS : ∀ x y, x < 8 → y < 8 → (S' x y ↔ S x y ∧ ¬ (x = a ∧ y = b))) (k : S a b) (k' : ¬ ma_fo M S b a) : fo_I M S' D' m 1 := by
  refine ⟨fun c d hc hd hf => (hS c d hc hd).mpr ⟨h.1 c d hc hd hf, ?_⟩, Or.inr ⟨rfl, ?_⟩⟩
  · rintro ⟨e1, e2⟩
    subst e1; subst e2
    exact ma_F_keep h.1 hc hd k' hf
  · have hlt : fo_mu S' < fo_mu S := by
      refine ma_cnt_lt 64 (fun i hi z => ((hS (i / 8) (i % 8) (by omega) (by omega)).mp z).1) (8 * a + b) (by omega) ?_ ?_
      · have e1 : (8 * a + b) / 8 = a := by omega
        have e2 : (8 * a + b) % 8 = b := by omega
        show S ((8 * a + b) / 8) ((8 * a + b) % 8)
        rw [e1, e2]; exact k
      · intro z
        exact ((hS _ _ (by omega) (by omega)).mp z).2 ⟨by omega, by omega⟩
    rcases h.2 with ⟨_, h2, _⟩ | ⟨_, h2⟩ <;> omega
/-- the head of a pass p -/
def fo_H (M : Nat → Nat → Nat → Prop) (S : Nat → Nat → Prop) (p : Nat) (ch : Int32) : Prop :=
  (∀ c d, c < 8 → d < 8 → ma_F M c d → S c d) ∧
  ((ch = 0 ∧ ∀ a b, a < 8 → b < 8 → S a b → ma_F M a b) ∨ (ch = 1 ∧ fo_mu S + p ≤ 64))
theorem fo_mu_le (S : Nat → Nat → Prop) : fo_mu S ≤ 64 := ma_cnt_le _ 64
theorem fo_H0 {M : Nat → Nat → Nat → Prop} {S : Nat → Nat → Prop} (h : ∀ c d, c < 8 → d < 8 → S c d) : fo_H M S 0 1 :=
  ⟨fun c d hc hd _ => h c d hc hd, Or.inr ⟨rfl, by have := fo_mu_le S; omega⟩⟩
theorem fo_H_s {M : Nat → Nat → Nat → Prop} {S D : Nat → Nat → Prop} {p m : Nat} {ch : Int32} (h : fo_I M S D m ch) (hm : m + p ≤ 64) (hD : ∀ x y, x < 8 → y < 8 → D x y) : fo_H M S (p + 1) ch := by
  refine ⟨h.1, ?_⟩
  rcases h.2 with ⟨h1, _, h3⟩ | ⟨h1, h2⟩
  · refine Or.inl ⟨h1, fun a b ha hb hs => ?_⟩
    exact ma_F_max (S := S) (fun x y hx hy hz => h3 x y hx hy (hD x y hx hy) hz) hs
  · exact Or.inr ⟨h1, by omega⟩
theorem fo_H_end {M : Nat → Nat → Nat → Prop} {S : Nat → Nat → Prop} {p : Nat} {ch : Int32} (h : fo_H M S p ch) (he : ch = 0 ∨ 65 ≤ p) : ∀ a b, a < 8 → b < 8 → (S a b ↔ ma_F M a b) := by
  intro a b ha hb
  refine ⟨?_, h.1 a b ha hb⟩
  rcases h.2 with ⟨_, h2⟩ | ⟨h1, h2⟩
  · exact h2 a b ha hb
  · rcases he with he | he
    · rw [h1] at he
      exact absurd he cm_10
    · omega

/-- what is reached from the first i states of P by a step l -/
def rc_s (M : Nat → Nat → Nat → Prop) (P : Nat → Prop) (l i b : Nat) : Prop := ∃ a, a < i ∧ P a ∧ M a l b
theorem rc_s0 {M : Nat → Nat → Nat → Prop} {P : Nat → Prop} {l b : Nat} : ¬ rc_s M P l 0 b := fun ⟨_, h, _⟩ => absurd h (Nat.not_lt_zero _)
theorem rc_s1 {M : Nat → Nat → Nat → Prop} {P : Nat → Prop} {l i b : Nat} : rc_s M P l (i + 1) b ↔ rc_s M P l i b ∨ (P i ∧ M i l b) := by
  constructor
  · rintro ⟨a, h, h1, h2⟩
    by_cases e : a = i
    · subst e
      exact Or.inr ⟨h1, h2⟩
    · exact Or.inl ⟨a, by omega, h1, h2⟩
  · rintro (⟨a, h, h1, h2⟩ | ⟨h1, h2⟩)
    · exact ⟨a, by omega, h1, h2⟩
    · exact ⟨i, by omega, h1, h2⟩
/-- the union of the sets of the first i states of P -/
theorem rc_P0 {M : Nat → Nat → Nat → Prop} {P : Nat → Prop} {l : Nat} : cm_P 0 (rc_s M P l 0) := cm_P_c cm_P_0 fun _ _ => ⟨fun z => z.elim, fun z => (rc_s0 z).elim⟩
theorem rc_Py {M : Nat → Nat → Nat → Prop} {P : Nat → Prop} {l i : Nat} {x y : Int32} (h : cm_P x (rc_s M P l i)) (h' : cm_P y (M i l)) (p : P i) : cm_P (x ||| y) (rc_s M P l (i + 1)) :=
  cm_P_c (cm_P_or h h') fun b _ => by
    rw [rc_s1]
    exact ⟨fun z => z.imp id fun w => ⟨p, w⟩, fun z => z.imp id fun w => w.2⟩
theorem rc_Pn {M : Nat → Nat → Nat → Prop} {P : Nat → Prop} {l i : Nat} {x : Int32} (h : cm_P x (rc_s M P l i)) (p : ¬ P i) : cm_P x (rc_s M P l (i + 1)) :=
  cm_P_c h fun b _ => by
    rw [rc_s1]
    exact ⟨Or.inl, fun z => z.resolve_right fun w => p w.1⟩
theorem rc_R0 {M : Nat → Nat → Nat → Prop} {a : Nat} (ha : a < 8) : cm_P ((1 : Int32) <<< (nI a &&& 31)) (ma_R M a 0) :=
  cm_P_c (cm_P_one ha) fun _ _ => ⟨fun z => z.symm, fun z => Eq.symm z⟩
theorem rc_R1 {M : Nat → Nat → Nat → Prop} {a n : Nat} {x y : Int32} (h : cm_P x (ma_R M a n)) (h' : cm_P y (rc_s M (ma_R M a n) 0 8)) : cm_P (x ||| y) (ma_R M a (n + 1)) := cm_P_or h h'
theorem rc_R8 {M : Nat → Nat → Nat → Prop} {a : Nat} {x : Int32} (ha : a < 8) (h : cm_P x (ma_R M a 8)) : cm_P x (ma_rch M a) :=
  cm_P_c h fun b hb => ⟨ma_rst7 ha b hb, Or.inl⟩
/-- the reference's widening, the set itself first -/
def rc_o (M : Nat → Nat → Nat → Prop) (P : Nat → Prop) (l i b : Nat) : Prop := P b ∨ rc_s M P l i b
theorem rc_o0 {M : Nat → Nat → Nat → Prop} {P : Nat → Prop} {l : Nat} {x : Int32} (h : cm_P x P) : cm_P x (rc_o M P l 0) :=
  cm_P_c h fun _ _ => ⟨Or.inl, fun z => z.resolve_right rc_s0⟩
theorem rc_oy {M : Nat → Nat → Nat → Prop} {P : Nat → Prop} {l i : Nat} {x y : Int32} (h : cm_P x (rc_o M P l i)) (h' : cm_P y (M i l)) (p : P i) : cm_P (x ||| y) (rc_o M P l (i + 1)) :=
  cm_P_c (cm_P_or h h') fun b _ => by
    unfold rc_o
    rw [rc_s1, or_assoc]
    exact ⟨fun z => z.imp id fun w => w.imp id fun v => ⟨p, v⟩, fun z => z.imp id fun w => w.imp id fun v => v.2⟩
theorem rc_on {M : Nat → Nat → Nat → Prop} {P : Nat → Prop} {l i : Nat} {x : Int32} (h : cm_P x (rc_o M P l i)) (p : ¬ P i) : cm_P x (rc_o M P l (i + 1)) :=
  cm_P_c h fun b _ => by
    unfold rc_o
    rw [rc_s1]
    exact ⟨fun z => z.imp id Or.inl, fun z => z.imp id fun w => w.resolve_right fun v => p v.1⟩
theorem rc_R1' {M : Nat → Nat → Nat → Prop} {a n : Nat} {x : Int32} (h : cm_P x (rc_o M (ma_R M a n) 0 8)) : cm_P x (ma_R M a (n + 1)) := h
/-- long steps -/
theorem rc_L0 {M : Nat → Nat → Nat → Prop} {a : Nat} {x : Int32} (h : cm_P x (ma_rch M a)) : cm_P x (ma_L M a 0) :=
  cm_P_c h fun _ _ => ⟨fun z => Or.inl ⟨rfl, z⟩, fun z => z.elim (fun w => w.2) fun w => absurd rfl w.1⟩
/-- M's silent reach as a machine's step, whatever the label -/
def rc_q (M : Nat → Nat → Nat → Prop) (a _l b : Nat) : Prop := ma_rch M a b
theorem rc_L1 {M : Nat → Nat → Nat → Prop} {a l : Nat} {x : Int32} (hl : l ≠ 0) (h : cm_P x (rc_s (rc_q M) (rc_s M (ma_rch M a) l 8) 0 8)) : cm_P x (ma_L M a l) :=
  cm_P_c h fun b _ => by
    constructor
    · rintro ⟨y, hy, ⟨x, hx, h1, h2⟩, h3⟩
      exact Or.inr ⟨hl, x, y, hx, hy, h1, h2, h3⟩
    · rintro (⟨z, _⟩ | ⟨_, x, y, hx, hy, h1, h2, h3⟩)
      · exact absurd z hl
      · exact ⟨y, hy, ⟨x, hx, h1, h2⟩, h3⟩

/-- sums -/
def sq_m (g : Nat → Nat) : Nat → Nat
  | 0 => 0
  | n + 1 => sq_m g n + g n
def sq_b (x : Int32) : Nat → Nat := sq_m fun b => (bt x b).toNat
theorem sq_1 (x : Int32) {b : Nat} (hb : b < 8) : (x >>> (nI b &&& 31)) &&& 1 = nI (bt x b).toNat := by
  cases e : bt x b
  · rw [cm_has0 x hb e]; rfl
  · rw [cm_has1 x hb e]; rfl
theorem sq_perm {g g' : Nat → Nat} (h : ∀ a l, a < 8 → l < 3 → g (a * 3 + l) = g' (8 * l + a)) : sq_m g 24 = sq_m g' 24 := by
  have h00 : g 0 = g' 0 := h 0 0 (by omega) (by omega)
  have h01 : g 1 = g' 8 := h 0 1 (by omega) (by omega)
  have h02 : g 2 = g' 16 := h 0 2 (by omega) (by omega)
  have h10 : g 3 = g' 1 := h 1 0 (by omega) (by omega)
  have h11 : g 4 = g' 9 := h 1 1 (by omega) (by omega)
  have h12 : g 5 = g' 17 := h 1 2 (by omega) (by omega)
  have h20 : g 6 = g' 2 := h 2 0 (by omega) (by omega)
  have h21 : g 7 = g' 10 := h 2 1 (by omega) (by omega)
  have h22 : g 8 = g' 18 := h 2 2 (by omega) (by omega)
  have h30 : g 9 = g' 3 := h 3 0 (by omega) (by omega)
  have h31 : g 10 = g' 11 := h 3 1 (by omega) (by omega)
  have h32 : g 11 = g' 19 := h 3 2 (by omega) (by omega)
  have h40 : g 12 = g' 4 := h 4 0 (by omega) (by omega)
  have h41 : g 13 = g' 12 := h 4 1 (by omega) (by omega)
  have h42 : g 14 = g' 20 := h 4 2 (by omega) (by omega)
  have h50 : g 15 = g' 5 := h 5 0 (by omega) (by omega)
  have h51 : g 16 = g' 13 := h 5 1 (by omega) (by omega)
  have h52 : g 17 = g' 21 := h 5 2 (by omega) (by omega)
  have h60 : g 18 = g' 6 := h 6 0 (by omega) (by omega)
  have h61 : g 19 = g' 14 := h 6 1 (by omega) (by omega)
  have h62 : g 20 = g' 22 := h 6 2 (by omega) (by omega)
  have h70 : g 21 = g' 7 := h 7 0 (by omega) (by omega)
  have h71 : g 22 = g' 15 := h 7 1 (by omega) (by omega)
  have h72 : g 23 = g' 23 := h 7 2 (by omega) (by omega)
  simp only [sq_m, h00, h01, h02, h10, h11, h12, h20, h21, h22, h30, h31, h32, h40, h41, h42, h50, h51, h52, h60, h61, h62, h70, h71, h72]
  omega
theorem sq_same {s f : Nat → Int32} (h : ∀ a l, a < 8 → l < 3 → s (a * 3 + l) = f (8 * l + a)) : sq_m (fun i => sq_b (s i) 8) 24 = sq_m (fun i => sq_b (f i) 8) 24 :=
  sq_perm fun a l ha hl => congrArg (fun x => sq_b x 8) (h a l ha hl)
end
section
/-- a loop with no state but its counter -/
theorem lq_1 (W : Nat → Nat → Prop) (I : Nat → Prop) (e i0 : Nat) (hi : i0 ≤ e) (h0 : I i0) (hx : ∀ n, I e → W (n + 1) e) (hs : ∀ n i, i < e → I i → (I (i + 1) → W n (i + 1)) → W (n + 1) i) : ∃ n, W n i0 := by
  have key : ∀ d i, i + d = e → I i → W (d + 1) i := by
    intro d
    induction d with
    | zero =>
      intro i h h'
      have h'' : i = e := by omega
      subst h''
      exact hx 0 h'
    | succ d ih =>
      intro i h h'
      exact hs (d + 1) i (by omega) h' (fun z => ih (i + 1) (by omega) z)
  exact ⟨e - i0 + 1, key (e - i0) i0 (by omega) h0⟩
/-- a state's number -/
def st_S (x : Int32) : Prop := ∃ j, j < 8 ∧ x = nI j
/-- a label's number -/
def st_L (x : Int32) : Prop := ∃ j, j < 3 ∧ x = nI j
theorem st_Sn {j : Nat} (hj : j < 2 ^ 31) : st_S (nI j) ↔ j < 8 := by
  constructor
  · rintro ⟨i, hi, e⟩
    rw [nI_eq hj (by omega)] at e
    omega
  · exact fun h => ⟨j, h, rfl⟩
theorem st_Ln {j : Nat} (hj : j < 2 ^ 31) : st_L (nI j) ↔ j < 3 := by
  constructor
  · rintro ⟨i, hi, e⟩
    rw [nI_eq hj (by omega)] at e
    omega
  · exact fun h => ⟨j, h, rfl⟩
theorem st_S0 {x : Int32} (h : x < 0) : ¬ st_S x := by
  rintro ⟨j, hj, rfl⟩
  exact nI_pos (by omega) h
theorem st_L0 {x : Int32} (h : x < 0) : ¬ st_L x := by
  rintro ⟨j, hj, rfl⟩
  exact nI_pos (by omega) h
theorem st_S8 {x : Int32} (h : ¬ x < 0) : 8 ≤ x ↔ ¬ st_S x := by
  obtain ⟨j, hj, rfl⟩ := nI_of h
  rw [st_Sn hj]
  exact (nI_leI (a := 8) (by omega) hj).trans (by omega)
theorem st_S8' {x : Int32} (h : ¬ x < 0) : x < 8 ↔ st_S x := by
  obtain ⟨j, hj, rfl⟩ := nI_of h
  rw [st_Sn hj]
  exact nI_ltI (b := 8) hj (by omega)
theorem st_S7 {x : Int32} (h : ¬ x < 0) : 7 < x ↔ ¬ st_S x := by
  obtain ⟨j, hj, rfl⟩ := nI_of h
  rw [st_Sn hj]
  exact (nI_ltI (a := 7) (by omega) hj).trans (by omega)
theorem st_S7' {x : Int32} (h : ¬ x < 0) : x ≤ 7 ↔ st_S x := by
  obtain ⟨j, hj, rfl⟩ := nI_of h
  rw [st_Sn hj]
  exact (nI_leI (b := 7) hj (by omega)).trans (by omega)
theorem st_L3 {x : Int32} (h : ¬ x < 0) : 3 ≤ x ↔ ¬ st_L x := by
  obtain ⟨j, hj, rfl⟩ := nI_of h
  rw [st_Ln hj]
  exact (nI_leI (a := 3) (by omega) hj).trans (by omega)
theorem st_L3' {x : Int32} (h : ¬ x < 0) : x < 3 ↔ st_L x := by
  obtain ⟨j, hj, rfl⟩ := nI_of h
  rw [st_Ln hj]
  exact nI_ltI (b := 3) hj (by omega)
theorem st_L2 {x : Int32} (h : ¬ x < 0) : 2 < x ↔ ¬ st_L x := by
  obtain ⟨j, hj, rfl⟩ := nI_of h
  rw [st_Ln hj]
  exact (nI_ltI (a := 2) (by omega) hj).trans (by omega)
theorem st_L2' {x : Int32} (h : ¬ x < 0) : x ≤ 2 ↔ st_L x := by
  obtain ⟨j, hj, rfl⟩ := nI_of h
  rw [st_Ln hj]
  exact (nI_leI (b := 2) hj (by omega)).trans (by omega)
theorem ix_3 (a l : Nat) : nI a * 3 + nI l = nI (a * 3 + l) := by
  show nI a * nI 3 + nI l = _
  rw [pk_mul, nI_add]
theorem ix_8 (a b : Nat) : nI a * 8 + nI b = nI (a * 8 + b) := by
  show nI a * nI 8 + nI b = _
  rw [pk_mul, nI_add]
theorem iy_8 (l a : Nat) : 8 * nI l + nI a = nI (8 * l + a) := by
  show nI 8 * nI l + nI a = _
  rw [pk_mul, nI_add]
theorem iy_d {c : Nat} (hc : c < 2 ^ 31) : nI c / 8 = nI (c / 8) := pk_div (d := 8) hc (by omega) (by omega)
theorem iy_m {c : Nat} (hc : c < 2 ^ 31) : nI c - nI c / 8 * 8 = nI (c % 8) := pk_rem (d := 8) hc (by omega) (by omega)
theorem nb_0 : narrow .boolean (.int 0) = .int 0 := rfl
theorem nb_1 : narrow .boolean (.int 1) = .int 1 := rfl
theorem nb_v0 : vp_nar .boolean 0 = 0 := rfl
theorem nb_v1 : vp_nar .boolean 1 = 1 := rfl
/-- the boolean x says P -/
def bo_s (x : Int32) (P : Prop) : Prop := (x = 1 ∧ P) ∨ (x = 0 ∧ ¬ P)
theorem bo_1 {P : Prop} (h : P) : bo_s 1 P := Or.inl ⟨rfl, h⟩
theorem bo_0 {P : Prop} (h : ¬ P) : bo_s 0 P := Or.inr ⟨rfl, h⟩
theorem bo_c {x : Int32} {P Q : Prop} (h : bo_s x P) (e : P ↔ Q) : bo_s x Q := h.imp (fun z => ⟨z.1, e.mp z.2⟩) (fun z => ⟨z.1, fun q => z.2 (e.mpr q)⟩)
theorem bo_u {x y : Int32} {P Q : Prop} (h : bo_s x P) (h' : bo_s y Q) (e : P ↔ Q) : x = y := by
  rcases h with ⟨h1, h2⟩ | ⟨h1, h2⟩ <;> rcases h' with ⟨h3, h4⟩ | ⟨h3, h4⟩
  · rw [h1, h3]
  · exact absurd (e.mp h2) h4
  · exact absurd (e.mpr h4) h2
  · rw [h1, h3]
theorem bo_n {x : Int32} {P : Prop} (h : bo_s x P) : narrow .boolean (.int x) = .int x := by
  rcases h with ⟨h, _⟩ | ⟨h, _⟩
  · rw [h]; exact nb_1
  · rw [h]; exact nb_0
theorem bo_v {x : Int32} {P : Prop} (h : bo_s x P) : vp_nar .boolean x = x := by
  rcases h with ⟨h, _⟩ | ⟨h, _⟩
  · rw [h]; exact nb_v1
  · rw [h]; exact nb_v0
theorem bo_t {x : Int32} {P : Prop} (h : bo_s x P) (p : P) : x = 1 := by
  rcases h with ⟨h, _⟩ | ⟨_, h⟩
  · exact h
  · exact absurd p h
theorem bo_f {x : Int32} {P : Prop} (h : bo_s x P) (p : ¬ P) : x = 0 := by
  rcases h with ⟨_, h⟩ | ⟨h, _⟩
  · exact absurd h p
  · exact h
theorem bo_z {x : Int32} {P : Prop} (h : bo_s x P) : x = 0 ↔ ¬ P := by
  rcases h with ⟨h, p⟩ | ⟨h, p⟩
  · rw [h]; exact ⟨fun z => absurd z (by decide), fun z => absurd p z⟩
  · rw [h]; exact ⟨fun _ => p, fun _ => rfl⟩
/-- a branch on a boolean that is asked to be 0 -/
theorem bo_b {x : Int32} {P A B : Prop} (h : bo_s x P) (f : ¬ P → A) (g : P → B) : (x = 0 → A) ∧ (¬ x = 0 → B) :=
  ⟨fun z => f ((bo_z h).mp z), fun z => g (Classical.byContradiction fun p => z ((bo_z h).mpr p))⟩
/-- a branch on a boolean that is asked to be 1 -/
theorem bo_b1 {x : Int32} {P A B : Prop} (h : bo_s x P) (f : P → A) (g : ¬ P → B) : (x = 1 → A) ∧ (¬ x = 1 → B) := by
  rcases h with ⟨h, p⟩ | ⟨h, p⟩
  · rw [h]; exact br_t rfl (f p)
  · rw [h]; exact br_f (by decide) (g p)
end
section
theorem le_3 : (3 : Int32) ≤ nI 3 := by decide
theorem le_8 : (8 : Int32) ≤ nI 8 := by decide
theorem le_24 : (24 : Int32) ≤ nI 24 := by decide
theorem le_64 : (64 : Int32) ≤ nI 64 := by decide
theorem le_192 : (192 : Int32) ≤ nI 192 := by decide
theorem ng_3 {i : Nat} (h : i < 3) : ¬ (3 : Int32) ≤ nI i := nI_ge (b := 3) h (by omega)
theorem ng_8 {i : Nat} (h : i < 8) : ¬ (8 : Int32) ≤ nI i := nI_ge (b := 8) h (by omega)
theorem ng_24 {i : Nat} (h : i < 24) : ¬ (24 : Int32) ≤ nI i := nI_ge (b := 24) h (by omega)
theorem ng_64 {i : Nat} (h : i < 64) : ¬ (64 : Int32) ≤ nI i := nI_ge (b := 64) h (by omega)
theorem ng_192 {i : Nat} (h : i < 192) : ¬ (192 : Int32) ≤ nI i := nI_ge (b := 192) h (by omega)
theorem ng_30 {i : Nat} (h : i < 30) : ¬ (30 : Int32) ≤ nI i := nI_ge (b := 30) h (by omega)
theorem ng_65 {i : Nat} (h : i < 65) : ¬ (65 : Int32) ≤ nI i := nI_ge (b := 65) h (by omega)
theorem in_8 {a : Nat} (h : a < 8) : vp_in (nI a) 8 := vp_in_nI h (by omega)
theorem in_24 {a : Nat} (h : a < 24) : vp_in (nI a) 24 := vp_in_nI h (by omega)
theorem in_64 {a : Nat} (h : a < 64) : vp_in (nI a) 64 := vp_in_nI h (by omega)
theorem in_3 {a l : Nat} (ha : a < 8) (hl : l < 3) : vp_in (nI a * 3 + nI l) 24 := by rw [ix_3]; exact vp_in_nI (by omega) (by omega)
theorem in_88 {a b : Nat} (ha : a < 8) (hb : b < 8) : vp_in (nI a * 8 + nI b) 64 := by rw [ix_8]; exact vp_in_nI (by omega) (by omega)
theorem iny_3 {a l : Nat} (ha : a < 8) (hl : l < 3) : vp_in (8 * nI l + nI a) 24 := by rw [iy_8]; exact vp_in_nI (by omega) (by omega)
theorem iny_8 {a b : Nat} (ha : a < 8) (hb : b < 8) : vp_in (8 * nI a + nI b) 64 := by rw [iy_8]; exact vp_in_nI (by omega) (by omega)
theorem cc_8 {a : Nat} (h : a < 192) : (nI a).toNatClampNeg = a := nI_clamp (by omega)
theorem cc_3 {a l : Nat} (ha : a < 8) (hl : l < 3) : (nI a * 3 + nI l).toNatClampNeg = a * 3 + l := by rw [ix_3]; exact nI_clamp (by omega)
theorem cc_88 {a b : Nat} (ha : a < 8) (hb : b < 8) : (nI a * 8 + nI b).toNatClampNeg = a * 8 + b := by rw [ix_8]; exact nI_clamp (by omega)
theorem cy_3 {a l : Nat} (ha : a < 8) (hl : l < 3) : (8 * nI l + nI a).toNatClampNeg = 8 * l + a := by rw [iy_8]; exact nI_clamp (by omega)
theorem cy_8 {a b : Nat} (ha : a < 8) (hb : b < 8) : (8 * nI a + nI b).toNatClampNeg = 8 * a + b := by rw [iy_8]; exact nI_clamp (by omega)
theorem cx_Tc {s : Nat → Int32} {M : Nat → Nat → Nat → Prop} {a l : Nat} (h : cx_T s M) (ha : a < 8) (hl : l < 3) : cm_P (s (nI a * 3 + nI l).toNatClampNeg) (M a l) := by rw [cc_3 ha hl]; exact h a l ha hl
theorem cy_Tc {s : Nat → Int32} {M : Nat → Nat → Nat → Prop} {a l : Nat} (h : cy_T s M) (ha : a < 8) (hl : l < 3) : cm_P (s (8 * nI l + nI a).toNatClampNeg) (M a l) := by rw [cy_3 ha hl]; exact h a l ha hl
theorem cx_Pc {p : Nat → Int32} {Q : Nat → Nat → Prop} {a : Nat} (h : cx_P p Q) (ha : a < 8) : cm_P (p (nI a).toNatClampNeg) (Q a) := by rw [cc_8 (by omega)]; exact h a ha
theorem xc_contains {post : Int32 → Prop} {x : Int32} {P : Nat → Prop} {b : Nat} (h : cm_P x P) (hb : b < 8) (H : ∀ r, bo_s r (P b) → post r) : wpX_contains post x (nI b) :=
  cm_b0 h hb (fun p => H 0 (bo_0 p)) (fun p => H 1 (bo_1 p))
theorem xc_if {A B : Prop} {x : Int32} {P : Nat → Prop} {b : Nat} (h : cm_P x P) (hb : b < 8) (f : ¬ P b → A) (g : P b → B) : wpX_contains (fun r => (r = 0 → A) ∧ (¬ r = 0 → B)) x (nI b) :=
  xc_contains h hb fun _ hr => bo_b hr f g
theorem xc_isState {post : Int32 → Prop} (x : Int32) (H : ∀ r, bo_s r (st_S x) → post r) : wpX_isState post x :=
  br_c (fun h => H 0 (bo_0 (st_S0 h))) (fun h => ek_if (st_S8 h) (fun z => H 0 (bo_0 z)) (fun z => H 1 (bo_1 (Classical.byContradiction z))))
theorem xc_isLabel {post : Int32 → Prop} (x : Int32) (H : ∀ r, bo_s r (st_L x) → post r) : wpX_isLabel post x :=
  br_c (fun h => H 0 (bo_0 (st_L0 h))) (fun h => ek_if (st_L3 h) (fun z => H 0 (bo_0 z)) (fun z => H 1 (bo_1 (Classical.byContradiction z))))
theorem yc_state {post : Int32 → Prop} (v : SY) (x : Int32) (H : ∀ r, bo_s r (st_S x) → post r) : wpY_state post v x :=
  br_c (fun h => H 0 (bo_0 (st_S0 h))) (fun h => ek_if (st_S7 h) (fun z => H 0 (bo_0 z)) (fun z => H 1 (bo_1 (Classical.byContradiction z))))
section
variable {r0 : Int32} {s ls sr ap ab aw tr fo : Nat → Int32}
theorem xc_copyB {post : SX → Prop} (H : ∀ q, (∀ a, a < 8 → q a = ap a) → post (r0, s, ls, sr, ap, q, aw, tr, fo)) : wpX_copyStates__apart_apartBefore post (r0, s, ls, sr, ap, ab, aw, tr, fo) :=
  pk_loop (fun n i (q : Nat → Int32) => wX_copyStates__apart_apartBefore_2 post r0 n (nI i) s ls sr ap q aw tr fo)
    (fun i q => ∀ j, j < i → q j = ap j) 8 0 ab (by omega) lt_0
    (fun n q h => br_t le_8 (H q h))
    (fun n i q hi h k => br_f (ng_8 hi) ⟨in_8 hi, in_8 hi, nm_r (e' := upd q i (ap i)) (by rw [cc_8 (by omega)]) (nm_r (nI_1 i) (k _ (lt_s (fun j hj => (pk_un (Nat.ne_of_lt hj)).trans (h j hj)) pk_us)))⟩)
theorem xc_sameB {post : Int32 → Prop} (H : ∀ r, bo_s r (∀ a, a < 8 → ap a = ab a) → post r) : wpX_sameStates__apart_apartBefore post (r0, s, ls, sr, ap, ab, aw, tr, fo) :=
  lq_1 (fun n i => wX_sameStates__apart_apartBefore_2 post r0 s ls sr ap ab aw tr fo n (nI i))
    (fun i => ∀ j, j < i → ap j = ab j) 8 0 (by omega) lt_0
    (fun n h => br_t le_8 (H 1 (bo_1 h)))
    (fun n i hi h k => br_f (ng_8 hi) ⟨in_8 hi, in_8 hi, ek_if (d := ap i = ab i) (by rw [cc_8 (by omega)]) (fun z => nm_r (nI_1 i) (k (lt_s h z))) (fun z => H 0 (bo_0 fun w => z (w i hi)))⟩)
end
section
variable {r0 : Int32} {s ls sr ap ab aw tr fo : Nat → Int32}
theorem xc_copyW {post : SX → Prop} (H : ∀ q, (∀ a, a < 8 → q a = ap a) → post (r0, s, ls, sr, ap, ab, q, tr, fo)) : wpX_copyStates__apart_apartWithStep post (r0, s, ls, sr, ap, ab, aw, tr, fo) :=
  pk_loop (fun n i (q : Nat → Int32) => wX_copyStates__apart_apartWithStep_2 post r0 n (nI i) s ls sr ap ab q tr fo)
    (fun i q => ∀ j, j < i → q j = ap j) 8 0 aw (by omega) lt_0
    (fun n q h => br_t le_8 (H q h))
    (fun n i q hi h k => br_f (ng_8 hi) ⟨in_8 hi, in_8 hi, nm_r (e' := upd q i (ap i)) (by rw [cc_8 (by omega)]) (nm_r (nI_1 i) (k _ (lt_s (fun j hj => (pk_un (Nat.ne_of_lt hj)).trans (h j hj)) pk_us)))⟩)
theorem xc_sameW {post : Int32 → Prop} (H : ∀ r, bo_s r (∀ a, a < 8 → ap a = aw a) → post r) : wpX_sameStates__apart_apartWithStep post (r0, s, ls, sr, ap, ab, aw, tr, fo) :=
  lq_1 (fun n i => wX_sameStates__apart_apartWithStep_2 post r0 s ls sr ap ab aw tr fo n (nI i))
    (fun i => ∀ j, j < i → ap j = aw j) 8 0 (by omega) lt_0
    (fun n h => br_t le_8 (H 1 (bo_1 h)))
    (fun n i hi h k => br_f (ng_8 hi) ⟨in_8 hi, in_8 hi, ek_if (d := ap i = aw i) (by rw [cc_8 (by omega)]) (fun z => nm_r (nI_1 i) (k (lt_s h z))) (fun z => H 0 (bo_0 fun w => z (w i hi)))⟩)
end
end
section
section
variable {r0 : Int32} {s ls sr ap ab aw tr fo : Nat → Int32} {M : Nat → Nat → Nat → Prop}
theorem xt_in_stepSets {post J : Int32 → Prop} {Q : Nat → Nat → Prop} {a b l : Nat} (hM : cx_T s M) (hB : cx_P ab Q) (ha : a < 8) (hb : b < 8) (hl : l < 3)
    (f : (∃ c, c < 8 ∧ M a l c ∧ ∀ d, d < 8 → M b l d → Q c d) → post 1) (g : (∀ c, c < 8 → M a l c → ¬ ∀ d, d < 8 → M b l d → Q c d) → J (nI (l + 1))) :
    ∃ n, wX_canTell__stepSets_22 post J (nI a) (nI b) (nI l) (s (nI b * 3 + nI l).toNatClampNeg) r0 s ls sr ap ab aw tr fo n 0 :=
  lq_1 (fun n i => wX_canTell__stepSets_22 post J (nI a) (nI b) (nI l) (s (nI b * 3 + nI l).toNatClampNeg) r0 s ls sr ap ab aw tr fo n (nI i))
    (fun i => ∀ c, c < i → M a l c → ¬ ∀ d, d < 8 → M b l d → Q c d) 8 0 (by omega) lt_0
    (fun n h => br_t le_8 (nm_r (nI_1 l) (g h)))
    (fun n i hi h k => br_f (ng_8 hi) ⟨in_3 ha hl, xc_if (cx_Tc hM ha hl) hi
      (fun p => nm_r (nI_1 i) (k (lt_s h fun z => absurd z p)))
      (fun p => ⟨in_8 hi, ek_if (cm_P_sub (cx_Tc hM hb hl) (cx_Pc hB hi)) (fun z => f ⟨i, hi, p, z⟩) (fun z => nm_r (nI_1 i) (k (lt_s h fun _ => z)))⟩)⟩)
theorem xt_canTell_stepSets {post : Int32 → Prop} {Q : Nat → Nat → Prop} {a b : Nat} (hM : cx_T s M) (hB : cx_P ab Q) (ha : a < 8) (hb : b < 8)
    (H : ∀ r, bo_s r (ma_one M Q a b) → post r) : wpX_canTell__stepSets post (r0, s, ls, sr, ap, ab, aw, tr, fo) (nI a) (nI b) :=
  lq_1 (fun n i => wX_canTell__stepSets_3 post (nI a) (nI b) r0 s ls sr ap ab aw tr fo n (nI i))
    (fun i => ∀ l, l < i → ∀ c, c < 8 → M a l c → ¬ ∀ d, d < 8 → M b l d → Q c d) 3 0 (by omega) lt_0
    (fun n h => br_t le_3 (H 0 (bo_0 fun ⟨l, c, hl, hc, hm, hd⟩ => h l hl c hc hm hd)))
    (fun n i hi h k => br_f (ng_3 hi) ⟨in_3 hb hi, nm_e (xt_in_stepSets hM hB ha hb hi (fun ⟨c, hc, hm, hd⟩ => H 1 (bo_1 ⟨i, c, hi, hc, hm, hd⟩)) (fun z => k (lt_s h z)))⟩)
theorem xp_put_stepSets {post : SX → Prop} {J2 J11 : Int32 → (Nat → Int32) → (Nat → Int32) → (Nat → Int32) → (Nat → Int32) → (Nat → Int32) → (Nat → Int32) → (Nat → Int32) → (Nat → Int32) → Prop} {x2 : Int32} {a b : Nat} (ha : a < 8) (hb : b < 8)
    (H : J11 (nI (b + 1)) s ls sr (upd (upd ap a (ap a ||| ((1 : Int32) <<< (nI b &&& 31)))) b ((upd ap a (ap a ||| ((1 : Int32) <<< (nI b &&& 31)))) b ||| ((1 : Int32) <<< (nI a &&& 31)))) ab aw (upd (upd tr (a * 8 + b) x2) (b * 8 + a) x2) fo) :
    wX_playRound__stepSets_56 post J2 J11 x2 (nI a) (nI b) r0 s ls sr ap ab aw tr fo :=
  ⟨in_8 ha, in_8 ha, nm_r (e' := upd ap a (ap a ||| ((1 : Int32) <<< (nI b &&& 31)))) (by rw [cc_8 (by omega)]) ⟨in_8 hb, in_8 hb,
    nm_r (e' := upd (upd ap a (ap a ||| ((1 : Int32) <<< (nI b &&& 31)))) b ((upd ap a (ap a ||| ((1 : Int32) <<< (nI b &&& 31)))) b ||| ((1 : Int32) <<< (nI a &&& 31)))) (by rw [cc_8 (by omega)])
    ⟨in_88 ha hb, nm_r (e' := upd tr (a * 8 + b) x2) (by rw [cc_88 ha hb]) ⟨in_88 hb ha, nm_r (e' := upd (upd tr (a * 8 + b) x2) (b * 8 + a) x2) (by rw [cc_88 hb ha]) (nm_r (nI_1 b) H)⟩⟩⟩⟩
theorem xp_in_stepSets {post : SX → Prop} {J2 : Int32 → (Nat → Int32) → (Nat → Int32) → (Nat → Int32) → (Nat → Int32) → (Nat → Int32) → (Nat → Int32) → (Nat → Int32) → (Nat → Int32) → Prop} {m a : Nat} (hM : cx_T s M) (hB : cx_P ab (ma_T M m)) (ha : a < 8) (h0 : cx_J M m a 0 ap tr)
    (g : ∀ p t, cx_J M m a a p t → J2 (nI (a + 1)) s ls sr p ab aw t fo) :
    ∃ n, wX_playRound__stepSets_11 post J2 (nI (m + 1)) (nI a) r0 n 0 s ls sr ap ab aw tr fo :=
  pk_loop (fun n i (q : (Nat → Int32) × (Nat → Int32)) => wX_playRound__stepSets_11 post J2 (nI (m + 1)) (nI a) r0 n (nI i) s ls sr q.1 ab aw q.2 fo)
    (fun i q => cx_J M m a i q.1 q.2) a 0 (ap, tr) (Nat.zero_le _) h0
    (fun n q h => br_t (nI_le (Nat.le_refl a) (by omega)) (nm_r (nI_1 a) (g q.1 q.2 h)))
    (fun n i q hi h k => br_f (nI_ge hi (by omega)) ⟨in_8 ha, xc_if (cx_Pc hB ha) (by omega)
      (fun np => xt_canTell_stepSets hM hB ha (by omega) fun r hr => bo_b hr
        (fun n1 => xt_canTell_stepSets hM hB (by omega) ha fun r2 hr2 => bo_b hr2
          (fun n2 => nm_r (nI_1 i) (k q (cx_J_keep hi h (Or.inr fun z => Or.elim z n1 n2))))
          (fun p2 => xp_put_stepSets ha (by omega) (k (_, _) (cx_J_put ha hi h np (Or.inr p2)))))
        (fun p1 => xp_put_stepSets ha (by omega) (k (_, _) (cx_J_put ha hi h np (Or.inl p1)))))
      (fun p => nm_r (nI_1 i) (k q (cx_J_keep hi h (Or.inl p))))⟩)
theorem xp_playRound_stepSets {post : SX → Prop} {m : Nat} (hM : cx_T s M) (hB : cx_P ab (ma_T M m)) (hp : cx_P ap (ma_T M m)) (ht : cx_told M ap tr)
    (H : ∀ p t, cx_P p (ma_T M (m + 1)) ∧ cx_told M p t → post (r0, s, ls, sr, p, ab, aw, t, fo)) :
    wpX_playRound__stepSets post (r0, s, ls, sr, ap, ab, aw, tr, fo) (nI (m + 1)) :=
  pk_loop (fun n i (q : (Nat → Int32) × (Nat → Int32)) => wX_playRound__stepSets_2 post (nI (m + 1)) r0 n (nI i) s ls sr q.1 ab aw q.2 fo)
    (fun i q => cx_J M m i 0 q.1 q.2) 8 0 (ap, tr) (by omega) (cx_J0 hp ht)
    (fun n q h => br_t le_8 (H q.1 q.2 (cx_J_end h)))
    (fun n i q hi h k => br_f (ng_8 hi) (xp_in_stepSets hM hB hi h fun p t h' => k (p, t) (cx_J_row h')))
theorem xt_rounds_stepSets {post : SX → Prop} (hM : cx_T s M) (hp : cx_P ap (ma_T M 0)) (ht : cx_told M ap tr)
    (H : ∀ r p b t, cx_E M p t r → post (r, s, ls, sr, p, b, aw, t, fo)) :
    ∃ n, wX_tellApart__stepSets_28 post n 1 0 s ls sr ap ab aw tr fo := by
  refine pk_loop (fun n i (q : Int32 × (Nat → Int32) × (Nat → Int32) × (Nat → Int32)) => wX_tellApart__stepSets_28 post n (nI i) q.1 s ls sr q.2.1 q.2.2.1 aw q.2.2.2 fo)
    (fun i q => ∃ m, i = m + 1 ∧ q.1 = nI m ∧ cx_P q.2.1 (ma_T M m) ∧ cx_told M q.2.1 q.2.2.2 ∧ ∀ j, j < m → ¬ ma_st M j) 8 1 (0, ap, ab, tr) (by omega) ⟨0, rfl, rfl, hp, ht, lt_0⟩ ?_ ?_
  · rintro n ⟨r, p, b, t⟩ ⟨m, e1, e2, h1, h2, h3⟩
    have e3 : m = 7 := by omega
    subst e3
    refine br_t le_8 (H r p b t ?_)
    have e2' : r = nI 7 := e2
    rw [e2']
    exact cx_E_st h1 h2 ma_st7 h3
  · rintro n i ⟨r, p, b, t⟩ hi ⟨m, e1, e2, h1, h2, h3⟩ k
    subst e1
    have e2' : r = nI m := e2
    subst e2'
    refine br_f (ng_8 hi) (xc_copyB fun b' hb' => ?_)
    have h1' : cx_P p (ma_T M m) := h1
    have hB : cx_P b' (ma_T M m) := fun a ha => by rw [hb' a ha]; exact h1' a ha
    refine xp_playRound_stepSets hM hB h1 h2 fun p' t' h' => ?_
    refine xc_sameB fun r hr => ?_
    refine bo_b (bo_c hr (cx_st h'.1 hB)) (fun z => nm_r (nI_1 (m + 1)) (k (nI (m + 1), p', b', t') ⟨m + 1, rfl, rfl, h'.1, h'.2, lt_s h3 z⟩)) (fun z => H (nI m) p' b' t' ?_)
    exact cx_E_st (cx_P_c h'.1 fun x y hx hy => ⟨z x y hx hy, ma_T_up _ _ _⟩) h'.2 z h3
theorem xt_tellApart_stepSets {post : SX → Prop} (hM : cx_T s M)
    (H : ∀ r p b t, cx_E M p t r → post (r, s, ls, sr, p, b, aw, t, fo)) :
    wpX_tellApart__stepSets post (r0, s, ls, sr, ap, ab, aw, tr, fo) := by
  refine pk_loop (fun n i (q : Nat → Int32) => wX_tellApart__stepSets_2 post r0 n (nI i) s ls sr q ab aw tr fo)
    (fun i q => ∀ j, j < i → q j = 0) 8 0 ap (by omega) lt_0 ?_ ?_
  · intro n q h
    refine br_t le_8 (xt_rounds_stepSets hM ?_ ?_ H)
    · intro a ha
      rw [h a ha]
      exact cm_P_0
    · intro x y hx hy hz
      rw [h x hx, b_0] at hz
      exact absurd hz (by decide)
  · intro n i q hi h k
    refine br_f (ng_8 hi) ⟨in_8 hi, nm_r (e' := upd q i 0) (by rw [cc_8 (by omega)]) (nm_r (nI_1 i) (k _ (lt_s (fun j hj => ?_) pk_us)))⟩
    rw [pk_un (by omega)]
    exact h j hj
end
section
variable {r0 : Int32} {s ls sr ap ab aw tr fo : Nat → Int32} {M : Nat → Nat → Nat → Prop}
theorem xt_in_longStepSets {post J : Int32 → Prop} {Q : Nat → Nat → Prop} {a b l : Nat} (hM : cx_T ls M) (hB : cx_P ab Q) (ha : a < 8) (hb : b < 8) (hl : l < 3)
    (f : (∃ c, c < 8 ∧ M a l c ∧ ∀ d, d < 8 → M b l d → Q c d) → post 1) (g : (∀ c, c < 8 → M a l c → ¬ ∀ d, d < 8 → M b l d → Q c d) → J (nI (l + 1))) :
    ∃ n, wX_canTell__longStepSets_22 post J (nI a) (nI b) (nI l) (ls (nI b * 3 + nI l).toNatClampNeg) r0 s ls sr ap ab aw tr fo n 0 :=
  lq_1 (fun n i => wX_canTell__longStepSets_22 post J (nI a) (nI b) (nI l) (ls (nI b * 3 + nI l).toNatClampNeg) r0 s ls sr ap ab aw tr fo n (nI i))
    (fun i => ∀ c, c < i → M a l c → ¬ ∀ d, d < 8 → M b l d → Q c d) 8 0 (by omega) lt_0
    (fun n h => br_t le_8 (nm_r (nI_1 l) (g h)))
    (fun n i hi h k => br_f (ng_8 hi) ⟨in_3 ha hl, xc_if (cx_Tc hM ha hl) hi
      (fun p => nm_r (nI_1 i) (k (lt_s h fun z => absurd z p)))
      (fun p => ⟨in_8 hi, ek_if (cm_P_sub (cx_Tc hM hb hl) (cx_Pc hB hi)) (fun z => f ⟨i, hi, p, z⟩) (fun z => nm_r (nI_1 i) (k (lt_s h fun _ => z)))⟩)⟩)
theorem xt_canTell_longStepSets {post : Int32 → Prop} {Q : Nat → Nat → Prop} {a b : Nat} (hM : cx_T ls M) (hB : cx_P ab Q) (ha : a < 8) (hb : b < 8)
    (H : ∀ r, bo_s r (ma_one M Q a b) → post r) : wpX_canTell__longStepSets post (r0, s, ls, sr, ap, ab, aw, tr, fo) (nI a) (nI b) :=
  lq_1 (fun n i => wX_canTell__longStepSets_3 post (nI a) (nI b) r0 s ls sr ap ab aw tr fo n (nI i))
    (fun i => ∀ l, l < i → ∀ c, c < 8 → M a l c → ¬ ∀ d, d < 8 → M b l d → Q c d) 3 0 (by omega) lt_0
    (fun n h => br_t le_3 (H 0 (bo_0 fun ⟨l, c, hl, hc, hm, hd⟩ => h l hl c hc hm hd)))
    (fun n i hi h k => br_f (ng_3 hi) ⟨in_3 hb hi, nm_e (xt_in_longStepSets hM hB ha hb hi (fun ⟨c, hc, hm, hd⟩ => H 1 (bo_1 ⟨i, c, hi, hc, hm, hd⟩)) (fun z => k (lt_s h z)))⟩)
theorem xp_put_longStepSets {post : SX → Prop} {J2 J11 : Int32 → (Nat → Int32) → (Nat → Int32) → (Nat → Int32) → (Nat → Int32) → (Nat → Int32) → (Nat → Int32) → (Nat → Int32) → (Nat → Int32) → Prop} {x2 : Int32} {a b : Nat} (ha : a < 8) (hb : b < 8)
    (H : J11 (nI (b + 1)) s ls sr (upd (upd ap a (ap a ||| ((1 : Int32) <<< (nI b &&& 31)))) b ((upd ap a (ap a ||| ((1 : Int32) <<< (nI b &&& 31)))) b ||| ((1 : Int32) <<< (nI a &&& 31)))) ab aw (upd (upd tr (a * 8 + b) x2) (b * 8 + a) x2) fo) :
    wX_playRound__longStepSets_56 post J2 J11 x2 (nI a) (nI b) r0 s ls sr ap ab aw tr fo :=
  ⟨in_8 ha, in_8 ha, nm_r (e' := upd ap a (ap a ||| ((1 : Int32) <<< (nI b &&& 31)))) (by rw [cc_8 (by omega)]) ⟨in_8 hb, in_8 hb,
    nm_r (e' := upd (upd ap a (ap a ||| ((1 : Int32) <<< (nI b &&& 31)))) b ((upd ap a (ap a ||| ((1 : Int32) <<< (nI b &&& 31)))) b ||| ((1 : Int32) <<< (nI a &&& 31)))) (by rw [cc_8 (by omega)])
    ⟨in_88 ha hb, nm_r (e' := upd tr (a * 8 + b) x2) (by rw [cc_88 ha hb]) ⟨in_88 hb ha, nm_r (e' := upd (upd tr (a * 8 + b) x2) (b * 8 + a) x2) (by rw [cc_88 hb ha]) (nm_r (nI_1 b) H)⟩⟩⟩⟩
theorem xp_in_longStepSets {post : SX → Prop} {J2 : Int32 → (Nat → Int32) → (Nat → Int32) → (Nat → Int32) → (Nat → Int32) → (Nat → Int32) → (Nat → Int32) → (Nat → Int32) → (Nat → Int32) → Prop} {m a : Nat} (hM : cx_T ls M) (hB : cx_P ab (ma_T M m)) (ha : a < 8) (h0 : cx_J M m a 0 ap tr)
    (g : ∀ p t, cx_J M m a a p t → J2 (nI (a + 1)) s ls sr p ab aw t fo) :
    ∃ n, wX_playRound__longStepSets_11 post J2 (nI (m + 1)) (nI a) r0 n 0 s ls sr ap ab aw tr fo :=
  pk_loop (fun n i (q : (Nat → Int32) × (Nat → Int32)) => wX_playRound__longStepSets_11 post J2 (nI (m + 1)) (nI a) r0 n (nI i) s ls sr q.1 ab aw q.2 fo)
    (fun i q => cx_J M m a i q.1 q.2) a 0 (ap, tr) (Nat.zero_le _) h0
    (fun n q h => br_t (nI_le (Nat.le_refl a) (by omega)) (nm_r (nI_1 a) (g q.1 q.2 h)))
    (fun n i q hi h k => br_f (nI_ge hi (by omega)) ⟨in_8 ha, xc_if (cx_Pc hB ha) (by omega)
      (fun np => xt_canTell_longStepSets hM hB ha (by omega) fun r hr => bo_b hr
        (fun n1 => xt_canTell_longStepSets hM hB (by omega) ha fun r2 hr2 => bo_b hr2
          (fun n2 => nm_r (nI_1 i) (k q (cx_J_keep hi h (Or.inr fun z => Or.elim z n1 n2))))
          (fun p2 => xp_put_longStepSets ha (by omega) (k (_, _) (cx_J_put ha hi h np (Or.inr p2)))))
        (fun p1 => xp_put_longStepSets ha (by omega) (k (_, _) (cx_J_put ha hi h np (Or.inl p1)))))
      (fun p => nm_r (nI_1 i) (k q (cx_J_keep hi h (Or.inl p))))⟩)
theorem xp_playRound_longStepSets {post : SX → Prop} {m : Nat} (hM : cx_T ls M) (hB : cx_P ab (ma_T M m)) (hp : cx_P ap (ma_T M m)) (ht : cx_told M ap tr)
    (H : ∀ p t, cx_P p (ma_T M (m + 1)) ∧ cx_told M p t → post (r0, s, ls, sr, p, ab, aw, t, fo)) :
    wpX_playRound__longStepSets post (r0, s, ls, sr, ap, ab, aw, tr, fo) (nI (m + 1)) :=
  pk_loop (fun n i (q : (Nat → Int32) × (Nat → Int32)) => wX_playRound__longStepSets_2 post (nI (m + 1)) r0 n (nI i) s ls sr q.1 ab aw q.2 fo)
    (fun i q => cx_J M m i 0 q.1 q.2) 8 0 (ap, tr) (by omega) (cx_J0 hp ht)
    (fun n q h => br_t le_8 (H q.1 q.2 (cx_J_end h)))
    (fun n i q hi h k => br_f (ng_8 hi) (xp_in_longStepSets hM hB hi h fun p t h' => k (p, t) (cx_J_row h')))
theorem xt_rounds_longStepSets {post : SX → Prop} (hM : cx_T ls M) (hp : cx_P ap (ma_T M 0)) (ht : cx_told M ap tr)
    (H : ∀ r p b t, cx_E M p t r → post (r, s, ls, sr, p, b, aw, t, fo)) :
    ∃ n, wX_tellApart__longStepSets_28 post n 1 0 s ls sr ap ab aw tr fo := by
  refine pk_loop (fun n i (q : Int32 × (Nat → Int32) × (Nat → Int32) × (Nat → Int32)) => wX_tellApart__longStepSets_28 post n (nI i) q.1 s ls sr q.2.1 q.2.2.1 aw q.2.2.2 fo)
    (fun i q => ∃ m, i = m + 1 ∧ q.1 = nI m ∧ cx_P q.2.1 (ma_T M m) ∧ cx_told M q.2.1 q.2.2.2 ∧ ∀ j, j < m → ¬ ma_st M j) 8 1 (0, ap, ab, tr) (by omega) ⟨0, rfl, rfl, hp, ht, lt_0⟩ ?_ ?_
  · rintro n ⟨r, p, b, t⟩ ⟨m, e1, e2, h1, h2, h3⟩
    have e3 : m = 7 := by omega
    subst e3
    refine br_t le_8 (H r p b t ?_)
    have e2' : r = nI 7 := e2
    rw [e2']
    exact cx_E_st h1 h2 ma_st7 h3
  · rintro n i ⟨r, p, b, t⟩ hi ⟨m, e1, e2, h1, h2, h3⟩ k
    subst e1
    have e2' : r = nI m := e2
    subst e2'
    refine br_f (ng_8 hi) (xc_copyB fun b' hb' => ?_)
    have h1' : cx_P p (ma_T M m) := h1
    have hB : cx_P b' (ma_T M m) := fun a ha => by rw [hb' a ha]; exact h1' a ha
    refine xp_playRound_longStepSets hM hB h1 h2 fun p' t' h' => ?_
    refine xc_sameB fun r hr => ?_
    refine bo_b (bo_c hr (cx_st h'.1 hB)) (fun z => nm_r (nI_1 (m + 1)) (k (nI (m + 1), p', b', t') ⟨m + 1, rfl, rfl, h'.1, h'.2, lt_s h3 z⟩)) (fun z => H (nI m) p' b' t' ?_)
    exact cx_E_st (cx_P_c h'.1 fun x y hx hy => ⟨z x y hx hy, ma_T_up _ _ _⟩) h'.2 z h3
theorem xt_tellApart_longStepSets {post : SX → Prop} (hM : cx_T ls M)
    (H : ∀ r p b t, cx_E M p t r → post (r, s, ls, sr, p, b, aw, t, fo)) :
    wpX_tellApart__longStepSets post (r0, s, ls, sr, ap, ab, aw, tr, fo) := by
  refine pk_loop (fun n i (q : Nat → Int32) => wX_tellApart__longStepSets_2 post r0 n (nI i) s ls sr q ab aw tr fo)
    (fun i q => ∀ j, j < i → q j = 0) 8 0 ap (by omega) lt_0 ?_ ?_
  · intro n q h
    refine br_t le_8 (xt_rounds_longStepSets hM ?_ ?_ H)
    · intro a ha
      rw [h a ha]
      exact cm_P_0
    · intro x y hx hy hz
      rw [h x hx, b_0] at hz
      exact absurd hz (by decide)
  · intro n i q hi h k
    refine br_f (ng_8 hi) ⟨in_8 hi, nm_r (e' := upd q i 0) (by rw [cc_8 (by omega)]) (nm_r (nI_1 i) (k _ (lt_s (fun j hj => ?_) pk_us)))⟩
    rw [pk_un (by omega)]
    exact h j hj
end
end
section
section
variable {r0 : Int32} {s ls sr ap ab aw tr fo : Nat → Int32} {M : Nat → Nat → Nat → Prop}
theorem xc_hasStep {post : Int32 → Prop} (hM : cx_T s M) (x y z : Int32)
    (H : ∀ r, bo_s r (∃ a b l, a < 8 ∧ b < 8 ∧ l < 3 ∧ x = nI a ∧ y = nI b ∧ z = nI l ∧ M a l b) → post r) : wpX_hasStep post (r0, s, ls, sr, ap, ab, aw, tr, fo) x y z := by
  refine xc_isState x fun r hr => bo_b hr (fun n => H 0 (bo_0 ?_)) fun p => ?_
  · rintro ⟨a, b, l, ha, hb, hl, e1, e2, e3, _⟩
    exact n ⟨a, ha, e1⟩
  refine xc_isState y fun r hr => bo_b hr (fun n => H 0 (bo_0 ?_)) fun p' => ?_
  · rintro ⟨a, b, l, ha, hb, hl, e1, e2, e3, _⟩
    exact n ⟨b, hb, e2⟩
  refine xc_isLabel z fun r hr => bo_b hr (fun n => H 0 (bo_0 ?_)) fun p'' => ?_
  · rintro ⟨a, b, l, ha, hb, hl, e1, e2, e3, _⟩
    exact n ⟨l, hl, e3⟩
  obtain ⟨a, ha, rfl⟩ := p
  obtain ⟨b, hb, rfl⟩ := p'
  obtain ⟨l, hl, rfl⟩ := p''
  refine ⟨in_3 ha hl, xc_if (cx_Tc hM ha hl) hb (fun n => H 0 (bo_0 ?_)) fun p => H 1 (bo_1 ⟨a, b, l, ha, hb, hl, rfl, rfl, rfl, p⟩)⟩
  rintro ⟨a', b', l', ha', hb', hl', e1, e2, e3, hm⟩
  rw [nI_eq (by omega) (by omega)] at e1 e2 e3
  subst e1 e2 e3
  exact n hm
theorem xc_countGroups {post : Int32 → Prop} (hp : cx_P ap (ma_T M 7)) (H : post (nI (ma_cnt (ma_ld M 7) 8))) : wpX_countGroups post (r0, s, ls, sr, ap, ab, aw, tr, fo) := by
  refine pk_loop (fun n i (c : Int32) => wX_countGroups_4 post r0 s ls sr ap ab aw tr fo n c (nI i)) (fun i c => c = nI (ma_cnt (ma_ld M 7) i)) 8 0 0 (by omega) rfl ?_ ?_
  · intro n c h
    refine br_t le_8 ?_
    rw [h]; exact H
  · intro n i c hi h k
    subst h
    refine br_f (ng_8 hi) (nm_e ⟨in_8 hi, ek_if (d := ma_ld M 7 i) ?_ (fun z => nm_r (nI_1 _) (nm_r (nI_1 i) (k _ ?_))) (fun z => nm_r (nI_1 i) (k _ ?_))⟩)
    · refine (cm_P_sub (cm_P_low hi) (cx_Pc hp hi)).trans ⟨fun z b hb => z b (by omega) hb, fun z d _ hd => z d hd⟩
    · rw [ma_cnt_t z]
    · rw [ma_cnt_f z]
theorem xs_stepFrom {post : Int32 → Prop} {P : Nat → Prop} {x : Int32} {l : Nat} (hM : cx_T s M) (hP : cm_P x P) (hl : l < 3) (H : ∀ r, cm_P r (rc_s M P l 8) → post r) : wpX_stepFrom post (r0, s, ls, sr, ap, ab, aw, tr, fo) x (nI l) :=
  pk_loop (fun n i (c : Int32) => wX_stepFrom_5 post x (nI l) r0 s ls sr ap ab aw tr fo n c (nI i)) (fun i c => cm_P c (rc_s M P l i)) 8 0 0 (by omega) rc_P0
    (fun n c h => br_t le_8 (H c h))
    (fun n i c hi h k => br_f (ng_8 hi) (xc_if hP hi (fun np => nm_r (nI_1 i) (k _ (rc_Pn h np))) (fun p => ⟨in_3 hi hl, nm_e (nm_r (nI_1 i) (k _ (rc_Py h (cx_Tc hM hi hl) p)))⟩)))
theorem xs_reach {post : Int32 → Prop} {a : Nat} (hM : cx_T s M) (ha : a < 8) (H : ∀ r, cm_P r (ma_rch M a) → post r) : wpX_reachSilently post (r0, s, ls, sr, ap, ab, aw, tr, fo) (nI a) := by
  refine nm_e (pk_loop (fun n i (c : Int32) => wX_reachSilently_6 post r0 s ls sr ap ab aw tr fo n c (nI i)) (fun i c => ∃ m, i = m + 1 ∧ cm_P c (ma_R M a m)) 8 1 _ (by omega) ⟨0, rfl, rc_R0 ha⟩ ?_ ?_)
  · rintro n c ⟨m, e, h⟩
    have e' : m = 7 := by omega
    subst e'
    exact br_t le_8 (H c h)
  · rintro n i c hi ⟨m, e, h⟩ k
    subst e
    exact br_f (ng_8 hi) (xs_stepFrom (l := 0) hM h (by omega) fun r hr => nm_e (nm_r (nI_1 (m + 1)) (k _ ⟨m + 1, rfl, rc_R1 h hr⟩)))
theorem xs_widen {post : Int32 → Prop} {P : Nat → Prop} {x : Int32} (hS : ∀ i, i < 8 → cm_P (sr i) (ma_rch M i)) (hP : cm_P x P) (H : ∀ r, cm_P r (rc_s (rc_q M) P 0 8) → post r) : wpX_widenSilently post (r0, s, ls, sr, ap, ab, aw, tr, fo) x :=
  pk_loop (fun n i (c : Int32) => wX_widenSilently_4 post x r0 s ls sr ap ab aw tr fo n c (nI i)) (fun i c => cm_P c (rc_s (rc_q M) P 0 i)) 8 0 0 (by omega) rc_P0
    (fun n c h => br_t le_8 (H c h))
    (fun n i c hi h k => br_f (ng_8 hi) (xc_if hP hi (fun np => nm_r (nI_1 i) (k _ (rc_Pn h np))) (fun p => ⟨in_8 hi, nm_r (e' := c ||| sr i) (by rw [cc_8 (by omega)]) (nm_r (nI_1 i) (k _ (rc_Py h (hS i hi) p)))⟩)))
/-- the first rows of the long steps are made -/
def xl_I (M : Nat → Nat → Nat → Prop) (a l : Nat) (q : Nat → Int32) : Prop := (∀ j k, j < a → k < 3 → cm_P (q (j * 3 + k)) (ma_L M j k)) ∧ ∀ k, k < l → cm_P (q (a * 3 + k)) (ma_L M a k)
theorem xl_put {a l : Nat} {q : Nat → Int32} {x : Int32} (hl : l < 3) (h : xl_I M a l q) (hx : cm_P x (ma_L M a l)) : xl_I M a (l + 1) (upd q (a * 3 + l) x) := by
  refine ⟨fun j k hj hk => ?_, fun k hk => ?_⟩
  · rw [pk_un (by omega)]
    exact h.1 j k hj hk
  · by_cases e : k = l
    · subst e
      rw [pk_us]; exact hx
    · rw [pk_un (by omega)]
      exact h.2 k (by omega)
theorem xl_row {a : Nat} {q : Nat → Int32} (h : xl_I M a 3 q) : xl_I M (a + 1) 0 q := by
  refine ⟨fun j k hj hk => ?_, lt_0⟩
  by_cases e : j = a
  · subst e
    exact h.2 k hk
  · exact h.1 j k (by omega) hk
theorem xl_in {post : SX → Prop} {J : Int32 → (Nat → Int32) → (Nat → Int32) → (Nat → Int32) → (Nat → Int32) → (Nat → Int32) → (Nat → Int32) → (Nat → Int32) → (Nat → Int32) → Prop} {a : Nat} (hM : cx_T s M) (hS : ∀ i, i < 8 → cm_P (sr i) (ma_rch M i)) (ha : a < 8) (h0 : xl_I M a 1 ls)
    (g : ∀ q, xl_I M (a + 1) 0 q → J (nI (a + 1)) s q sr ap ab aw tr fo) : ∃ n, wX_makeLongSteps_51 post J (nI a) r0 n 1 s ls sr ap ab aw tr fo := by
  refine pk_loop (fun n i (q : Nat → Int32) => wX_makeLongSteps_51 post J (nI a) r0 n (nI i) s q sr ap ab aw tr fo) (fun i q => 1 ≤ i ∧ xl_I M a i q) 3 1 ls (by omega) ⟨by omega, h0⟩ ?_ ?_
  · intro n q h
    exact br_t le_3 (nm_r (nI_1 a) (g q (xl_row h.2)))
  · intro n i q hi h k
    refine br_f (ng_3 hi) ⟨in_8 ha, xs_stepFrom (P := ma_rch M a) hM (by rw [cc_8 (by omega)]; exact hS a ha) hi fun r hr => xs_widen hS hr fun r' hr' => ?_⟩
    exact ⟨in_3 ha hi, nm_r (e' := upd q (a * 3 + i) r') (by rw [cc_3 ha hi]) (nm_r (nI_1 i) (k _ ⟨by omega, xl_put hi h.2 (rc_L1 (by omega) hr')⟩))⟩
theorem xl_makeLong {post : SX → Prop} (hM : cx_T s M) (H : ∀ q q', cx_T q (ma_L M) → post (r0, s, q, q', ap, ab, aw, tr, fo)) : wpX_makeLongSteps post (r0, s, ls, sr, ap, ab, aw, tr, fo) := by
  refine pk_loop (fun n i (q : Nat → Int32) => wX_makeLongSteps_2 post r0 n (nI i) s ls q ap ab aw tr fo) (fun i q => ∀ j, j < i → cm_P (q j) (ma_rch M j)) 8 0 sr (by omega) lt_0 ?_ ?_
  · intro n q h
    refine br_t le_8 (pk_loop (fun n i (p : Nat → Int32) => wX_makeLongSteps_27 post r0 n (nI i) s p q ap ab aw tr fo) (fun i p => xl_I M i 0 p) 8 0 ls (by omega) ⟨fun j k hj => absurd hj (Nat.not_lt_zero _), lt_0⟩ ?_ ?_)
    · intro n p h'
      exact br_t le_8 (H p q fun a l ha hl => h'.1 a l ha hl)
    · intro n i p hi h' k
      refine br_f (ng_8 hi) ⟨in_8 hi, in_3 (l := 0) hi (by omega), nm_r (e' := upd p (i * 3 + 0) (q i)) ?_ (xl_in hM h hi (xl_put (by omega) h' (rc_L0 (h i hi))) fun p' hp' => k p' hp')⟩
      rw [cc_8 (by omega)]
      exact congrArg (fun z => upd p z (q i)) (cc_3 (l := 0) hi (by omega))
  · intro n i q hi h k
    refine br_f (ng_8 hi) (xs_reach hM hi fun r hr => ⟨in_8 hi, nm_r (e' := upd q i r) (by rw [cc_8 (by omega)]) (nm_r (nI_1 i) (k _ (lt_s (fun j hj => ?_) ?_)))⟩)
    · rw [pk_un (by omega)]
      exact h j hj
    · rw [pk_us]; exact hr
theorem xf_in {post J : Int32 → Prop} {S : Nat → Nat → Prop} {a b l : Nat} (hM : cx_T s M) (hF : cx_P fo S) (ha : a < 8) (hb : b < 8) (hl : l < 3)
    (f : (∃ c, c < 8 ∧ M a l c ∧ ∀ d, d < 8 → M b l d → ¬ S c d) → post 0) (g : (∀ c, c < 8 → M a l c → ¬ ∀ d, d < 8 → M b l d → ¬ S c d) → J (nI (l + 1))) :
    ∃ n, wX_canFollow_22 post J (nI b) (nI a) (nI l) (s (nI b * 3 + nI l).toNatClampNeg) r0 s ls sr ap ab aw tr fo n 0 :=
  lq_1 (fun n i => wX_canFollow_22 post J (nI b) (nI a) (nI l) (s (nI b * 3 + nI l).toNatClampNeg) r0 s ls sr ap ab aw tr fo n (nI i))
    (fun i => ∀ c, c < i → M a l c → ¬ ∀ d, d < 8 → M b l d → ¬ S c d) 8 0 (by omega) lt_0
    (fun n h => br_t le_8 (nm_r (nI_1 l) (g h)))
    (fun n i hi h k => br_f (ng_8 hi) ⟨in_3 ha hl, xc_if (cx_Tc hM ha hl) hi
      (fun p => nm_r (nI_1 i) (k (lt_s h fun z => absurd z p)))
      (fun p => ⟨in_8 hi, ek_if (cm_P_dis (cx_Tc hM hb hl) (cx_Pc hF hi)) (fun z => f ⟨i, hi, p, z⟩) (fun z => nm_r (nI_1 i) (k (lt_s h fun _ => z)))⟩)⟩)
theorem xf_canFollow {post : Int32 → Prop} {S : Nat → Nat → Prop} {a b : Nat} (hM : cx_T s M) (hF : cx_P fo S) (ha : a < 8) (hb : b < 8)
    (H : ∀ r, bo_s r (ma_fo M S b a) → post r) : wpX_canFollow post (r0, s, ls, sr, ap, ab, aw, tr, fo) (nI b) (nI a) := by
  refine lq_1 (fun n i => wX_canFollow_2 post (nI b) (nI a) r0 s ls sr ap ab aw tr fo n (nI i))
    (fun i => ∀ l, l < i → ∀ c, c < 8 → M a l c → ¬ ∀ d, d < 8 → M b l d → ¬ S c d) 3 0 (by omega) lt_0 ?_ ?_
  · intro n h
    refine br_t le_3 (H 1 (bo_1 fun l c hl hc hm => Classical.byContradiction fun z => h l hl c hc hm fun d hd hm' hs => z ⟨d, hd, hm', hs⟩))
  · intro n i hi h k
    refine br_f (ng_3 hi) ⟨in_3 hb hi, nm_e (xf_in hM hF ha hb hi (fun ⟨c, hc, hm, hd⟩ => H 0 (bo_0 fun z => ?_)) (fun z => k (lt_s h z)))⟩
    obtain ⟨d, hd', hm', hs⟩ := z i c hi hc hm
    exact hd d hd' hm' hs
/-- who follows whom, as the table says -/
def xf_S (q : Nat → Int32) (x y : Nat) : Prop := bt (q x) y = true
theorem xf_del {q : Nat → Int32} {a b : Nat} (ha : a < 8) (hb : b < 8) (h : cx_P q (xf_S q)) :
    cx_P (upd q a (q a &&& (((1 : Int32) <<< (nI b &&& 31)) ^^^ (-1)))) (xf_S (upd q a (q a &&& (((1 : Int32) <<< (nI b &&& 31)) ^^^ (-1))))) ∧
    ∀ x y, x < 8 → y < 8 → (xf_S (upd q a (q a &&& (((1 : Int32) <<< (nI b &&& 31)) ^^^ (-1)))) x y ↔ xf_S q x y ∧ ¬ (x = a ∧ y = b)) := by
  constructor
  · intro x hx
    refine ⟨?_, fun y _ => Iff.rfl⟩
    by_cases e : x = a
    · subst e
      rw [pk_us]
      exact cm_and (h x hx).1
    · rw [pk_un e]
      exact (h x hx).1
  · intro x y hx hy
    unfold xf_S
    by_cases e : x = a
    · subst e
      rw [pk_us, cm_del hb hy]
      exact and_congr Iff.rfl ⟨fun z w => z w.2, fun z w => z ⟨rfl, w⟩⟩
    · rw [pk_un e]
      exact ⟨fun z => ⟨z, fun w => e w.1⟩, fun z => z.1⟩
theorem xf_row {post : Int32 → SX → Prop} {J : Int32 → Int32 → (Nat → Int32) → (Nat → Int32) → (Nat → Int32) → (Nat → Int32) → (Nat → Int32) → (Nat → Int32) → (Nat → Int32) → (Nat → Int32) → Prop} {ch : Int32} {a m : Nat} (hM : cx_T s M) (ha : a < 8)
    (h0 : cx_P fo (xf_S fo) ∧ fo_I M (xf_S fo) (fun x y => x < a ∨ (x = a ∧ y < 0)) m ch)
    (g : ∀ c q, cx_P q (xf_S q) ∧ fo_I M (xf_S q) (fun x y => x < a ∨ (x = a ∧ y < 8)) m c → J c (nI (a + 1)) s ls sr ap ab aw tr q) :
    ∃ n, wX_strikeFollowing_12 post J (nI a) r0 n ch 0 s ls sr ap ab aw tr fo := by
  refine pk_loop (fun n i (q : Int32 × (Nat → Int32)) => wX_strikeFollowing_12 post J (nI a) r0 n q.1 (nI i) s ls sr ap ab aw tr q.2)
    (fun i q => cx_P q.2 (xf_S q.2) ∧ fo_I M (xf_S q.2) (fun x y => x < a ∨ (x = a ∧ y < i)) m q.1) 8 0 (ch, fo) (by omega) h0 ?_ ?_
  · rintro n ⟨c, q⟩ h
    exact br_t le_8 (nm_r (nI_1 a) (g c q h))
  · rintro n i ⟨c, q⟩ hi h k
    have hq : cx_P q (xf_S q) := h.1
    have hI : fo_I M (xf_S q) (fun x y => x < a ∨ (x = a ∧ y < i)) m c := h.2
    have hD : ∀ x y, x < 8 → y < 8 → (x < a ∨ (x = a ∧ y < i + 1)) → (x < a ∨ (x = a ∧ y < i)) ∨ (x = a ∧ y = i) := fun x y _ _ z => by omega
    refine br_f (ng_8 hi) ⟨in_8 ha, xc_if (cx_Pc hq ha) hi (fun n1 => nm_r (nI_1 i) (k (c, q) ⟨hq, fo_I_keep hI hD fun z => absurd z n1⟩)) fun p1 => ?_⟩
    refine xf_canFollow hM hq ha hi fun r hr => bo_b hr (fun n2 => ?_) (fun p2 => nm_r (nI_1 i) (k (c, q) ⟨hq, fo_I_keep hI hD fun _ => p2⟩))
    have hd := xf_del ha hi hq
    exact ⟨in_8 ha, in_8 ha, nm_r (e' := upd q a (q a &&& (((1 : Int32) <<< (nI i &&& 31)) ^^^ (-1)))) (by rw [cc_8 (by omega)]) (nm_r (nI_1 i) (k (1, _) ⟨hd.1, fo_I_strike ha hi hI hd.2 p1 n2⟩))⟩
theorem xf_strike {post : Int32 → SX → Prop} {m : Nat} (hM : cx_T s M) (hq : cx_P fo (xf_S fo)) (hF : ∀ c d, c < 8 → d < 8 → ma_F M c d → xf_S fo c d) (hm : fo_mu (xf_S fo) ≤ m)
    (H : ∀ c q, cx_P q (xf_S q) → fo_I M (xf_S q) (fun x _ => x < 8) m c → post c (r0, s, ls, sr, ap, ab, aw, tr, q)) :
    wpX_strikeFollowing post (r0, s, ls, sr, ap, ab, aw, tr, fo) := by
  refine pk_loop (fun n i (q : Int32 × (Nat → Int32)) => wX_strikeFollowing_4 post r0 n q.1 (nI i) s ls sr ap ab aw tr q.2)
    (fun i q => cx_P q.2 (xf_S q.2) ∧ fo_I M (xf_S q.2) (fun x _ => x < i) m q.1) 8 0 (0, fo) (by omega) ⟨hq, fo_I0 hF hm fun x y _ _ => Nat.not_lt_zero _⟩ ?_ ?_
  · rintro n ⟨c, q⟩ ⟨h1, h2⟩
    refine br_t le_8 ⟨?_, H c q h1 h2⟩
    have h3 : fo_I M (xf_S q) (fun x _ => x < 8) m c := h2
    rcases h3.2 with ⟨e, _⟩ | ⟨e, _⟩
    · rw [show (c, q).1 = c from rfl, e]; exact nb_0
    · rw [show (c, q).1 = c from rfl, e]; exact nb_1
  · rintro n i ⟨c, q⟩ hi ⟨h1, h2⟩ k
    exact br_f (ng_8 hi) (xf_row (m := m) hM hi ⟨h1, fo_I_D h2 fun x y _ _ z => by omega⟩ fun c' q' h' => k (c', q') ⟨h'.1, fo_I_D h'.2 fun x y _ hy z => by omega⟩)
theorem xf_find {post : SX → Prop} (hM : cx_T s M) (H : ∀ q, cx_P q (ma_F M) → post (r0, s, ls, sr, ap, ab, aw, tr, q)) : wpX_findFollowing post (r0, s, ls, sr, ap, ab, aw, tr, fo) := by
  refine pk_loop (fun n i (q : Nat → Int32) => wX_findFollowing_2 post r0 n (nI i) s ls sr ap ab aw tr q) (fun i q => ∀ j, j < i → q j = 255) 8 0 fo (by omega) lt_0 ?_ ?_
  · intro n q h
    have h1 : cx_P q (xf_S q) := fun a ha => ⟨by rw [h a ha]; exact cm_255, fun _ _ => Iff.rfl⟩
    have h2 : ∀ c d, c < 8 → d < 8 → xf_S q c d := fun c d hc hd => by
      unfold xf_S
      rw [h c hc, b_255, decide_eq_true hd]
    refine br_t le_8 (pk_loop (fun n i (p : Int32 × (Nat → Int32)) => wX_findFollowing_27 post n p.1 (nI i) r0 s ls sr ap ab aw tr p.2) (fun i p => cx_P p.2 (xf_S p.2) ∧ fo_H M (xf_S p.2) i p.1) 65 0 (1, q) (by omega) ⟨h1, fo_H0 h2⟩ ?_ ?_)
    · rintro n ⟨c, p⟩ ⟨k1, k2⟩
      have k3 : post (r0, s, ls, sr, ap, ab, aw, tr, p) := H p (cx_P_c k1 (fo_H_end k2 (Or.inr (by omega))))
      exact br_c (fun _ => k3) (fun _ => br_t (by decide) k3)
    · rintro n i ⟨c, p⟩ hi ⟨k1, k2⟩ k
      have k1' : cx_P p (xf_S p) := k1
      have k2' : fo_H M (xf_S p) i c := k2
      refine br_c (fun z => H p (cx_P_c k1 (fo_H_end k2' (Or.inl z)))) (fun z => br_f (nI_nlt (b := i) (a := 64) (by omega) (by omega)) ?_)
      have k4 : fo_mu (xf_S p) + i ≤ 64 := by
        rcases k2'.2 with ⟨e, _⟩ | ⟨_, e⟩
        · exact absurd e z
        · exact e
      exact xf_strike hM k1' k2'.1 (Nat.le_refl _) fun c' q' h3 h4 => nm_r (nI_1 i) (k (c', q') ⟨h3, fo_H_s h4 k4 fun x _ hx _ => hx⟩)
  · intro n i q hi h k
    refine br_f (ng_8 hi) ⟨in_8 hi, nm_r (e' := upd q i 255) (by rw [cc_8 (by omega)]) (nm_r (nI_1 i) (k _ (lt_s (fun j hj => ?_) pk_us)))⟩
    rw [pk_un (by omega)]
    exact h j hj
theorem xq_in {post : Int32 → Prop} {J : Int32 → Int32 → Prop} {i c : Nat} (hi : i < 24) (g : J (nI (c + sq_b (s i) 8)) (nI (i + 1))) : ∃ n, wX_steps_12 post J (nI i) r0 s ls sr ap ab aw tr fo n (nI c) 0 := by
  refine pk_loop (fun n b (x : Int32) => wX_steps_12 post J (nI i) r0 s ls sr ap ab aw tr fo n x (nI b)) (fun b x => x = nI (c + sq_b (s i) b)) 8 0 (nI c) (by omega) rfl ?_ ?_
  · intro n x h
    refine br_t le_8 (nm_r (nI_1 i) ?_)
    rw [h]; exact g
  · intro n b x hb h k
    subst h
    refine br_f (ng_8 hb) ⟨in_24 hi, nm_r (e' := nI (c + sq_b (s i) (b + 1))) ?_ (nm_r (nI_1 b) (k _ rfl))⟩
    rw [cc_8 (by omega), sq_1 _ hb, nI_add]
    exact congrArg nI (Nat.add_assoc _ _ _)
theorem xq_steps {post : Int32 → Prop} (H : post (nI (sq_m (fun i => sq_b (s i) 8) 24))) : wpX_steps post (r0, s, ls, sr, ap, ab, aw, tr, fo) := by
  refine pk_loop (fun n i (x : Int32) => wX_steps_4 post r0 s ls sr ap ab aw tr fo n x (nI i)) (fun i x => x = nI (sq_m (fun i => sq_b (s i) 8) i)) 24 0 0 (by omega) rfl ?_ ?_
  · intro n x h
    refine br_t le_24 ?_
    rw [h]; exact H
  · intro n i x hi h k
    subst h
    exact br_f (ng_24 hi) (xq_in hi (k _ rfl))
end
end
section
theorem e8_0 : ¬ (8 : Int32) = 0 := by decide
theorem up_self (f : Nat → Int32) (k : Nat) : upd f k (f k) = f := by
  funext j
  by_cases e : j = k
  · rw [e]; exact pk_us
  · exact pk_un e
/-- the machine with one step more -/
def ma_add (M : Nat → Nat → Nat → Prop) (a b l : Nat) : Nat → Nat → Nat → Prop := fun x k y => M x k y ∨ (x = a ∧ k = l ∧ y = b)
theorem cx_put {s : Nat → Int32} {M : Nat → Nat → Nat → Prop} {a b l : Nat} (h : cx_T s M) (ha : a < 8) (hb : b < 8) (hl : l < 3) :
    cx_T (upd s (a * 3 + l) (s (a * 3 + l) ||| ((1 : Int32) <<< (nI b &&& 31)))) (ma_add M a b l) := by
  intro x k hx hk
  by_cases e : x = a ∧ k = l
  · obtain ⟨e1, e2⟩ := e
    subst e1; subst e2
    rw [pk_us]
    refine cm_P_c (cm_P_put (h x k hx hk) hb) fun y _ => ?_
    exact ⟨fun z => z.imp id fun w => ⟨rfl, rfl, w⟩, fun z => z.imp id fun w => w.2.2⟩
  · rw [pk_un (by omega)]
    exact cm_P_c (h x k hx hk) fun y _ => ⟨Or.inl, fun z => z.resolve_right fun w => e ⟨w.1, w.2.1⟩⟩
theorem cy_put {s : Nat → Int32} {M : Nat → Nat → Nat → Prop} {a b l : Nat} (h : cy_T s M) (ha : a < 8) (hb : b < 8) (hl : l < 3) :
    cy_T (upd s (8 * l + a) (s (8 * l + a) ||| ((1 : Int32) <<< (nI b &&& 31)))) (ma_add M a b l) := by
  intro x k hx hk
  by_cases e : x = a ∧ k = l
  · obtain ⟨e1, e2⟩ := e
    subst e1; subst e2
    rw [pk_us]
    refine cm_P_c (cm_P_put (h x k hx hk) hb) fun y _ => ?_
    exact ⟨fun z => z.imp id fun w => ⟨rfl, rfl, w⟩, fun z => z.imp id fun w => w.2.2⟩
  · rw [pk_un (by omega)]
    exact cm_P_c (h x k hx hk) fun y _ => ⟨Or.inl, fun z => z.resolve_right fun w => e ⟨w.1, w.2.1⟩⟩
theorem cx_del {s : Nat → Int32} {M : Nat → Nat → Nat → Prop} {a b l : Nat} (h : cx_T s M) (ha : a < 8) (hb : b < 8) (hl : l < 3) :
    cx_T (upd s (a * 3 + l) (s (a * 3 + l) &&& (((1 : Int32) <<< (nI b &&& 31)) ^^^ (-1)))) (ma_cut M a b l) := by
  intro x k hx hk
  by_cases e : x = a ∧ k = l
  · obtain ⟨e1, e2⟩ := e
    subst e1; subst e2
    rw [pk_us]
    refine cm_P_c (cm_P_del (h x k hx hk) hb) fun y _ => ?_
    exact ⟨fun z => ⟨z.1, fun w => z.2 w.2.2⟩, fun z => ⟨z.1, fun w => z.2 ⟨rfl, rfl, w⟩⟩⟩
  · rw [pk_un (by omega)]
    exact cm_P_c (h x k hx hk) fun y _ => ⟨fun z => ⟨z, fun w => e ⟨w.1, w.2.1⟩⟩, fun z => z.1⟩
theorem cy_del {s : Nat → Int32} {M : Nat → Nat → Nat → Prop} {a b l : Nat} (h : cy_T s M) (ha : a < 8) (hb : b < 8) (hl : l < 3) :
    cy_T (upd s (8 * l + a) (s (8 * l + a) &&& (((1 : Int32) <<< (nI b &&& 31)) ^^^ (-1)))) (ma_cut M a b l) := by
  intro x k hx hk
  by_cases e : x = a ∧ k = l
  · obtain ⟨e1, e2⟩ := e
    subst e1; subst e2
    rw [pk_us]
    refine cm_P_c (cm_P_del (h x k hx hk) hb) fun y _ => ?_
    exact ⟨fun z => ⟨z.1, fun w => z.2 w.2.2⟩, fun z => ⟨z.1, fun w => z.2 ⟨rfl, rfl, w⟩⟩⟩
  · rw [pk_un (by omega)]
    exact cm_P_c (h x k hx hk) fun y _ => ⟨fun z => ⟨z, fun w => e ⟨w.1, w.2.1⟩⟩, fun z => z.1⟩
theorem ma_back {M : Nat → Nat → Nat → Prop} {a b l : Nat} (h : M a l b) (x k y : Nat) : ma_add (ma_cut M a b l) a b l x k y ↔ M x k y := by
  constructor
  · rintro (z | ⟨e1, e2, e3⟩)
    · exact z.1
    · rw [e1, e2, e3]; exact h
  · intro z
    by_cases e : x = a ∧ k = l ∧ y = b
    · exact Or.inr e
    · exact Or.inl ⟨z, e⟩
/-- the step that is asked for is there -/
def st_E (M : Nat → Nat → Nat → Prop) (x y z : Int32) : Prop := ∃ a b l, a < 8 ∧ b < 8 ∧ l < 3 ∧ x = nI a ∧ y = nI b ∧ z = nI l ∧ M a l b
theorem st_En {M : Nat → Nat → Nat → Prop} {a b l : Nat} (ha : a < 8) (hb : b < 8) (hl : l < 3) : st_E M (nI a) (nI b) (nI l) ↔ M a l b := by
  constructor
  · rintro ⟨a', b', l', ha', hb', hl', e1, e2, e3, hm⟩
    rw [nI_eq (by omega) (by omega)] at e1 e2 e3
    subst e1 e2 e3
    exact hm
  · exact fun h => ⟨a, b, l, ha, hb, hl, rfl, rfl, rfl, h⟩
section
variable {nx fa td kp af : Nat → Int32} {M : Nat → Nat → Nat → Prop}
theorem ys_step {post : Int32 → Prop} (hM : cy_T nx M) (x y z : Int32) (H : ∀ r, bo_s r (st_E M x y z) → post r) : wpY_step post (nx, fa, td, kp, af) x y z := by
  refine yc_state (nx, fa, td, kp, af) x fun r hr => bo_b hr (fun n => H 0 (bo_0 ?_)) fun p => ?_
  · rintro ⟨a, b, l, ha, hb, hl, e1, e2, e3, _⟩
    exact n ⟨a, ha, e1⟩
  refine yc_state (nx, fa, td, kp, af) y fun r hr => bo_b hr (fun n => H 0 (bo_0 ?_)) fun p' => ?_
  · rintro ⟨a, b, l, ha, hb, hl, e1, e2, e3, _⟩
    exact n ⟨b, hb, e2⟩
  have hn : ¬ st_L z → ¬ st_E M x y z := by
    rintro n ⟨a, b, l, ha, hb, hl, e1, e2, e3, _⟩
    exact n ⟨l, hl, e3⟩
  refine br_c (fun h => H 0 (bo_0 (hn (st_L0 h)))) fun h => ek_if (st_L2 h) (fun n => H 0 (bo_0 (hn n))) fun p'' => ?_
  obtain ⟨a, ha, rfl⟩ := p
  obtain ⟨b, hb, rfl⟩ := p'
  obtain ⟨l, hl, rfl⟩ := Classical.byContradiction p''
  exact ⟨iny_3 ha hl, cm_b1' (cy_Tc hM ha hl) hb (fun p => H 1 (bo_1 ((st_En ha hb hl).mpr p))) (fun n => H 0 (bo_0 fun w => n ((st_En ha hb hl).mp w)))⟩
theorem ys_cut {post : Int32 → SY → Prop} (hM : cy_T nx M) (x y z : Int32) (f : ¬ st_E M x y z → post 0 (nx, fa, td, kp, af))
    (g : ∀ a b l, a < 8 → b < 8 → l < 3 → x = nI a → y = nI b → z = nI l → M a l b → ∀ q, cy_T q (ma_cut M a b l) → post 1 (q, fa, td, kp, af)) : wpY_cut post (nx, fa, td, kp, af) x y z := by
  refine ys_step hM x y z fun r hr => bo_b hr f ?_
  rintro ⟨a, b, l, ha, hb, hl, rfl, rfl, rfl, hm⟩
  refine ⟨iny_3 ha hl, iny_3 ha hl, nm_r (e' := upd nx (8 * l + a) (nx (8 * l + a) &&& (((1 : Int32) <<< (nI b &&& 31)) ^^^ (-1)))) (by rw [cy_3 ha hl]) ?_⟩
  exact g a b l ha hb hl rfl rfl rfl hm _ (cy_del hM ha hb hl)
theorem ys_join {post : Int32 → SY → Prop} (hM : cy_T nx M) (x y z : Int32) (f : ¬ (st_S x ∧ st_S y ∧ st_L z) → post 0 (nx, fa, td, kp, af))
    (g : ∀ a b l, a < 8 → b < 8 → l < 3 → x = nI a → y = nI b → z = nI l → ∀ q, cy_T q (ma_add M a b l) → post 1 (q, fa, td, kp, af)) : wpY_join post (nx, fa, td, kp, af) x y z := by
  refine yc_state (nx, fa, td, kp, af) x fun r hr => bo_b hr (fun n => f fun w => n w.1) fun p => ?_
  refine yc_state (nx, fa, td, kp, af) y fun r hr => bo_b hr (fun n => f fun w => n w.2.1) fun p' => ?_
  refine br_c (fun h => f fun w => st_L0 h w.2.2) fun h => ek_if (st_L2' h) (fun p'' => ?_) (fun n => f fun w => n w.2.2)
  obtain ⟨a, ha, rfl⟩ := p
  obtain ⟨b, hb, rfl⟩ := p'
  obtain ⟨l, hl, rfl⟩ := p''
  refine ⟨iny_3 ha hl, iny_3 ha hl, nm_r (e' := upd nx (8 * l + a) (nx (8 * l + a) ||| ((1 : Int32) <<< (nI b &&& 31)))) (by rw [cy_3 ha hl]) ?_⟩
  exact g a b l ha hb hl rfl rfl rfl _ (cy_put hM ha hb hl)
theorem sq_step (f : Nat → Int32) (c : Nat) : sq_m (fun i => sq_b (f i) 8) (c / 8) + sq_b (f (c / 8)) (c % 8) + (bt (f (c / 8)) (c % 8)).toNat = sq_m (fun i => sq_b (f i) 8) ((c + 1) / 8) + sq_b (f ((c + 1) / 8)) ((c + 1) % 8) := by
  by_cases e : c % 8 = 7
  · have e1 : (c + 1) / 8 = c / 8 + 1 := by omega
    have e2 : (c + 1) % 8 = 0 := by omega
    rw [e1, e2, e]
    exact Nat.add_assoc _ _ _
  · have e1 : (c + 1) / 8 = c / 8 := by omega
    have e2 : (c + 1) % 8 = c % 8 + 1 := by omega
    rw [e1, e2]
    exact Nat.add_assoc _ _ _
theorem yq_steps {post : Int32 → Prop} (H : post (nI (sq_m (fun i => sq_b (nx i) 8) 24))) : wpY_steps post (nx, fa, td, kp, af) := by
  refine pk_loop (fun n c (x : Int32) => wY_steps_4 post nx fa td kp af n x (nI c)) (fun c x => x = nI (sq_m (fun i => sq_b (nx i) 8) (c / 8) + sq_b (nx (c / 8)) (c % 8))) 192 0 0 (by omega) rfl ?_ ?_
  · intro n x h
    refine br_t le_192 ?_
    rw [h]; exact H
  · intro n c x hc h k
    subst h
    have e1 : nI c / 8 = nI (c / 8) := iy_d (by omega)
    have e2 : nI c - nI c / 8 * 8 = nI (c % 8) := iy_m (by omega)
    refine br_f (ng_192 hc) ⟨e8_0, ?_, e8_0, nm_r (e' := nI (sq_m (fun i => sq_b (nx i) 8) ((c + 1) / 8) + sq_b (nx ((c + 1) / 8)) ((c + 1) % 8))) ?_ (nm_r (nI_1 c) (k _ rfl))⟩
    · rw [e1]; exact vp_in_nI (by omega) (by omega)
    · rw [e2, e1, cc_8 (by omega), sq_1 _ (by omega), nI_add, sq_step]
theorem ys_useSteps {post : SY → Prop} (H : ∀ q, (∀ i, i < 24 → q i = nx i) → post (nx, q, td, kp, af)) : wpY_useSteps post (nx, fa, td, kp, af) :=
  pk_loop (fun n i (q : Nat → Int32) => wY_useSteps_2 post n (nI i) nx q td kp af) (fun i q => ∀ j, j < i → q j = nx j) 24 0 fa (by omega) lt_0
    (fun n q h => br_t le_24 (H q h))
    (fun n i q hi h k => br_f (ng_24 hi) ⟨in_24 hi, in_24 hi, nm_r (e' := upd q i (nx i)) (by rw [cc_8 (by omega)]) (nm_r (nI_1 i) (k _ (lt_s (fun j hj => (pk_un (Nat.ne_of_lt hj)).trans (h j hj)) pk_us)))⟩)
theorem ys_onward {post : Int32 → Prop} {P : Nat → Prop} {x : Int32} {l : Nat} (hM : cy_T nx M) (hP : cm_P x P) (hl : l < 3) (H : ∀ r, cm_P r (rc_o M P l 8) → post r) : wpY_onward post (nx, fa, td, kp, af) x (nI l) :=
  pk_loop (fun n i (c : Int32) => wY_onward_5 post x (nI l) nx fa td kp af n c (nI i)) (fun i c => cm_P c (rc_o M P l i)) 8 0 x (by omega) (rc_o0 hP)
    (fun n c h => br_t le_8 (H c h))
    (fun n i c hi h k => br_f (ng_8 hi) (cm_b1' hP hi (fun p => ⟨iny_3 hi hl, nm_e (nm_r (nI_1 i) (k _ (rc_oy h (cy_Tc hM hi hl) p)))⟩) (fun np => nm_r (nI_1 i) (k _ (rc_on h np)))))
theorem ys_quietly {post : Int32 → Prop} {a : Nat} (hM : cy_T nx M) (ha : a < 8) (H : ∀ r, cm_P r (ma_rch M a) → post r) : wpY_quietly post (nx, fa, td, kp, af) (nI a) := by
  refine nm_e (pk_loop (fun n i (c : Int32) => wY_quietly_6 post nx fa td kp af n c (nI i)) (fun i c => cm_P c (ma_R M a i)) 8 0 _ (by omega) (rc_R0 ha) ?_ ?_)
  · intro n c h
    exact br_t le_8 (H c (rc_R8 ha h))
  · intro n i c hi h k
    exact br_f (ng_8 hi) (ys_onward (l := 0) hM h (by omega) fun r hr => nm_r (nI_1 i) (k _ (rc_R1' hr)))
theorem ys_labelled {post : Int32 → Prop} {a l : Nat} (hM : cy_T nx M) (ha : a < 8) (hl : l < 3) (h0 : l ≠ 0) (H : ∀ r, cm_P r (ma_L M a l) → post r) : wpY_labelled post (nx, fa, td, kp, af) (nI a) (nI l) := by
  refine ys_quietly hM ha fun x hx => pk_loop (fun n i (c : Int32) => wY_labelled_12 post (nI l) x nx fa td kp af n c (nI i)) (fun i c => cm_P c (rc_s M (ma_rch M a) l i)) 8 0 0 (by omega) rc_P0 ?_ ?_
  · intro n y hy
    refine br_t le_8 (pk_loop (fun n i (c : Int32) => wY_labelled_63 post y nx fa td kp af n c (nI i)) (fun i c => cm_P c (rc_s (rc_q M) (rc_s M (ma_rch M a) l 8) 0 i)) 8 0 0 (by omega) rc_P0 ?_ ?_)
    · intro n c h
      exact br_t le_8 (H c (rc_L1 h0 h))
    · intro n i c hi h k
      exact br_f (ng_8 hi) (cm_b1' hy hi (fun p => ys_quietly hM hi fun r hr => nm_e (nm_r (nI_1 i) (k _ (rc_Py h hr p)))) (fun np => nm_r (nI_1 i) (k _ (rc_Pn h np))))
  · intro n i c hi h k
    exact br_f (ng_8 hi) (cm_b1' hx hi (fun p => ⟨iny_3 hi hl, nm_e (nm_r (nI_1 i) (k _ (rc_Py h (cy_Tc hM hi hl) p)))⟩) (fun np => nm_r (nI_1 i) (k _ (rc_Pn h np))))
theorem i8_add (i : Nat) : 8 + nI i = nI (8 + i) := nI_add 8 i
theorem i16_add (i : Nat) : 16 + nI i = nI (16 + i) := nI_add 16 i
theorem ys_useLong {post : SY → Prop} (hM : cy_T nx M) (H : ∀ q, cy_T q (ma_L M) → post (nx, q, td, kp, af)) : wpY_useLongSteps post (nx, fa, td, kp, af) := by
  refine pk_loop (fun n i (q : Nat → Int32) => wY_useLongSteps_2 post n (nI i) nx q td kp af) (fun i q => ∀ j, j < i → ∀ l, l < 3 → cm_P (q (8 * l + j)) (ma_L M j l)) 8 0 fa (by omega) lt_0 ?_ ?_
  · intro n q h
    exact br_t le_8 (H q fun a l ha hl => h a ha l hl)
  · intro n i q hi h k
    refine br_f (ng_8 hi) (ys_quietly hM hi fun r1 h1 => ⟨in_24 (by omega), nm_r (e' := upd q i r1) (by rw [cc_8 (by omega)]) ?_⟩)
    refine ys_labelled (l := 1) hM hi (by omega) (by omega) fun r2 h2 => ⟨by rw [i8_add]; exact in_24 (by omega), nm_r (e' := upd (upd q i r1) (8 + i) r2) (by rw [i8_add, cc_8 (by omega)]) ?_⟩
    refine ys_labelled (l := 2) hM hi (by omega) (by omega) fun r3 h3 => ⟨by rw [i16_add]; exact in_24 (by omega), nm_r (e' := upd (upd (upd q i r1) (8 + i) r2) (16 + i) r3) (by rw [i16_add, cc_8 (by omega)]) (nm_r (nI_1 i) (k _ ?_))⟩
    intro j hj l hl
    by_cases e : j = i
    · subst e
      by_cases e0 : l = 0
      · subst e0
        rw [pk_un (by omega), pk_un (by omega), show 8 * 0 + j = j by omega, pk_us]
        exact rc_L0 h1
      · by_cases e1 : l = 1
        · subst e1
          rw [pk_un (by omega), show 8 * 1 + j = 8 + j by omega, pk_us]
          exact h2
        · have e2 : l = 2 := by omega
          subst e2
          rw [show 8 * 2 + j = 16 + j by omega, pk_us]
          exact h3
    · rw [pk_un (by omega), pk_un (by omega), pk_un (by omega)]
      exact h j (by omega) l hl
end
end
section
section
variable {nx fa td kp af : Nat → Int32} {M : Nat → Nat → Nat → Prop}
theorem yt_49 {post : Int32 → Prop} {J : Int32 → Int32 → Prop} {P : Nat → Prop} {Q : Nat → Prop} {x1 y x3 x4 z0 : Int32} {i : Nat} (hi : i < 8) (hP : cm_P y P) (h4 : bo_s x4 (∀ d, d < i → P d → Q d)) (hz : bo_s z0 (Q i))
    (g : ∀ r, bo_s r (∀ d, d < i + 1 → P d → Q d) → J r (nI (i + 1))) : wY_lonely_49 post J x1 y x3 x4 (nI i) z0 nx fa td kp af :=
  bo_b h4 (fun nA => nm_r (nI_1 i) (g 0 (bo_0 fun w => nA fun d hd => w d (by omega))))
    (fun pA => cm_b0 hP hi (fun np => nm_r (nI_1 i) (g 1 (bo_1 (lt_s pA fun p => absurd p np))))
      (fun p => bo_b hz (fun nz => nm_r (nI_1 i) (g 0 (bo_0 fun w => nz (w i (by omega) p)))) (fun pz => nm_r (nI_1 i) (g 1 (bo_1 (lt_s pA fun _ => pz))))))
theorem yt_lonely {post : Int32 → Prop} {P : Nat → Prop} {y : Int32} {x n c : Nat} (hJ : cy_J M n c td) (hn : n < 30) (hx : x < 8) (hP : cm_P y P) (H : ∀ r, bo_s r (∀ d, d < 8 → P d → ma_T M n x d) → post r) :
    wpY_lonely post (nx, fa, td, kp, af) (nI x) y (nI (n + 1)) := by
  refine pk_loop (fun k i (q : Int32) => wY_lonely_6 post (nI x) y (nI (n + 1)) nx fa td kp af k q (nI i)) (fun i q => bo_s q (∀ d, d < i → P d → ma_T M n x d)) 8 0 1 (by omega) (bo_1 lt_0) ?_ ?_
  · intro k q h
    exact br_t le_8 ⟨bo_n h, H q h⟩
  · intro k i q hi h g
    refine br_f (ng_8 hi) ⟨iny_8 hx hi, ?_⟩
    by_cases z : ma_T M n x i
    · have hz := cy_J_y hJ hx hi hn z
      rw [← cy_8 hx hi] at hz
      exact br_f (Int32.not_lt.mpr hz.1) ⟨iny_8 hx hi, br_f (Int32.not_le.mpr hz.2) (yt_49 (Q := fun d => ma_T M n x d) hi hP h (bo_1 z) g)⟩
    · have hz := cy_J_n hJ hx hi hn z
      rw [← cy_8 hx hi] at hz
      have h48 : wY_lonely_48 post (wY_lonely_6 post (nI x) y (nI (n + 1)) nx fa td kp af k) (nI x) y (nI (n + 1)) q (nI i) nx fa td kp af := yt_49 (Q := fun d => ma_T M n x d) hi hP h (bo_0 z) g
      refine br_c (fun _ => h48) (fun w => ⟨iny_8 hx hi, br_t ?_ h48⟩)
      rcases hz with hz | hz
      · exact absurd (Int32.not_lt.mp w) hz
      · exact Int32.not_lt.mp hz
theorem yt_differs {post : Int32 → Prop} {a b n c : Nat} (hM : cy_T fa M) (hJ : cy_J M n c td) (hn : n < 30) (ha : a < 8) (hb : b < 8) (H : ∀ r, bo_s r (ma_one M (ma_T M n) a b) → post r) :
    wpY_differs post (nx, fa, td, kp, af) (nI a) (nI b) (nI (n + 1)) := by
  refine pk_loop (fun k i (q : Int32) => wY_differs_6 post (nI a) (nI b) (nI (n + 1)) nx fa td kp af k q (nI i)) (fun i q => bo_s q (∃ e, e < i ∧ M a (e / 8) (e % 8) ∧ ∀ d, d < 8 → M b (e / 8) d → ma_T M n (e % 8) d)) 24 0 0 (by omega) (bo_0 fun ⟨_, h, _⟩ => absurd h (Nat.not_lt_zero _)) ?_ ?_
  · intro k q h
    refine br_t le_24 ⟨bo_n h, H q (bo_c h ⟨?_, ?_⟩)⟩
    · rintro ⟨e, he, h1, h2⟩
      exact ⟨e / 8, e % 8, by omega, by omega, h1, h2⟩
    · rintro ⟨l, c, hl, hc, h1, h2⟩
      have e1 : (8 * l + c) / 8 = l := by omega
      have e2 : (8 * l + c) % 8 = c := by omega
      exact ⟨8 * l + c, by omega, by rw [e1, e2]; exact h1, by rw [e1, e2]; exact h2⟩
  · intro k i q hi h g
    have hl : i / 8 < 3 := by omega
    have ht : i % 8 < 8 := by omega
    have no : ∀ r, ¬ (∃ e, e < i ∧ M a (e / 8) (e % 8) ∧ ∀ d, d < 8 → M b (e / 8) d → ma_T M n (e % 8) d) → ¬ (M a (i / 8) (i % 8) ∧ ∀ d, d < 8 → M b (i / 8) d → ma_T M n (i % 8) d) → r = 0 → bo_s r (∃ e, e < i + 1 ∧ M a (e / 8) (e % 8) ∧ ∀ d, d < 8 → M b (e / 8) d → ma_T M n (e % 8) d) := by
      intro r h1 h2 e
      rw [e]
      refine bo_0 ?_
      rintro ⟨e, he, h3⟩
      by_cases e' : e = i
      · subst e'
        exact h2 h3
      · exact h1 ⟨e, by omega, h3⟩
    refine br_f (ng_24 hi) ⟨e8_0, nm_r (iy_d (by omega)) ⟨e8_0, nm_r (iy_m (by omega)) (bo_b h (fun n0 => ⟨iny_3 ha hl, cm_b1' (cy_Tc hM ha hl) ht (fun p => ⟨iny_3 hb hl, yt_lonely hJ hn ht (cy_Tc hM hb hl) fun r hr => bo_b hr (fun z => ?_) (fun z => ?_)⟩) (fun np => ?_)⟩) (fun p => ?_))⟩⟩
    · exact nm_r (nI_1 i) (g 0 (no 0 n0 (fun w => z w.2) rfl))
    · exact nm_r (nI_1 i) (g 1 (bo_1 ⟨i, by omega, p, z⟩))
    · exact nm_r (nI_1 i) (g 0 (no 0 n0 (fun w => np w.1) rfl))
    · obtain ⟨e, he, h1⟩ := p
      exact nm_r (nI_1 i) (g 1 (bo_1 ⟨e, by omega, h1⟩))
theorem yt_113 {post : SY → Prop} {J25 J39 : Int32 → Int32 → (Nat → Int32) → (Nat → Int32) → (Nat → Int32) → (Nat → Int32) → (Nat → Int32) → Prop} {x1 x2 x4 z0 : Int32} {A B : Prop} {c : Nat} (hc : c < 64) (h1 : bo_s x1 A) (h4 : bo_s x4 B)
    (g : ∀ r, bo_s r (A ∨ B) → J39 r (nI (c + 1)) nx fa (upd td c z0) kp af) : wY_tell_113 post J25 J39 x1 x2 (nI c) x4 z0 (nI c) nx fa td kp af :=
  ⟨in_64 hc, nm_r (e' := upd td c z0) (by rw [cc_8 (by omega)]) (bo_b h1 (fun nA => bo_b h4 (fun nB => nm_r (nI_1 c) (g 0 (bo_0 fun w => w.elim nA nB))) (fun pB => nm_r (nI_1 c) (g 1 (bo_1 (Or.inr pB))))) (fun pA => nm_r (nI_1 c) (g 1 (bo_1 (Or.inl pA)))))⟩
theorem yt_90 {post : SY → Prop} {J25 J39 : Int32 → Int32 → (Nat → Int32) → (Nat → Int32) → (Nat → Int32) → (Nat → Int32) → (Nat → Int32) → Prop} {x1 x2 : Int32} {A : Prop} {c : Nat} (hc : c < 64) (h1 : bo_s x1 A)
    (g : ∀ r, bo_s r A → J39 r (nI (c + 1)) nx fa td kp af) : wY_tell_90 post J25 J39 x1 x2 (nI c) nx fa td kp af := by
  refine br_t rfl ⟨in_64 hc, yt_113 (B := False) hc h1 (bo_0 id) fun r hr => ?_⟩
  rw [cc_8 (by omega), up_self]
  exact g r (bo_c hr ⟨fun z => z.elim id False.elim, Or.inl⟩)
theorem yt_86 {post : SY → Prop} {J25 J39 : Int32 → Int32 → (Nat → Int32) → (Nat → Int32) → (Nat → Int32) → (Nat → Int32) → (Nat → Int32) → Prop} {x1 x2 : Int32} {A : Prop} {c : Nat} (hc : c < 64) (h1 : bo_s x1 A)
    (g : J39 1 (nI (c + 1)) nx fa (upd td c x2) kp af) : wY_tell_86 post J25 J39 x1 x2 (nI c) nx fa td kp af := by
  refine br_f cm_10 (yt_113 (B := True) hc h1 (bo_1 True.intro) fun r hr => ?_)
  rw [bo_t hr (Or.inr True.intro)]
  exact g
/-- some pair before cell c was told in round n + 1 -/
def yt_N (M : Nat → Nat → Nat → Prop) (n c : Nat) : Prop := ∃ x y, x < 8 ∧ y < 8 ∧ 8 * x + y < c ∧ ¬ ma_T M n x y ∧ ma_T M (n + 1) x y
theorem yt_N_st {n : Nat} (h : ¬ yt_N M n 64) : ma_st M n := fun a b ha hb z => Classical.byContradiction fun w => h ⟨a, b, ha, hb, by omega, w, z⟩
theorem yt_N_keep {n c : Nat} (hc : c < 64) (h : ma_T M n (c / 8) (c % 8) ∨ ¬ ma_T M (n + 1) (c / 8) (c % 8)) : yt_N M n c ↔ yt_N M n (c + 1) := by
  constructor
  · rintro ⟨x, y, hx, hy, h1, h2⟩
    exact ⟨x, y, hx, hy, by omega, h2⟩
  · rintro ⟨x, y, hx, hy, h1, h2, h3⟩
    refine ⟨x, y, hx, hy, Classical.byContradiction fun z => ?_, h2, h3⟩
    have e1 : c / 8 = x := by omega
    have e2 : c % 8 = y := by omega
    rw [e1, e2] at h
    rcases h with h | h
    · exact h2 h
    · exact h h3
theorem yt_cells {post : SY → Prop} {J25 : Int32 → Int32 → (Nat → Int32) → (Nat → Int32) → (Nat → Int32) → (Nat → Int32) → (Nat → Int32) → Prop} {n : Nat} (hM : cy_T fa M) (hn : n < 29) (h0 : cy_t M n td)
    (g : ∀ r t, bo_s r (yt_N M n 64) → cy_t M (n + 1) t → J25 r (nI (n + 1 + 1)) nx fa t kp af) : ∃ k, wY_tell_39 post J25 (nI (n + 1)) k 0 0 nx fa td kp af := by
  refine pk_loop (fun k c (q : Int32 × (Nat → Int32)) => wY_tell_39 post J25 (nI (n + 1)) k q.1 (nI c) nx fa q.2 kp af) (fun c q => cy_J M n c q.2 ∧ bo_s q.1 (yt_N M n c)) 64 0 (0, td) (by omega) ⟨cy_J0 h0, bo_0 ?_⟩ ?_ ?_
  · rintro ⟨x, y, hx, hy, h, _⟩
    omega
  · rintro k ⟨r, t⟩ ⟨h1, h2⟩
    exact br_t le_64 (nm_r (nI_1 (n + 1)) (g r t h2 (cy_J_end h1)))
  · rintro k c ⟨r, t⟩ hc ⟨h1, h2⟩ f
    have h1' : cy_J M n c t := h1
    have ha : c / 8 < 8 := by omega
    have hb : c % 8 < 8 := by omega
    have e : 8 * (c / 8) + c % 8 = c := by omega
    refine br_f (ng_64 hc) ⟨in_64 hc, ?_⟩
    have keep : (ma_T M n (c / 8) (c % 8) ∨ ¬ ma_T M (n + 1) (c / 8) (c % 8)) → wY_tell_90 post J25 (wY_tell_39 post J25 (nI (n + 1)) k) r (nI (n + 1)) (nI c) nx fa t kp af := fun w =>
      yt_90 hc h2 fun r' hr' => f (r', t) ⟨cy_J_keep ha hb e.symm h1' w, bo_c hr' (yt_N_keep hc w)⟩
    have put : ¬ ma_T M n (c / 8) (c % 8) → ma_T M (n + 1) (c / 8) (c % 8) → wY_tell_86 post J25 (wY_tell_39 post J25 (nI (n + 1)) k) r (nI (n + 1)) (nI c) nx fa t kp af := fun w w' =>
      yt_86 hc h2 (f (1, _) ⟨cy_J_put ha hb e.symm h1' w w', bo_1 ⟨c / 8, c % 8, ha, hb, by omega, w, w'⟩⟩)
    by_cases z : ma_T M n (c / 8) (c % 8)
    · have hz := (cy_J_y h1' ha hb (by omega) z).1
      rw [e, ← cc_8 (a := c) (by omega)] at hz
      exact br_t hz (keep (Or.inl z))
    · have hz := (h1' (c / 8) (c % 8) ha hb).2.2 z (by omega)
      rw [e] at hz
      refine br_f (by
        show ¬ 0 ≤ t (nI c).toNatClampNeg
        rw [cc_8 (by omega), hz]; exact cy_m1) ⟨e8_0, e8_0, ?_⟩
      rw [iy_m (by omega), iy_d (by omega)]
      refine yt_differs hM h1' (by omega) ha hb fun r1 hr1 => bo_b hr1 (fun z1 => ⟨e8_0, e8_0, ?_⟩) (fun z1 => put z (Or.inl z1))
      exact yt_differs hM h1' (by omega) hb ha fun r2 hr2 => bo_b hr2 (fun z2 => keep (Or.inr fun w => Or.elim w z1 z2)) (fun z2 => put z (Or.inr z2))
theorem yt_tell {post : SY → Prop} (hM : cy_T fa M) (H : ∀ t, cy_E M t → post (nx, fa, t, kp, af)) : wpY_tell post (nx, fa, td, kp, af) := by
  refine pk_loop (fun k c (t : Nat → Int32) => wY_tell_2 post k (nI c) nx fa t kp af) (fun c t => ∀ j, j < c → t j = -1) 64 0 td (by omega) lt_0 ?_ ?_
  · intro k t h
    refine br_t le_64 (pk_loop (fun k i (q : Int32 × (Nat → Int32)) => wY_tell_25 post k q.1 (nI i) nx fa q.2 kp af) (fun i q => ∃ m, i = m + 1 ∧ cy_t M m q.2 ∧ (q.1 = 0 → ma_st M m)) 30 1 (1, t) (by omega) ⟨0, rfl, ?_, fun z => absurd z cm_10⟩ ?_ ?_)
    · intro x y hx hy
      exact ⟨fun z => False.elim z, fun _ => h _ (by omega)⟩
    · rintro k ⟨r, t⟩ ⟨m, e, h1, h2⟩
      exact br_t (by decide) (H t (cy_E_st h1 (Or.inr (by omega))))
    · rintro k i ⟨r, t⟩ hi ⟨m, e, h1, h2⟩ f
      subst e
      refine br_f (ng_30 hi) (br_c (fun z => H t (cy_E_st h1 (Or.inl (h2 z)))) fun z => ?_)
      exact yt_cells hM (by omega) h1 fun r' t' h3 h4 => f (r', t') ⟨m + 1, rfl, h4, fun w => ma_st_up (yt_N_st ((bo_z h3).mp w))⟩
  · intro k c t hc h f
    refine br_f (ng_64 hc) ⟨in_64 hc, nm_r (e' := upd t c (-1)) (by rw [cc_8 (by omega)]) (nm_r (nI_1 c) (f _ (lt_s (fun j hj => ?_) pk_us)))⟩
    rw [pk_un (by omega)]
    exact h j hj
theorem yt_tellSteps {post : SY → Prop} (hM : cy_T nx M) (H : ∀ q t, cy_E M t → post (nx, q, t, kp, af)) : wpY_tellSteps post (nx, fa, td, kp, af) := by
  refine ys_useSteps fun q hq => ?_
  refine yt_tell (M := M) (fun a l ha hl => ?_) fun t ht => H q t ht
  rw [hq (8 * l + a) (by omega)]
  exact hM a l ha hl
theorem yt_tellLong {post : SY → Prop} (hM : cy_T nx M) (H : ∀ q t, cy_E (ma_L M) t → post (nx, q, t, kp, af)) : wpY_tellLongSteps post (nx, fa, td, kp, af) :=
  ys_useLong hM fun q hq => yt_tell (M := ma_L M) hq fun t ht => H q t ht
theorem cy_E_ltc {t : Nat → Int32} {x y : Nat} (h : cy_E M t) (hx : x < 8) (hy : y < 8) : t (8 * nI x + nI y).toNatClampNeg < 0 ↔ ¬ ma_T M 7 x y := by
  rw [cy_8 hx hy]; exact cy_E_lt h hx hy
theorem cy_E_gec {t : Nat → Int32} {x y : Nat} (h : cy_E M t) (hx : x < 8) (hy : y < 8) : 0 ≤ t (8 * nI x + nI y).toNatClampNeg ↔ ma_T M 7 x y := by
  rw [← Int32.not_lt, cy_E_ltc h hx hy]
  exact ⟨fun z => Classical.byContradiction z, fun z w => w z⟩
theorem yg_in {post : Int32 → Prop} {J : Int32 → Int32 → Prop} {a c : Nat} (hE : cy_E M td) (ha : a < 8) (f : ¬ ma_ld M 7 a → J (nI c) (nI (a + 1))) (g : ma_ld M 7 a → J (nI (c + 1)) (nI (a + 1))) :
    ∃ n, wY_count_15 post J (nI c) (nI a) nx fa td kp af n 1 0 := by
  refine pk_loop (fun n b (q : Int32) => wY_count_15 post J (nI c) (nI a) nx fa td kp af n q (nI b)) (fun b q => bo_s q (∀ y, y < b → ma_T M 7 a y)) a 0 1 (by omega) (bo_1 lt_0) ?_ ?_
  · intro n q h
    exact br_t (nI_le (Nat.le_refl a) (by omega)) (bo_b h (fun z => nm_r (nI_1 a) (f z)) (fun z => nm_r (nI_1 c) (nm_r (nI_1 a) (g z))))
  · intro n b q hb h k
    refine br_f (nI_ge hb (by omega)) (bo_b h (fun z => nm_r (nI_1 b) (k 0 (bo_0 fun w => z fun y hy => w y (by omega)))) fun z => ⟨iny_8 ha (by omega), ek_if (cy_E_ltc hE ha (by omega)) (fun w => nm_r (nI_1 b) (k 0 (bo_0 fun v => w (v b (by omega))))) (fun w => nm_r (nI_1 b) (k 1 (bo_1 (lt_s z (Classical.byContradiction w)))))⟩)
theorem yg_count {post : Int32 → Prop} (hE : cy_E M td) (H : post (nI (ma_cnt (ma_ld M 7) 8))) : wpY_count post (nx, fa, td, kp, af) := by
  refine pk_loop (fun n i (c : Int32) => wY_count_4 post nx fa td kp af n c (nI i)) (fun i c => c = nI (ma_cnt (ma_ld M 7) i)) 8 0 0 (by omega) rfl ?_ ?_
  · intro n c h
    refine br_t le_8 ?_
    rw [h]; exact H
  · intro n i c hi h k
    subst h
    exact br_f (ng_8 hi) (yg_in hE hi (fun z => k _ (by rw [ma_cnt_f z])) (fun z => k _ (by rw [ma_cnt_t z])))
end
end
section
section
variable {nx fa td kp af : Nat → Int32} {M : Nat → Nat → Nat → Prop}
/-- the reference's table of who follows whom: S x y stands at 8 * y + x -/
def yf_A (q : Nat → Int32) (S : Nat → Nat → Prop) : Prop := ∀ x y, x < 8 → y < 8 → bo_s (q (8 * y + x)) (S x y)
theorem yf_in {post : Int32 → Prop} {J : Int32 → Int32 → Prop} {S : Nat → Nat → Prop} {x2 x3 x6 : Int32} {A G : Prop} {b c : Nat} (hM : cy_T nx M) (hA : yf_A af S) (hb : b < 8) (hc : c < 24) (h3 : bo_s x3 A) (h6 : bo_s x6 G)
    (g : ∀ r, bo_s r (A ∧ (G → ∃ d, d < 8 ∧ M b (c / 8) d ∧ S (c % 8) d)) → J r (nI (c + 1))) :
    ∃ n, wY_answers_56 post J (nI b) x2 x3 (nI c) (nI (c / 8)) x6 nx fa td kp af n 0 0 := by
  have hl : c / 8 < 3 := by omega
  have ht : c % 8 < 8 := by omega
  refine pk_loop (fun n i (q : Int32) => wY_answers_56 post J (nI b) x2 x3 (nI c) (nI (c / 8)) x6 nx fa td kp af n q (nI i)) (fun i q => bo_s q (∃ d, d < i ∧ M b (c / 8) d ∧ S (c % 8) d)) 8 0 0 (by omega) (bo_0 fun ⟨_, h, _⟩ => absurd h (Nat.not_lt_zero _)) ?_ ?_
  · intro n q h
    exact br_t le_8 (bo_b h3 (fun z => nm_r (nI_1 c) (g 0 (bo_0 fun w => z w.1))) (fun z => bo_b h6 (fun z' => nm_r (nI_1 c) (g 1 (bo_1 ⟨z, fun w => absurd w z'⟩)))
      (fun z' => bo_b h (fun z'' => nm_r (nI_1 c) (g 0 (bo_0 fun w => z'' (w.2 z')))) (fun z'' => nm_r (nI_1 c) (g 1 (bo_1 ⟨z, fun _ => z''⟩))))))
  · intro n i q hi h k
    have no : ¬ (∃ d, d < i ∧ M b (c / 8) d ∧ S (c % 8) d) → ¬ (M b (c / 8) i ∧ S (c % 8) i) → bo_s 0 (∃ d, d < i + 1 ∧ M b (c / 8) d ∧ S (c % 8) d) := by
      intro h1 h2
      refine bo_0 ?_
      rintro ⟨d, hd, h3⟩
      by_cases e : d = i
      · subst e
        exact h2 h3
      · exact h1 ⟨d, by omega, h3⟩
    refine br_f (ng_8 hi) (bo_b h (fun z => ⟨iny_3 hb hl, cm_b1' (cy_Tc hM hb hl) hi (fun p => ⟨e8_0, ?_⟩) (fun np => nm_r (nI_1 i) (k 0 (no z fun w => np w.1)))⟩) (fun z => ?_))
    · rw [iy_m (by omega), cy_8 hi ht]
      exact ⟨iny_8 hi ht, bo_b (hA (c % 8) i ht hi) (fun w => nm_r (nI_1 i) (k 0 (no z fun v => w v.2))) (fun w => nm_r (nI_1 i) (k 1 (bo_1 ⟨i, by omega, p, w⟩)))⟩
    · obtain ⟨d, hd, h1⟩ := z
      exact nm_r (nI_1 i) (k 1 (bo_1 ⟨d, by omega, h1⟩))
theorem yf_answers {post : Int32 → Prop} {S : Nat → Nat → Prop} {a b : Nat} (hM : cy_T nx M) (hA : yf_A af S) (ha : a < 8) (hb : b < 8) (H : ∀ r, bo_s r (ma_fo M S b a) → post r) : wpY_answers post (nx, fa, td, kp, af) (nI b) (nI a) := by
  refine pk_loop (fun n c (q : Int32) => wY_answers_5 post (nI b) (nI a) nx fa td kp af n q (nI c)) (fun c q => bo_s q (∀ e, e < c → M a (e / 8) (e % 8) → ∃ d, d < 8 ∧ M b (e / 8) d ∧ S (e % 8) d)) 24 0 1 (by omega) (bo_1 lt_0) ?_ ?_
  · intro n q h
    refine br_t le_24 ⟨bo_n h, H q (bo_c h ⟨?_, ?_⟩)⟩
    · intro z l c hl hc hm
      have e1 : (8 * l + c) / 8 = l := by omega
      have e2 : (8 * l + c) % 8 = c := by omega
      have z' := z (8 * l + c) (by omega)
      rw [e1, e2] at z'
      exact z' hm
    · intro z e he hm
      exact z (e / 8) (e % 8) (by omega) (by omega) hm
  · intro n c q hc h k
    have hl : c / 8 < 3 := by omega
    have ht : c % 8 < 8 := by omega
    have fin : ∀ G x6, bo_s x6 G → (G ↔ M a (c / 8) (c % 8)) → ∃ n', wY_answers_56 post (wY_answers_5 post (nI b) (nI a) nx fa td kp af n) (nI b) (nI a) q (nI c) (nI (c / 8)) x6 nx fa td kp af n' 0 0 := by
      intro G x6 h6 hG
      refine yf_in hM hA hb hc h h6 fun r hr => k r (bo_c hr ⟨?_, ?_⟩)
      · rintro ⟨z1, z2⟩
        exact lt_s z1 fun w => z2 (hG.mpr w)
      · intro z
        exact ⟨fun e he => z e (by omega), fun w => z c (by omega) (hG.mp w)⟩
    refine br_f (ng_24 hc) ⟨e8_0, nm_r (iy_d (by omega)) ⟨iny_3 ha hl, e8_0, ?_⟩⟩
    rw [iy_m (by omega)]
    exact cm_b1' (cy_Tc hM ha hl) ht (fun p => fin True 1 (bo_1 True.intro) ⟨fun _ => p, fun _ => True.intro⟩) (fun np => fin False 0 (bo_0 id) ⟨False.elim, fun w => absurd w np⟩)
theorem yf_100 {post : SY → Prop} {J25 J39 : Int32 → Int32 → (Nat → Int32) → (Nat → Int32) → (Nat → Int32) → (Nat → Int32) → (Nat → Int32) → Prop} {x1 x2 x4 z0 : Int32} {A B C : Prop} {c : Nat} (hc : c < 64) (h1 : bo_s x1 A) (h4 : bo_s x4 B) (hz : bo_s z0 C)
    (g : ∀ r, bo_s r (A ∨ B) → J39 r (nI (c + 1)) nx fa td kp (upd af c z0)) : wY_follow_100 post J25 J39 x1 x2 (nI c) x4 z0 (nI c) nx fa td kp af :=
  ⟨in_64 hc, nm_r (e' := upd af c z0) (by rw [cc_8 (by omega), bo_v hz]) (bo_b h1 (fun nA => bo_b h4 (fun nB => nm_r (nI_1 c) (g 0 (bo_0 fun w => w.elim nA nB))) (fun pB => nm_r (nI_1 c) (g 1 (bo_1 (Or.inr pB))))) (fun pA => nm_r (nI_1 c) (g 1 (bo_1 (Or.inl pA)))))⟩
theorem yf_74 {post : SY → Prop} {J25 J39 : Int32 → Int32 → (Nat → Int32) → (Nat → Int32) → (Nat → Int32) → (Nat → Int32) → (Nat → Int32) → Prop} {x1 x2 z0 : Int32} {A B C : Prop} {c : Nat} (hc : c < 64) (h1 : bo_s x1 A) (h4 : bo_s z0 B) (ha : bo_s (af c) C)
    (f : ¬ B → ∀ r, bo_s r A → J39 r (nI (c + 1)) nx fa td kp af) (g : C → B → J39 1 (nI (c + 1)) nx fa td kp (upd af c 0)) (hB : B → C) : wY_follow_74 post J25 J39 x1 x2 (nI c) z0 nx fa td kp af := by
  have e : af (nI c).toNatClampNeg = af c := by rw [cc_8 (by omega)]
  refine ⟨in_64 hc, ?_⟩
  rw [e]
  refine bo_b ha (fun nC => ?_) (fun pC => bo_b h4 (fun nB => ?_) (fun pB => ?_))
  · refine yf_100 (C := False) hc h1 h4 (bo_0 id) fun r hr => ?_
    have e2 : upd af c 0 = af := by rw [← bo_f ha nC, up_self]
    rw [e2]
    exact f (fun w => nC (hB w)) r (bo_c hr ⟨fun z => z.resolve_right fun w => nC (hB w), Or.inl⟩)
  · refine yf_100 (C := True) hc h1 h4 (bo_1 True.intro) fun r hr => ?_
    have e2 : upd af c 1 = af := by rw [← bo_t ha pC, up_self]
    rw [e2]
    exact f nB r (bo_c hr ⟨fun z => z.resolve_right nB, Or.inl⟩)
  · refine yf_100 (C := False) hc h1 h4 (bo_0 id) fun r hr => ?_
    rw [bo_t hr (Or.inr pB)]
    exact g pC pB
def yf_S (q : Nat → Int32) (x y : Nat) : Prop := q (8 * y + x) = 1
theorem yf_bo {x : Int32} (h : x = 0 ∨ x = 1) : bo_s x (x = 1) := by
  rcases h with h | h
  · exact Or.inr ⟨h, by rw [h]; exact cm_01⟩
  · exact Or.inl ⟨h, h⟩
theorem yf_ch {S D : Nat → Nat → Prop} {m : Nat} {ch : Int32} (h : fo_I M S D m ch) : bo_s ch (ch = 1) := yf_bo (h.2.imp (fun z => z.1) fun z => z.1)
theorem yf_same {S D : Nat → Nat → Prop} {m : Nat} {ch r : Int32} (h : fo_I M S D m ch) (hr : bo_s r (ch = 1)) : r = ch := bo_u hr (yf_ch h) Iff.rfl
theorem yf_cells {post : SY → Prop} {J25 : Int32 → Int32 → (Nat → Int32) → (Nat → Int32) → (Nat → Int32) → (Nat → Int32) → (Nat → Int32) → Prop} {m p : Nat} (hM : cy_T nx M) (hA : ∀ i, i < 64 → af i = 0 ∨ af i = 1) (hF : ∀ c d, c < 8 → d < 8 → ma_F M c d → yf_S af c d) (hm : fo_mu (yf_S af) ≤ m)
    (g : ∀ r q, (∀ i, i < 64 → q i = 0 ∨ q i = 1) → fo_I M (yf_S q) (fun x y => 8 * y + x < 64) m r → J25 r (nI (p + 1)) nx fa td kp q) : ∃ k, wY_follow_39 post J25 (nI p) k 0 0 nx fa td kp af := by
  refine pk_loop (fun k c (q : Int32 × (Nat → Int32)) => wY_follow_39 post J25 (nI p) k q.1 (nI c) nx fa td kp q.2) (fun c q => (∀ i, i < 64 → q.2 i = 0 ∨ q.2 i = 1) ∧ fo_I M (yf_S q.2) (fun x y => 8 * y + x < c) m q.1) 64 0 (0, af) (by omega) ⟨hA, fo_I0 hF hm fun x y _ _ => Nat.not_lt_zero _⟩ ?_ ?_
  · rintro k ⟨r, q⟩ ⟨h1, h2⟩
    exact br_t le_64 (nm_r (nI_1 p) (g r q h1 h2))
  · rintro k c ⟨r, q⟩ hc ⟨h1, h2⟩ f
    have h1' : ∀ i, i < 64 → q i = 0 ∨ q i = 1 := h1
    have h2' : fo_I M (yf_S q) (fun x y => 8 * y + x < c) m r := h2
    have hb : c / 8 < 8 := by omega
    have ha : c % 8 < 8 := by omega
    have e : 8 * (c / 8) + c % 8 = c := by omega
    have hD : ∀ x y, x < 8 → y < 8 → 8 * y + x < c + 1 → 8 * y + x < c ∨ (x = c % 8 ∧ y = c / 8) := fun x y _ _ z => by omega
    have hq : yf_A q (yf_S q) := fun x y hx hy => yf_bo (h1' (8 * y + x) (by omega))
    have hSc : yf_S q (c % 8) (c / 8) ↔ q c = 1 := by unfold yf_S; rw [e]
    have keep : (yf_S q (c % 8) (c / 8) → ma_fo M (yf_S q) (c / 8) (c % 8)) → wY_follow_73 post J25 (wY_follow_39 post J25 (nI p) k) r (nI p) (nI c) nx fa td kp q := fun w =>
      yf_74 (A := r = 1) (B := False) (C := q c = 1) hc (yf_ch h2') (bo_0 id) (yf_bo (h1' c hc)) (fun _ r' hr' => by
        rw [yf_same h2' hr']
        exact f (r, q) ⟨h1', fo_I_keep h2' hD w⟩) (fun _ z => False.elim z) (fun z => False.elim z)
    refine br_f (ng_64 hc) ⟨in_64 hc, ?_⟩
    have ec : q (nI c).toNatClampNeg = q c := by rw [cc_8 (by omega)]
    show (q (nI c).toNatClampNeg = 0 → _) ∧ (¬ q (nI c).toNatClampNeg = 0 → _)
    rw [ec]
    refine bo_b (yf_bo (h1' c hc)) (fun z => keep fun w => absurd (hSc.mp w) z) fun z => ⟨e8_0, e8_0, ?_⟩
    rw [iy_m (by omega), iy_d (by omega)]
    refine yf_answers hM hq ha hb fun r1 hr1 => bo_b hr1 (fun w => ?_) (fun w => keep fun _ => w)
    refine yf_74 (A := r = 1) (B := True) (C := q c = 1) hc (yf_ch h2') (bo_1 True.intro) (yf_bo (h1' c hc)) (fun v => absurd True.intro v) (fun _ _ => ?_) (fun _ => z)
    refine f (1, upd q c 0) ⟨fun i hi => ?_, fo_I_strike ha hb h2' (fun x y hx hy => ?_) (hSc.mpr z) w⟩
    · show upd q c 0 i = 0 ∨ upd q c 0 i = 1
      by_cases ei : i = c
      · rw [ei, pk_us]; exact Or.inl rfl
      · rw [pk_un ei]; exact h1' i hi
    · show upd q c 0 (8 * y + x) = 1 ↔ q (8 * y + x) = 1 ∧ ¬ (x = c % 8 ∧ y = c / 8)
      by_cases ei : 8 * y + x = c
      · rw [ei, pk_us]
        exact ⟨fun v => absurd v cm_01, fun v => absurd ⟨by omega, by omega⟩ v.2⟩
      · rw [pk_un ei]
        exact ⟨fun v => ⟨v, by omega⟩, fun v => v.1⟩
theorem yf_follow {post : SY → Prop} (hM : cy_T nx M) (H : ∀ q, yf_A q (ma_F M) → post (nx, fa, td, kp, q)) : wpY_follow post (nx, fa, td, kp, af) := by
  refine pk_loop (fun k c (t : Nat → Int32) => wY_follow_2 post k (nI c) nx fa td kp t) (fun c t => ∀ j, j < c → t j = 1) 64 0 af (by omega) lt_0 ?_ ?_
  · intro k t h
    have fin : ∀ q, (∀ i, i < 64 → q i = 0 ∨ q i = 1) → (∀ a b, a < 8 → b < 8 → (yf_S q a b ↔ ma_F M a b)) → post (nx, fa, td, kp, q) := fun q h1 h2 =>
      H q fun x y hx hy => bo_c (yf_bo (h1 (8 * y + x) (by omega))) (h2 x y hx hy)
    refine br_t le_64 (pk_loop (fun k i (q : Int32 × (Nat → Int32)) => wY_follow_25 post k q.1 (nI i) nx fa td kp q.2) (fun i q => (∀ i, i < 64 → q.2 i = 0 ∨ q.2 i = 1) ∧ fo_H M (yf_S q.2) i q.1) 65 0 (1, t) (by omega) ⟨fun i hi => Or.inr (h i hi), fo_H0 fun c d hc hd => h _ (by omega)⟩ ?_ ?_)
    · rintro k ⟨r, q⟩ ⟨h1, h2⟩
      exact br_t (by decide) (fin q h1 (fo_H_end h2 (Or.inr (by omega))))
    · rintro k i ⟨r, q⟩ hi ⟨h1, h2⟩ f
      have h2' : fo_H M (yf_S q) i r := h2
      refine br_f (ng_65 hi) (br_c (fun z => fin q h1 (fo_H_end h2' (Or.inl z))) fun z => ?_)
      have k4 : fo_mu (yf_S q) + i ≤ 64 := by
        rcases h2'.2 with ⟨e, _⟩ | ⟨_, e⟩
        · exact absurd e z
        · exact e
      exact yf_cells hM h1 h2'.1 (Nat.le_refl _) fun r' q' h3 h4 => f (r', q') ⟨h3, fo_H_s h4 k4 fun x y _ _ => by omega⟩
  · intro k c t hc h f
    refine br_f (ng_64 hc) ⟨in_64 hc, nm_r (e' := upd t c 1) (by rw [cc_8 (by omega), nb_v1]) (nm_r (nI_1 c) (f _ (lt_s (fun j hj => ?_) pk_us)))⟩
    rw [pk_un (by omega)]
    exact h j hj
end
end
section
/-- what is asked of two states -/
def st_Q (Q : Nat → Nat → Prop) (x y : Int32) : Prop := ∃ a b, a < 8 ∧ b < 8 ∧ x = nI a ∧ y = nI b ∧ Q a b
theorem st_Qn {Q : Nat → Nat → Prop} {a b : Nat} (ha : a < 8) (hb : b < 8) : st_Q Q (nI a) (nI b) ↔ Q a b := by
  constructor
  · rintro ⟨a', b', ha', hb', e1, e2, h⟩
    rw [nI_eq (by omega) (by omega)] at e1 e2
    subst e1 e2
    exact h
  · exact fun h => ⟨a, b, ha, hb, rfl, rfl, h⟩
theorem st_Q1 {Q : Nat → Nat → Prop} {x y : Int32} (h : ¬ st_S x) : ¬ st_Q Q x y := fun ⟨a, _, ha, _, e, _⟩ => h ⟨a, ha, e⟩
theorem st_Q2 {Q : Nat → Nat → Prop} {x y : Int32} (h : ¬ st_S y) : ¬ st_Q Q x y := fun ⟨_, b, _, hb, _, e, _⟩ => h ⟨b, hb, e⟩
/-- a set asked of a state -/
def an_P (Q : Nat → Nat → Prop) (x r : Int32) : Prop := (¬ st_S x ∧ r = 0) ∨ ∃ a, a < 8 ∧ x = nI a ∧ cm_P r (Q a)
theorem an_u {Q : Nat → Nat → Prop} {x r r' : Int32} (h : an_P Q x r) (h' : an_P Q x r') : r' = r := by
  rcases h with ⟨h1, h2⟩ | ⟨a, ha, e, h⟩ <;> rcases h' with ⟨h3, h4⟩ | ⟨a', ha', e', h'⟩
  · rw [h2, h4]
  · exact absurd ⟨a', ha', e'⟩ h1
  · exact absurd ⟨a, ha, e⟩ h3
  · rw [e, nI_eq (by omega) (by omega)] at e'
    subst e'
    exact cm_P_u h' h fun _ _ => Iff.rfl
/-- the round asked of two states -/
def ta_P (M : Nat → Nat → Nat → Prop) (x y r : Int32) : Prop :=
  (¬ (st_S x ∧ st_S y) ∧ r = -1) ∨ ∃ a b, a < 8 ∧ b < 8 ∧ x = nI a ∧ y = nI b ∧ ((¬ ma_T M 7 a b ∧ r = -1) ∨ ∃ k, r = nI k ∧ ma_told M k a b)
theorem ta_u {M : Nat → Nat → Nat → Prop} {x y r r' : Int32} (h : ta_P M x y r) (h' : ta_P M x y r') : r' = r := by
  rcases h with ⟨h1, h2⟩ | ⟨a, b, ha, hb, e1, e2, h⟩ <;> rcases h' with ⟨h3, h4⟩ | ⟨a', b', ha', hb', e1', e2', h'⟩
  · rw [h2, h4]
  · exact absurd ⟨⟨a', ha', e1'⟩, ⟨b', hb', e2'⟩⟩ h1
  · exact absurd ⟨⟨a, ha, e1⟩, ⟨b, hb, e2⟩⟩ h3
  · rw [e1, nI_eq (by omega) (by omega)] at e1'
    rw [e2, nI_eq (by omega) (by omega)] at e2'
    subst e1' e2'
    rcases h with ⟨n, e⟩ | ⟨k, e, hk⟩ <;> rcases h' with ⟨n', e'⟩ | ⟨k', e', hk'⟩
    · rw [e, e']
    · exact absurd (ma_T7 ha hb hk'.1) n
    · exact absurd (ma_T7 ha hb hk.1) n'
    · rw [e, e', ma_told_u hk' hk]
theorem bo_o {x : Int32} {P : Prop} (h : bo_s x P) : x = 1 ↔ P := by
  rcases h with ⟨h, p⟩ | ⟨h, p⟩
  · rw [h]; exact ⟨fun _ => p, fun _ => rfl⟩
  · rw [h]; exact ⟨fun z => absurd z cm_01, fun z => absurd z p⟩
theorem gs_0 {Q : Nat → Prop} : cm_P 0 (fun b => b < 0 ∧ Q b) := cm_P_c cm_P_0 fun _ _ => ⟨fun z => False.elim z, fun z => absurd z.1 (Nat.not_lt_zero _)⟩
theorem gs_8 {Q : Nat → Prop} {x : Int32} (h : cm_P x (fun b => b < 8 ∧ Q b)) : cm_P x Q := cm_P_c h fun _ hb => ⟨fun z => z.2, fun z => ⟨hb, z⟩⟩
theorem gs_keep {Q : Nat → Prop} {x : Int32} {i : Nat} (h : cm_P x (fun b => b < i ∧ Q b)) (n : ¬ Q i) : cm_P x (fun b => b < i + 1 ∧ Q b) := cm_P_c h fun b _ => by
  constructor
  · exact fun z => ⟨by omega, z.2⟩
  · intro z
    refine ⟨Classical.byContradiction fun w => ?_, z.2⟩
    have e : b = i := by omega
    subst e
    exact n z.2
theorem gs_put {Q : Nat → Prop} {x : Int32} {i : Nat} (hi : i < 8) (h : cm_P x (fun b => b < i ∧ Q b)) (p : Q i) : cm_P (x ||| ((1 : Int32) <<< (nI i &&& 31))) (fun b => b < i + 1 ∧ Q b) := cm_P_c (cm_P_put h hi) fun b _ => by
  constructor
  · rintro (z | z)
    · exact ⟨by omega, z.2⟩
    · subst z
      exact ⟨by omega, p⟩
  · intro z
    by_cases e : b = i
    · exact Or.inr e
    · exact Or.inl ⟨by omega, z.2⟩
/-- the step is there and idle -/
def id_M (M : Nat → Nat → Nat → Prop) (a l b : Nat) : Prop := M a l b ∧ ∀ x y, x < 8 → y < 8 → (ma_T M 7 x y ↔ ma_T (ma_cut M a b l) 7 x y)
theorem id_E {M : Nat → Nat → Nat → Prop} {x y z : Int32} (h : ¬ st_E M x y z) : ¬ st_E (id_M M) x y z := fun ⟨a, b, l, ha, hb, hl, e1, e2, e3, hm⟩ => h ⟨a, b, l, ha, hb, hl, e1, e2, e3, hm.1⟩
section
variable {r0 : Int32} {s ls sr ap ab aw tr fo : Nat → Int32} {M : Nat → Nat → Nat → Prop}
theorem xx_alike {post : Int32 → SX → Prop} (hM : cx_T s M) (x y : Int32) (H : ∀ r r1 p b t, bo_s r (st_Q (fun a b => ¬ ma_T M 7 a b) x y) → post r (r1, s, ls, sr, p, b, aw, t, fo)) : wpX_alike post (r0, s, ls, sr, ap, ab, aw, tr, fo) x y := by
  refine xc_isState x fun r hr => bo_b hr (fun n => H 0 _ _ _ _ (bo_0 (st_Q1 n))) fun p => ?_
  refine xc_isState y fun r hr => bo_b hr (fun n => H 0 _ _ _ _ (bo_0 (st_Q2 n))) fun p' => ?_
  obtain ⟨a, ha, rfl⟩ := p
  obtain ⟨b, hb, rfl⟩ := p'
  refine xt_tellApart_stepSets hM fun r1 p1 b1 t1 hE => ⟨in_8 ha, xc_if (cx_Pc hE.1 ha) hb (fun n => H 1 _ _ _ _ (bo_1 ((st_Qn ha hb).mpr n))) (fun z => H 0 _ _ _ _ (bo_0 fun w => (st_Qn ha hb).mp w z))⟩
theorem xx_loose {post : Int32 → SX → Prop} (hM : cx_T s M) (x y : Int32) (H : ∀ r r1 q q' p b t, bo_s r (st_Q (fun a b => ¬ ma_T (ma_L M) 7 a b) x y) → post r (r1, s, q, q', p, b, aw, t, fo)) : wpX_looselyAlike post (r0, s, ls, sr, ap, ab, aw, tr, fo) x y := by
  refine xc_isState x fun r hr => bo_b hr (fun n => H 0 _ _ _ _ _ _ (bo_0 (st_Q1 n))) fun p => ?_
  refine xc_isState y fun r hr => bo_b hr (fun n => H 0 _ _ _ _ _ _ (bo_0 (st_Q2 n))) fun p' => ?_
  obtain ⟨a, ha, rfl⟩ := p
  obtain ⟨b, hb, rfl⟩ := p'
  refine xl_makeLong hM fun q q' hq => ?_
  refine xt_tellApart_longStepSets hq fun r1 p1 b1 t1 hE => ⟨in_8 ha, xc_if (cx_Pc hE.1 ha) hb (fun n => H 1 _ _ _ _ _ _ (bo_1 ((st_Qn ha hb).mpr n))) (fun z => H 0 _ _ _ _ _ _ (bo_0 fun w => (st_Qn ha hb).mp w z))⟩
theorem xx_group {post : Int32 → SX → Prop} (hM : cx_T s M) (x : Int32) (H : ∀ r r1 p b t, an_P (fun a b => ¬ ma_T M 7 a b) x r → post r (r1, s, ls, sr, p, b, aw, t, fo)) : wpX_group post (r0, s, ls, sr, ap, ab, aw, tr, fo) x := by
  refine xc_isState x fun r hr => bo_b hr (fun n => H 0 _ _ _ _ (Or.inl ⟨n, rfl⟩)) fun p => ?_
  obtain ⟨a, ha, rfl⟩ := p
  exact xt_tellApart_stepSets hM fun r1 p1 b1 t1 hE => ⟨in_8 ha, H _ _ _ _ _ (Or.inr ⟨a, ha, rfl, cm_P_rest (cx_Pc hE.1 ha)⟩)⟩
theorem xx_groups {post : Int32 → SX → Prop} (hM : cx_T s M) (H : ∀ r1 p b t, post (nI (ma_cnt (ma_ld M 7) 8)) (r1, s, ls, sr, p, b, aw, t, fo)) : wpX_groups post (r0, s, ls, sr, ap, ab, aw, tr, fo) :=
  xt_tellApart_stepSets hM fun r1 p1 b1 t1 hE => xc_countGroups hE.1 (H r1 p1 b1 t1)
theorem xx_looseGroups {post : Int32 → SX → Prop} (hM : cx_T s M) (H : ∀ r1 q q' p b t, post (nI (ma_cnt (ma_ld (ma_L M) 7) 8)) (r1, s, q, q', p, b, aw, t, fo)) : wpX_looseGroups post (r0, s, ls, sr, ap, ab, aw, tr, fo) :=
  xl_makeLong hM fun q q' hq => xt_tellApart_longStepSets hq fun r1 p1 b1 t1 hE => xc_countGroups hE.1 (H r1 q q' p1 b1 t1)
theorem xx_toldAfter {post : Int32 → SX → Prop} (hM : cx_T s M) (x y : Int32) (H : ∀ r r1 p b t, ta_P M x y r → post r (r1, s, ls, sr, p, b, aw, t, fo)) : wpX_toldAfter post (r0, s, ls, sr, ap, ab, aw, tr, fo) x y := by
  refine xc_isState x fun r hr => bo_b hr (fun n => H (-1) _ _ _ _ (Or.inl ⟨fun w => n w.1, rfl⟩)) fun p => ?_
  refine xc_isState y fun r hr => bo_b hr (fun n => H (-1) _ _ _ _ (Or.inl ⟨fun w => n w.2, rfl⟩)) fun p' => ?_
  obtain ⟨a, ha, rfl⟩ := p
  obtain ⟨b, hb, rfl⟩ := p'
  refine xt_tellApart_stepSets hM fun r1 p1 b1 t1 hE => ⟨in_8 ha, xc_if (cx_Pc hE.1 ha) hb (fun n => H (-1) _ _ _ _ (Or.inr ⟨a, b, ha, hb, rfl, rfl, Or.inl ⟨n, rfl⟩⟩)) (fun z => ⟨in_88 ha hb, H _ _ _ _ _ (Or.inr ⟨a, b, ha, hb, rfl, rfl, Or.inr ?_⟩)⟩)⟩
  rw [cc_88 ha hb]
  exact hE.2.1 a b ha hb (((hE.1 a ha).2 b hb).mpr z)
theorem xx_rounds {post : Int32 → SX → Prop} (hM : cx_T s M) (H : ∀ k r1 p b t, ma_last M k → post (nI k) (r1, s, ls, sr, p, b, aw, t, fo)) : wpX_rounds post (r0, s, ls, sr, ap, ab, aw, tr, fo) := by
  refine xt_tellApart_stepSets hM fun r1 p1 b1 t1 hE => ?_
  obtain ⟨k, e, hk⟩ := hE.2.2
  subst e
  exact H k (nI k) p1 b1 t1 hk
theorem xx_follows {post : Int32 → SX → Prop} (hM : cx_T s M) (y x : Int32) (H : ∀ r q, bo_s r (st_Q (ma_F M) x y) → post r (r0, s, ls, sr, ap, ab, aw, tr, q)) : wpX_follows post (r0, s, ls, sr, ap, ab, aw, tr, fo) y x := by
  refine xc_isState x fun r hr => bo_b hr (fun n => H 0 _ (bo_0 (st_Q1 n))) fun p => ?_
  refine xc_isState y fun r hr => bo_b hr (fun n => H 0 _ (bo_0 (st_Q2 n))) fun p' => ?_
  obtain ⟨a, ha, rfl⟩ := p
  obtain ⟨b, hb, rfl⟩ := p'
  exact xf_find hM fun q hq => ⟨in_8 ha, xc_contains (cx_Pc hq ha) hb fun r hr => ⟨bo_n hr, H r q (bo_c hr (st_Qn ha hb).symm)⟩⟩
theorem xx_followers {post : Int32 → SX → Prop} (hM : cx_T s M) (x : Int32) (H : ∀ r q, an_P (ma_F M) x r → post r (r0, s, ls, sr, ap, ab, aw, tr, q)) : wpX_followers post (r0, s, ls, sr, ap, ab, aw, tr, fo) x := by
  refine xc_isState x fun r hr => bo_b hr (fun n => H 0 _ (Or.inl ⟨n, rfl⟩)) fun p => ?_
  obtain ⟨a, ha, rfl⟩ := p
  exact xf_find hM fun q hq => ⟨in_8 ha, H _ q (Or.inr ⟨a, ha, rfl, cx_Pc hq ha⟩)⟩
theorem xx_silently {post : Int32 → Prop} (hM : cx_T s M) (x : Int32) (H : ∀ r, an_P (ma_rch M) x r → post r) : wpX_silently post (r0, s, ls, sr, ap, ab, aw, tr, fo) x := by
  refine xc_isState x fun r hr => bo_b hr (fun n => H 0 (Or.inl ⟨n, rfl⟩)) fun p => ?_
  obtain ⟨a, ha, rfl⟩ := p
  exact xs_reach hM ha fun r hr => H r (Or.inr ⟨a, ha, rfl, hr⟩)
theorem xx_after {post : Int32 → Prop} (x y : Int32) (f : ¬ (st_S x ∧ st_L y) → post 0) (g : ∀ a l, a < 8 → l < 3 → x = nI a → y = nI l → post (s (a * 3 + l))) : wpX_after post (r0, s, ls, sr, ap, ab, aw, tr, fo) x y := by
  refine xc_isState x fun r hr => bo_b hr (fun n => f fun w => n w.1) fun p => ?_
  refine xc_isLabel y fun r hr => bo_b hr (fun n => f fun w => n w.2) fun p' => ?_
  obtain ⟨a, ha, rfl⟩ := p
  obtain ⟨l, hl, rfl⟩ := p'
  refine ⟨in_3 ha hl, ?_⟩
  rw [cc_3 ha hl]
  exact g a l ha hl rfl rfl
theorem xx_join {post : Int32 → SX → Prop} (hM : cx_T s M) (x y z : Int32) (f : ¬ (st_S x ∧ st_S y ∧ st_L z) → post 0 (r0, s, ls, sr, ap, ab, aw, tr, fo))
    (g : ∀ a b l, a < 8 → b < 8 → l < 3 → x = nI a → y = nI b → z = nI l → ∀ q, cx_T q (ma_add M a b l) → post 1 (r0, q, ls, sr, ap, ab, aw, tr, fo)) : wpX_join post (r0, s, ls, sr, ap, ab, aw, tr, fo) x y z := by
  refine xc_isState x fun r hr => bo_b hr (fun n => f fun w => n w.1) fun p => ?_
  refine xc_isState y fun r hr => bo_b hr (fun n => f fun w => n w.2.1) fun p' => ?_
  refine xc_isLabel z fun r hr => bo_b hr (fun n => f fun w => n w.2.2) fun p'' => ?_
  obtain ⟨a, ha, rfl⟩ := p
  obtain ⟨b, hb, rfl⟩ := p'
  obtain ⟨l, hl, rfl⟩ := p''
  refine ⟨in_3 ha hl, in_3 ha hl, nm_r (e' := upd s (a * 3 + l) (s (a * 3 + l) ||| ((1 : Int32) <<< (nI b &&& 31)))) (by rw [cc_3 ha hl]) ?_⟩
  exact g a b l ha hb hl rfl rfl rfl _ (cx_put hM ha hb hl)
theorem xx_cut {post : Int32 → SX → Prop} (hM : cx_T s M) (x y z : Int32) (f : ¬ st_E M x y z → post 0 (r0, s, ls, sr, ap, ab, aw, tr, fo))
    (g : ∀ a b l, a < 8 → b < 8 → l < 3 → x = nI a → y = nI b → z = nI l → M a l b → ∀ q, cx_T q (ma_cut M a b l) → post 1 (r0, q, ls, sr, ap, ab, aw, tr, fo)) : wpX_cut post (r0, s, ls, sr, ap, ab, aw, tr, fo) x y z := by
  refine xc_hasStep (r0 := r0) (ls := ls) (sr := sr) (ap := ap) (ab := ab) (aw := aw) (tr := tr) (fo := fo) hM x y z fun r hr => bo_b hr f ?_
  rintro ⟨a, b, l, ha, hb, hl, rfl, rfl, rfl, hm⟩
  refine ⟨in_3 ha hl, in_3 ha hl, nm_r (e' := upd s (a * 3 + l) (s (a * 3 + l) &&& (((1 : Int32) <<< (nI b &&& 31)) ^^^ (-1)))) (by rw [cc_3 ha hl]) ?_⟩
  exact g a b l ha hb hl rfl rfl rfl hm _ (cx_del hM ha hb hl)
theorem xx_idle {post : Int32 → SX → Prop} (hM : cx_T s M) (x y z : Int32) (H : ∀ r r1 s1 p b w t, cx_T s1 M → bo_s r (st_E (id_M M) x y z) → post r (r1, s1, ls, sr, p, b, w, t, fo)) : wpX_idle post (r0, s, ls, sr, ap, ab, aw, tr, fo) x y z := by
  refine xc_hasStep (r0 := r0) (ls := ls) (sr := sr) (ap := ap) (ab := ab) (aw := aw) (tr := tr) (fo := fo) hM x y z fun r hr => bo_b hr (fun n => H 0 _ _ _ _ _ _ hM (bo_0 (id_E n))) ?_
  rintro ⟨a, b, l, ha, hb, hl, rfl, rfl, rfl, hm⟩
  refine xt_tellApart_stepSets hM fun r1 p1 b1 t1 hE1 => ?_
  refine xc_copyW fun w hw => ?_
  refine ⟨in_3 ha hl, in_3 ha hl, nm_r (e' := upd s (a * 3 + l) (s (a * 3 + l) &&& (((1 : Int32) <<< (nI b &&& 31)) ^^^ (-1)))) (by rw [cc_3 ha hl]) ?_⟩
  have hM2 := cx_del hM ha hb hl
  generalize upd s (a * 3 + l) (s (a * 3 + l) &&& (((1 : Int32) <<< (nI b &&& 31)) ^^^ (-1))) = s2 at hM2 ⊢
  refine xt_tellApart_stepSets hM2 fun r2 p2 b2 t2 hE2 => ?_
  refine ⟨in_3 ha hl, in_3 ha hl, nm_r (e' := upd s2 (a * 3 + l) (s2 (a * 3 + l) ||| ((1 : Int32) <<< (nI b &&& 31)))) (by rw [cc_3 ha hl]) ?_⟩
  have hM3 : cx_T (upd s2 (a * 3 + l) (s2 (a * 3 + l) ||| ((1 : Int32) <<< (nI b &&& 31)))) M := fun c k hc hk => cm_P_c (cx_put hM2 ha hb hl c k hc hk) fun d _ => ma_back hm c k d
  refine xc_sameW fun r hr => ⟨bo_n hr, H r _ _ _ _ _ _ hM3 (bo_c hr ?_)⟩
  have hW : cx_P w (ma_T M 7) := fun c hc => by rw [hw c hc]; exact hE1.1 c hc
  rw [cx_same hE2.1 hW, st_En ha hb hl]
  exact ⟨fun v => ⟨hm, fun c d hc hd => (v c d hc hd).symm⟩, fun v c d hc hd => (v.2 c d hc hd).symm⟩
end
end
section
section
variable {nx fa td kp af : Nat → Int32} {M : Nat → Nat → Nat → Prop}
theorem yy_ask {post : Int32 → SY → Prop} {q t : Nat → Int32} (hE : cy_E M t) (x y : Int32) (H : ∀ r, bo_s r (st_Q (fun a b => ¬ ma_T M 7 a b) x y) → post r (nx, q, t, kp, af)) :
    wpY_state (fun r_7 => (((r_7 = 0 → (post 0 (nx, q, t, kp, af))) ∧ (¬ r_7 = 0 → (wpY_state (fun r_14 => (((r_14 = 0 → (post 0 (nx, q, t, kp, af))) ∧ (¬ r_14 = 0 → (vp_in ((8 * x) + y) 64 ∧ (((0 ≤ (t ((8 * x) + y).toNatClampNeg) → (post 0 (nx, q, t, kp, af))) ∧ (¬ 0 ≤ (t ((8 * x) + y).toNatClampNeg) → (post 1 (nx, q, t, kp, af)))))))))) (nx, q, t, kp, af) y))))) (nx, q, t, kp, af) x := by
  refine yc_state _ x fun r hr => bo_b hr (fun n => H 0 (bo_0 (st_Q1 n))) fun p => ?_
  refine yc_state (nx, q, t, kp, af) y fun r hr => bo_b hr (fun n => H 0 (bo_0 (st_Q2 n))) fun p' => ?_
  obtain ⟨a, ha, rfl⟩ := p
  obtain ⟨b, hb, rfl⟩ := p'
  exact ⟨iny_8 ha hb, ek_if (cy_E_gec hE ha hb) (fun z => H 0 (bo_0 fun w => (st_Qn ha hb).mp w z)) (fun z => H 1 (bo_1 ((st_Qn ha hb).mpr z)))⟩
theorem yy_alike {post : Int32 → SY → Prop} (hM : cy_T nx M) (x y : Int32) (H : ∀ r q t, bo_s r (st_Q (fun a b => ¬ ma_T M 7 a b) x y) → post r (nx, q, t, kp, af)) : wpY_alike post (nx, fa, td, kp, af) x y := by
  unfold wpY_alike
  dsimp only
  refine yt_tellSteps hM fun q t hE => ?_
  exact yy_ask hE x y fun r hr => H r q t hr
theorem yy_loose {post : Int32 → SY → Prop} (hM : cy_T nx M) (x y : Int32) (H : ∀ r q t, bo_s r (st_Q (fun a b => ¬ ma_T (ma_L M) 7 a b) x y) → post r (nx, q, t, kp, af)) : wpY_looselyAlike post (nx, fa, td, kp, af) x y := by
  unfold wpY_looselyAlike
  dsimp only
  refine yt_tellLong hM fun q t hE => ?_
  exact yy_ask hE x y fun r hr => H r q t hr
theorem yy_group {post : Int32 → SY → Prop} (hM : cy_T nx M) (x : Int32) (H : ∀ r q t, an_P (fun a b => ¬ ma_T M 7 a b) x r → post r (nx, q, t, kp, af)) : wpY_group post (nx, fa, td, kp, af) x := by
  unfold wpY_group
  dsimp only
  refine yt_tellSteps hM fun q t hE => ?_
  by_cases hx : st_S x
  · obtain ⟨a, ha, rfl⟩ := hx
    refine pk_loop (fun n i (c : Int32) => wY_group_8 post (nI a) nx q t kp af n c (nI i)) (fun i c => cm_P c (fun b => b < i ∧ ¬ ma_T M 7 a b)) 8 0 0 (by omega) gs_0 ?_ ?_
    · intro n c h
      exact br_t le_8 (H c q t (Or.inr ⟨a, ha, rfl, gs_8 h⟩))
    · intro n i c hi h k
      exact br_f (ng_8 hi) (yc_state (nx, q, t, kp, af) (nI a) fun r hr => bo_b hr (fun z => absurd ⟨a, ha, rfl⟩ z) fun _ => ⟨iny_8 ha hi, ek_if (cy_E_gec hE ha hi) (fun z => nm_r (nI_1 i) (k _ (gs_keep h fun w => w z))) (fun z => nm_e (nm_r (nI_1 i) (k _ (gs_put hi h z))))⟩)
  · exact ⟨1, br_f (ng_8 (i := 0) (by omega)) (yc_state (nx, q, t, kp, af) x fun r hr => bo_b hr (fun z => H 0 q t (Or.inl ⟨z, rfl⟩)) fun z => absurd z hx)⟩
theorem yy_groups {post : Int32 → SY → Prop} (hM : cy_T nx M) (H : ∀ q t, post (nI (ma_cnt (ma_ld M 7) 8)) (nx, q, t, kp, af)) : wpY_groups post (nx, fa, td, kp, af) := by
  unfold wpY_groups
  dsimp only
  refine yt_tellSteps hM fun q t hE => ?_
  exact yg_count hE (H q t)
theorem yy_looseGroups {post : Int32 → SY → Prop} (hM : cy_T nx M) (H : ∀ q t, post (nI (ma_cnt (ma_ld (ma_L M) 7) 8)) (nx, q, t, kp, af)) : wpY_looseGroups post (nx, fa, td, kp, af) := by
  unfold wpY_looseGroups
  dsimp only
  refine yt_tellLong hM fun q t hE => ?_
  exact yg_count hE (H q t)
theorem yy_toldAfter {post : Int32 → SY → Prop} (hM : cy_T nx M) (x y : Int32) (H : ∀ r q t, ta_P M x y r → post r (nx, q, t, kp, af)) : wpY_toldAfter post (nx, fa, td, kp, af) x y := by
  unfold wpY_toldAfter
  dsimp only
  refine yt_tellSteps hM fun q t hE => ?_
  refine yc_state (nx, q, t, kp, af) x fun r hr => bo_b hr (fun n => H (-1) q t (Or.inl ⟨fun w => n w.1, rfl⟩)) fun p => ?_
  refine yc_state (nx, q, t, kp, af) y fun r hr => bo_b hr (fun n => H (-1) q t (Or.inl ⟨fun w => n w.2, rfl⟩)) fun p' => ?_
  obtain ⟨a, ha, rfl⟩ := p
  obtain ⟨b, hb, rfl⟩ := p'
  refine ⟨iny_8 ha hb, H _ q t (Or.inr ⟨a, b, ha, hb, rfl, rfl, ?_⟩)⟩
  rw [cy_8 ha hb]
  by_cases z : ma_T M 7 a b
  · exact Or.inr ((hE a b ha hb).1 z)
  · exact Or.inl ⟨z, cy_E_n hE ha hb z⟩
theorem yy_rounds {post : Int32 → SY → Prop} (hM : cy_T nx M) (H : ∀ k q t, ma_last M k → post (nI k) (nx, q, t, kp, af)) : wpY_rounds post (nx, fa, td, kp, af) := by
  unfold wpY_rounds
  dsimp only
  refine yt_tellSteps hM fun q t hE => ?_
  refine pk_loop (fun n c (x : Int32) => wY_rounds_8 post nx q t kp af n x (nI c)) (fun c x => ∃ r, x = nI r ∧ r ≤ 7 ∧ (∀ a b, a < 8 → b < 8 → 8 * a + b < c → ∀ k, ma_told M k a b → k ≤ r) ∧ (r = 0 ∨ ∃ a b, a < 8 ∧ b < 8 ∧ ma_told M r a b)) 64 0 0 (by omega) ⟨0, rfl, by omega, fun a b _ _ z => absurd z (Nat.not_lt_zero _), Or.inl rfl⟩ ?_ ?_
  · rintro n x ⟨r, rfl, hr, h1, h2⟩
    exact br_t le_64 (H r q t (cy_most hE (fun a b ha hb => h1 a b ha hb (by omega)) h2))
  · rintro n c x hc ⟨r, rfl, hr, h1, h2⟩ k
    have ha : c / 8 < 8 := by omega
    have hb : c % 8 < 8 := by omega
    have e : 8 * (c / 8) + c % 8 = c := by omega
    refine br_f (ng_64 hc) ⟨in_64 hc, ?_⟩
    rw [cc_8 (by omega)]
    have last : ∀ r', r ≤ r' → (∀ k, ma_told M k (c / 8) (c % 8) → k ≤ r') → ∀ a b, a < 8 → b < 8 → 8 * a + b < c + 1 → ∀ k, ma_told M k a b → k ≤ r' := by
      intro r' h3 h4 a b ha' hb' hl k hk
      by_cases w : 8 * a + b < c
      · exact Nat.le_trans (h1 a b ha' hb' w k hk) h3
      · have ea : c / 8 = a := by omega
        have eb : c % 8 = b := by omega
        rw [ea, eb] at h4
        exact h4 k hk
    by_cases z : ma_T M 7 (c / 8) (c % 8)
    · obtain ⟨m, hm, et, hk⟩ := cy_E_y hE ha hb z
      rw [e] at et
      rw [et]
      refine pk_le m r (fun w => nm_r (nI_1 c) (k _ ⟨r, rfl, hr, last r (Nat.le_refl r) fun j hj => by rw [ma_told_u hj hk]; exact w, h2⟩)) fun w => ⟨in_64 hc, nm_e (nm_r (nI_1 c) (k _ ⟨m, rfl, hm, last m (by omega) fun j hj => by rw [ma_told_u hj hk]; exact Nat.le_refl m, Or.inr ⟨_, _, ha, hb, hk⟩⟩))⟩
    · have et := cy_E_n hE ha hb z
      rw [e] at et
      rw [et]
      refine br_t ?_ (nm_r (nI_1 c) (k _ ⟨r, rfl, hr, last r (Nat.le_refl r) fun j hj => absurd (ma_T7 ha hb hj.1) z, h2⟩))
      exact Int32.le_trans (by decide) (cy_nn (k := r) (by omega))
theorem yy_follows {post : Int32 → SY → Prop} (hM : cy_T nx M) (y x : Int32) (H : ∀ r q, bo_s r (st_Q (ma_F M) x y) → post r (nx, fa, td, kp, q)) : wpY_follows post (nx, fa, td, kp, af) y x := by
  refine yf_follow hM fun q hq => ?_
  refine yc_state (nx, fa, td, kp, q) x fun r hr => bo_b hr (fun n => H 0 q (bo_0 (st_Q1 n))) fun p => ?_
  refine yc_state (nx, fa, td, kp, q) y fun r hr => bo_b hr (fun n => H 0 q (bo_0 (st_Q2 n))) fun p' => ?_
  obtain ⟨a, ha, rfl⟩ := p
  obtain ⟨b, hb, rfl⟩ := p'
  refine ⟨iny_8 hb ha, ?_⟩
  rw [cy_8 hb ha]
  exact bo_b (hq a b ha hb) (fun z => H 0 q (bo_0 fun w => z ((st_Qn ha hb).mp w))) (fun z => H 1 q (bo_1 ((st_Qn ha hb).mpr z)))
theorem yy_followers {post : Int32 → SY → Prop} (hM : cy_T nx M) (x : Int32) (H : ∀ r q, an_P (ma_F M) x r → post r (nx, fa, td, kp, q)) : wpY_followers post (nx, fa, td, kp, af) x := by
  refine yf_follow hM fun q hq => ?_
  by_cases hx : st_S x
  · obtain ⟨a, ha, rfl⟩ := hx
    refine pk_loop (fun n i (c : Int32) => wY_followers_8 post (nI a) nx fa td kp q n c (nI i)) (fun i c => cm_P c (fun b => b < i ∧ ma_F M a b)) 8 0 0 (by omega) gs_0 ?_ ?_
    · intro n c h
      exact br_t le_8 (H c q (Or.inr ⟨a, ha, rfl, gs_8 h⟩))
    · intro n i c hi h k
      refine br_f (ng_8 hi) (yc_state (nx, fa, td, kp, q) (nI a) fun r hr => bo_b hr (fun z => absurd ⟨a, ha, rfl⟩ z) fun _ => ⟨iny_8 hi ha, ?_⟩)
      rw [cy_8 hi ha]
      exact bo_b (hq a i ha hi) (fun z => nm_r (nI_1 i) (k _ (gs_keep h z))) (fun z => nm_e (nm_r (nI_1 i) (k _ (gs_put hi h z))))
  · exact ⟨1, br_f (ng_8 (i := 0) (by omega)) (yc_state (nx, fa, td, kp, q) x fun r hr => bo_b hr (fun z => H 0 q (Or.inl ⟨z, rfl⟩)) fun z => absurd z hx)⟩
theorem yy_silently {post : Int32 → Prop} (hM : cy_T nx M) (x : Int32) (H : ∀ r, an_P (ma_rch M) x r → post r) : wpY_silently post (nx, fa, td, kp, af) x := by
  refine yc_state (nx, fa, td, kp, af) x fun r hr => bo_b hr (fun n => H 0 (Or.inl ⟨n, rfl⟩)) fun p => ?_
  obtain ⟨a, ha, rfl⟩ := p
  exact ys_quietly hM ha fun r hr => H r (Or.inr ⟨a, ha, rfl, hr⟩)
theorem yy_after {post : Int32 → Prop} (x y : Int32) (f : ¬ (st_S x ∧ st_L y) → post 0) (g : ∀ a l, a < 8 → l < 3 → x = nI a → y = nI l → post (nx (8 * l + a))) : wpY_after post (nx, fa, td, kp, af) x y := by
  refine yc_state (nx, fa, td, kp, af) x fun r hr => bo_b hr (fun n => f fun w => n w.1) fun p => ?_
  refine br_c (fun h => f fun w => st_L0 h w.2) fun h => ek_if (st_L2 h) (fun n => f fun w => n w.2) fun p' => ?_
  obtain ⟨a, ha, rfl⟩ := p
  obtain ⟨l, hl, rfl⟩ := Classical.byContradiction p'
  refine ⟨iny_3 ha hl, ?_⟩
  rw [cy_3 ha hl]
  exact g a l ha hl rfl rfl
theorem yi_99 {post : Int32 → SY → Prop} {J : Int32 → Int32 → Prop} {z0 : Int32} {A B : Prop} {c : Nat} (hc : c < 64) (h0 : bo_s z0 (¬ A)) (hB : 0 ≤ td (nI c).toNatClampNeg ↔ B) (g : ∀ r, bo_s r (A ↔ B) → J r (nI (c + 1))) : wY_idle_99 post J (nI c) z0 nx fa td kp af := by
  refine ⟨in_64 hc, ek_if hB (fun b => ?_) (fun b => ?_)⟩
  · refine ek_if (d := A ↔ B) ?_ (fun z => nm_r (nI_1 c) (g 1 (bo_1 z))) (fun z => nm_r (nI_1 c) (g 0 (bo_0 z)))
    rw [bo_z h0]
    exact ⟨fun z => ⟨fun _ => b, fun _ => Classical.byContradiction z⟩, fun z w => w (z.mpr b)⟩
  · refine ek_if (d := A ↔ B) ?_ (fun z => nm_r (nI_1 c) (g 1 (bo_1 z))) (fun z => nm_r (nI_1 c) (g 0 (bo_0 z)))
    rw [bo_o h0]
    exact ⟨fun z => ⟨fun w => absurd w z, fun w => absurd w b⟩, fun z w => b (z.mp w)⟩
theorem yi_cmp {post : Int32 → SY → Prop} {Q Q' : Nat → Nat → Prop} (hk : ∀ x y, x < 8 → y < 8 → (0 ≤ kp (8 * x + y) ↔ Q x y)) (ht : ∀ x y, x < 8 → y < 8 → (0 ≤ td (8 * x + y) ↔ Q' x y))
    (H : ∀ r, bo_s r (∀ x y, x < 8 → y < 8 → (Q x y ↔ Q' x y)) → post r (nx, fa, td, kp, af)) : ∃ n, wY_idle_72 post nx fa td kp af n 1 0 := by
  refine pk_loop (fun n c (x : Int32) => wY_idle_72 post nx fa td kp af n x (nI c)) (fun c x => bo_s x (∀ e, e < c → (Q (e / 8) (e % 8) ↔ Q' (e / 8) (e % 8)))) 64 0 1 (by omega) (bo_1 lt_0) ?_ ?_
  · intro n x h
    refine br_t le_64 ⟨bo_n h, H x (bo_c h ⟨fun z a b ha hb => ?_, fun z e he => z _ _ (by omega) (by omega)⟩)⟩
    have e1 : (8 * a + b) / 8 = a := by omega
    have e2 : (8 * a + b) % 8 = b := by omega
    have z' := z (8 * a + b) (by omega)
    rw [e1, e2] at z'
    exact z'
  · intro n c x hc h k
    have ha : c / 8 < 8 := by omega
    have hb : c % 8 < 8 := by omega
    have e : 8 * (c / 8) + c % 8 = c := by omega
    have hk' : 0 ≤ kp (nI c).toNatClampNeg ↔ Q (c / 8) (c % 8) := by
      have := hk _ _ ha hb
      rw [e] at this
      rw [cc_8 (by omega)]; exact this
    have ht' : 0 ≤ td (nI c).toNatClampNeg ↔ Q' (c / 8) (c % 8) := by
      have := ht _ _ ha hb
      rw [e] at this
      rw [cc_8 (by omega)]; exact this
    refine br_f (ng_64 hc) (bo_b h (fun z => nm_r (nI_1 c) (k 0 (bo_0 fun w => z fun e he => w e (by omega)))) fun z => ⟨in_64 hc, ?_⟩)
    have nxt : ∀ r, bo_s r (Q (c / 8) (c % 8) ↔ Q' (c / 8) (c % 8)) → wY_idle_72 post nx fa td kp af n r (nI (c + 1)) := fun r hr =>
      k r (bo_c hr ⟨fun w => lt_s z w, fun w => w c (by omega)⟩)
    exact ek_if hk' (fun p => yi_99 (A := Q (c / 8) (c % 8)) hc (bo_0 fun w => w p) ht' nxt) (fun p => yi_99 (A := Q (c / 8) (c % 8)) hc (bo_1 p) ht' nxt)
theorem cy_E_ge {t : Nat → Int32} (h : cy_E M t) (x y : Nat) (hx : x < 8) (hy : y < 8) : 0 ≤ t (8 * x + y) ↔ ma_T M 7 x y := by
  rw [← Int32.not_lt, cy_E_lt h hx hy]
  exact ⟨fun z => Classical.byContradiction z, fun z w => w z⟩
theorem yy_idle {post : Int32 → SY → Prop} (hM : cy_T nx M) (x y z : Int32) (H : ∀ r n1 q t k, cy_T n1 M → bo_s r (st_E (id_M M) x y z) → post r (n1, q, t, k, af)) : wpY_idle post (nx, fa, td, kp, af) x y z := by
  refine ys_step (fa := fa) (td := td) (kp := kp) (af := af) hM x y z fun r hr => bo_b hr (fun n => H 0 _ _ _ _ hM (bo_0 (id_E n))) fun p => ?_
  refine yt_tellSteps hM fun q1 t1 hE1 => ?_
  refine pk_loop (fun n i (k : Nat → Int32) => wY_idle_19 post x y z n (nI i) nx q1 t1 k af) (fun i k => ∀ j, j < i → k j = t1 j) 64 0 kp (by omega) lt_0 ?_ ?_
  · intro n k hk
    refine br_t le_64 (ys_cut hM x y z (fun w => absurd p w) fun a b l ha hb hl ex ey ez hm n2 hM2 => ?_)
    refine yt_tellSteps hM2 fun q2 t2 hE2 => ?_
    refine ys_join hM2 x y z (fun w => absurd ⟨⟨a, ha, ex⟩, ⟨b, hb, ey⟩, ⟨l, hl, ez⟩⟩ w) fun a' b' l' ha' hb' hl' ex' ey' ez' n3 hM3 => ?_
    rw [ex, nI_eq (by omega) (by omega)] at ex'
    rw [ey, nI_eq (by omega) (by omega)] at ey'
    rw [ez, nI_eq (by omega) (by omega)] at ez'
    subst ex' ey' ez'
    have hM4 : cy_T n3 M := fun c j hc hj => cm_P_c (hM3 c j hc hj) fun d _ => ma_back hm c j d
    refine yi_cmp (Q := fun c d => ma_T M 7 c d) (Q' := fun c d => ma_T (ma_cut M a b l) 7 c d) (fun c d hc hd => ?_) (fun c d hc hd => cy_E_ge hE2 c d hc hd) fun r hr => H r n3 q2 t2 k hM4 (bo_c hr ?_)
    · rw [hk _ (by omega)]
      exact cy_E_ge hE1 c d hc hd
    · rw [ex, ey, ez, st_En ha hb hl]
      exact ⟨fun v => ⟨hm, v⟩, fun v => v.2⟩
  · intro n i k hi hk g
    refine br_f (ng_64 hi) ⟨in_64 hi, in_64 hi, nm_r (e' := upd k i (t1 i)) (by rw [cc_8 (by omega)]) (nm_r (nI_1 i) (g _ (lt_s (fun j hj => ?_) pk_us)))⟩
    rw [pk_un (by omega)]
    exact hk j hj
end
end
section
/-- one machine M: the class's sets of steps and the reference's are its -/
def i_Rel (k : Nat) (u : SX) (v : SY) : Prop := ∃ M, cx_T u.2.1 M ∧ cy_T v.1 M
theorem i_up {k : Nat} {u : SX} {v : SY} (h : i_Rel k u v) : i_Rel (k + 4) u v := h
theorem i_vc0 : wpX_init (fun u => wpY_init (fun v => i_Rel 0 u v)) :=
  ⟨fun _ _ _ => False, fun _ _ _ _ => cm_P_0, fun _ _ _ _ => cm_P_0⟩
theorem i_vc_join {k : Nat} {u : SX} {v : SY} (I : i_Rel k u v) (hk : k + 4 ≤ 2048) (v1 : Int32) (v2 : Int32) (v3 : Int32) : wpX_join (fun r u' => wpY_join (fun r' v' => r' = r ∧ i_Rel (k + 4) u' v') v v1 v2 v3) u v1 v2 v3 := by
  obtain ⟨r0, s, ls, sr, ap, ab, aw, tr, fo⟩ := u
  obtain ⟨nx, fa, td, kp, af⟩ := v
  obtain ⟨M, hX, hY⟩ := I
  have hX' : cx_T s M := hX
  have hY' : cy_T nx M := hY
  refine xx_join hX' v1 v2 v3 (fun n => ?_) (fun a b l ha hb hl e1 e2 e3 q hq => ?_)
  · exact ys_join hY' v1 v2 v3 (fun _ => ⟨rfl, M, hX, hY⟩) (fun a b l ha hb hl e1 e2 e3 => absurd ⟨⟨a, ha, e1⟩, ⟨b, hb, e2⟩, ⟨l, hl, e3⟩⟩ n)
  · refine ys_join hY' v1 v2 v3 (fun n => absurd ⟨⟨a, ha, e1⟩, ⟨b, hb, e2⟩, ⟨l, hl, e3⟩⟩ n) (fun a' b' l' ha' hb' hl' e1' e2' e3' q' hq' => ?_)
    rw [e1, nI_eq (by omega) (by omega)] at e1'
    rw [e2, nI_eq (by omega) (by omega)] at e2'
    rw [e3, nI_eq (by omega) (by omega)] at e3'
    subst e1' e2' e3'
    exact ⟨rfl, _, hq, hq'⟩
theorem i_vc_cut {k : Nat} {u : SX} {v : SY} (I : i_Rel k u v) (hk : k + 4 ≤ 2048) (v1 : Int32) (v2 : Int32) (v3 : Int32) : wpX_cut (fun r u' => wpY_cut (fun r' v' => r' = r ∧ i_Rel (k + 4) u' v') v v1 v2 v3) u v1 v2 v3 := by
  obtain ⟨r0, s, ls, sr, ap, ab, aw, tr, fo⟩ := u
  obtain ⟨nx, fa, td, kp, af⟩ := v
  obtain ⟨M, hX, hY⟩ := I
  have hX' : cx_T s M := hX
  have hY' : cy_T nx M := hY
  refine xx_cut hX' v1 v2 v3 (fun n => ?_) (fun a b l ha hb hl e1 e2 e3 hm q hq => ?_)
  · exact ys_cut hY' v1 v2 v3 (fun _ => ⟨rfl, M, hX, hY⟩) (fun a b l ha hb hl e1 e2 e3 hm => absurd ⟨a, b, l, ha, hb, hl, e1, e2, e3, hm⟩ n)
  · refine ys_cut hY' v1 v2 v3 (fun n => absurd ⟨a, b, l, ha, hb, hl, e1, e2, e3, hm⟩ n) (fun a' b' l' ha' hb' hl' e1' e2' e3' hm' q' hq' => ?_)
    rw [e1, nI_eq (by omega) (by omega)] at e1'
    rw [e2, nI_eq (by omega) (by omega)] at e2'
    rw [e3, nI_eq (by omega) (by omega)] at e3'
    subst e1' e2' e3'
    exact ⟨rfl, _, hq, hq'⟩
theorem i_vc_steps {k : Nat} {u : SX} {v : SY} (I : i_Rel k u v) (hk : k + 4 ≤ 2048) : wpX_steps (fun r => wpY_steps (fun r' => r' = r ∧ i_Rel (k + 4) u v) v) u := by
  obtain ⟨r0, s, ls, sr, ap, ab, aw, tr, fo⟩ := u
  obtain ⟨nx, fa, td, kp, af⟩ := v
  obtain ⟨M, hX, hY⟩ := I
  have hX' : cx_T s M := hX
  have hY' : cy_T nx M := hY
  refine xq_steps (yq_steps ⟨?_, M, hX, hY⟩)
  rw [sq_same (s := s) (f := nx) fun a l ha hl => cm_P_u (hX' a l ha hl) (hY' a l ha hl) fun _ _ => Iff.rfl]
theorem i_vc_after {k : Nat} {u : SX} {v : SY} (I : i_Rel k u v) (hk : k + 4 ≤ 2048) (v1 : Int32) (v2 : Int32) : wpX_after (fun r => wpY_after (fun r' => r' = r ∧ i_Rel (k + 4) u v) v v1 v2) u v1 v2 := by
  obtain ⟨r0, s, ls, sr, ap, ab, aw, tr, fo⟩ := u
  obtain ⟨nx, fa, td, kp, af⟩ := v
  obtain ⟨M, hX, hY⟩ := I
  have hX' : cx_T s M := hX
  have hY' : cy_T nx M := hY
  refine xx_after v1 v2 (fun n => yy_after v1 v2 (fun _ => ⟨rfl, M, hX, hY⟩) (fun a l ha hl e1 e2 => absurd ⟨⟨a, ha, e1⟩, ⟨l, hl, e2⟩⟩ n)) (fun a l ha hl e1 e2 => yy_after v1 v2 (fun n => absurd ⟨⟨a, ha, e1⟩, ⟨l, hl, e2⟩⟩ n) (fun a' l' ha' hl' e1' e2' => ⟨?_, M, hX, hY⟩))
  rw [e1, nI_eq (by omega) (by omega)] at e1'
  rw [e2, nI_eq (by omega) (by omega)] at e2'
  subst e1' e2'
  exact cm_P_u (hY' a l ha hl) (hX' a l ha hl) fun _ _ => Iff.rfl
theorem i_vc_alike {k : Nat} {u : SX} {v : SY} (I : i_Rel k u v) (hk : k + 4 ≤ 2048) (v1 : Int32) (v2 : Int32) : wpX_alike (fun r u' => wpY_alike (fun r' v' => r' = r ∧ i_Rel (k + 4) u' v') v v1 v2) u v1 v2 := by
  obtain ⟨r0, s, ls, sr, ap, ab, aw, tr, fo⟩ := u
  obtain ⟨nx, fa, td, kp, af⟩ := v
  obtain ⟨M, hX, hY⟩ := I
  exact xx_alike hX v1 v2 fun r _ _ _ _ hr => yy_alike hY v1 v2 fun r' _ _ hr' => ⟨bo_u hr' hr Iff.rfl, M, hX, hY⟩
theorem i_vc_group {k : Nat} {u : SX} {v : SY} (I : i_Rel k u v) (hk : k + 4 ≤ 2048) (v1 : Int32) : wpX_group (fun r u' => wpY_group (fun r' v' => r' = r ∧ i_Rel (k + 4) u' v') v v1) u v1 := by
  obtain ⟨r0, s, ls, sr, ap, ab, aw, tr, fo⟩ := u
  obtain ⟨nx, fa, td, kp, af⟩ := v
  obtain ⟨M, hX, hY⟩ := I
  exact xx_group hX v1 fun r _ _ _ _ hr => yy_group hY v1 fun r' _ _ hr' => ⟨an_u hr hr', M, hX, hY⟩
theorem i_vc_groups {k : Nat} {u : SX} {v : SY} (I : i_Rel k u v) (hk : k + 4 ≤ 2048) : wpX_groups (fun r u' => wpY_groups (fun r' v' => r' = r ∧ i_Rel (k + 4) u' v') v) u := by
  obtain ⟨r0, s, ls, sr, ap, ab, aw, tr, fo⟩ := u
  obtain ⟨nx, fa, td, kp, af⟩ := v
  obtain ⟨M, hX, hY⟩ := I
  exact xx_groups hX fun _ _ _ _ => yy_groups hY fun _ _ => ⟨rfl, M, hX, hY⟩
theorem i_vc_toldAfter {k : Nat} {u : SX} {v : SY} (I : i_Rel k u v) (hk : k + 4 ≤ 2048) (v1 : Int32) (v2 : Int32) : wpX_toldAfter (fun r u' => wpY_toldAfter (fun r' v' => r' = r ∧ i_Rel (k + 4) u' v') v v1 v2) u v1 v2 := by
  obtain ⟨r0, s, ls, sr, ap, ab, aw, tr, fo⟩ := u
  obtain ⟨nx, fa, td, kp, af⟩ := v
  obtain ⟨M, hX, hY⟩ := I
  exact xx_toldAfter hX v1 v2 fun r _ _ _ _ hr => yy_toldAfter hY v1 v2 fun r' _ _ hr' => ⟨ta_u hr hr', M, hX, hY⟩
theorem i_vc_rounds {k : Nat} {u : SX} {v : SY} (I : i_Rel k u v) (hk : k + 4 ≤ 2048) : wpX_rounds (fun r u' => wpY_rounds (fun r' v' => r' = r ∧ i_Rel (k + 4) u' v') v) u := by
  obtain ⟨r0, s, ls, sr, ap, ab, aw, tr, fo⟩ := u
  obtain ⟨nx, fa, td, kp, af⟩ := v
  obtain ⟨M, hX, hY⟩ := I
  exact xx_rounds hX fun r _ _ _ _ hr => yy_rounds hY fun r' _ _ hr' => ⟨by rw [ma_last_u hr' hr], M, hX, hY⟩
theorem i_vc_looselyAlike {k : Nat} {u : SX} {v : SY} (I : i_Rel k u v) (hk : k + 4 ≤ 2048) (v1 : Int32) (v2 : Int32) : wpX_looselyAlike (fun r u' => wpY_looselyAlike (fun r' v' => r' = r ∧ i_Rel (k + 4) u' v') v v1 v2) u v1 v2 := by
  obtain ⟨r0, s, ls, sr, ap, ab, aw, tr, fo⟩ := u
  obtain ⟨nx, fa, td, kp, af⟩ := v
  obtain ⟨M, hX, hY⟩ := I
  exact xx_loose hX v1 v2 fun r _ _ _ _ _ _ hr => yy_loose hY v1 v2 fun r' _ _ hr' => ⟨bo_u hr' hr Iff.rfl, M, hX, hY⟩
theorem i_vc_looseGroups {k : Nat} {u : SX} {v : SY} (I : i_Rel k u v) (hk : k + 4 ≤ 2048) : wpX_looseGroups (fun r u' => wpY_looseGroups (fun r' v' => r' = r ∧ i_Rel (k + 4) u' v') v) u := by
  obtain ⟨r0, s, ls, sr, ap, ab, aw, tr, fo⟩ := u
  obtain ⟨nx, fa, td, kp, af⟩ := v
  obtain ⟨M, hX, hY⟩ := I
  exact xx_looseGroups hX fun _ _ _ _ _ _ => yy_looseGroups hY fun _ _ => ⟨rfl, M, hX, hY⟩
theorem i_vc_follows {k : Nat} {u : SX} {v : SY} (I : i_Rel k u v) (hk : k + 4 ≤ 2048) (v1 : Int32) (v2 : Int32) : wpX_follows (fun r u' => wpY_follows (fun r' v' => r' = r ∧ i_Rel (k + 4) u' v') v v1 v2) u v1 v2 := by
  obtain ⟨r0, s, ls, sr, ap, ab, aw, tr, fo⟩ := u
  obtain ⟨nx, fa, td, kp, af⟩ := v
  obtain ⟨M, hX, hY⟩ := I
  exact xx_follows hX v1 v2 fun r _ hr => yy_follows hY v1 v2 fun r' _ hr' => ⟨bo_u hr' hr Iff.rfl, M, hX, hY⟩
theorem i_vc_followers {k : Nat} {u : SX} {v : SY} (I : i_Rel k u v) (hk : k + 4 ≤ 2048) (v1 : Int32) : wpX_followers (fun r u' => wpY_followers (fun r' v' => r' = r ∧ i_Rel (k + 4) u' v') v v1) u v1 := by
  obtain ⟨r0, s, ls, sr, ap, ab, aw, tr, fo⟩ := u
  obtain ⟨nx, fa, td, kp, af⟩ := v
  obtain ⟨M, hX, hY⟩ := I
  exact xx_followers hX v1 fun r _ hr => yy_followers hY v1 fun r' _ hr' => ⟨an_u hr hr', M, hX, hY⟩
theorem i_vc_silently {k : Nat} {u : SX} {v : SY} (I : i_Rel k u v) (hk : k + 4 ≤ 2048) (v1 : Int32) : wpX_silently (fun r => wpY_silently (fun r' => r' = r ∧ i_Rel (k + 4) u v) v v1) u v1 := by
  obtain ⟨r0, s, ls, sr, ap, ab, aw, tr, fo⟩ := u
  obtain ⟨nx, fa, td, kp, af⟩ := v
  obtain ⟨M, hX, hY⟩ := I
  exact xx_silently hX v1 fun r hr => yy_silently hY v1 fun r' hr' => ⟨an_u hr hr', M, hX, hY⟩
theorem i_vc_idle {k : Nat} {u : SX} {v : SY} (I : i_Rel k u v) (hk : k + 4 ≤ 2048) (v1 : Int32) (v2 : Int32) (v3 : Int32) : wpX_idle (fun r u' => wpY_idle (fun r' v' => r' = r ∧ i_Rel (k + 4) u' v') v v1 v2 v3) u v1 v2 v3 := by
  obtain ⟨r0, s, ls, sr, ap, ab, aw, tr, fo⟩ := u
  obtain ⟨nx, fa, td, kp, af⟩ := v
  obtain ⟨M, hX, hY⟩ := I
  exact xx_idle hX v1 v2 v3 fun r _ s1 _ _ _ _ hX' hr => yy_idle hY v1 v2 v3 fun r' n1 _ _ _ hY' hr' => ⟨bo_u hr' hr Iff.rfl, M, hX', hY'⟩
end
