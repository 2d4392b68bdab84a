section
variable {nx fa td kp af : Nat → Int32} {M : Nat → Nat → Nat → Prop}
theorem yt_49 {post : Int32 → Prop} {J : Int32 → Int32 → Prop} {P : Nat → Prop} {Q : Nat → Prop} {x1 y x3 x4 z0 : Int32} {i : Nat} (hi : i < 8) (hP : cm_P y P) (h4 : bo_s x4 (∀ d, d < i → P d → Q d)) (hz : bo_s z0 (Q i))
    (g : ∀ r, bo_s r (∀ d, d < i + 1 → P d → Q d) → J r (nI (i + 1))) : wY_lonely_49 post J x1 y x3 x4 (nI i) z0 nx fa td kp af :=
  bo_b h4 (fun nA => nm_r (nI_1 i) (g 0 (bo_0 fun w => nA fun d hd => w d (by omega))))
    (fun pA => cm_b0 hP hi (fun np => nm_r (nI_1 i) (g 1 (bo_1 (lt_s pA fun p => absurd p np))))
      (fun p => bo_b hz (fun nz => nm_r (nI_1 i) (g 0 (bo_0 fun w => nz (w i (by omega) p)))) (fun pz => nm_r (nI_1 i) (g 1 (bo_1 (lt_s pA fun _ => pz))))))
theorem yt_lonely {post : Int32 → Prop} {P : Nat → Prop} {y : Int32} {x n c : Nat} (hJ : cy_J M n c td) (hn : n < 30) (hx : x < 8) (hP : cm_P y P) (H : ∀ r, bo_s r (∀ d, d < 8 → P d → ma_T M n x d) → post r) :
    wpY_lonely post (nx, fa, td, kp, af) (nI x) y (nI (n + 1)) := by
  refine pk_loop (fun k i (q : Int32) => wY_lonely_6 post (nI x) y (nI (n + 1)) nx fa td kp af k q (nI i)) (fun i q => bo_s q (∀ d, d < i → P d → ma_T M n x d)) 8 0 1 (by omega) (bo_1 lt_0) ?_ ?_
  · intro k q h
    exact br_t le_8 ⟨bo_n h, H q h⟩
  · intro k i q hi h g
    refine br_f (ng_8 hi) ⟨iny_8 hx hi, ?_⟩
    by_cases z : ma_T M n x i
    · have hz := cy_J_y hJ hx hi hn z
      rw [← cy_8 hx hi] at hz
      exact br_f (Int32.not_lt.mpr hz.1) ⟨iny_8 hx hi, br_f (Int32.not_le.mpr hz.2) (yt_49 (Q := fun d => ma_T M n x d) hi hP h (bo_1 z) g)⟩
    · have hz := cy_J_n hJ hx hi hn z
      rw [← cy_8 hx hi] at hz
      have h48 : wY_lonely_48 post (wY_lonely_6 post (nI x) y (nI (n + 1)) nx fa td kp af k) (nI x) y (nI (n + 1)) q (nI i) nx fa td kp af := yt_49 (Q := fun d => ma_T M n x d) hi hP h (bo_0 z) g
      refine br_c (fun _ => h48) (fun w => ⟨iny_8 hx hi, br_t ?_ h48⟩)
      rcases hz with hz | hz
      · exact absurd (Int32.not_lt.mp w) hz
      · exact Int32.not_lt.mp hz
theorem yt_differs {post : Int32 → Prop} {a b n c : Nat} (hM : cy_T fa M) (hJ : cy_J M n c td) (hn : n < 30) (ha : a < 8) (hb : b < 8) (H : ∀ r, bo_s r (ma_one M (ma_T M n) a b) → post r) :
    wpY_differs post (nx, fa, td, kp, af) (nI a) (nI b) (nI (n + 1)) := by
  refine pk_loop (fun k i (q : Int32) => wY_differs_6 post (nI a) (nI b) (nI (n + 1)) nx fa td kp af k q (nI i)) (fun i q => bo_s q (∃ e, e < i ∧ M a (e / 8) (e % 8) ∧ ∀ d, d < 8 → M b (e / 8) d → ma_T M n (e % 8) d)) 24 0 0 (by omega) (bo_0 fun ⟨_, h, _⟩ => absurd h (Nat.not_lt_zero _)) ?_ ?_
  · intro k q h
    refine br_t le_24 ⟨bo_n h, H q (bo_c h ⟨?_, ?_⟩)⟩
    · rintro ⟨e, he, h1, h2⟩
      exact ⟨e / 8, e % 8, by omega, by omega, h1, h2⟩
    · rintro ⟨l, c, hl, hc, h1, h2⟩
      have e1 : (8 * l + c) / 8 = l := by omega
      have e2 : (8 * l + c) % 8 = c := by omega
      exact ⟨8 * l + c, by omega, by rw [e1, e2]; exact h1, by rw [e1, e2]; exact h2⟩
  · intro k i q hi h g
    have hl : i / 8 < 3 := by omega
    have ht : i % 8 < 8 := by omega
    have no : ∀ r, ¬ (∃ e, e < i ∧ M a (e / 8) (e % 8) ∧ ∀ d, d < 8 → M b (e / 8) d → ma_T M n (e % 8) d) → ¬ (M a (i / 8) (i % 8) ∧ ∀ d, d < 8 → M b (i / 8) d → ma_T M n (i % 8) d) → r = 0 → bo_s r (∃ e, e < i + 1 ∧ M a (e / 8) (e % 8) ∧ ∀ d, d < 8 → M b (e / 8) d → ma_T M n (e % 8) d) := by
      intro r h1 h2 e
      rw [e]
      refine bo_0 ?_
      rintro ⟨e, he, h3⟩
      by_cases e' : e = i
      · subst e'
        exact h2 h3
      · exact h1 ⟨e, by omega, h3⟩
    refine br_f (ng_24 hi) ⟨e8_0, nm_r (iy_d (by omega)) ⟨e8_0, nm_r (iy_m (by omega)) (bo_b h (fun n0 => ⟨iny_3 ha hl, cm_b1' (cy_Tc hM ha hl) ht (fun p => ⟨iny_3 hb hl, yt_lonely hJ hn ht (cy_Tc hM hb hl) fun r hr => bo_b hr (fun z => ?_) (fun z => ?_)⟩) (fun np => ?_)⟩) (fun p => ?_))⟩⟩
    · exact nm_r (nI_1 i) (g 0 (no 0 n0 (fun w => z w.2) rfl))
    · exact nm_r (nI_1 i) (g 1 (bo_1 ⟨i, by omega, p, z⟩))
    · exact nm_r (nI_1 i) (g 0 (no 0 n0 (fun w => np w.1) rfl))
    · obtain ⟨e, he, h1⟩ := p
      exact nm_r (nI_1 i) (g 1 (bo_1 ⟨e, by omega, h1⟩))
theorem yt_113 {post : SY → Prop} {J25 J39 : Int32 → Int32 → (Nat → Int32) → (Nat → Int32) → (Nat → Int32) → (Nat → Int32) → (Nat → Int32) → Prop} {x1 x2 x4 z0 : Int32} {A B : Prop} {c : Nat} (hc : c < 64) (h1 : bo_s x1 A) (h4 : bo_s x4 B)
    (g : ∀ r, bo_s r (A ∨ B) → J39 r (nI (c + 1)) nx fa (upd td c z0) kp af) : wY_tell_113 post J25 J39 x1 x2 (nI c) x4 z0 (nI c) nx fa td kp af :=
  ⟨in_64 hc, nm_r (e' := upd td c z0) (by rw [cc_8 (by omega)]) (bo_b h1 (fun nA => bo_b h4 (fun nB => nm_r (nI_1 c) (g 0 (bo_0 fun w => w.elim nA nB))) (fun pB => nm_r (nI_1 c) (g 1 (bo_1 (Or.inr pB))))) (fun pA => nm_r (nI_1 c) (g 1 (bo_1 (Or.inl pA)))))⟩
theorem yt_90 {post : SY → Prop} {J25 J39 : Int32 → Int32 → (Nat → Int32) → (Nat → Int32) → (Nat → Int32) → (Nat → Int32) → (Nat → Int32) → Prop} {x1 x2 : Int32} {A : Prop} {c : Nat} (hc : c < 64) (h1 : bo_s x1 A)
    (g : ∀ r, bo_s r A → J39 r (nI (c + 1)) nx fa td kp af) : wY_tell_90 post J25 J39 x1 x2 (nI c) nx fa td kp af := by
  refine br_t rfl ⟨in_64 hc, yt_113 (B := False) hc h1 (bo_0 id) fun r hr => ?_⟩
  rw [cc_8 (by omega), up_self]
  exact g r (bo_c hr ⟨fun z => z.elim id False.elim, Or.inl⟩)
theorem yt_86 {post : SY → Prop} {J25 J39 : Int32 → Int32 → (Nat → Int32) → (Nat → Int32) → (Nat → Int32) → (Nat → Int32) → (Nat → Int32) → Prop} {x1 x2 : Int32} {A : Prop} {c : Nat} (hc : c < 64) (h1 : bo_s x1 A)
    (g : J39 1 (nI (c + 1)) nx fa (upd td c x2) kp af) : wY_tell_86 post J25 J39 x1 x2 (nI c) nx fa td kp af := by
  refine br_f cm_10 (yt_113 (B := True) hc h1 (bo_1 True.intro) fun r hr => ?_)
  rw [bo_t hr (Or.inr True.intro)]
  exact g
/-- some pair before cell c was told in round n + 1 -/
def yt_N (M : Nat → Nat → Nat → Prop) (n c : Nat) : Prop := ∃ x y, x < 8 ∧ y < 8 ∧ 8 * x + y < c ∧ ¬ ma_T M n x y ∧ ma_T M (n + 1) x y
theorem yt_N_st {n : Nat} (h : ¬ yt_N M n 64) : ma_st M n := fun a b ha hb z => Classical.byContradiction fun w => h ⟨a, b, ha, hb, by omega, w, z⟩
theorem yt_N_keep {n c : Nat} (hc : c < 64) (h : ma_T M n (c / 8) (c % 8) ∨ ¬ ma_T M (n + 1) (c / 8) (c % 8)) : yt_N M n c ↔ yt_N M n (c + 1) := by
  constructor
  · rintro ⟨x, y, hx, hy, h1, h2⟩
    exact ⟨x, y, hx, hy, by omega, h2⟩
  · rintro ⟨x, y, hx, hy, h1, h2, h3⟩
    refine ⟨x, y, hx, hy, Classical.byContradiction fun z => ?_, h2, h3⟩
    have e1 : c / 8 = x := by omega
    have e2 : c % 8 = y := by omega
    rw [e1, e2] at h
    rcases h with h | h
    · exact h2 h
    · exact h h3
theorem yt_cells {post : SY → Prop} {J25 : Int32 → Int32 → (Nat → Int32) → (Nat → Int32) → (Nat → Int32) → (Nat → Int32) → (Nat → Int32) → Prop} {n : Nat} (hM : cy_T fa M) (hn : n < 29) (h0 : cy_t M n td)
    (g : ∀ r t, bo_s r (yt_N M n 64) → cy_t M (n + 1) t → J25 r (nI (n + 1 + 1)) nx fa t kp af) : ∃ k, wY_tell_39 post J25 (nI (n + 1)) k 0 0 nx fa td kp af := by
  refine pk_loop (fun k c (q : Int32 × (Nat → Int32)) => wY_tell_39 post J25 (nI (n + 1)) k q.1 (nI c) nx fa q.2 kp af) (fun c q => cy_J M n c q.2 ∧ bo_s q.1 (yt_N M n c)) 64 0 (0, td) (by omega) ⟨cy_J0 h0, bo_0 ?_⟩ ?_ ?_
  · rintro ⟨x, y, hx, hy, h, _⟩
    omega
  · rintro k ⟨r, t⟩ ⟨h1, h2⟩
    exact br_t le_64 (nm_r (nI_1 (n + 1)) (g r t h2 (cy_J_end h1)))
  · rintro k c ⟨r, t⟩ hc ⟨h1, h2⟩ f
    have h1' : cy_J M n c t := h1
    have ha : c / 8 < 8 := by omega
    have hb : c % 8 < 8 := by omega
    have e : 8 * (c / 8) + c % 8 = c := by omega
    refine br_f (ng_64 hc) ⟨in_64 hc, ?_⟩
    have keep : (ma_T M n (c / 8) (c % 8) ∨ ¬ ma_T M (n + 1) (c / 8) (c % 8)) → wY_tell_90 post J25 (wY_tell_39 post J25 (nI (n + 1)) k) r (nI (n + 1)) (nI c) nx fa t kp af := fun w =>
      yt_90 hc h2 fun r' hr' => f (r', t) ⟨cy_J_keep ha hb e.symm h1' w, bo_c hr' (yt_N_keep hc w)⟩
    have put : ¬ ma_T M n (c / 8) (c % 8) → ma_T M (n + 1) (c / 8) (c % 8) → wY_tell_86 post J25 (wY_tell_39 post J25 (nI (n + 1)) k) r (nI (n + 1)) (nI c) nx fa t kp af := fun w w' =>
      yt_86 hc h2 (f (1, _) ⟨cy_J_put ha hb e.symm h1' w w', bo_1 ⟨c / 8, c % 8, ha, hb, by omega, w, w'⟩⟩)
    by_cases z : ma_T M n (c / 8) (c % 8)
    · have hz := (cy_J_y h1' ha hb (by omega) z).1
      rw [e, ← cc_8 (a := c) (by omega)] at hz
      exact br_t hz (keep (Or.inl z))
    · have hz := (h1' (c / 8) (c % 8) ha hb).2.2 z (by omega)
      rw [e] at hz
      refine br_f (by
        show ¬ 0 ≤ t (nI c).toNatClampNeg
        rw [cc_8 (by omega), hz]; exact cy_m1) ⟨e8_0, e8_0, ?_⟩
      rw [iy_m (by omega), iy_d (by omega)]
      refine yt_differs hM h1' (by omega) ha hb fun r1 hr1 => bo_b hr1 (fun z1 => ⟨e8_0, e8_0, ?_⟩) (fun z1 => put z (Or.inl z1))
      exact yt_differs hM h1' (by omega) hb ha fun r2 hr2 => bo_b hr2 (fun z2 => keep (Or.inr fun w => Or.elim w z1 z2)) (fun z2 => put z (Or.inr z2))
theorem yt_tell {post : SY → Prop} (hM : cy_T fa M) (H : ∀ t, cy_E M t → post (nx, fa, t, kp, af)) : wpY_tell post (nx, fa, td, kp, af) := by
  refine pk_loop (fun k c (t : Nat → Int32) => wY_tell_2 post k (nI c) nx fa t kp af) (fun c t => ∀ j, j < c → t j = -1) 64 0 td (by omega) lt_0 ?_ ?_
  · intro k t h
    refine br_t le_64 (pk_loop (fun k i (q : Int32 × (Nat → Int32)) => wY_tell_25 post k q.1 (nI i) nx fa q.2 kp af) (fun i q => ∃ m, i = m + 1 ∧ cy_t M m q.2 ∧ (q.1 = 0 → ma_st M m)) 30 1 (1, t) (by omega) ⟨0, rfl, ?_, fun z => absurd z cm_10⟩ ?_ ?_)
    · intro x y hx hy
      exact ⟨fun z => False.elim z, fun _ => h _ (by omega)⟩
    · rintro k ⟨r, t⟩ ⟨m, e, h1, h2⟩
      exact br_t (by decide) (H t (cy_E_st h1 (Or.inr (by omega))))
    · rintro k i ⟨r, t⟩ hi ⟨m, e, h1, h2⟩ f
      subst e
      refine br_f (ng_30 hi) (br_c (fun z => H t (cy_E_st h1 (Or.inl (h2 z)))) fun z => ?_)
      exact yt_cells hM (by omega) h1 fun r' t' h3 h4 => f (r', t') ⟨m + 1, rfl, h4, fun w => ma_st_up (yt_N_st ((bo_z h3).mp w))⟩
  · intro k c t hc h f
    refine br_f (ng_64 hc) ⟨in_64 hc, nm_r (e' := upd t c (-1)) (by rw [cc_8 (by omega)]) (nm_r (nI_1 c) (f _ (lt_s (fun j hj => ?_) pk_us)))⟩
    rw [pk_un (by omega)]
    exact h j hj
theorem yt_tellSteps {post : SY → Prop} (hM : cy_T nx M) (H : ∀ q t, cy_E M t → post (nx, q, t, kp, af)) : wpY_tellSteps post (nx, fa, td, kp, af) := by
  refine ys_useSteps fun q hq => ?_
  refine yt_tell (M := M) (fun a l ha hl => ?_) fun t ht => H q t ht
  rw [hq (8 * l + a) (by omega)]
  exact hM a l ha hl
theorem yt_tellLong {post : SY → Prop} (hM : cy_T nx M) (H : ∀ q t, cy_E (ma_L M) t → post (nx, q, t, kp, af)) : wpY_tellLongSteps post (nx, fa, td, kp, af) :=
  ys_useLong hM fun q hq => yt_tell (M := ma_L M) hq fun t ht => H q t ht
theorem cy_E_ltc {t : Nat → Int32} {x y : Nat} (h : cy_E M t) (hx : x < 8) (hy : y < 8) : t (8 * nI x + nI y).toNatClampNeg < 0 ↔ ¬ ma_T M 7 x y := by
  rw [cy_8 hx hy]; exact cy_E_lt h hx hy
theorem cy_E_gec {t : Nat → Int32} {x y : Nat} (h : cy_E M t) (hx : x < 8) (hy : y < 8) : 0 ≤ t (8 * nI x + nI y).toNatClampNeg ↔ ma_T M 7 x y := by
  rw [← Int32.not_lt, cy_E_ltc h hx hy]
  exact ⟨fun z => Classical.byContradiction z, fun z w => w z⟩
theorem yg_in {post : Int32 → Prop} {J : Int32 → Int32 → Prop} {a c : Nat} (hE : cy_E M td) (ha : a < 8) (f : ¬ ma_ld M 7 a → J (nI c) (nI (a + 1))) (g : ma_ld M 7 a → J (nI (c + 1)) (nI (a + 1))) :
    ∃ n, wY_count_15 post J (nI c) (nI a) nx fa td kp af n 1 0 := by
  refine pk_loop (fun n b (q : Int32) => wY_count_15 post J (nI c) (nI a) nx fa td kp af n q (nI b)) (fun b q => bo_s q (∀ y, y < b → ma_T M 7 a y)) a 0 1 (by omega) (bo_1 lt_0) ?_ ?_
  · intro n q h
    exact br_t (nI_le (Nat.le_refl a) (by omega)) (bo_b h (fun z => nm_r (nI_1 a) (f z)) (fun z => nm_r (nI_1 c) (nm_r (nI_1 a) (g z))))
  · intro n b q hb h k
    refine br_f (nI_ge hb (by omega)) (bo_b h (fun z => nm_r (nI_1 b) (k 0 (bo_0 fun w => z fun y hy => w y (by omega)))) fun z => ⟨iny_8 ha (by omega), ek_if (cy_E_ltc hE ha (by omega)) (fun w => nm_r (nI_1 b) (k 0 (bo_0 fun v => w (v b (by omega))))) (fun w => nm_r (nI_1 b) (k 1 (bo_1 (lt_s z (Classical.byContradiction w)))))⟩)
theorem yg_count {post : Int32 → Prop} (hE : cy_E M td) (H : post (nI (ma_cnt (ma_ld M 7) 8))) : wpY_count post (nx, fa, td, kp, af) := by
  refine pk_loop (fun n i (c : Int32) => wY_count_4 post nx fa td kp af n c (nI i)) (fun i c => c = nI (ma_cnt (ma_ld M 7) i)) 8 0 0 (by omega) rfl ?_ ?_
  · intro n c h
    refine br_t le_8 ?_
    rw [h]; exact H
  · intro n i c hi h k
    subst h
    exact br_f (ng_8 hi) (yg_in hE hi (fun z => k _ (by rw [ma_cnt_f z])) (fun z => k _ (by rw [ma_cnt_t z])))
end
