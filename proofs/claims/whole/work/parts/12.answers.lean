/-- what is asked of two states -/
def st_Q (Q : Nat → Nat → Prop) (x y : Int32) : Prop := ∃ a b, a < 8 ∧ b < 8 ∧ x = nI a ∧ y = nI b ∧ Q a b
theorem st_Qn {Q : Nat → Nat → Prop} {a b : Nat} (ha : a < 8) (hb : b < 8) : st_Q Q (nI a) (nI b) ↔ Q a b := by
  constructor
  · rintro ⟨a', b', ha', hb', e1, e2, h⟩
    rw [nI_eq (by omega) (by omega)] at e1 e2
    subst e1 e2
    exact h
  · exact fun h => ⟨a, b, ha, hb, rfl, rfl, h⟩
theorem st_Q1 {Q : Nat → Nat → Prop} {x y : Int32} (h : ¬ st_S x) : ¬ st_Q Q x y := fun ⟨a, _, ha, _, e, _⟩ => h ⟨a, ha, e⟩
theorem st_Q2 {Q : Nat → Nat → Prop} {x y : Int32} (h : ¬ st_S y) : ¬ st_Q Q x y := fun ⟨_, b, _, hb, _, e, _⟩ => h ⟨b, hb, e⟩
/-- a set asked of a state -/
def an_P (Q : Nat → Nat → Prop) (x r : Int32) : Prop := (¬ st_S x ∧ r = 0) ∨ ∃ a, a < 8 ∧ x = nI a ∧ cm_P r (Q a)
theorem an_u {Q : Nat → Nat → Prop} {x r r' : Int32} (h : an_P Q x r) (h' : an_P Q x r') : r' = r := by
  rcases h with ⟨h1, h2⟩ | ⟨a, ha, e, h⟩ <;> rcases h' with ⟨h3, h4⟩ | ⟨a', ha', e', h'⟩
  · rw [h2, h4]
  · exact absurd ⟨a', ha', e'⟩ h1
  · exact absurd ⟨a, ha, e⟩ h3
  · rw [e, nI_eq (by omega) (by omega)] at e'
    subst e'
    exact cm_P_u h' h fun _ _ => Iff.rfl
/-- the round asked of two states -/
def ta_P (M : Nat → Nat → Nat → Prop) (x y r : Int32) : Prop :=
  (¬ (st_S x ∧ st_S y) ∧ r = -1) ∨ ∃ a b, a < 8 ∧ b < 8 ∧ x = nI a ∧ y = nI b ∧ ((¬ ma_T M 7 a b ∧ r = -1) ∨ ∃ k, r = nI k ∧ ma_told M k a b)
theorem ta_u {M : Nat → Nat → Nat → Prop} {x y r r' : Int32} (h : ta_P M x y r) (h' : ta_P M x y r') : r' = r := by
  rcases h with ⟨h1, h2⟩ | ⟨a, b, ha, hb, e1, e2, h⟩ <;> rcases h' with ⟨h3, h4⟩ | ⟨a', b', ha', hb', e1', e2', h'⟩
  · rw [h2, h4]
  · exact absurd ⟨⟨a', ha', e1'⟩, ⟨b', hb', e2'⟩⟩ h1
  · exact absurd ⟨⟨a, ha, e1⟩, ⟨b, hb, e2⟩⟩ h3
  · rw [e1, nI_eq (by omega) (by omega)] at e1'
    rw [e2, nI_eq (by omega) (by omega)] at e2'
    subst e1' e2'
    rcases h with ⟨n, e⟩ | ⟨k, e, hk⟩ <;> rcases h' with ⟨n', e'⟩ | ⟨k', e', hk'⟩
    · rw [e, e']
    · exact absurd (ma_T7 ha hb hk'.1) n
    · exact absurd (ma_T7 ha hb hk.1) n'
    · rw [e, e', ma_told_u hk' hk]
theorem bo_o {x : Int32} {P : Prop} (h : bo_s x P) : x = 1 ↔ P := by
  rcases h with ⟨h, p⟩ | ⟨h, p⟩
  · rw [h]; exact ⟨fun _ => p, fun _ => rfl⟩
  · rw [h]; exact ⟨fun z => absurd z cm_01, fun z => absurd z p⟩
theorem gs_0 {Q : Nat → Prop} : cm_P 0 (fun b => b < 0 ∧ Q b) := cm_P_c cm_P_0 fun _ _ => ⟨fun z => False.elim z, fun z => absurd z.1 (Nat.not_lt_zero _)⟩
theorem gs_8 {Q : Nat → Prop} {x : Int32} (h : cm_P x (fun b => b < 8 ∧ Q b)) : cm_P x Q := cm_P_c h fun _ hb => ⟨fun z => z.2, fun z => ⟨hb, z⟩⟩
theorem gs_keep {Q : Nat → Prop} {x : Int32} {i : Nat} (h : cm_P x (fun b => b < i ∧ Q b)) (n : ¬ Q i) : cm_P x (fun b => b < i + 1 ∧ Q b) := cm_P_c h fun b _ => by
  constructor
  · exact fun z => ⟨by omega, z.2⟩
  · intro z
    refine ⟨Classical.byContradiction fun w => ?_, z.2⟩
    have e : b = i := by omega
    subst e
    exact n z.2
theorem gs_put {Q : Nat → Prop} {x : Int32} {i : Nat} (hi : i < 8) (h : cm_P x (fun b => b < i ∧ Q b)) (p : Q i) : cm_P (x ||| ((1 : Int32) <<< (nI i &&& 31))) (fun b => b < i + 1 ∧ Q b) := cm_P_c (cm_P_put h hi) fun b _ => by
  constructor
  · rintro (z | z)
    · exact ⟨by omega, z.2⟩
    · subst z
      exact ⟨by omega, p⟩
  · intro z
    by_cases e : b = i
    · exact Or.inr e
    · exact Or.inl ⟨by omega, z.2⟩
/-- the step is there and idle -/
def id_M (M : Nat → Nat → Nat → Prop) (a l b : Nat) : Prop := M a l b ∧ ∀ x y, x < 8 → y < 8 → (ma_T M 7 x y ↔ ma_T (ma_cut M a b l) 7 x y)
theorem id_E {M : Nat → Nat → Nat → Prop} {x y z : Int32} (h : ¬ st_E M x y z) : ¬ st_E (id_M M) x y z := fun ⟨a, b, l, ha, hb, hl, e1, e2, e3, hm⟩ => h ⟨a, b, l, ha, hb, hl, e1, e2, e3, hm.1⟩
section
variable {r0 : Int32} {s ls sr ap ab aw tr fo : Nat → Int32} {M : Nat → Nat → Nat → Prop}
theorem xx_alike {post : Int32 → SX → Prop} (hM : cx_T s M) (x y : Int32) (H : ∀ r r1 p b t, bo_s r (st_Q (fun a b => ¬ ma_T M 7 a b) x y) → post r (r1, s, ls, sr, p, b, aw, t, fo)) : wpX_alike post (r0, s, ls, sr, ap, ab, aw, tr, fo) x y := by
  refine xc_isState x fun r hr => bo_b hr (fun n => H 0 _ _ _ _ (bo_0 (st_Q1 n))) fun p => ?_
  refine xc_isState y fun r hr => bo_b hr (fun n => H 0 _ _ _ _ (bo_0 (st_Q2 n))) fun p' => ?_
  obtain ⟨a, ha, rfl⟩ := p
  obtain ⟨b, hb, rfl⟩ := p'
  refine xt_tellApart_stepSets hM fun r1 p1 b1 t1 hE => ⟨in_8 ha, xc_if (cx_Pc hE.1 ha) hb (fun n => H 1 _ _ _ _ (bo_1 ((st_Qn ha hb).mpr n))) (fun z => H 0 _ _ _ _ (bo_0 fun w => (st_Qn ha hb).mp w z))⟩
theorem xx_loose {post : Int32 → SX → Prop} (hM : cx_T s M) (x y : Int32) (H : ∀ r r1 q q' p b t, bo_s r (st_Q (fun a b => ¬ ma_T (ma_L M) 7 a b) x y) → post r (r1, s, q, q', p, b, aw, t, fo)) : wpX_looselyAlike post (r0, s, ls, sr, ap, ab, aw, tr, fo) x y := by
  refine xc_isState x fun r hr => bo_b hr (fun n => H 0 _ _ _ _ _ _ (bo_0 (st_Q1 n))) fun p => ?_
  refine xc_isState y fun r hr => bo_b hr (fun n => H 0 _ _ _ _ _ _ (bo_0 (st_Q2 n))) fun p' => ?_
  obtain ⟨a, ha, rfl⟩ := p
  obtain ⟨b, hb, rfl⟩ := p'
  refine xl_makeLong hM fun q q' hq => ?_
  refine xt_tellApart_longStepSets hq fun r1 p1 b1 t1 hE => ⟨in_8 ha, xc_if (cx_Pc hE.1 ha) hb (fun n => H 1 _ _ _ _ _ _ (bo_1 ((st_Qn ha hb).mpr n))) (fun z => H 0 _ _ _ _ _ _ (bo_0 fun w => (st_Qn ha hb).mp w z))⟩
theorem xx_group {post : Int32 → SX → Prop} (hM : cx_T s M) (x : Int32) (H : ∀ r r1 p b t, an_P (fun a b => ¬ ma_T M 7 a b) x r → post r (r1, s, ls, sr, p, b, aw, t, fo)) : wpX_group post (r0, s, ls, sr, ap, ab, aw, tr, fo) x := by
  refine xc_isState x fun r hr => bo_b hr (fun n => H 0 _ _ _ _ (Or.inl ⟨n, rfl⟩)) fun p => ?_
  obtain ⟨a, ha, rfl⟩ := p
  exact xt_tellApart_stepSets hM fun r1 p1 b1 t1 hE => ⟨in_8 ha, H _ _ _ _ _ (Or.inr ⟨a, ha, rfl, cm_P_rest (cx_Pc hE.1 ha)⟩)⟩
theorem xx_groups {post : Int32 → SX → Prop} (hM : cx_T s M) (H : ∀ r1 p b t, post (nI (ma_cnt (ma_ld M 7) 8)) (r1, s, ls, sr, p, b, aw, t, fo)) : wpX_groups post (r0, s, ls, sr, ap, ab, aw, tr, fo) :=
  xt_tellApart_stepSets hM fun r1 p1 b1 t1 hE => xc_countGroups hE.1 (H r1 p1 b1 t1)
theorem xx_looseGroups {post : Int32 → SX → Prop} (hM : cx_T s M) (H : ∀ r1 q q' p b t, post (nI (ma_cnt (ma_ld (ma_L M) 7) 8)) (r1, s, q, q', p, b, aw, t, fo)) : wpX_looseGroups post (r0, s, ls, sr, ap, ab, aw, tr, fo) :=
  xl_makeLong hM fun q q' hq => xt_tellApart_longStepSets hq fun r1 p1 b1 t1 hE => xc_countGroups hE.1 (H r1 q q' p1 b1 t1)
theorem xx_toldAfter {post : Int32 → SX → Prop} (hM : cx_T s M) (x y : Int32) (H : ∀ r r1 p b t, ta_P M x y r → post r (r1, s, ls, sr, p, b, aw, t, fo)) : wpX_toldAfter post (r0, s, ls, sr, ap, ab, aw, tr, fo) x y := by
  refine xc_isState x fun r hr => bo_b hr (fun n => H (-1) _ _ _ _ (Or.inl ⟨fun w => n w.1, rfl⟩)) fun p => ?_
  refine xc_isState y fun r hr => bo_b hr (fun n => H (-1) _ _ _ _ (Or.inl ⟨fun w => n w.2, rfl⟩)) fun p' => ?_
  obtain ⟨a, ha, rfl⟩ := p
  obtain ⟨b, hb, rfl⟩ := p'
  refine xt_tellApart_stepSets hM fun r1 p1 b1 t1 hE => ⟨in_8 ha, xc_if (cx_Pc hE.1 ha) hb (fun n => H (-1) _ _ _ _ (Or.inr ⟨a, b, ha, hb, rfl, rfl, Or.inl ⟨n, rfl⟩⟩)) (fun z => ⟨in_88 ha hb, H _ _ _ _ _ (Or.inr ⟨a, b, ha, hb, rfl, rfl, Or.inr ?_⟩)⟩)⟩
  rw [cc_88 ha hb]
  exact hE.2.1 a b ha hb (((hE.1 a ha).2 b hb).mpr z)
theorem xx_rounds {post : Int32 → SX → Prop} (hM : cx_T s M) (H : ∀ k r1 p b t, ma_last M k → post (nI k) (r1, s, ls, sr, p, b, aw, t, fo)) : wpX_rounds post (r0, s, ls, sr, ap, ab, aw, tr, fo) := by
  refine xt_tellApart_stepSets hM fun r1 p1 b1 t1 hE => ?_
  obtain ⟨k, e, hk⟩ := hE.2.2
  subst e
  exact H k (nI k) p1 b1 t1 hk
theorem xx_follows {post : Int32 → SX → Prop} (hM : cx_T s M) (y x : Int32) (H : ∀ r q, bo_s r (st_Q (ma_F M) x y) → post r (r0, s, ls, sr, ap, ab, aw, tr, q)) : wpX_follows post (r0, s, ls, sr, ap, ab, aw, tr, fo) y x := by
  refine xc_isState x fun r hr => bo_b hr (fun n => H 0 _ (bo_0 (st_Q1 n))) fun p => ?_
  refine xc_isState y fun r hr => bo_b hr (fun n => H 0 _ (bo_0 (st_Q2 n))) fun p' => ?_
  obtain ⟨a, ha, rfl⟩ := p
  obtain ⟨b, hb, rfl⟩ := p'
  exact xf_find hM fun q hq => ⟨in_8 ha, xc_contains (cx_Pc hq ha) hb fun r hr => ⟨bo_n hr, H r q (bo_c hr (st_Qn ha hb).symm)⟩⟩
theorem xx_followers {post : Int32 → SX → Prop} (hM : cx_T s M) (x : Int32) (H : ∀ r q, an_P (ma_F M) x r → post r (r0, s, ls, sr, ap, ab, aw, tr, q)) : wpX_followers post (r0, s, ls, sr, ap, ab, aw, tr, fo) x := by
  refine xc_isState x fun r hr => bo_b hr (fun n => H 0 _ (Or.inl ⟨n, rfl⟩)) fun p => ?_
  obtain ⟨a, ha, rfl⟩ := p
  exact xf_find hM fun q hq => ⟨in_8 ha, H _ q (Or.inr ⟨a, ha, rfl, cx_Pc hq ha⟩)⟩
theorem xx_silently {post : Int32 → Prop} (hM : cx_T s M) (x : Int32) (H : ∀ r, an_P (ma_rch M) x r → post r) : wpX_silently post (r0, s, ls, sr, ap, ab, aw, tr, fo) x := by
  refine xc_isState x fun r hr => bo_b hr (fun n => H 0 (Or.inl ⟨n, rfl⟩)) fun p => ?_
  obtain ⟨a, ha, rfl⟩ := p
  exact xs_reach hM ha fun r hr => H r (Or.inr ⟨a, ha, rfl, hr⟩)
theorem xx_after {post : Int32 → Prop} (x y : Int32) (f : ¬ (st_S x ∧ st_L y) → post 0) (g : ∀ a l, a < 8 → l < 3 → x = nI a → y = nI l → post (s (a * 3 + l))) : wpX_after post (r0, s, ls, sr, ap, ab, aw, tr, fo) x y := by
  refine xc_isState x fun r hr => bo_b hr (fun n => f fun w => n w.1) fun p => ?_
  refine xc_isLabel y fun r hr => bo_b hr (fun n => f fun w => n w.2) fun p' => ?_
  obtain ⟨a, ha, rfl⟩ := p
  obtain ⟨l, hl, rfl⟩ := p'
  refine ⟨in_3 ha hl, ?_⟩
  rw [cc_3 ha hl]
  exact g a l ha hl rfl rfl
theorem xx_join {post : Int32 → SX → Prop} (hM : cx_T s M) (x y z : Int32) (f : ¬ (st_S x ∧ st_S y ∧ st_L z) → post 0 (r0, s, ls, sr, ap, ab, aw, tr, fo))
    (g : ∀ a b l, a < 8 → b < 8 → l < 3 → x = nI a → y = nI b → z = nI l → ∀ q, cx_T q (ma_add M a b l) → post 1 (r0, q, ls, sr, ap, ab, aw, tr, fo)) : wpX_join post (r0, s, ls, sr, ap, ab, aw, tr, fo) x y z := by
  refine xc_isState x fun r hr => bo_b hr (fun n => f fun w => n w.1) fun p => ?_
  refine xc_isState y fun r hr => bo_b hr (fun n => f fun w => n w.2.1) fun p' => ?_
  refine xc_isLabel z fun r hr => bo_b hr (fun n => f fun w => n w.2.2) fun p'' => ?_
  obtain ⟨a, ha, rfl⟩ := p
  obtain ⟨b, hb, rfl⟩ := p'
  obtain ⟨l, hl, rfl⟩ := p''
  refine ⟨in_3 ha hl, in_3 ha hl, nm_r (e' := upd s (a * 3 + l) (s (a * 3 + l) ||| ((1 : Int32) <<< (nI b &&& 31)))) (by rw [cc_3 ha hl]) ?_⟩
  exact g a b l ha hb hl rfl rfl rfl _ (cx_put hM ha hb hl)
theorem xx_cut {post : Int32 → SX → Prop} (hM : cx_T s M) (x y z : Int32) (f : ¬ st_E M x y z → post 0 (r0, s, ls, sr, ap, ab, aw, tr, fo))
    (g : ∀ a b l, a < 8 → b < 8 → l < 3 → x = nI a → y = nI b → z = nI l → M a l b → ∀ q, cx_T q (ma_cut M a b l) → post 1 (r0, q, ls, sr, ap, ab, aw, tr, fo)) : wpX_cut post (r0, s, ls, sr, ap, ab, aw, tr, fo) x y z := by
  refine xc_hasStep (r0 := r0) (ls := ls) (sr := sr) (ap := ap) (ab := ab) (aw := aw) (tr := tr) (fo := fo) hM x y z fun r hr => bo_b hr f ?_
  rintro ⟨a, b, l, ha, hb, hl, rfl, rfl, rfl, hm⟩
  refine ⟨in_3 ha hl, in_3 ha hl, nm_r (e' := upd s (a * 3 + l) (s (a * 3 + l) &&& (((1 : Int32) <<< (nI b &&& 31)) ^^^ (-1)))) (by rw [cc_3 ha hl]) ?_⟩
  exact g a b l ha hb hl rfl rfl rfl hm _ (cx_del hM ha hb hl)
theorem xx_idle {post : Int32 → SX → Prop} (hM : cx_T s M) (x y z : Int32) (H : ∀ r r1 s1 p b w t, cx_T s1 M → bo_s r (st_E (id_M M) x y z) → post r (r1, s1, ls, sr, p, b, w, t, fo)) : wpX_idle post (r0, s, ls, sr, ap, ab, aw, tr, fo) x y z := by
  refine xc_hasStep (r0 := r0) (ls := ls) (sr := sr) (ap := ap) (ab := ab) (aw := aw) (tr := tr) (fo := fo) hM x y z fun r hr => bo_b hr (fun n => H 0 _ _ _ _ _ _ hM (bo_0 (id_E n))) ?_
  rintro ⟨a, b, l, ha, hb, hl, rfl, rfl, rfl, hm⟩
  refine xt_tellApart_stepSets hM fun r1 p1 b1 t1 hE1 => ?_
  refine xc_copyW fun w hw => ?_
  refine ⟨in_3 ha hl, in_3 ha hl, nm_r (e' := upd s (a * 3 + l) (s (a * 3 + l) &&& (((1 : Int32) <<< (nI b &&& 31)) ^^^ (-1)))) (by rw [cc_3 ha hl]) ?_⟩
  have hM2 := cx_del hM ha hb hl
  generalize upd s (a * 3 + l) (s (a * 3 + l) &&& (((1 : Int32) <<< (nI b &&& 31)) ^^^ (-1))) = s2 at hM2 ⊢
  refine xt_tellApart_stepSets hM2 fun r2 p2 b2 t2 hE2 => ?_
  refine ⟨in_3 ha hl, in_3 ha hl, nm_r (e' := upd s2 (a * 3 + l) (s2 (a * 3 + l) ||| ((1 : Int32) <<< (nI b &&& 31)))) (by rw [cc_3 ha hl]) ?_⟩
  have hM3 : cx_T (upd s2 (a * 3 + l) (s2 (a * 3 + l) ||| ((1 : Int32) <<< (nI b &&& 31)))) M := fun c k hc hk => cm_P_c (cx_put hM2 ha hb hl c k hc hk) fun d _ => ma_back hm c k d
  refine xc_sameW fun r hr => ⟨bo_n hr, H r _ _ _ _ _ _ hM3 (bo_c hr ?_)⟩
  have hW : cx_P w (ma_T M 7) := fun c hc => by rw [hw c hc]; exact hE1.1 c hc
  rw [cx_same hE2.1 hW, st_En ha hb hl]
  exact ⟨fun v => ⟨hm, fun c d hc hd => (v c d hc hd).symm⟩, fun v c d hc hd => (v.2 c d hc hd).symm⟩
end
