section
variable {nx fa td kp af : Nat → Int32} {M : Nat → Nat → Nat → Prop}
theorem yy_ask {post : Int32 → SY → Prop} {q t : Nat → Int32} (hE : cy_E M t) (x y : Int32) (H : ∀ r, bo_s r (st_Q (fun a b => ¬ ma_T M 7 a b) x y) → post r (nx, q, t, kp, af)) :
    wpY_state (fun r_7 => (((r_7 = 0 → (post 0 (nx, q, t, kp, af))) ∧ (¬ r_7 = 0 → (wpY_state (fun r_14 => (((r_14 = 0 → (post 0 (nx, q, t, kp, af))) ∧ (¬ r_14 = 0 → (vp_in ((8 * x) + y) 64 ∧ (((0 ≤ (t ((8 * x) + y).toNatClampNeg) → (post 0 (nx, q, t, kp, af))) ∧ (¬ 0 ≤ (t ((8 * x) + y).toNatClampNeg) → (post 1 (nx, q, t, kp, af)))))))))) (nx, q, t, kp, af) y))))) (nx, q, t, kp, af) x := by
  refine yc_state _ x fun r hr => bo_b hr (fun n => H 0 (bo_0 (st_Q1 n))) fun p => ?_
  refine yc_state (nx, q, t, kp, af) y fun r hr => bo_b hr (fun n => H 0 (bo_0 (st_Q2 n))) fun p' => ?_
  obtain ⟨a, ha, rfl⟩ := p
  obtain ⟨b, hb, rfl⟩ := p'
  exact ⟨iny_8 ha hb, ek_if (cy_E_gec hE ha hb) (fun z => H 0 (bo_0 fun w => (st_Qn ha hb).mp w z)) (fun z => H 1 (bo_1 ((st_Qn ha hb).mpr z)))⟩
theorem yy_alike {post : Int32 → SY → Prop} (hM : cy_T nx M) (x y : Int32) (H : ∀ r q t, bo_s r (st_Q (fun a b => ¬ ma_T M 7 a b) x y) → post r (nx, q, t, kp, af)) : wpY_alike post (nx, fa, td, kp, af) x y := by
  unfold wpY_alike
  dsimp only
  refine yt_tellSteps hM fun q t hE => ?_
  exact yy_ask hE x y fun r hr => H r q t hr
theorem yy_loose {post : Int32 → SY → Prop} (hM : cy_T nx M) (x y : Int32) (H : ∀ r q t, bo_s r (st_Q (fun a b => ¬ ma_T (ma_L M) 7 a b) x y) → post r (nx, q, t, kp, af)) : wpY_looselyAlike post (nx, fa, td, kp, af) x y := by
  unfold wpY_looselyAlike
  dsimp only
  refine yt_tellLong hM fun q t hE => ?_
  exact yy_ask hE x y fun r hr => H r q t hr
theorem yy_group {post : Int32 → SY → Prop} (hM : cy_T nx M) (x : Int32) (H : ∀ r q t, an_P (fun a b => ¬ ma_T M 7 a b) x r → post r (nx, q, t, kp, af)) : wpY_group post (nx, fa, td, kp, af) x := by
  unfold wpY_group
  dsimp only
  refine yt_tellSteps hM fun q t hE => ?_
  by_cases hx : st_S x
  · obtain ⟨a, ha, rfl⟩ := hx
    refine pk_loop (fun n i (c : Int32) => wY_group_8 post (nI a) nx q t kp af n c (nI i)) (fun i c => cm_P c (fun b => b < i ∧ ¬ ma_T M 7 a b)) 8 0 0 (by omega) gs_0 ?_ ?_
    · intro n c h
      exact br_t le_8 (H c q t (Or.inr ⟨a, ha, rfl, gs_8 h⟩))
    · intro n i c hi h k
      exact br_f (ng_8 hi) (yc_state (nx, q, t, kp, af) (nI a) fun r hr => bo_b hr (fun z => absurd ⟨a, ha, rfl⟩ z) fun _ => ⟨iny_8 ha hi, ek_if (cy_E_gec hE ha hi) (fun z => nm_r (nI_1 i) (k _ (gs_keep h fun w => w z))) (fun z => nm_e (nm_r (nI_1 i) (k _ (gs_put hi h z))))⟩)
  · exact ⟨1, br_f (ng_8 (i := 0) (by omega)) (yc_state (nx, q, t, kp, af) x fun r hr => bo_b hr (fun z => H 0 q t (Or.inl ⟨z, rfl⟩)) fun z => absurd z hx)⟩
theorem yy_groups {post : Int32 → SY → Prop} (hM : cy_T nx M) (H : ∀ q t, post (nI (ma_cnt (ma_ld M 7) 8)) (nx, q, t, kp, af)) : wpY_groups post (nx, fa, td, kp, af) := by
  unfold wpY_groups
  dsimp only
  refine yt_tellSteps hM fun q t hE => ?_
  exact yg_count hE (H q t)
theorem yy_looseGroups {post : Int32 → SY → Prop} (hM : cy_T nx M) (H : ∀ q t, post (nI (ma_cnt (ma_ld (ma_L M) 7) 8)) (nx, q, t, kp, af)) : wpY_looseGroups post (nx, fa, td, kp, af) := by
  unfold wpY_looseGroups
  dsimp only
  refine yt_tellLong hM fun q t hE => ?_
  exact yg_count hE (H q t)
theorem yy_toldAfter {post : Int32 → SY → Prop} (hM : cy_T nx M) (x y : Int32) (H : ∀ r q t, ta_P M x y r → post r (nx, q, t, kp, af)) : wpY_toldAfter post (nx, fa, td, kp, af) x y := by
  unfold wpY_toldAfter
  dsimp only
  refine yt_tellSteps hM fun q t hE => ?_
  refine yc_state (nx, q, t, kp, af) x fun r hr => bo_b hr (fun n => H (-1) q t (Or.inl ⟨fun w => n w.1, rfl⟩)) fun p => ?_
  refine yc_state (nx, q, t, kp, af) y fun r hr => bo_b hr (fun n => H (-1) q t (Or.inl ⟨fun w => n w.2, rfl⟩)) fun p' => ?_
  obtain ⟨a, ha, rfl⟩ := p
  obtain ⟨b, hb, rfl⟩ := p'
  refine ⟨iny_8 ha hb, H _ q t (Or.inr ⟨a, b, ha, hb, rfl, rfl, ?_⟩)⟩
  rw [cy_8 ha hb]
  by_cases z : ma_T M 7 a b
  · exact Or.inr ((hE a b ha hb).1 z)
  · exact Or.inl ⟨z, cy_E_n hE ha hb z⟩
theorem yy_rounds {post : Int32 → SY → Prop} (hM : cy_T nx M) (H : ∀ k q t, ma_last M k → post (nI k) (nx, q, t, kp, af)) : wpY_rounds post (nx, fa, td, kp, af) := by
  unfold wpY_rounds
  dsimp only
  refine yt_tellSteps hM fun q t hE => ?_
  refine pk_loop (fun n c (x : Int32) => wY_rounds_8 post nx q t kp af n x (nI c)) (fun c x => ∃ r, x = nI r ∧ r ≤ 7 ∧ (∀ a b, a < 8 → b < 8 → 8 * a + b < c → ∀ k, ma_told M k a b → k ≤ r) ∧ (r = 0 ∨ ∃ a b, a < 8 ∧ b < 8 ∧ ma_told M r a b)) 64 0 0 (by omega) ⟨0, rfl, by omega, fun a b _ _ z => absurd z (Nat.not_lt_zero _), Or.inl rfl⟩ ?_ ?_
  · rintro n x ⟨r, rfl, hr, h1, h2⟩
    exact br_t le_64 (H r q t (cy_most hE (fun a b ha hb => h1 a b ha hb (by omega)) h2))
  · rintro n c x hc ⟨r, rfl, hr, h1, h2⟩ k
    have ha : c / 8 < 8 := by omega
    have hb : c % 8 < 8 := by omega
    have e : 8 * (c / 8) + c % 8 = c := by omega
    refine br_f (ng_64 hc) ⟨in_64 hc, ?_⟩
    rw [cc_8 (by omega)]
    have last : ∀ r', r ≤ r' → (∀ k, ma_told M k (c / 8) (c % 8) → k ≤ r') → ∀ a b, a < 8 → b < 8 → 8 * a + b < c + 1 → ∀ k, ma_told M k a b → k ≤ r' := by
      intro r' h3 h4 a b ha' hb' hl k hk
      by_cases w : 8 * a + b < c
      · exact Nat.le_trans (h1 a b ha' hb' w k hk) h3
      · have ea : c / 8 = a := by omega
        have eb : c % 8 = b := by omega
        rw [ea, eb] at h4
        exact h4 k hk
    by_cases z : ma_T M 7 (c / 8) (c % 8)
    · obtain ⟨m, hm, et, hk⟩ := cy_E_y hE ha hb z
      rw [e] at et
      rw [et]
      refine pk_le m r (fun w => nm_r (nI_1 c) (k _ ⟨r, rfl, hr, last r (Nat.le_refl r) fun j hj => by rw [ma_told_u hj hk]; exact w, h2⟩)) fun w => ⟨in_64 hc, nm_e (nm_r (nI_1 c) (k _ ⟨m, rfl, hm, last m (by omega) fun j hj => by rw [ma_told_u hj hk]; exact Nat.le_refl m, Or.inr ⟨_, _, ha, hb, hk⟩⟩))⟩
    · have et := cy_E_n hE ha hb z
      rw [e] at et
      rw [et]
      refine br_t ?_ (nm_r (nI_1 c) (k _ ⟨r, rfl, hr, last r (Nat.le_refl r) fun j hj => absurd (ma_T7 ha hb hj.1) z, h2⟩))
      exact Int32.le_trans (by decide) (cy_nn (k := r) (by omega))
theorem yy_follows {post : Int32 → SY → Prop} (hM : cy_T nx M) (y x : Int32) (H : ∀ r q, bo_s r (st_Q (ma_F M) x y) → post r (nx, fa, td, kp, q)) : wpY_follows post (nx, fa, td, kp, af) y x := by
  refine yf_follow hM fun q hq => ?_
  refine yc_state (nx, fa, td, kp, q) x fun r hr => bo_b hr (fun n => H 0 q (bo_0 (st_Q1 n))) fun p => ?_
  refine yc_state (nx, fa, td, kp, q) y fun r hr => bo_b hr (fun n => H 0 q (bo_0 (st_Q2 n))) fun p' => ?_
  obtain ⟨a, ha, rfl⟩ := p
  obtain ⟨b, hb, rfl⟩ := p'
  refine ⟨iny_8 hb ha, ?_⟩
  rw [cy_8 hb ha]
  exact bo_b (hq a b ha hb) (fun z => H 0 q (bo_0 fun w => z ((st_Qn ha hb).mp w))) (fun z => H 1 q (bo_1 ((st_Qn ha hb).mpr z)))
theorem yy_followers {post : Int32 → SY → Prop} (hM : cy_T nx M) (x : Int32) (H : ∀ r q, an_P (ma_F M) x r → post r (nx, fa, td, kp, q)) : wpY_followers post (nx, fa, td, kp, af) x := by
  refine yf_follow hM fun q hq => ?_
  by_cases hx : st_S x
  · obtain ⟨a, ha, rfl⟩ := hx
    refine pk_loop (fun n i (c : Int32) => wY_followers_8 post (nI a) nx fa td kp q n c (nI i)) (fun i c => cm_P c (fun b => b < i ∧ ma_F M a b)) 8 0 0 (by omega) gs_0 ?_ ?_
    · intro n c h
      exact br_t le_8 (H c q (Or.inr ⟨a, ha, rfl, gs_8 h⟩))
    · intro n i c hi h k
      refine br_f (ng_8 hi) (yc_state (nx, fa, td, kp, q) (nI a) fun r hr => bo_b hr (fun z => absurd ⟨a, ha, rfl⟩ z) fun _ => ⟨iny_8 hi ha, ?_⟩)
      rw [cy_8 hi ha]
      exact bo_b (hq a i ha hi) (fun z => nm_r (nI_1 i) (k _ (gs_keep h z))) (fun z => nm_e (nm_r (nI_1 i) (k _ (gs_put hi h z))))
  · exact ⟨1, br_f (ng_8 (i := 0) (by omega)) (yc_state (nx, fa, td, kp, q) x fun r hr => bo_b hr (fun z => H 0 q (Or.inl ⟨z, rfl⟩)) fun z => absurd z hx)⟩
theorem yy_silently {post : Int32 → Prop} (hM : cy_T nx M) (x : Int32) (H : ∀ r, an_P (ma_rch M) x r → post r) : wpY_silently post (nx, fa, td, kp, af) x := by
  refine yc_state (nx, fa, td, kp, af) x fun r hr => bo_b hr (fun n => H 0 (Or.inl ⟨n, rfl⟩)) fun p => ?_
  obtain ⟨a, ha, rfl⟩ := p
  exact ys_quietly hM ha fun r hr => H r (Or.inr ⟨a, ha, rfl, hr⟩)
theorem yy_after {post : Int32 → Prop} (x y : Int32) (f : ¬ (st_S x ∧ st_L y) → post 0) (g : ∀ a l, a < 8 → l < 3 → x = nI a → y = nI l → post (nx (8 * l + a))) : wpY_after post (nx, fa, td, kp, af) x y := by
  refine yc_state (nx, fa, td, kp, af) x fun r hr => bo_b hr (fun n => f fun w => n w.1) fun p => ?_
  refine br_c (fun h => f fun w => st_L0 h w.2) fun h => ek_if (st_L2 h) (fun n => f fun w => n w.2) fun p' => ?_
  obtain ⟨a, ha, rfl⟩ := p
  obtain ⟨l, hl, rfl⟩ := Classical.byContradiction p'
  refine ⟨iny_3 ha hl, ?_⟩
  rw [cy_3 ha hl]
  exact g a l ha hl rfl rfl
theorem yi_99 {post : Int32 → SY → Prop} {J : Int32 → Int32 → Prop} {z0 : Int32} {A B : Prop} {c : Nat} (hc : c < 64) (h0 : bo_s z0 (¬ A)) (hB : 0 ≤ td (nI c).toNatClampNeg ↔ B) (g : ∀ r, bo_s r (A ↔ B) → J r (nI (c + 1))) : wY_idle_99 post J (nI c) z0 nx fa td kp af := by
  refine ⟨in_64 hc, ek_if hB (fun b => ?_) (fun b => ?_)⟩
  · refine ek_if (d := A ↔ B) ?_ (fun z => nm_r (nI_1 c) (g 1 (bo_1 z))) (fun z => nm_r (nI_1 c) (g 0 (bo_0 z)))
    rw [bo_z h0]
    exact ⟨fun z => ⟨fun _ => b, fun _ => Classical.byContradiction z⟩, fun z w => w (z.mpr b)⟩
  · refine ek_if (d := A ↔ B) ?_ (fun z => nm_r (nI_1 c) (g 1 (bo_1 z))) (fun z => nm_r (nI_1 c) (g 0 (bo_0 z)))
    rw [bo_o h0]
    exact ⟨fun z => ⟨fun w => absurd w z, fun w => absurd w b⟩, fun z w => b (z.mp w)⟩
theorem yi_cmp {post : Int32 → SY → Prop} {Q Q' : Nat → Nat → Prop} (hk : ∀ x y, x < 8 → y < 8 → (0 ≤ kp (8 * x + y) ↔ Q x y)) (ht : ∀ x y, x < 8 → y < 8 → (0 ≤ td (8 * x + y) ↔ Q' x y))
    (H : ∀ r, bo_s r (∀ x y, x < 8 → y < 8 → (Q x y ↔ Q' x y)) → post r (nx, fa, td, kp, af)) : ∃ n, wY_idle_72 post nx fa td kp af n 1 0 := by
  refine pk_loop (fun n c (x : Int32) => wY_idle_72 post nx fa td kp af n x (nI c)) (fun c x => bo_s x (∀ e, e < c → (Q (e / 8) (e % 8) ↔ Q' (e / 8) (e % 8)))) 64 0 1 (by omega) (bo_1 lt_0) ?_ ?_
  · intro n x h
    refine br_t le_64 ⟨bo_n h, H x (bo_c h ⟨fun z a b ha hb => ?_, fun z e he => z _ _ (by omega) (by omega)⟩)⟩
    have e1 : (8 * a + b) / 8 = a := by omega
    have e2 : (8 * a + b) % 8 = b := by omega
    have z' := z (8 * a + b) (by omega)
    rw [e1, e2] at z'
    exact z'
  · intro n c x hc h k
    have ha : c / 8 < 8 := by omega
    have hb : c % 8 < 8 := by omega
    have e : 8 * (c / 8) + c % 8 = c := by omega
    have hk' : 0 ≤ kp (nI c).toNatClampNeg ↔ Q (c / 8) (c % 8) := by
      have := hk _ _ ha hb
      rw [e] at this
      rw [cc_8 (by omega)]; exact this
    have ht' : 0 ≤ td (nI c).toNatClampNeg ↔ Q' (c / 8) (c % 8) := by
      have := ht _ _ ha hb
      rw [e] at this
      rw [cc_8 (by omega)]; exact this
    refine br_f (ng_64 hc) (bo_b h (fun z => nm_r (nI_1 c) (k 0 (bo_0 fun w => z fun e he => w e (by omega)))) fun z => ⟨in_64 hc, ?_⟩)
    have nxt : ∀ r, bo_s r (Q (c / 8) (c % 8) ↔ Q' (c / 8) (c % 8)) → wY_idle_72 post nx fa td kp af n r (nI (c + 1)) := fun r hr =>
      k r (bo_c hr ⟨fun w => lt_s z w, fun w => w c (by omega)⟩)
    exact ek_if hk' (fun p => yi_99 (A := Q (c / 8) (c % 8)) hc (bo_0 fun w => w p) ht' nxt) (fun p => yi_99 (A := Q (c / 8) (c % 8)) hc (bo_1 p) ht' nxt)
theorem cy_E_ge {t : Nat → Int32} (h : cy_E M t) (x y : Nat) (hx : x < 8) (hy : y < 8) : 0 ≤ t (8 * x + y) ↔ ma_T M 7 x y := by
  rw [← Int32.not_lt, cy_E_lt h hx hy]
  exact ⟨fun z => Classical.byContradiction z, fun z w => w z⟩
theorem yy_idle {post : Int32 → SY → Prop} (hM : cy_T nx M) (x y z : Int32) (H : ∀ r n1 q t k, cy_T n1 M → bo_s r (st_E (id_M M) x y z) → post r (n1, q, t, k, af)) : wpY_idle post (nx, fa, td, kp, af) x y z := by
  refine ys_step (fa := fa) (td := td) (kp := kp) (af := af) hM x y z fun r hr => bo_b hr (fun n => H 0 _ _ _ _ hM (bo_0 (id_E n))) fun p => ?_
  refine yt_tellSteps hM fun q1 t1 hE1 => ?_
  refine pk_loop (fun n i (k : Nat → Int32) => wY_idle_19 post x y z n (nI i) nx q1 t1 k af) (fun i k => ∀ j, j < i → k j = t1 j) 64 0 kp (by omega) lt_0 ?_ ?_
  · intro n k hk
    refine br_t le_64 (ys_cut hM x y z (fun w => absurd p w) fun a b l ha hb hl ex ey ez hm n2 hM2 => ?_)
    refine yt_tellSteps hM2 fun q2 t2 hE2 => ?_
    refine ys_join hM2 x y z (fun w => absurd ⟨⟨a, ha, ex⟩, ⟨b, hb, ey⟩, ⟨l, hl, ez⟩⟩ w) fun a' b' l' ha' hb' hl' ex' ey' ez' n3 hM3 => ?_
    rw [ex, nI_eq (by omega) (by omega)] at ex'
    rw [ey, nI_eq (by omega) (by omega)] at ey'
    rw [ez, nI_eq (by omega) (by omega)] at ez'
    subst ex' ey' ez'
    have hM4 : cy_T n3 M := fun c j hc hj => cm_P_c (hM3 c j hc hj) fun d _ => ma_back hm c j d
    refine yi_cmp (Q := fun c d => ma_T M 7 c d) (Q' := fun c d => ma_T (ma_cut M a b l) 7 c d) (fun c d hc hd => ?_) (fun c d hc hd => cy_E_ge hE2 c d hc hd) fun r hr => H r n3 q2 t2 k hM4 (bo_c hr ?_)
    · rw [hk _ (by omega)]
      exact cy_E_ge hE1 c d hc hd
    · rw [ex, ey, ez, st_En ha hb hl]
      exact ⟨fun v => ⟨hm, v⟩, fun v => v.2⟩
  · intro n i k hi hk g
    refine br_f (ng_64 hi) ⟨in_64 hi, in_64 hi, nm_r (e' := upd k i (t1 i)) (by rw [cc_8 (by omega)]) (nm_r (nI_1 i) (g _ (lt_s (fun j hj => ?_) pk_us)))⟩
    rw [pk_un (by omega)]
    exact hk j hj
end
