theorem e8_0 : ¬ (8 : Int32) = 0 := by decide
theorem up_self (f : Nat → Int32) (k : Nat) : upd f k (f k) = f := by
  funext j
  by_cases e : j = k
  · rw [e]; exact pk_us
  · exact pk_un e
/-- the machine with one step more -/
def ma_add (M : Nat → Nat → Nat → Prop) (a b l : Nat) : Nat → Nat → Nat → Prop := fun x k y => M x k y ∨ (x = a ∧ k = l ∧ y = b)
theorem cx_put {s : Nat → Int32} {M : Nat → Nat → Nat → Prop} {a b l : Nat} (h : cx_T s M) (ha : a < 8) (hb : b < 8) (hl : l < 3) :
    cx_T (upd s (a * 3 + l) (s (a * 3 + l) ||| ((1 : Int32) <<< (nI b &&& 31)))) (ma_add M a b l) := by
  intro x k hx hk
  by_cases e : x = a ∧ k = l
  · obtain ⟨e1, e2⟩ := e
    subst e1; subst e2
    rw [pk_us]
    refine cm_P_c (cm_P_put (h x k hx hk) hb) fun y _ => ?_
    exact ⟨fun z => z.imp id fun w => ⟨rfl, rfl, w⟩, fun z => z.imp id fun w => w.2.2⟩
  · rw [pk_un (by omega)]
    exact cm_P_c (h x k hx hk) fun y _ => ⟨Or.inl, fun z => z.resolve_right fun w => e ⟨w.1, w.2.1⟩⟩
theorem cy_put {s : Nat → Int32} {M : Nat → Nat → Nat → Prop} {a b l : Nat} (h : cy_T s M) (ha : a < 8) (hb : b < 8) (hl : l < 3) :
    cy_T (upd s (8 * l + a) (s (8 * l + a) ||| ((1 : Int32) <<< (nI b &&& 31)))) (ma_add M a b l) := by
  intro x k hx hk
  by_cases e : x = a ∧ k = l
  · obtain ⟨e1, e2⟩ := e
    subst e1; subst e2
    rw [pk_us]
    refine cm_P_c (cm_P_put (h x k hx hk) hb) fun y _ => ?_
    exact ⟨fun z => z.imp id fun w => ⟨rfl, rfl, w⟩, fun z => z.imp id fun w => w.2.2⟩
  · rw [pk_un (by omega)]
    exact cm_P_c (h x k hx hk) fun y _ => ⟨Or.inl, fun z => z.resolve_right fun w => e ⟨w.1, w.2.1⟩⟩
theorem cx_del {s : Nat → Int32} {M : Nat → Nat → Nat → Prop} {a b l : Nat} (h : cx_T s M) (ha : a < 8) (hb : b < 8) (hl : l < 3) :
    cx_T (upd s (a * 3 + l) (s (a * 3 + l) &&& (((1 : Int32) <<< (nI b &&& 31)) ^^^ (-1)))) (ma_cut M a b l) := by
  intro x k hx hk
  by_cases e : x = a ∧ k = l
  · obtain ⟨e1, e2⟩ := e
    subst e1; subst e2
    rw [pk_us]
    refine cm_P_c (cm_P_del (h x k hx hk) hb) fun y _ => ?_
    exact ⟨fun z => ⟨z.1, fun w => z.2 w.2.2⟩, fun z => ⟨z.1, fun w => z.2 ⟨rfl, rfl, w⟩⟩⟩
  · rw [pk_un (by omega)]
    exact cm_P_c (h x k hx hk) fun y _ => ⟨fun z => ⟨z, fun w => e ⟨w.1, w.2.1⟩⟩, fun z => z.1⟩
theorem cy_del {s : Nat → Int32} {M : Nat → Nat → Nat → Prop} {a b l : Nat} (h : cy_T s M) (ha : a < 8) (hb : b < 8) (hl : l < 3) :
    cy_T (upd s (8 * l + a) (s (8 * l + a) &&& (((1 : Int32) <<< (nI b &&& 31)) ^^^ (-1)))) (ma_cut M a b l) := by
  intro x k hx hk
  by_cases e : x = a ∧ k = l
  · obtain ⟨e1, e2⟩ := e
    subst e1; subst e2
    rw [pk_us]
    refine cm_P_c (cm_P_del (h x k hx hk) hb) fun y _ => ?_
    exact ⟨fun z => ⟨z.1, fun w => z.2 w.2.2⟩, fun z => ⟨z.1, fun w => z.2 ⟨rfl, rfl, w⟩⟩⟩
  · rw [pk_un (by omega)]
    exact cm_P_c (h x k hx hk) fun y _ => ⟨fun z => ⟨z, fun w => e ⟨w.1, w.2.1⟩⟩, fun z => z.1⟩
theorem ma_back {M : Nat → Nat → Nat → Prop} {a b l : Nat} (h : M a l b) (x k y : Nat) : ma_add (ma_cut M a b l) a b l x k y ↔ M x k y := by
  constructor
  · rintro (z | ⟨e1, e2, e3⟩)
    · exact z.1
    · rw [e1, e2, e3]; exact h
  · intro z
    by_cases e : x = a ∧ k = l ∧ y = b
    · exact Or.inr e
    · exact Or.inl ⟨z, e⟩
/-- the step that is asked for is there -/
def st_E (M : Nat → Nat → Nat → Prop) (x y z : Int32) : Prop := ∃ a b l, a < 8 ∧ b < 8 ∧ l < 3 ∧ x = nI a ∧ y = nI b ∧ z = nI l ∧ M a l b
theorem st_En {M : Nat → Nat → Nat → Prop} {a b l : Nat} (ha : a < 8) (hb : b < 8) (hl : l < 3) : st_E M (nI a) (nI b) (nI l) ↔ M a l b := by
  constructor
  · rintro ⟨a', b', l', ha', hb', hl', e1, e2, e3, hm⟩
    rw [nI_eq (by omega) (by omega)] at e1 e2 e3
    subst e1 e2 e3
    exact hm
  · exact fun h => ⟨a, b, l, ha, hb, hl, rfl, rfl, rfl, h⟩
section
variable {nx fa td kp af : Nat → Int32} {M : Nat → Nat → Nat → Prop}
theorem ys_step {post : Int32 → Prop} (hM : cy_T nx M) (x y z : Int32) (H : ∀ r, bo_s r (st_E M x y z) → post r) : wpY_step post (nx, fa, td, kp, af) x y z := by
  refine yc_state (nx, fa, td, kp, af) x fun r hr => bo_b hr (fun n => H 0 (bo_0 ?_)) fun p => ?_
  · rintro ⟨a, b, l, ha, hb, hl, e1, e2, e3, _⟩
    exact n ⟨a, ha, e1⟩
  refine yc_state (nx, fa, td, kp, af) y fun r hr => bo_b hr (fun n => H 0 (bo_0 ?_)) fun p' => ?_
  · rintro ⟨a, b, l, ha, hb, hl, e1, e2, e3, _⟩
    exact n ⟨b, hb, e2⟩
  have hn : ¬ st_L z → ¬ st_E M x y z := by
    rintro n ⟨a, b, l, ha, hb, hl, e1, e2, e3, _⟩
    exact n ⟨l, hl, e3⟩
  refine br_c (fun h => H 0 (bo_0 (hn (st_L0 h)))) fun h => ek_if (st_L2 h) (fun n => H 0 (bo_0 (hn n))) fun p'' => ?_
  obtain ⟨a, ha, rfl⟩ := p
  obtain ⟨b, hb, rfl⟩ := p'
  obtain ⟨l, hl, rfl⟩ := Classical.byContradiction p''
  exact ⟨iny_3 ha hl, cm_b1' (cy_Tc hM ha hl) hb (fun p => H 1 (bo_1 ((st_En ha hb hl).mpr p))) (fun n => H 0 (bo_0 fun w => n ((st_En ha hb hl).mp w)))⟩
theorem ys_cut {post : Int32 → SY → Prop} (hM : cy_T nx M) (x y z : Int32) (f : ¬ st_E M x y z → post 0 (nx, fa, td, kp, af))
    (g : ∀ a b l, a < 8 → b < 8 → l < 3 → x = nI a → y = nI b → z = nI l → M a l b → ∀ q, cy_T q (ma_cut M a b l) → post 1 (q, fa, td, kp, af)) : wpY_cut post (nx, fa, td, kp, af) x y z := by
  refine ys_step hM x y z fun r hr => bo_b hr f ?_
  rintro ⟨a, b, l, ha, hb, hl, rfl, rfl, rfl, hm⟩
  refine ⟨iny_3 ha hl, iny_3 ha hl, nm_r (e' := upd nx (8 * l + a) (nx (8 * l + a) &&& (((1 : Int32) <<< (nI b &&& 31)) ^^^ (-1)))) (by rw [cy_3 ha hl]) ?_⟩
  exact g a b l ha hb hl rfl rfl rfl hm _ (cy_del hM ha hb hl)
theorem ys_join {post : Int32 → SY → Prop} (hM : cy_T nx M) (x y z : Int32) (f : ¬ (st_S x ∧ st_S y ∧ st_L z) → post 0 (nx, fa, td, kp, af))
    (g : ∀ a b l, a < 8 → b < 8 → l < 3 → x = nI a → y = nI b → z = nI l → ∀ q, cy_T q (ma_add M a b l) → post 1 (q, fa, td, kp, af)) : wpY_join post (nx, fa, td, kp, af) x y z := by
  refine yc_state (nx, fa, td, kp, af) x fun r hr => bo_b hr (fun n => f fun w => n w.1) fun p => ?_
  refine yc_state (nx, fa, td, kp, af) y fun r hr => bo_b hr (fun n => f fun w => n w.2.1) fun p' => ?_
  refine br_c (fun h => f fun w => st_L0 h w.2.2) fun h => ek_if (st_L2' h) (fun p'' => ?_) (fun n => f fun w => n w.2.2)
  obtain ⟨a, ha, rfl⟩ := p
  obtain ⟨b, hb, rfl⟩ := p'
  obtain ⟨l, hl, rfl⟩ := p''
  refine ⟨iny_3 ha hl, iny_3 ha hl, nm_r (e' := upd nx (8 * l + a) (nx (8 * l + a) ||| ((1 : Int32) <<< (nI b &&& 31)))) (by rw [cy_3 ha hl]) ?_⟩
  exact g a b l ha hb hl rfl rfl rfl _ (cy_put hM ha hb hl)
theorem sq_step (f : Nat → Int32) (c : Nat) : sq_m (fun i => sq_b (f i) 8) (c / 8) + sq_b (f (c / 8)) (c % 8) + (bt (f (c / 8)) (c % 8)).toNat = sq_m (fun i => sq_b (f i) 8) ((c + 1) / 8) + sq_b (f ((c + 1) / 8)) ((c + 1) % 8) := by
  by_cases e : c % 8 = 7
  · have e1 : (c + 1) / 8 = c / 8 + 1 := by omega
    have e2 : (c + 1) % 8 = 0 := by omega
    rw [e1, e2, e]
    exact Nat.add_assoc _ _ _
  · have e1 : (c + 1) / 8 = c / 8 := by omega
    have e2 : (c + 1) % 8 = c % 8 + 1 := by omega
    rw [e1, e2]
    exact Nat.add_assoc _ _ _
theorem yq_steps {post : Int32 → Prop} (H : post (nI (sq_m (fun i => sq_b (nx i) 8) 24))) : wpY_steps post (nx, fa, td, kp, af) := by
  refine pk_loop (fun n c (x : Int32) => wY_steps_4 post nx fa td kp af n x (nI c)) (fun c x => x = nI (sq_m (fun i => sq_b (nx i) 8) (c / 8) + sq_b (nx (c / 8)) (c % 8))) 192 0 0 (by omega) rfl ?_ ?_
  · intro n x h
    refine br_t le_192 ?_
    rw [h]; exact H
  · intro n c x hc h k
    subst h
    have e1 : nI c / 8 = nI (c / 8) := iy_d (by omega)
    have e2 : nI c - nI c / 8 * 8 = nI (c % 8) := iy_m (by omega)
    refine br_f (ng_192 hc) ⟨e8_0, ?_, e8_0, nm_r (e' := nI (sq_m (fun i => sq_b (nx i) 8) ((c + 1) / 8) + sq_b (nx ((c + 1) / 8)) ((c + 1) % 8))) ?_ (nm_r (nI_1 c) (k _ rfl))⟩
    · rw [e1]; exact vp_in_nI (by omega) (by omega)
    · rw [e2, e1, cc_8 (by omega), sq_1 _ (by omega), nI_add, sq_step]
theorem ys_useSteps {post : SY → Prop} (H : ∀ q, (∀ i, i < 24 → q i = nx i) → post (nx, q, td, kp, af)) : wpY_useSteps post (nx, fa, td, kp, af) :=
  pk_loop (fun n i (q : Nat → Int32) => wY_useSteps_2 post n (nI i) nx q td kp af) (fun i q => ∀ j, j < i → q j = nx j) 24 0 fa (by omega) lt_0
    (fun n q h => br_t le_24 (H q h))
    (fun n i q hi h k => br_f (ng_24 hi) ⟨in_24 hi, in_24 hi, nm_r (e' := upd q i (nx i)) (by rw [cc_8 (by omega)]) (nm_r (nI_1 i) (k _ (lt_s (fun j hj => (pk_un (Nat.ne_of_lt hj)).trans (h j hj)) pk_us)))⟩)
theorem ys_onward {post : Int32 → Prop} {P : Nat → Prop} {x : Int32} {l : Nat} (hM : cy_T nx M) (hP : cm_P x P) (hl : l < 3) (H : ∀ r, cm_P r (rc_o M P l 8) → post r) : wpY_onward post (nx, fa, td, kp, af) x (nI l) :=
  pk_loop (fun n i (c : Int32) => wY_onward_5 post x (nI l) nx fa td kp af n c (nI i)) (fun i c => cm_P c (rc_o M P l i)) 8 0 x (by omega) (rc_o0 hP)
    (fun n c h => br_t le_8 (H c h))
    (fun n i c hi h k => br_f (ng_8 hi) (cm_b1' hP hi (fun p => ⟨iny_3 hi hl, nm_e (nm_r (nI_1 i) (k _ (rc_oy h (cy_Tc hM hi hl) p)))⟩) (fun np => nm_r (nI_1 i) (k _ (rc_on h np)))))
theorem ys_quietly {post : Int32 → Prop} {a : Nat} (hM : cy_T nx M) (ha : a < 8) (H : ∀ r, cm_P r (ma_rch M a) → post r) : wpY_quietly post (nx, fa, td, kp, af) (nI a) := by
  refine nm_e (pk_loop (fun n i (c : Int32) => wY_quietly_6 post nx fa td kp af n c (nI i)) (fun i c => cm_P c (ma_R M a i)) 8 0 _ (by omega) (rc_R0 ha) ?_ ?_)
  · intro n c h
    exact br_t le_8 (H c (rc_R8 ha h))
  · intro n i c hi h k
    exact br_f (ng_8 hi) (ys_onward (l := 0) hM h (by omega) fun r hr => nm_r (nI_1 i) (k _ (rc_R1' hr)))
theorem ys_labelled {post : Int32 → Prop} {a l : Nat} (hM : cy_T nx M) (ha : a < 8) (hl : l < 3) (h0 : l ≠ 0) (H : ∀ r, cm_P r (ma_L M a l) → post r) : wpY_labelled post (nx, fa, td, kp, af) (nI a) (nI l) := by
  refine ys_quietly hM ha fun x hx => pk_loop (fun n i (c : Int32) => wY_labelled_12 post (nI l) x nx fa td kp af n c (nI i)) (fun i c => cm_P c (rc_s M (ma_rch M a) l i)) 8 0 0 (by omega) rc_P0 ?_ ?_
  · intro n y hy
    refine br_t le_8 (pk_loop (fun n i (c : Int32) => wY_labelled_63 post y nx fa td kp af n c (nI i)) (fun i c => cm_P c (rc_s (rc_q M) (rc_s M (ma_rch M a) l 8) 0 i)) 8 0 0 (by omega) rc_P0 ?_ ?_)
    · intro n c h
      exact br_t le_8 (H c (rc_L1 h0 h))
    · intro n i c hi h k
      exact br_f (ng_8 hi) (cm_b1' hy hi (fun p => ys_quietly hM hi fun r hr => nm_e (nm_r (nI_1 i) (k _ (rc_Py h hr p)))) (fun np => nm_r (nI_1 i) (k _ (rc_Pn h np))))
  · intro n i c hi h k
    exact br_f (ng_8 hi) (cm_b1' hx hi (fun p => ⟨iny_3 hi hl, nm_e (nm_r (nI_1 i) (k _ (rc_Py h (cy_Tc hM hi hl) p)))⟩) (fun np => nm_r (nI_1 i) (k _ (rc_Pn h np))))
theorem i8_add (i : Nat) : 8 + nI i = nI (8 + i) := nI_add 8 i
theorem i16_add (i : Nat) : 16 + nI i = nI (16 + i) := nI_add 16 i
theorem ys_useLong {post : SY → Prop} (hM : cy_T nx M) (H : ∀ q, cy_T q (ma_L M) → post (nx, q, td, kp, af)) : wpY_useLongSteps post (nx, fa, td, kp, af) := by
  refine pk_loop (fun n i (q : Nat → Int32) => wY_useLongSteps_2 post n (nI i) nx q td kp af) (fun i q => ∀ j, j < i → ∀ l, l < 3 → cm_P (q (8 * l + j)) (ma_L M j l)) 8 0 fa (by omega) lt_0 ?_ ?_
  · intro n q h
    exact br_t le_8 (H q fun a l ha hl => h a ha l hl)
  · intro n i q hi h k
    refine br_f (ng_8 hi) (ys_quietly hM hi fun r1 h1 => ⟨in_24 (by omega), nm_r (e' := upd q i r1) (by rw [cc_8 (by omega)]) ?_⟩)
    refine ys_labelled (l := 1) hM hi (by omega) (by omega) fun r2 h2 => ⟨by rw [i8_add]; exact in_24 (by omega), nm_r (e' := upd (upd q i r1) (8 + i) r2) (by rw [i8_add, cc_8 (by omega)]) ?_⟩
    refine ys_labelled (l := 2) hM hi (by omega) (by omega) fun r3 h3 => ⟨by rw [i16_add]; exact in_24 (by omega), nm_r (e' := upd (upd (upd q i r1) (8 + i) r2) (16 + i) r3) (by rw [i16_add, cc_8 (by omega)]) (nm_r (nI_1 i) (k _ ?_))⟩
    intro j hj l hl
    by_cases e : j = i
    · subst e
      by_cases e0 : l = 0
      · subst e0
        rw [pk_un (by omega), pk_un (by omega), show 8 * 0 + j = j by omega, pk_us]
        exact rc_L0 h1
      · by_cases e1 : l = 1
        · subst e1
          rw [pk_un (by omega), show 8 * 1 + j = 8 + j by omega, pk_us]
          exact h2
        · have e2 : l = 2 := by omega
          subst e2
          rw [show 8 * 2 + j = 16 + j by omega, pk_us]
          exact h3
    · rw [pk_un (by omega), pk_un (by omega), pk_un (by omega)]
      exact h j (by omega) l hl
end
