section
variable {nx fa td kp af : Nat → Int32} {M : Nat → Nat → Nat → Prop}
/-- the reference's table of who follows whom: S x y stands at 8 * y + x -/
def yf_A (q : Nat → Int32) (S : Nat → Nat → Prop) : Prop := ∀ x y, x < 8 → y < 8 → bo_s (q (8 * y + x)) (S x y)
theorem yf_in {post : Int32 → Prop} {J : Int32 → Int32 → Prop} {S : Nat → Nat → Prop} {x2 x3 x6 : Int32} {A G : Prop} {b c : Nat} (hM : cy_T nx M) (hA : yf_A af S) (hb : b < 8) (hc : c < 24) (h3 : bo_s x3 A) (h6 : bo_s x6 G)
    (g : ∀ r, bo_s r (A ∧ (G → ∃ d, d < 8 ∧ M b (c / 8) d ∧ S (c % 8) d)) → J r (nI (c + 1))) :
    ∃ n, wY_answers_56 post J (nI b) x2 x3 (nI c) (nI (c / 8)) x6 nx fa td kp af n 0 0 := by
  have hl : c / 8 < 3 := by omega
  have ht : c % 8 < 8 := by omega
  refine pk_loop (fun n i (q : Int32) => wY_answers_56 post J (nI b) x2 x3 (nI c) (nI (c / 8)) x6 nx fa td kp af n q (nI i)) (fun i q => bo_s q (∃ d, d < i ∧ M b (c / 8) d ∧ S (c % 8) d)) 8 0 0 (by omega) (bo_0 fun ⟨_, h, _⟩ => absurd h (Nat.not_lt_zero _)) ?_ ?_
  · intro n q h
    exact br_t le_8 (bo_b h3 (fun z => nm_r (nI_1 c) (g 0 (bo_0 fun w => z w.1))) (fun z => bo_b h6 (fun z' => nm_r (nI_1 c) (g 1 (bo_1 ⟨z, fun w => absurd w z'⟩)))
      (fun z' => bo_b h (fun z'' => nm_r (nI_1 c) (g 0 (bo_0 fun w => z'' (w.2 z')))) (fun z'' => nm_r (nI_1 c) (g 1 (bo_1 ⟨z, fun _ => z''⟩))))))
  · intro n i q hi h k
    have no : ¬ (∃ d, d < i ∧ M b (c / 8) d ∧ S (c % 8) d) → ¬ (M b (c / 8) i ∧ S (c % 8) i) → bo_s 0 (∃ d, d < i + 1 ∧ M b (c / 8) d ∧ S (c % 8) d) := by
      intro h1 h2
      refine bo_0 ?_
      rintro ⟨d, hd, h3⟩
      by_cases e : d = i
      · subst e
        exact h2 h3
      · exact h1 ⟨d, by omega, h3⟩
    refine br_f (ng_8 hi) (bo_b h (fun z => ⟨iny_3 hb hl, cm_b1' (cy_Tc hM hb hl) hi (fun p => ⟨e8_0, ?_⟩) (fun np => nm_r (nI_1 i) (k 0 (no z fun w => np w.1)))⟩) (fun z => ?_))
    · rw [iy_m (by omega), cy_8 hi ht]
      exact ⟨iny_8 hi ht, bo_b (hA (c % 8) i ht hi) (fun w => nm_r (nI_1 i) (k 0 (no z fun v => w v.2))) (fun w => nm_r (nI_1 i) (k 1 (bo_1 ⟨i, by omega, p, w⟩)))⟩
    · obtain ⟨d, hd, h1⟩ := z
      exact nm_r (nI_1 i) (k 1 (bo_1 ⟨d, by omega, h1⟩))
theorem yf_answers {post : Int32 → Prop} {S : Nat → Nat → Prop} {a b : Nat} (hM : cy_T nx M) (hA : yf_A af S) (ha : a < 8) (hb : b < 8) (H : ∀ r, bo_s r (ma_fo M S b a) → post r) : wpY_answers post (nx, fa, td, kp, af) (nI b) (nI a) := by
  refine pk_loop (fun n c (q : Int32) => wY_answers_5 post (nI b) (nI a) nx fa td kp af n q (nI c)) (fun c q => bo_s q (∀ e, e < c → M a (e / 8) (e % 8) → ∃ d, d < 8 ∧ M b (e / 8) d ∧ S (e % 8) d)) 24 0 1 (by omega) (bo_1 lt_0) ?_ ?_
  · intro n q h
    refine br_t le_24 ⟨bo_n h, H q (bo_c h ⟨?_, ?_⟩)⟩
    · intro z l c hl hc hm
      have e1 : (8 * l + c) / 8 = l := by omega
      have e2 : (8 * l + c) % 8 = c := by omega
      have z' := z (8 * l + c) (by omega)
      rw [e1, e2] at z'
      exact z' hm
    · intro z e he hm
      exact z (e / 8) (e % 8) (by omega) (by omega) hm
  · intro n c q hc h k
    have hl : c / 8 < 3 := by omega
    have ht : c % 8 < 8 := by omega
    have fin : ∀ G x6, bo_s x6 G → (G ↔ M a (c / 8) (c % 8)) → ∃ n', wY_answers_56 post (wY_answers_5 post (nI b) (nI a) nx fa td kp af n) (nI b) (nI a) q (nI c) (nI (c / 8)) x6 nx fa td kp af n' 0 0 := by
      intro G x6 h6 hG
      refine yf_in hM hA hb hc h h6 fun r hr => k r (bo_c hr ⟨?_, ?_⟩)
      · rintro ⟨z1, z2⟩
        exact lt_s z1 fun w => z2 (hG.mpr w)
      · intro z
        exact ⟨fun e he => z e (by omega), fun w => z c (by omega) (hG.mp w)⟩
    refine br_f (ng_24 hc) ⟨e8_0, nm_r (iy_d (by omega)) ⟨iny_3 ha hl, e8_0, ?_⟩⟩
    rw [iy_m (by omega)]
    exact cm_b1' (cy_Tc hM ha hl) ht (fun p => fin True 1 (bo_1 True.intro) ⟨fun _ => p, fun _ => True.intro⟩) (fun np => fin False 0 (bo_0 id) ⟨False.elim, fun w => absurd w np⟩)
theorem yf_100 {post : SY → Prop} {J25 J39 : Int32 → Int32 → (Nat → Int32) → (Nat → Int32) → (Nat → Int32) → (Nat → Int32) → (Nat → Int32) → Prop} {x1 x2 x4 z0 : Int32} {A B C : Prop} {c : Nat} (hc : c < 64) (h1 : bo_s x1 A) (h4 : bo_s x4 B) (hz : bo_s z0 C)
    (g : ∀ r, bo_s r (A ∨ B) → J39 r (nI (c + 1)) nx fa td kp (upd af c z0)) : wY_follow_100 post J25 J39 x1 x2 (nI c) x4 z0 (nI c) nx fa td kp af :=
  ⟨in_64 hc, nm_r (e' := upd af c z0) (by rw [cc_8 (by omega), bo_v hz]) (bo_b h1 (fun nA => bo_b h4 (fun nB => nm_r (nI_1 c) (g 0 (bo_0 fun w => w.elim nA nB))) (fun pB => nm_r (nI_1 c) (g 1 (bo_1 (Or.inr pB))))) (fun pA => nm_r (nI_1 c) (g 1 (bo_1 (Or.inl pA)))))⟩
theorem yf_74 {post : SY → Prop} {J25 J39 : Int32 → Int32 → (Nat → Int32) → (Nat → Int32) → (Nat → Int32) → (Nat → Int32) → (Nat → Int32) → Prop} {x1 x2 z0 : Int32} {A B C : Prop} {c : Nat} (hc : c < 64) (h1 : bo_s x1 A) (h4 : bo_s z0 B) (ha : bo_s (af c) C)
    (f : ¬ B → ∀ r, bo_s r A → J39 r (nI (c + 1)) nx fa td kp af) (g : C → B → J39 1 (nI (c + 1)) nx fa td kp (upd af c 0)) (hB : B → C) : wY_follow_74 post J25 J39 x1 x2 (nI c) z0 nx fa td kp af := by
  have e : af (nI c).toNatClampNeg = af c := by rw [cc_8 (by omega)]
  refine ⟨in_64 hc, ?_⟩
  rw [e]
  refine bo_b ha (fun nC => ?_) (fun pC => bo_b h4 (fun nB => ?_) (fun pB => ?_))
  · refine yf_100 (C := False) hc h1 h4 (bo_0 id) fun r hr => ?_
    have e2 : upd af c 0 = af := by rw [← bo_f ha nC, up_self]
    rw [e2]
    exact f (fun w => nC (hB w)) r (bo_c hr ⟨fun z => z.resolve_right fun w => nC (hB w), Or.inl⟩)
  · refine yf_100 (C := True) hc h1 h4 (bo_1 True.intro) fun r hr => ?_
    have e2 : upd af c 1 = af := by rw [← bo_t ha pC, up_self]
    rw [e2]
    exact f nB r (bo_c hr ⟨fun z => z.resolve_right nB, Or.inl⟩)
  · refine yf_100 (C := False) hc h1 h4 (bo_0 id) fun r hr => ?_
    rw [bo_t hr (Or.inr pB)]
    exact g pC pB
def yf_S (q : Nat → Int32) (x y : Nat) : Prop := q (8 * y + x) = 1
theorem yf_bo {x : Int32} (h : x = 0 ∨ x = 1) : bo_s x (x = 1) := by
  rcases h with h | h
  · exact Or.inr ⟨h, by rw [h]; exact cm_01⟩
  · exact Or.inl ⟨h, h⟩
theorem yf_ch {S D : Nat → Nat → Prop} {m : Nat} {ch : Int32} (h : fo_I M S D m ch) : bo_s ch (ch = 1) := yf_bo (h.2.imp (fun z => z.1) fun z => z.1)
theorem yf_same {S D : Nat → Nat → Prop} {m : Nat} {ch r : Int32} (h : fo_I M S D m ch) (hr : bo_s r (ch = 1)) : r = ch := bo_u hr (yf_ch h) Iff.rfl
theorem yf_cells {post : SY → Prop} {J25 : Int32 → Int32 → (Nat → Int32) → (Nat → Int32) → (Nat → Int32) → (Nat → Int32) → (Nat → Int32) → Prop} {m p : Nat} (hM : cy_T nx M) (hA : ∀ i, i < 64 → af i = 0 ∨ af i = 1) (hF : ∀ c d, c < 8 → d < 8 → ma_F M c d → yf_S af c d) (hm : fo_mu (yf_S af) ≤ m)
    (g : ∀ r q, (∀ i, i < 64 → q i = 0 ∨ q i = 1) → fo_I M (yf_S q) (fun x y => 8 * y + x < 64) m r → J25 r (nI (p + 1)) nx fa td kp q) : ∃ k, wY_follow_39 post J25 (nI p) k 0 0 nx fa td kp af := by
  refine pk_loop (fun k c (q : Int32 × (Nat → Int32)) => wY_follow_39 post J25 (nI p) k q.1 (nI c) nx fa td kp q.2) (fun c q => (∀ i, i < 64 → q.2 i = 0 ∨ q.2 i = 1) ∧ fo_I M (yf_S q.2) (fun x y => 8 * y + x < c) m q.1) 64 0 (0, af) (by omega) ⟨hA, fo_I0 hF hm fun x y _ _ => Nat.not_lt_zero _⟩ ?_ ?_
  · rintro k ⟨r, q⟩ ⟨h1, h2⟩
    exact br_t le_64 (nm_r (nI_1 p) (g r q h1 h2))
  · rintro k c ⟨r, q⟩ hc ⟨h1, h2⟩ f
    have h1' : ∀ i, i < 64 → q i = 0 ∨ q i = 1 := h1
    have h2' : fo_I M (yf_S q) (fun x y => 8 * y + x < c) m r := h2
    have hb : c / 8 < 8 := by omega
    have ha : c % 8 < 8 := by omega
    have e : 8 * (c / 8) + c % 8 = c := by omega
    have hD : ∀ x y, x < 8 → y < 8 → 8 * y + x < c + 1 → 8 * y + x < c ∨ (x = c % 8 ∧ y = c / 8) := fun x y _ _ z => by omega
    have hq : yf_A q (yf_S q) := fun x y hx hy => yf_bo (h1' (8 * y + x) (by omega))
    have hSc : yf_S q (c % 8) (c / 8) ↔ q c = 1 := by unfold yf_S; rw [e]
    have keep : (yf_S q (c % 8) (c / 8) → ma_fo M (yf_S q) (c / 8) (c % 8)) → wY_follow_73 post J25 (wY_follow_39 post J25 (nI p) k) r (nI p) (nI c) nx fa td kp q := fun w =>
      yf_74 (A := r = 1) (B := False) (C := q c = 1) hc (yf_ch h2') (bo_0 id) (yf_bo (h1' c hc)) (fun _ r' hr' => by
        rw [yf_same h2' hr']
        exact f (r, q) ⟨h1', fo_I_keep h2' hD w⟩) (fun _ z => False.elim z) (fun z => False.elim z)
    refine br_f (ng_64 hc) ⟨in_64 hc, ?_⟩
    have ec : q (nI c).toNatClampNeg = q c := by rw [cc_8 (by omega)]
    show (q (nI c).toNatClampNeg = 0 → _) ∧ (¬ q (nI c).toNatClampNeg = 0 → _)
    rw [ec]
    refine bo_b (yf_bo (h1' c hc)) (fun z => keep fun w => absurd (hSc.mp w) z) fun z => ⟨e8_0, e8_0, ?_⟩
    rw [iy_m (by omega), iy_d (by omega)]
    refine yf_answers hM hq ha hb fun r1 hr1 => bo_b hr1 (fun w => ?_) (fun w => keep fun _ => w)
    refine yf_74 (A := r = 1) (B := True) (C := q c = 1) hc (yf_ch h2') (bo_1 True.intro) (yf_bo (h1' c hc)) (fun v => absurd True.intro v) (fun _ _ => ?_) (fun _ => z)
    refine f (1, upd q c 0) ⟨fun i hi => ?_, fo_I_strike ha hb h2' (fun x y hx hy => ?_) (hSc.mpr z) w⟩
    · show upd q c 0 i = 0 ∨ upd q c 0 i = 1
      by_cases ei : i = c
      · rw [ei, pk_us]; exact Or.inl rfl
      · rw [pk_un ei]; exact h1' i hi
    · show upd q c 0 (8 * y + x) = 1 ↔ q (8 * y + x) = 1 ∧ ¬ (x = c % 8 ∧ y = c / 8)
      by_cases ei : 8 * y + x = c
      · rw [ei, pk_us]
        exact ⟨fun v => absurd v cm_01, fun v => absurd ⟨by omega, by omega⟩ v.2⟩
      · rw [pk_un ei]
        exact ⟨fun v => ⟨v, by omega⟩, fun v => v.1⟩
theorem yf_follow {post : SY → Prop} (hM : cy_T nx M) (H : ∀ q, yf_A q (ma_F M) → post (nx, fa, td, kp, q)) : wpY_follow post (nx, fa, td, kp, af) := by
  refine pk_loop (fun k c (t : Nat → Int32) => wY_follow_2 post k (nI c) nx fa td kp t) (fun c t => ∀ j, j < c → t j = 1) 64 0 af (by omega) lt_0 ?_ ?_
  · intro k t h
    have fin : ∀ q, (∀ i, i < 64 → q i = 0 ∨ q i = 1) → (∀ a b, a < 8 → b < 8 → (yf_S q a b ↔ ma_F M a b)) → post (nx, fa, td, kp, q) := fun q h1 h2 =>
      H q fun x y hx hy => bo_c (yf_bo (h1 (8 * y + x) (by omega))) (h2 x y hx hy)
    refine br_t le_64 (pk_loop (fun k i (q : Int32 × (Nat → Int32)) => wY_follow_25 post k q.1 (nI i) nx fa td kp q.2) (fun i q => (∀ i, i < 64 → q.2 i = 0 ∨ q.2 i = 1) ∧ fo_H M (yf_S q.2) i q.1) 65 0 (1, t) (by omega) ⟨fun i hi => Or.inr (h i hi), fo_H0 fun c d hc hd => h _ (by omega)⟩ ?_ ?_)
    · rintro k ⟨r, q⟩ ⟨h1, h2⟩
      exact br_t (by decide) (fin q h1 (fo_H_end h2 (Or.inr (by omega))))
    · rintro k i ⟨r, q⟩ hi ⟨h1, h2⟩ f
      have h2' : fo_H M (yf_S q) i r := h2
      refine br_f (ng_65 hi) (br_c (fun z => fin q h1 (fo_H_end h2' (Or.inl z))) fun z => ?_)
      have k4 : fo_mu (yf_S q) + i ≤ 64 := by
        rcases h2'.2 with ⟨e, _⟩ | ⟨_, e⟩
        · exact absurd e z
        · exact e
      exact yf_cells hM h1 h2'.1 (Nat.le_refl _) fun r' q' h3 h4 => f (r', q') ⟨h3, fo_H_s h4 k4 fun x y _ _ => by omega⟩
  · intro k c t hc h f
    refine br_f (ng_64 hc) ⟨in_64 hc, nm_r (e' := upd t c 1) (by rw [cc_8 (by omega), nb_v1]) (nm_r (nI_1 c) (f _ (lt_s (fun j hj => ?_) pk_us)))⟩
    rw [pk_un (by omega)]
    exact h j hj
end
