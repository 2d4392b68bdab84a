section
variable {r0 : Int32} {s ls sr ap ab aw tr fo : Nat → Int32} {M : Nat → Nat → Nat → Prop}
theorem xc_hasStep {post : Int32 → Prop} (hM : cx_T s M) (x y z : Int32)
    (H : ∀ r, bo_s r (∃ a b l, a < 8 ∧ b < 8 ∧ l < 3 ∧ x = nI a ∧ y = nI b ∧ z = nI l ∧ M a l b) → post r) : wpX_hasStep post (r0, s, ls, sr, ap, ab, aw, tr, fo) x y z := by
  refine xc_isState x fun r hr => bo_b hr (fun n => H 0 (bo_0 ?_)) fun p => ?_
  · rintro ⟨a, b, l, ha, hb, hl, e1, e2, e3, _⟩
    exact n ⟨a, ha, e1⟩
  refine xc_isState y fun r hr => bo_b hr (fun n => H 0 (bo_0 ?_)) fun p' => ?_
  · rintro ⟨a, b, l, ha, hb, hl, e1, e2, e3, _⟩
    exact n ⟨b, hb, e2⟩
  refine xc_isLabel z fun r hr => bo_b hr (fun n => H 0 (bo_0 ?_)) fun p'' => ?_
  · rintro ⟨a, b, l, ha, hb, hl, e1, e2, e3, _⟩
    exact n ⟨l, hl, e3⟩
  obtain ⟨a, ha, rfl⟩ := p
  obtain ⟨b, hb, rfl⟩ := p'
  obtain ⟨l, hl, rfl⟩ := p''
  refine ⟨in_3 ha hl, xc_if (cx_Tc hM ha hl) hb (fun n => H 0 (bo_0 ?_)) fun p => H 1 (bo_1 ⟨a, b, l, ha, hb, hl, rfl, rfl, rfl, p⟩)⟩
  rintro ⟨a', b', l', ha', hb', hl', e1, e2, e3, hm⟩
  rw [nI_eq (by omega) (by omega)] at e1 e2 e3
  subst e1 e2 e3
  exact n hm
theorem xc_countGroups {post : Int32 → Prop} (hp : cx_P ap (ma_T M 7)) (H : post (nI (ma_cnt (ma_ld M 7) 8))) : wpX_countGroups post (r0, s, ls, sr, ap, ab, aw, tr, fo) := by
  refine pk_loop (fun n i (c : Int32) => wX_countGroups_4 post r0 s ls sr ap ab aw tr fo n c (nI i)) (fun i c => c = nI (ma_cnt (ma_ld M 7) i)) 8 0 0 (by omega) rfl ?_ ?_
  · intro n c h
    refine br_t le_8 ?_
    rw [h]; exact H
  · intro n i c hi h k
    subst h
    refine br_f (ng_8 hi) (nm_e ⟨in_8 hi, ek_if (d := ma_ld M 7 i) ?_ (fun z => nm_r (nI_1 _) (nm_r (nI_1 i) (k _ ?_))) (fun z => nm_r (nI_1 i) (k _ ?_))⟩)
    · refine (cm_P_sub (cm_P_low hi) (cx_Pc hp hi)).trans ⟨fun z b hb => z b (by omega) hb, fun z d _ hd => z d hd⟩
    · rw [ma_cnt_t z]
    · rw [ma_cnt_f z]
theorem xs_stepFrom {post : Int32 → Prop} {P : Nat → Prop} {x : Int32} {l : Nat} (hM : cx_T s M) (hP : cm_P x P) (hl : l < 3) (H : ∀ r, cm_P r (rc_s M P l 8) → post r) : wpX_stepFrom post (r0, s, ls, sr, ap, ab, aw, tr, fo) x (nI l) :=
  pk_loop (fun n i (c : Int32) => wX_stepFrom_5 post x (nI l) r0 s ls sr ap ab aw tr fo n c (nI i)) (fun i c => cm_P c (rc_s M P l i)) 8 0 0 (by omega) rc_P0
    (fun n c h => br_t le_8 (H c h))
    (fun n i c hi h k => br_f (ng_8 hi) (xc_if hP hi (fun np => nm_r (nI_1 i) (k _ (rc_Pn h np))) (fun p => ⟨in_3 hi hl, nm_e (nm_r (nI_1 i) (k _ (rc_Py h (cx_Tc hM hi hl) p)))⟩)))
theorem xs_reach {post : Int32 → Prop} {a : Nat} (hM : cx_T s M) (ha : a < 8) (H : ∀ r, cm_P r (ma_rch M a) → post r) : wpX_reachSilently post (r0, s, ls, sr, ap, ab, aw, tr, fo) (nI a) := by
  refine nm_e (pk_loop (fun n i (c : Int32) => wX_reachSilently_6 post r0 s ls sr ap ab aw tr fo n c (nI i)) (fun i c => ∃ m, i = m + 1 ∧ cm_P c (ma_R M a m)) 8 1 _ (by omega) ⟨0, rfl, rc_R0 ha⟩ ?_ ?_)
  · rintro n c ⟨m, e, h⟩
    have e' : m = 7 := by omega
    subst e'
    exact br_t le_8 (H c h)
  · rintro n i c hi ⟨m, e, h⟩ k
    subst e
    exact br_f (ng_8 hi) (xs_stepFrom (l := 0) hM h (by omega) fun r hr => nm_e (nm_r (nI_1 (m + 1)) (k _ ⟨m + 1, rfl, rc_R1 h hr⟩)))
theorem xs_widen {post : Int32 → Prop} {P : Nat → Prop} {x : Int32} (hS : ∀ i, i < 8 → cm_P (sr i) (ma_rch M i)) (hP : cm_P x P) (H : ∀ r, cm_P r (rc_s (rc_q M) P 0 8) → post r) : wpX_widenSilently post (r0, s, ls, sr, ap, ab, aw, tr, fo) x :=
  pk_loop (fun n i (c : Int32) => wX_widenSilently_4 post x r0 s ls sr ap ab aw tr fo n c (nI i)) (fun i c => cm_P c (rc_s (rc_q M) P 0 i)) 8 0 0 (by omega) rc_P0
    (fun n c h => br_t le_8 (H c h))
    (fun n i c hi h k => br_f (ng_8 hi) (xc_if hP hi (fun np => nm_r (nI_1 i) (k _ (rc_Pn h np))) (fun p => ⟨in_8 hi, nm_r (e' := c ||| sr i) (by rw [cc_8 (by omega)]) (nm_r (nI_1 i) (k _ (rc_Py h (hS i hi) p)))⟩)))
/-- the first rows of the long steps are made -/
def xl_I (M : Nat → Nat → Nat → Prop) (a l : Nat) (q : Nat → Int32) : Prop := (∀ j k, j < a → k < 3 → cm_P (q (j * 3 + k)) (ma_L M j k)) ∧ ∀ k, k < l → cm_P (q (a * 3 + k)) (ma_L M a k)
theorem xl_put {a l : Nat} {q : Nat → Int32} {x : Int32} (hl : l < 3) (h : xl_I M a l q) (hx : cm_P x (ma_L M a l)) : xl_I M a (l + 1) (upd q (a * 3 + l) x) := by
  refine ⟨fun j k hj hk => ?_, fun k hk => ?_⟩
  · rw [pk_un (by omega)]
    exact h.1 j k hj hk
  · by_cases e : k = l
    · subst e
      rw [pk_us]; exact hx
    · rw [pk_un (by omega)]
      exact h.2 k (by omega)
theorem xl_row {a : Nat} {q : Nat → Int32} (h : xl_I M a 3 q) : xl_I M (a + 1) 0 q := by
  refine ⟨fun j k hj hk => ?_, lt_0⟩
  by_cases e : j = a
  · subst e
    exact h.2 k hk
  · exact h.1 j k (by omega) hk
theorem xl_in {post : SX → Prop} {J : Int32 → (Nat → Int32) → (Nat → Int32) → (Nat → Int32) → (Nat → Int32) → (Nat → Int32) → (Nat → Int32) → (Nat → Int32) → (Nat → Int32) → Prop} {a : Nat} (hM : cx_T s M) (hS : ∀ i, i < 8 → cm_P (sr i) (ma_rch M i)) (ha : a < 8) (h0 : xl_I M a 1 ls)
    (g : ∀ q, xl_I M (a + 1) 0 q → J (nI (a + 1)) s q sr ap ab aw tr fo) : ∃ n, wX_makeLongSteps_51 post J (nI a) r0 n 1 s ls sr ap ab aw tr fo := by
  refine pk_loop (fun n i (q : Nat → Int32) => wX_makeLongSteps_51 post J (nI a) r0 n (nI i) s q sr ap ab aw tr fo) (fun i q => 1 ≤ i ∧ xl_I M a i q) 3 1 ls (by omega) ⟨by omega, h0⟩ ?_ ?_
  · intro n q h
    exact br_t le_3 (nm_r (nI_1 a) (g q (xl_row h.2)))
  · intro n i q hi h k
    refine br_f (ng_3 hi) ⟨in_8 ha, xs_stepFrom (P := ma_rch M a) hM (by rw [cc_8 (by omega)]; exact hS a ha) hi fun r hr => xs_widen hS hr fun r' hr' => ?_⟩
    exact ⟨in_3 ha hi, nm_r (e' := upd q (a * 3 + i) r') (by rw [cc_3 ha hi]) (nm_r (nI_1 i) (k _ ⟨by omega, xl_put hi h.2 (rc_L1 (by omega) hr')⟩))⟩
theorem xl_makeLong {post : SX → Prop} (hM : cx_T s M) (H : ∀ q q', cx_T q (ma_L M) → post (r0, s, q, q', ap, ab, aw, tr, fo)) : wpX_makeLongSteps post (r0, s, ls, sr, ap, ab, aw, tr, fo) := by
  refine pk_loop (fun n i (q : Nat → Int32) => wX_makeLongSteps_2 post r0 n (nI i) s ls q ap ab aw tr fo) (fun i q => ∀ j, j < i → cm_P (q j) (ma_rch M j)) 8 0 sr (by omega) lt_0 ?_ ?_
  · intro n q h
    refine br_t le_8 (pk_loop (fun n i (p : Nat → Int32) => wX_makeLongSteps_27 post r0 n (nI i) s p q ap ab aw tr fo) (fun i p => xl_I M i 0 p) 8 0 ls (by omega) ⟨fun j k hj => absurd hj (Nat.not_lt_zero _), lt_0⟩ ?_ ?_)
    · intro n p h'
      exact br_t le_8 (H p q fun a l ha hl => h'.1 a l ha hl)
    · intro n i p hi h' k
      refine br_f (ng_8 hi) ⟨in_8 hi, in_3 (l := 0) hi (by omega), nm_r (e' := upd p (i * 3 + 0) (q i)) ?_ (xl_in hM h hi (xl_put (by omega) h' (rc_L0 (h i hi))) fun p' hp' => k p' hp')⟩
      rw [cc_8 (by omega)]
      exact congrArg (fun z => upd p z (q i)) (cc_3 (l := 0) hi (by omega))
  · intro n i q hi h k
    refine br_f (ng_8 hi) (xs_reach hM hi fun r hr => ⟨in_8 hi, nm_r (e' := upd q i r) (by rw [cc_8 (by omega)]) (nm_r (nI_1 i) (k _ (lt_s (fun j hj => ?_) ?_)))⟩)
    · rw [pk_un (by omega)]
      exact h j hj
    · rw [pk_us]; exact hr
theorem xf_in {post J : Int32 → Prop} {S : Nat → Nat → Prop} {a b l : Nat} (hM : cx_T s M) (hF : cx_P fo S) (ha : a < 8) (hb : b < 8) (hl : l < 3)
    (f : (∃ c, c < 8 ∧ M a l c ∧ ∀ d, d < 8 → M b l d → ¬ S c d) → post 0) (g : (∀ c, c < 8 → M a l c → ¬ ∀ d, d < 8 → M b l d → ¬ S c d) → J (nI (l + 1))) :
    ∃ n, wX_canFollow_22 post J (nI b) (nI a) (nI l) (s (nI b * 3 + nI l).toNatClampNeg) r0 s ls sr ap ab aw tr fo n 0 :=
  lq_1 (fun n i => wX_canFollow_22 post J (nI b) (nI a) (nI l) (s (nI b * 3 + nI l).toNatClampNeg) r0 s ls sr ap ab aw tr fo n (nI i))
    (fun i => ∀ c, c < i → M a l c → ¬ ∀ d, d < 8 → M b l d → ¬ S c d) 8 0 (by omega) lt_0
    (fun n h => br_t le_8 (nm_r (nI_1 l) (g h)))
    (fun n i hi h k => br_f (ng_8 hi) ⟨in_3 ha hl, xc_if (cx_Tc hM ha hl) hi
      (fun p => nm_r (nI_1 i) (k (lt_s h fun z => absurd z p)))
      (fun p => ⟨in_8 hi, ek_if (cm_P_dis (cx_Tc hM hb hl) (cx_Pc hF hi)) (fun z => f ⟨i, hi, p, z⟩) (fun z => nm_r (nI_1 i) (k (lt_s h fun _ => z)))⟩)⟩)
theorem xf_canFollow {post : Int32 → Prop} {S : Nat → Nat → Prop} {a b : Nat} (hM : cx_T s M) (hF : cx_P fo S) (ha : a < 8) (hb : b < 8)
    (H : ∀ r, bo_s r (ma_fo M S b a) → post r) : wpX_canFollow post (r0, s, ls, sr, ap, ab, aw, tr, fo) (nI b) (nI a) := by
  refine lq_1 (fun n i => wX_canFollow_2 post (nI b) (nI a) r0 s ls sr ap ab aw tr fo n (nI i))
    (fun i => ∀ l, l < i → ∀ c, c < 8 → M a l c → ¬ ∀ d, d < 8 → M b l d → ¬ S c d) 3 0 (by omega) lt_0 ?_ ?_
  · intro n h
    refine br_t le_3 (H 1 (bo_1 fun l c hl hc hm => Classical.byContradiction fun z => h l hl c hc hm fun d hd hm' hs => z ⟨d, hd, hm', hs⟩))
  · intro n i hi h k
    refine br_f (ng_3 hi) ⟨in_3 hb hi, nm_e (xf_in hM hF ha hb hi (fun ⟨c, hc, hm, hd⟩ => H 0 (bo_0 fun z => ?_)) (fun z => k (lt_s h z)))⟩
    obtain ⟨d, hd', hm', hs⟩ := z i c hi hc hm
    exact hd d hd' hm' hs
/-- who follows whom, as the table says -/
def xf_S (q : Nat → Int32) (x y : Nat) : Prop := bt (q x) y = true
theorem xf_del {q : Nat → Int32} {a b : Nat} (ha : a < 8) (hb : b < 8) (h : cx_P q (xf_S q)) :
    cx_P (upd q a (q a &&& (((1 : Int32) <<< (nI b &&& 31)) ^^^ (-1)))) (xf_S (upd q a (q a &&& (((1 : Int32) <<< (nI b &&& 31)) ^^^ (-1))))) ∧
    ∀ x y, x < 8 → y < 8 → (xf_S (upd q a (q a &&& (((1 : Int32) <<< (nI b &&& 31)) ^^^ (-1)))) x y ↔ xf_S q x y ∧ ¬ (x = a ∧ y = b)) := by
  constructor
  · intro x hx
    refine ⟨?_, fun y _ => Iff.rfl⟩
    by_cases e : x = a
    · subst e
      rw [pk_us]
      exact cm_and (h x hx).1
    · rw [pk_un e]
      exact (h x hx).1
  · intro x y hx hy
    unfold xf_S
    by_cases e : x = a
    · subst e
      rw [pk_us, cm_del hb hy]
      exact and_congr Iff.rfl ⟨fun z w => z w.2, fun z w => z ⟨rfl, w⟩⟩
    · rw [pk_un e]
      exact ⟨fun z => ⟨z, fun w => e w.1⟩, fun z => z.1⟩
theorem xf_row {post : Int32 → SX → Prop} {J : Int32 → Int32 → (Nat → Int32) → (Nat → Int32) → (Nat → Int32) → (Nat → Int32) → (Nat → Int32) → (Nat → Int32) → (Nat → Int32) → (Nat → Int32) → Prop} {ch : Int32} {a m : Nat} (hM : cx_T s M) (ha : a < 8)
    (h0 : cx_P fo (xf_S fo) ∧ fo_I M (xf_S fo) (fun x y => x < a ∨ (x = a ∧ y < 0)) m ch)
    (g : ∀ c q, cx_P q (xf_S q) ∧ fo_I M (xf_S q) (fun x y => x < a ∨ (x = a ∧ y < 8)) m c → J c (nI (a + 1)) s ls sr ap ab aw tr q) :
    ∃ n, wX_strikeFollowing_12 post J (nI a) r0 n ch 0 s ls sr ap ab aw tr fo := by
  refine pk_loop (fun n i (q : Int32 × (Nat → Int32)) => wX_strikeFollowing_12 post J (nI a) r0 n q.1 (nI i) s ls sr ap ab aw tr q.2)
    (fun i q => cx_P q.2 (xf_S q.2) ∧ fo_I M (xf_S q.2) (fun x y => x < a ∨ (x = a ∧ y < i)) m q.1) 8 0 (ch, fo) (by omega) h0 ?_ ?_
  · rintro n ⟨c, q⟩ h
    exact br_t le_8 (nm_r (nI_1 a) (g c q h))
  · rintro n i ⟨c, q⟩ hi h k
    have hq : cx_P q (xf_S q) := h.1
    have hI : fo_I M (xf_S q) (fun x y => x < a ∨ (x = a ∧ y < i)) m c := h.2
    have hD : ∀ x y, x < 8 → y < 8 → (x < a ∨ (x = a ∧ y < i + 1)) → (x < a ∨ (x = a ∧ y < i)) ∨ (x = a ∧ y = i) := fun x y _ _ z => by omega
    refine br_f (ng_8 hi) ⟨in_8 ha, xc_if (cx_Pc hq ha) hi (fun n1 => nm_r (nI_1 i) (k (c, q) ⟨hq, fo_I_keep hI hD fun z => absurd z n1⟩)) fun p1 => ?_⟩
    refine xf_canFollow hM hq ha hi fun r hr => bo_b hr (fun n2 => ?_) (fun p2 => nm_r (nI_1 i) (k (c, q) ⟨hq, fo_I_keep hI hD fun _ => p2⟩))
    have hd := xf_del ha hi hq
    exact ⟨in_8 ha, in_8 ha, nm_r (e' := upd q a (q a &&& (((1 : Int32) <<< (nI i &&& 31)) ^^^ (-1)))) (by rw [cc_8 (by omega)]) (nm_r (nI_1 i) (k (1, _) ⟨hd.1, fo_I_strike ha hi hI hd.2 p1 n2⟩))⟩
theorem xf_strike {post : Int32 → SX → Prop} {m : Nat} (hM : cx_T s M) (hq : cx_P fo (xf_S fo)) (hF : ∀ c d, c < 8 → d < 8 → ma_F M c d → xf_S fo c d) (hm : fo_mu (xf_S fo) ≤ m)
    (H : ∀ c q, cx_P q (xf_S q) → fo_I M (xf_S q) (fun x _ => x < 8) m c → post c (r0, s, ls, sr, ap, ab, aw, tr, q)) :
    wpX_strikeFollowing post (r0, s, ls, sr, ap, ab, aw, tr, fo) := by
  refine pk_loop (fun n i (q : Int32 × (Nat → Int32)) => wX_strikeFollowing_4 post r0 n q.1 (nI i) s ls sr ap ab aw tr q.2)
    (fun i q => cx_P q.2 (xf_S q.2) ∧ fo_I M (xf_S q.2) (fun x _ => x < i) m q.1) 8 0 (0, fo) (by omega) ⟨hq, fo_I0 hF hm fun x y _ _ => Nat.not_lt_zero _⟩ ?_ ?_
  · rintro n ⟨c, q⟩ ⟨h1, h2⟩
    refine br_t le_8 ⟨?_, H c q h1 h2⟩
    have h3 : fo_I M (xf_S q) (fun x _ => x < 8) m c := h2
    rcases h3.2 with ⟨e, _⟩ | ⟨e, _⟩
    · rw [show (c, q).1 = c from rfl, e]; exact nb_0
    · rw [show (c, q).1 = c from rfl, e]; exact nb_1
  · rintro n i ⟨c, q⟩ hi ⟨h1, h2⟩ k
    exact br_f (ng_8 hi) (xf_row (m := m) hM hi ⟨h1, fo_I_D h2 fun x y _ _ z => by omega⟩ fun c' q' h' => k (c', q') ⟨h'.1, fo_I_D h'.2 fun x y _ hy z => by omega⟩)
theorem xf_find {post : SX → Prop} (hM : cx_T s M) (H : ∀ q, cx_P q (ma_F M) → post (r0, s, ls, sr, ap, ab, aw, tr, q)) : wpX_findFollowing post (r0, s, ls, sr, ap, ab, aw, tr, fo) := by
  refine pk_loop (fun n i (q : Nat → Int32) => wX_findFollowing_2 post r0 n (nI i) s ls sr ap ab aw tr q) (fun i q => ∀ j, j < i → q j = 255) 8 0 fo (by omega) lt_0 ?_ ?_
  · intro n q h
    have h1 : cx_P q (xf_S q) := fun a ha => ⟨by rw [h a ha]; exact cm_255, fun _ _ => Iff.rfl⟩
    have h2 : ∀ c d, c < 8 → d < 8 → xf_S q c d := fun c d hc hd => by
      unfold xf_S
      rw [h c hc, b_255, decide_eq_true hd]
    refine br_t le_8 (pk_loop (fun n i (p : Int32 × (Nat → Int32)) => wX_findFollowing_27 post n p.1 (nI i) r0 s ls sr ap ab aw tr p.2) (fun i p => cx_P p.2 (xf_S p.2) ∧ fo_H M (xf_S p.2) i p.1) 65 0 (1, q) (by omega) ⟨h1, fo_H0 h2⟩ ?_ ?_)
    · rintro n ⟨c, p⟩ ⟨k1, k2⟩
      have k3 : post (r0, s, ls, sr, ap, ab, aw, tr, p) := H p (cx_P_c k1 (fo_H_end k2 (Or.inr (by omega))))
      exact br_c (fun _ => k3) (fun _ => br_t (by decide) k3)
    · rintro n i ⟨c, p⟩ hi ⟨k1, k2⟩ k
      have k1' : cx_P p (xf_S p) := k1
      have k2' : fo_H M (xf_S p) i c := k2
      refine br_c (fun z => H p (cx_P_c k1 (fo_H_end k2' (Or.inl z)))) (fun z => br_f (nI_nlt (b := i) (a := 64) (by omega) (by omega)) ?_)
      have k4 : fo_mu (xf_S p) + i ≤ 64 := by
        rcases k2'.2 with ⟨e, _⟩ | ⟨_, e⟩
        · exact absurd e z
        · exact e
      exact xf_strike hM k1' k2'.1 (Nat.le_refl _) fun c' q' h3 h4 => nm_r (nI_1 i) (k (c', q') ⟨h3, fo_H_s h4 k4 fun x _ hx _ => hx⟩)
  · intro n i q hi h k
    refine br_f (ng_8 hi) ⟨in_8 hi, nm_r (e' := upd q i 255) (by rw [cc_8 (by omega)]) (nm_r (nI_1 i) (k _ (lt_s (fun j hj => ?_) pk_us)))⟩
    rw [pk_un (by omega)]
    exact h j hj
theorem xq_in {post : Int32 → Prop} {J : Int32 → Int32 → Prop} {i c : Nat} (hi : i < 24) (g : J (nI (c + sq_b (s i) 8)) (nI (i + 1))) : ∃ n, wX_steps_12 post J (nI i) r0 s ls sr ap ab aw tr fo n (nI c) 0 := by
  refine pk_loop (fun n b (x : Int32) => wX_steps_12 post J (nI i) r0 s ls sr ap ab aw tr fo n x (nI b)) (fun b x => x = nI (c + sq_b (s i) b)) 8 0 (nI c) (by omega) rfl ?_ ?_
  · intro n x h
    refine br_t le_8 (nm_r (nI_1 i) ?_)
    rw [h]; exact g
  · intro n b x hb h k
    subst h
    refine br_f (ng_8 hb) ⟨in_24 hi, nm_r (e' := nI (c + sq_b (s i) (b + 1))) ?_ (nm_r (nI_1 b) (k _ rfl))⟩
    rw [cc_8 (by omega), sq_1 _ hb, nI_add]
    exact congrArg nI (Nat.add_assoc _ _ _)
theorem xq_steps {post : Int32 → Prop} (H : post (nI (sq_m (fun i => sq_b (s i) 8) 24))) : wpX_steps post (r0, s, ls, sr, ap, ab, aw, tr, fo) := by
  refine pk_loop (fun n i (x : Int32) => wX_steps_4 post r0 s ls sr ap ab aw tr fo n x (nI i)) (fun i x => x = nI (sq_m (fun i => sq_b (s i) 8) i)) 24 0 0 (by omega) rfl ?_ ?_
  · intro n x h
    refine br_t le_24 ?_
    rw [h]; exact H
  · intro n i x hi h k
    subst h
    exact br_f (ng_24 hi) (xq_in hi (k _ rfl))
end
