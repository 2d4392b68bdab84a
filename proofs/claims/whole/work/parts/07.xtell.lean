section
variable {r0 : Int32} {s ls sr ap ab aw tr fo : Nat → Int32} {M : Nat → Nat → Nat → Prop}
theorem xt_in_stepSets {post J : Int32 → Prop} {Q : Nat → Nat → Prop} {a b l : Nat} (hM : cx_T s M) (hB : cx_P ab Q) (ha : a < 8) (hb : b < 8) (hl : l < 3)
    (f : (∃ c, c < 8 ∧ M a l c ∧ ∀ d, d < 8 → M b l d → Q c d) → post 1) (g : (∀ c, c < 8 → M a l c → ¬ ∀ d, d < 8 → M b l d → Q c d) → J (nI (l + 1))) :
    ∃ n, wX_canTell__stepSets_22 post J (nI a) (nI b) (nI l) (s (nI b * 3 + nI l).toNatClampNeg) r0 s ls sr ap ab aw tr fo n 0 :=
  lq_1 (fun n i => wX_canTell__stepSets_22 post J (nI a) (nI b) (nI l) (s (nI b * 3 + nI l).toNatClampNeg) r0 s ls sr ap ab aw tr fo n (nI i))
    (fun i => ∀ c, c < i → M a l c → ¬ ∀ d, d < 8 → M b l d → Q c d) 8 0 (by omega) lt_0
    (fun n h => br_t le_8 (nm_r (nI_1 l) (g h)))
    (fun n i hi h k => br_f (ng_8 hi) ⟨in_3 ha hl, xc_if (cx_Tc hM ha hl) hi
      (fun p => nm_r (nI_1 i) (k (lt_s h fun z => absurd z p)))
      (fun p => ⟨in_8 hi, ek_if (cm_P_sub (cx_Tc hM hb hl) (cx_Pc hB hi)) (fun z => f ⟨i, hi, p, z⟩) (fun z => nm_r (nI_1 i) (k (lt_s h fun _ => z)))⟩)⟩)
theorem xt_canTell_stepSets {post : Int32 → Prop} {Q : Nat → Nat → Prop} {a b : Nat} (hM : cx_T s M) (hB : cx_P ab Q) (ha : a < 8) (hb : b < 8)
    (H : ∀ r, bo_s r (ma_one M Q a b) → post r) : wpX_canTell__stepSets post (r0, s, ls, sr, ap, ab, aw, tr, fo) (nI a) (nI b) :=
  lq_1 (fun n i => wX_canTell__stepSets_3 post (nI a) (nI b) r0 s ls sr ap ab aw tr fo n (nI i))
    (fun i => ∀ l, l < i → ∀ c, c < 8 → M a l c → ¬ ∀ d, d < 8 → M b l d → Q c d) 3 0 (by omega) lt_0
    (fun n h => br_t le_3 (H 0 (bo_0 fun ⟨l, c, hl, hc, hm, hd⟩ => h l hl c hc hm hd)))
    (fun n i hi h k => br_f (ng_3 hi) ⟨in_3 hb hi, nm_e (xt_in_stepSets hM hB ha hb hi (fun ⟨c, hc, hm, hd⟩ => H 1 (bo_1 ⟨i, c, hi, hc, hm, hd⟩)) (fun z => k (lt_s h z)))⟩)
theorem xp_put_stepSets {post : SX → Prop} {J2 J11 : Int32 → (Nat → Int32) → (Nat → Int32) → (Nat → Int32) → (Nat → Int32) → (Nat → Int32) → (Nat → Int32) → (Nat → Int32) → (Nat → Int32) → Prop} {x2 : Int32} {a b : Nat} (ha : a < 8) (hb : b < 8)
    (H : J11 (nI (b + 1)) s ls sr (upd (upd ap a (ap a ||| ((1 : Int32) <<< (nI b &&& 31)))) b ((upd ap a (ap a ||| ((1 : Int32) <<< (nI b &&& 31)))) b ||| ((1 : Int32) <<< (nI a &&& 31)))) ab aw (upd (upd tr (a * 8 + b) x2) (b * 8 + a) x2) fo) :
    wX_playRound__stepSets_56 post J2 J11 x2 (nI a) (nI b) r0 s ls sr ap ab aw tr fo :=
  ⟨in_8 ha, in_8 ha, nm_r (e' := upd ap a (ap a ||| ((1 : Int32) <<< (nI b &&& 31)))) (by rw [cc_8 (by omega)]) ⟨in_8 hb, in_8 hb,
    nm_r (e' := upd (upd ap a (ap a ||| ((1 : Int32) <<< (nI b &&& 31)))) b ((upd ap a (ap a ||| ((1 : Int32) <<< (nI b &&& 31)))) b ||| ((1 : Int32) <<< (nI a &&& 31)))) (by rw [cc_8 (by omega)])
    ⟨in_88 ha hb, nm_r (e' := upd tr (a * 8 + b) x2) (by rw [cc_88 ha hb]) ⟨in_88 hb ha, nm_r (e' := upd (upd tr (a * 8 + b) x2) (b * 8 + a) x2) (by rw [cc_88 hb ha]) (nm_r (nI_1 b) H)⟩⟩⟩⟩
theorem xp_in_stepSets {post : SX → Prop} {J2 : Int32 → (Nat → Int32) → (Nat → Int32) → (Nat → Int32) → (Nat → Int32) → (Nat → Int32) → (Nat → Int32) → (Nat → Int32) → (Nat → Int32) → Prop} {m a : Nat} (hM : cx_T s M) (hB : cx_P ab (ma_T M m)) (ha : a < 8) (h0 : cx_J M m a 0 ap tr)
    (g : ∀ p t, cx_J M m a a p t → J2 (nI (a + 1)) s ls sr p ab aw t fo) :
    ∃ n, wX_playRound__stepSets_11 post J2 (nI (m + 1)) (nI a) r0 n 0 s ls sr ap ab aw tr fo :=
  pk_loop (fun n i (q : (Nat → Int32) × (Nat → Int32)) => wX_playRound__stepSets_11 post J2 (nI (m + 1)) (nI a) r0 n (nI i) s ls sr q.1 ab aw q.2 fo)
    (fun i q => cx_J M m a i q.1 q.2) a 0 (ap, tr) (Nat.zero_le _) h0
    (fun n q h => br_t (nI_le (Nat.le_refl a) (by omega)) (nm_r (nI_1 a) (g q.1 q.2 h)))
    (fun n i q hi h k => br_f (nI_ge hi (by omega)) ⟨in_8 ha, xc_if (cx_Pc hB ha) (by omega)
      (fun np => xt_canTell_stepSets hM hB ha (by omega) fun r hr => bo_b hr
        (fun n1 => xt_canTell_stepSets hM hB (by omega) ha fun r2 hr2 => bo_b hr2
          (fun n2 => nm_r (nI_1 i) (k q (cx_J_keep hi h (Or.inr fun z => Or.elim z n1 n2))))
          (fun p2 => xp_put_stepSets ha (by omega) (k (_, _) (cx_J_put ha hi h np (Or.inr p2)))))
        (fun p1 => xp_put_stepSets ha (by omega) (k (_, _) (cx_J_put ha hi h np (Or.inl p1)))))
      (fun p => nm_r (nI_1 i) (k q (cx_J_keep hi h (Or.inl p))))⟩)
theorem xp_playRound_stepSets {post : SX → Prop} {m : Nat} (hM : cx_T s M) (hB : cx_P ab (ma_T M m)) (hp : cx_P ap (ma_T M m)) (ht : cx_told M ap tr)
    (H : ∀ p t, cx_P p (ma_T M (m + 1)) ∧ cx_told M p t → post (r0, s, ls, sr, p, ab, aw, t, fo)) :
    wpX_playRound__stepSets post (r0, s, ls, sr, ap, ab, aw, tr, fo) (nI (m + 1)) :=
  pk_loop (fun n i (q : (Nat → Int32) × (Nat → Int32)) => wX_playRound__stepSets_2 post (nI (m + 1)) r0 n (nI i) s ls sr q.1 ab aw q.2 fo)
    (fun i q => cx_J M m i 0 q.1 q.2) 8 0 (ap, tr) (by omega) (cx_J0 hp ht)
    (fun n q h => br_t le_8 (H q.1 q.2 (cx_J_end h)))
    (fun n i q hi h k => br_f (ng_8 hi) (xp_in_stepSets hM hB hi h fun p t h' => k (p, t) (cx_J_row h')))
theorem xt_rounds_stepSets {post : SX → Prop} (hM : cx_T s M) (hp : cx_P ap (ma_T M 0)) (ht : cx_told M ap tr)
    (H : ∀ r p b t, cx_E M p t r → post (r, s, ls, sr, p, b, aw, t, fo)) :
    ∃ n, wX_tellApart__stepSets_28 post n 1 0 s ls sr ap ab aw tr fo := by
  refine pk_loop (fun n i (q : Int32 × (Nat → Int32) × (Nat → Int32) × (Nat → Int32)) => wX_tellApart__stepSets_28 post n (nI i) q.1 s ls sr q.2.1 q.2.2.1 aw q.2.2.2 fo)
    (fun i q => ∃ m, i = m + 1 ∧ q.1 = nI m ∧ cx_P q.2.1 (ma_T M m) ∧ cx_told M q.2.1 q.2.2.2 ∧ ∀ j, j < m → ¬ ma_st M j) 8 1 (0, ap, ab, tr) (by omega) ⟨0, rfl, rfl, hp, ht, lt_0⟩ ?_ ?_
  · rintro n ⟨r, p, b, t⟩ ⟨m, e1, e2, h1, h2, h3⟩
    have e3 : m = 7 := by omega
    subst e3
    refine br_t le_8 (H r p b t ?_)
    have e2' : r = nI 7 := e2
    rw [e2']
    exact cx_E_st h1 h2 ma_st7 h3
  · rintro n i ⟨r, p, b, t⟩ hi ⟨m, e1, e2, h1, h2, h3⟩ k
    subst e1
    have e2' : r = nI m := e2
    subst e2'
    refine br_f (ng_8 hi) (xc_copyB fun b' hb' => ?_)
    have h1' : cx_P p (ma_T M m) := h1
    have hB : cx_P b' (ma_T M m) := fun a ha => by rw [hb' a ha]; exact h1' a ha
    refine xp_playRound_stepSets hM hB h1 h2 fun p' t' h' => ?_
    refine xc_sameB fun r hr => ?_
    refine bo_b (bo_c hr (cx_st h'.1 hB)) (fun z => nm_r (nI_1 (m + 1)) (k (nI (m + 1), p', b', t') ⟨m + 1, rfl, rfl, h'.1, h'.2, lt_s h3 z⟩)) (fun z => H (nI m) p' b' t' ?_)
    exact cx_E_st (cx_P_c h'.1 fun x y hx hy => ⟨z x y hx hy, ma_T_up _ _ _⟩) h'.2 z h3
theorem xt_tellApart_stepSets {post : SX → Prop} (hM : cx_T s M)
    (H : ∀ r p b t, cx_E M p t r → post (r, s, ls, sr, p, b, aw, t, fo)) :
    wpX_tellApart__stepSets post (r0, s, ls, sr, ap, ab, aw, tr, fo) := by
  refine pk_loop (fun n i (q : Nat → Int32) => wX_tellApart__stepSets_2 post r0 n (nI i) s ls sr q ab aw tr fo)
    (fun i q => ∀ j, j < i → q j = 0) 8 0 ap (by omega) lt_0 ?_ ?_
  · intro n q h
    refine br_t le_8 (xt_rounds_stepSets hM ?_ ?_ H)
    · intro a ha
      rw [h a ha]
      exact cm_P_0
    · intro x y hx hy hz
      rw [h x hx, b_0] at hz
      exact absurd hz (by decide)
  · intro n i q hi h k
    refine br_f (ng_8 hi) ⟨in_8 hi, nm_r (e' := upd q i 0) (by rw [cc_8 (by omega)]) (nm_r (nI_1 i) (k _ (lt_s (fun j hj => ?_) pk_us)))⟩
    rw [pk_un (by omega)]
    exact h j hj
end
section
variable {r0 : Int32} {s ls sr ap ab aw tr fo : Nat → Int32} {M : Nat → Nat → Nat → Prop}
theorem xt_in_longStepSets {post J : Int32 → Prop} {Q : Nat → Nat → Prop} {a b l : Nat} (hM : cx_T ls M) (hB : cx_P ab Q) (ha : a < 8) (hb : b < 8) (hl : l < 3)
    (f : (∃ c, c < 8 ∧ M a l c ∧ ∀ d, d < 8 → M b l d → Q c d) → post 1) (g : (∀ c, c < 8 → M a l c → ¬ ∀ d, d < 8 → M b l d → Q c d) → J (nI (l + 1))) :
    ∃ n, wX_canTell__longStepSets_22 post J (nI a) (nI b) (nI l) (ls (nI b * 3 + nI l).toNatClampNeg) r0 s ls sr ap ab aw tr fo n 0 :=
  lq_1 (fun n i => wX_canTell__longStepSets_22 post J (nI a) (nI b) (nI l) (ls (nI b * 3 + nI l).toNatClampNeg) r0 s ls sr ap ab aw tr fo n (nI i))
    (fun i => ∀ c, c < i → M a l c → ¬ ∀ d, d < 8 → M b l d → Q c d) 8 0 (by omega) lt_0
    (fun n h => br_t le_8 (nm_r (nI_1 l) (g h)))
    (fun n i hi h k => br_f (ng_8 hi) ⟨in_3 ha hl, xc_if (cx_Tc hM ha hl) hi
      (fun p => nm_r (nI_1 i) (k (lt_s h fun z => absurd z p)))
      (fun p => ⟨in_8 hi, ek_if (cm_P_sub (cx_Tc hM hb hl) (cx_Pc hB hi)) (fun z => f ⟨i, hi, p, z⟩) (fun z => nm_r (nI_1 i) (k (lt_s h fun _ => z)))⟩)⟩)
theorem xt_canTell_longStepSets {post : Int32 → Prop} {Q : Nat → Nat → Prop} {a b : Nat} (hM : cx_T ls M) (hB : cx_P ab Q) (ha : a < 8) (hb : b < 8)
    (H : ∀ r, bo_s r (ma_one M Q a b) → post r) : wpX_canTell__longStepSets post (r0, s, ls, sr, ap, ab, aw, tr, fo) (nI a) (nI b) :=
  lq_1 (fun n i => wX_canTell__longStepSets_3 post (nI a) (nI b) r0 s ls sr ap ab aw tr fo n (nI i))
    (fun i => ∀ l, l < i → ∀ c, c < 8 → M a l c → ¬ ∀ d, d < 8 → M b l d → Q c d) 3 0 (by omega) lt_0
    (fun n h => br_t le_3 (H 0 (bo_0 fun ⟨l, c, hl, hc, hm, hd⟩ => h l hl c hc hm hd)))
    (fun n i hi h k => br_f (ng_3 hi) ⟨in_3 hb hi, nm_e (xt_in_longStepSets hM hB ha hb hi (fun ⟨c, hc, hm, hd⟩ => H 1 (bo_1 ⟨i, c, hi, hc, hm, hd⟩)) (fun z => k (lt_s h z)))⟩)
theorem xp_put_longStepSets {post : SX → Prop} {J2 J11 : Int32 → (Nat → Int32) → (Nat → Int32) → (Nat → Int32) → (Nat → Int32) → (Nat → Int32) → (Nat → Int32) → (Nat → Int32) → (Nat → Int32) → Prop} {x2 : Int32} {a b : Nat} (ha : a < 8) (hb : b < 8)
    (H : J11 (nI (b + 1)) s ls sr (upd (upd ap a (ap a ||| ((1 : Int32) <<< (nI b &&& 31)))) b ((upd ap a (ap a ||| ((1 : Int32) <<< (nI b &&& 31)))) b ||| ((1 : Int32) <<< (nI a &&& 31)))) ab aw (upd (upd tr (a * 8 + b) x2) (b * 8 + a) x2) fo) :
    wX_playRound__longStepSets_56 post J2 J11 x2 (nI a) (nI b) r0 s ls sr ap ab aw tr fo :=
  ⟨in_8 ha, in_8 ha, nm_r (e' := upd ap a (ap a ||| ((1 : Int32) <<< (nI b &&& 31)))) (by rw [cc_8 (by omega)]) ⟨in_8 hb, in_8 hb,
    nm_r (e' := upd (upd ap a (ap a ||| ((1 : Int32) <<< (nI b &&& 31)))) b ((upd ap a (ap a ||| ((1 : Int32) <<< (nI b &&& 31)))) b ||| ((1 : Int32) <<< (nI a &&& 31)))) (by rw [cc_8 (by omega)])
    ⟨in_88 ha hb, nm_r (e' := upd tr (a * 8 + b) x2) (by rw [cc_88 ha hb]) ⟨in_88 hb ha, nm_r (e' := upd (upd tr (a * 8 + b) x2) (b * 8 + a) x2) (by rw [cc_88 hb ha]) (nm_r (nI_1 b) H)⟩⟩⟩⟩
theorem xp_in_longStepSets {post : SX → Prop} {J2 : Int32 → (Nat → Int32) → (Nat → Int32) → (Nat → Int32) → (Nat → Int32) → (Nat → Int32) → (Nat → Int32) → (Nat → Int32) → (Nat → Int32) → Prop} {m a : Nat} (hM : cx_T ls M) (hB : cx_P ab (ma_T M m)) (ha : a < 8) (h0 : cx_J M m a 0 ap tr)
    (g : ∀ p t, cx_J M m a a p t → J2 (nI (a + 1)) s ls sr p ab aw t fo) :
    ∃ n, wX_playRound__longStepSets_11 post J2 (nI (m + 1)) (nI a) r0 n 0 s ls sr ap ab aw tr fo :=
  pk_loop (fun n i (q : (Nat → Int32) × (Nat → Int32)) => wX_playRound__longStepSets_11 post J2 (nI (m + 1)) (nI a) r0 n (nI i) s ls sr q.1 ab aw q.2 fo)
    (fun i q => cx_J M m a i q.1 q.2) a 0 (ap, tr) (Nat.zero_le _) h0
    (fun n q h => br_t (nI_le (Nat.le_refl a) (by omega)) (nm_r (nI_1 a) (g q.1 q.2 h)))
    (fun n i q hi h k => br_f (nI_ge hi (by omega)) ⟨in_8 ha, xc_if (cx_Pc hB ha) (by omega)
      (fun np => xt_canTell_longStepSets hM hB ha (by omega) fun r hr => bo_b hr
        (fun n1 => xt_canTell_longStepSets hM hB (by omega) ha fun r2 hr2 => bo_b hr2
          (fun n2 => nm_r (nI_1 i) (k q (cx_J_keep hi h (Or.inr fun z => Or.elim z n1 n2))))
          (fun p2 => xp_put_longStepSets ha (by omega) (k (_, _) (cx_J_put ha hi h np (Or.inr p2)))))
        (fun p1 => xp_put_longStepSets ha (by omega) (k (_, _) (cx_J_put ha hi h np (Or.inl p1)))))
      (fun p => nm_r (nI_1 i) (k q (cx_J_keep hi h (Or.inl p))))⟩)
theorem xp_playRound_longStepSets {post : SX → Prop} {m : Nat} (hM : cx_T ls M) (hB : cx_P ab (ma_T M m)) (hp : cx_P ap (ma_T M m)) (ht : cx_told M ap tr)
    (H : ∀ p t, cx_P p (ma_T M (m + 1)) ∧ cx_told M p t → post (r0, s, ls, sr, p, ab, aw, t, fo)) :
    wpX_playRound__longStepSets post (r0, s, ls, sr, ap, ab, aw, tr, fo) (nI (m + 1)) :=
  pk_loop (fun n i (q : (Nat → Int32) × (Nat → Int32)) => wX_playRound__longStepSets_2 post (nI (m + 1)) r0 n (nI i) s ls sr q.1 ab aw q.2 fo)
    (fun i q => cx_J M m i 0 q.1 q.2) 8 0 (ap, tr) (by omega) (cx_J0 hp ht)
    (fun n q h => br_t le_8 (H q.1 q.2 (cx_J_end h)))
    (fun n i q hi h k => br_f (ng_8 hi) (xp_in_longStepSets hM hB hi h fun p t h' => k (p, t) (cx_J_row h')))
theorem xt_rounds_longStepSets {post : SX → Prop} (hM : cx_T ls M) (hp : cx_P ap (ma_T M 0)) (ht : cx_told M ap tr)
    (H : ∀ r p b t, cx_E M p t r → post (r, s, ls, sr, p, b, aw, t, fo)) :
    ∃ n, wX_tellApart__longStepSets_28 post n 1 0 s ls sr ap ab aw tr fo := by
  refine pk_loop (fun n i (q : Int32 × (Nat → Int32) × (Nat → Int32) × (Nat → Int32)) => wX_tellApart__longStepSets_28 post n (nI i) q.1 s ls sr q.2.1 q.2.2.1 aw q.2.2.2 fo)
    (fun i q => ∃ m, i = m + 1 ∧ q.1 = nI m ∧ cx_P q.2.1 (ma_T M m) ∧ cx_told M q.2.1 q.2.2.2 ∧ ∀ j, j < m → ¬ ma_st M j) 8 1 (0, ap, ab, tr) (by omega) ⟨0, rfl, rfl, hp, ht, lt_0⟩ ?_ ?_
  · rintro n ⟨r, p, b, t⟩ ⟨m, e1, e2, h1, h2, h3⟩
    have e3 : m = 7 := by omega
    subst e3
    refine br_t le_8 (H r p b t ?_)
    have e2' : r = nI 7 := e2
    rw [e2']
    exact cx_E_st h1 h2 ma_st7 h3
  · rintro n i ⟨r, p, b, t⟩ hi ⟨m, e1, e2, h1, h2, h3⟩ k
    subst e1
    have e2' : r = nI m := e2
    subst e2'
    refine br_f (ng_8 hi) (xc_copyB fun b' hb' => ?_)
    have h1' : cx_P p (ma_T M m) := h1
    have hB : cx_P b' (ma_T M m) := fun a ha => by rw [hb' a ha]; exact h1' a ha
    refine xp_playRound_longStepSets hM hB h1 h2 fun p' t' h' => ?_
    refine xc_sameB fun r hr => ?_
    refine bo_b (bo_c hr (cx_st h'.1 hB)) (fun z => nm_r (nI_1 (m + 1)) (k (nI (m + 1), p', b', t') ⟨m + 1, rfl, rfl, h'.1, h'.2, lt_s h3 z⟩)) (fun z => H (nI m) p' b' t' ?_)
    exact cx_E_st (cx_P_c h'.1 fun x y hx hy => ⟨z x y hx hy, ma_T_up _ _ _⟩) h'.2 z h3
theorem xt_tellApart_longStepSets {post : SX → Prop} (hM : cx_T ls M)
    (H : ∀ r p b t, cx_E M p t r → post (r, s, ls, sr, p, b, aw, t, fo)) :
    wpX_tellApart__longStepSets post (r0, s, ls, sr, ap, ab, aw, tr, fo) := by
  refine pk_loop (fun n i (q : Nat → Int32) => wX_tellApart__longStepSets_2 post r0 n (nI i) s ls sr q ab aw tr fo)
    (fun i q => ∀ j, j < i → q j = 0) 8 0 ap (by omega) lt_0 ?_ ?_
  · intro n q h
    refine br_t le_8 (xt_rounds_longStepSets hM ?_ ?_ H)
    · intro a ha
      rw [h a ha]
      exact cm_P_0
    · intro x y hx hy hz
      rw [h x hx, b_0] at hz
      exact absurd hz (by decide)
  · intro n i q hi h k
    refine br_f (ng_8 hi) ⟨in_8 hi, nm_r (e' := upd q i 0) (by rw [cc_8 (by omega)]) (nm_r (nI_1 i) (k _ (lt_s (fun j hj => ?_) pk_us)))⟩
    rw [pk_un (by omega)]
    exact h j hj
end
