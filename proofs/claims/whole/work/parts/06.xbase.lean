theorem le_3 : (3 : Int32) ≤ nI 3 := by decide
theorem le_8 : (8 : Int32) ≤ nI 8 := by decide
theorem le_24 : (24 : Int32) ≤ nI 24 := by decide
theorem le_64 : (64 : Int32) ≤ nI 64 := by decide
theorem le_192 : (192 : Int32) ≤ nI 192 := by decide
theorem ng_3 {i : Nat} (h : i < 3) : ¬ (3 : Int32) ≤ nI i := nI_ge (b := 3) h (by omega)
theorem ng_8 {i : Nat} (h : i < 8) : ¬ (8 : Int32) ≤ nI i := nI_ge (b := 8) h (by omega)
theorem ng_24 {i : Nat} (h : i < 24) : ¬ (24 : Int32) ≤ nI i := nI_ge (b := 24) h (by omega)
theorem ng_64 {i : Nat} (h : i < 64) : ¬ (64 : Int32) ≤ nI i := nI_ge (b := 64) h (by omega)
theorem ng_192 {i : Nat} (h : i < 192) : ¬ (192 : Int32) ≤ nI i := nI_ge (b := 192) h (by omega)
theorem ng_30 {i : Nat} (h : i < 30) : ¬ (30 : Int32) ≤ nI i := nI_ge (b := 30) h (by omega)
theorem ng_65 {i : Nat} (h : i < 65) : ¬ (65 : Int32) ≤ nI i := nI_ge (b := 65) h (by omega)
theorem in_8 {a : Nat} (h : a < 8) : vp_in (nI a) 8 := vp_in_nI h (by omega)
theorem in_24 {a : Nat} (h : a < 24) : vp_in (nI a) 24 := vp_in_nI h (by omega)
theorem in_64 {a : Nat} (h : a < 64) : vp_in (nI a) 64 := vp_in_nI h (by omega)
theorem in_3 {a l : Nat} (ha : a < 8) (hl : l < 3) : vp_in (nI a * 3 + nI l) 24 := by rw [ix_3]; exact vp_in_nI (by omega) (by omega)
theorem in_88 {a b : Nat} (ha : a < 8) (hb : b < 8) : vp_in (nI a * 8 + nI b) 64 := by rw [ix_8]; exact vp_in_nI (by omega) (by omega)
theorem iny_3 {a l : Nat} (ha : a < 8) (hl : l < 3) : vp_in (8 * nI l + nI a) 24 := by rw [iy_8]; exact vp_in_nI (by omega) (by omega)
theorem iny_8 {a b : Nat} (ha : a < 8) (hb : b < 8) : vp_in (8 * nI a + nI b) 64 := by rw [iy_8]; exact vp_in_nI (by omega) (by omega)
theorem cc_8 {a : Nat} (h : a < 192) : (nI a).toNatClampNeg = a := nI_clamp (by omega)
theorem cc_3 {a l : Nat} (ha : a < 8) (hl : l < 3) : (nI a * 3 + nI l).toNatClampNeg = a * 3 + l := by rw [ix_3]; exact nI_clamp (by omega)
theorem cc_88 {a b : Nat} (ha : a < 8) (hb : b < 8) : (nI a * 8 + nI b).toNatClampNeg = a * 8 + b := by rw [ix_8]; exact nI_clamp (by omega)
theorem cy_3 {a l : Nat} (ha : a < 8) (hl : l < 3) : (8 * nI l + nI a).toNatClampNeg = 8 * l + a := by rw [iy_8]; exact nI_clamp (by omega)
theorem cy_8 {a b : Nat} (ha : a < 8) (hb : b < 8) : (8 * nI a + nI b).toNatClampNeg = 8 * a + b := by rw [iy_8]; exact nI_clamp (by omega)
theorem cx_Tc {s : Nat → Int32} {M : Nat → Nat → Nat → Prop} {a l : Nat} (h : cx_T s M) (ha : a < 8) (hl : l < 3) : cm_P (s (nI a * 3 + nI l).toNatClampNeg) (M a l) := by rw [cc_3 ha hl]; exact h a l ha hl
theorem cy_Tc {s : Nat → Int32} {M : Nat → Nat → Nat → Prop} {a l : Nat} (h : cy_T s M) (ha : a < 8) (hl : l < 3) : cm_P (s (8 * nI l + nI a).toNatClampNeg) (M a l) := by rw [cy_3 ha hl]; exact h a l ha hl
theorem cx_Pc {p : Nat → Int32} {Q : Nat → Nat → Prop} {a : Nat} (h : cx_P p Q) (ha : a < 8) : cm_P (p (nI a).toNatClampNeg) (Q a) := by rw [cc_8 (by omega)]; exact h a ha
theorem xc_contains {post : Int32 → Prop} {x : Int32} {P : Nat → Prop} {b : Nat} (h : cm_P x P) (hb : b < 8) (H : ∀ r, bo_s r (P b) → post r) : wpX_contains post x (nI b) :=
  cm_b0 h hb (fun p => H 0 (bo_0 p)) (fun p => H 1 (bo_1 p))
theorem xc_if {A B : Prop} {x : Int32} {P : Nat → Prop} {b : Nat} (h : cm_P x P) (hb : b < 8) (f : ¬ P b → A) (g : P b → B) : wpX_contains (fun r => (r = 0 → A) ∧ (¬ r = 0 → B)) x (nI b) :=
  xc_contains h hb fun _ hr => bo_b hr f g
theorem xc_isState {post : Int32 → Prop} (x : Int32) (H : ∀ r, bo_s r (st_S x) → post r) : wpX_isState post x :=
  br_c (fun h => H 0 (bo_0 (st_S0 h))) (fun h => ek_if (st_S8 h) (fun z => H 0 (bo_0 z)) (fun z => H 1 (bo_1 (Classical.byContradiction z))))
theorem xc_isLabel {post : Int32 → Prop} (x : Int32) (H : ∀ r, bo_s r (st_L x) → post r) : wpX_isLabel post x :=
  br_c (fun h => H 0 (bo_0 (st_L0 h))) (fun h => ek_if (st_L3 h) (fun z => H 0 (bo_0 z)) (fun z => H 1 (bo_1 (Classical.byContradiction z))))
theorem yc_state {post : Int32 → Prop} (v : SY) (x : Int32) (H : ∀ r, bo_s r (st_S x) → post r) : wpY_state post v x :=
  br_c (fun h => H 0 (bo_0 (st_S0 h))) (fun h => ek_if (st_S7 h) (fun z => H 0 (bo_0 z)) (fun z => H 1 (bo_1 (Classical.byContradiction z))))
section
variable {r0 : Int32} {s ls sr ap ab aw tr fo : Nat → Int32}
theorem xc_copyB {post : SX → Prop} (H : ∀ q, (∀ a, a < 8 → q a = ap a) → post (r0, s, ls, sr, ap, q, aw, tr, fo)) : wpX_copyStates__apart_apartBefore post (r0, s, ls, sr, ap, ab, aw, tr, fo) :=
  pk_loop (fun n i (q : Nat → Int32) => wX_copyStates__apart_apartBefore_2 post r0 n (nI i) s ls sr ap q aw tr fo)
    (fun i q => ∀ j, j < i → q j = ap j) 8 0 ab (by omega) lt_0
    (fun n q h => br_t le_8 (H q h))
    (fun n i q hi h k => br_f (ng_8 hi) ⟨in_8 hi, in_8 hi, nm_r (e' := upd q i (ap i)) (by rw [cc_8 (by omega)]) (nm_r (nI_1 i) (k _ (lt_s (fun j hj => (pk_un (Nat.ne_of_lt hj)).trans (h j hj)) pk_us)))⟩)
theorem xc_sameB {post : Int32 → Prop} (H : ∀ r, bo_s r (∀ a, a < 8 → ap a = ab a) → post r) : wpX_sameStates__apart_apartBefore post (r0, s, ls, sr, ap, ab, aw, tr, fo) :=
  lq_1 (fun n i => wX_sameStates__apart_apartBefore_2 post r0 s ls sr ap ab aw tr fo n (nI i))
    (fun i => ∀ j, j < i → ap j = ab j) 8 0 (by omega) lt_0
    (fun n h => br_t le_8 (H 1 (bo_1 h)))
    (fun n i hi h k => br_f (ng_8 hi) ⟨in_8 hi, in_8 hi, ek_if (d := ap i = ab i) (by rw [cc_8 (by omega)]) (fun z => nm_r (nI_1 i) (k (lt_s h z))) (fun z => H 0 (bo_0 fun w => z (w i hi)))⟩)
end
section
variable {r0 : Int32} {s ls sr ap ab aw tr fo : Nat → Int32}
theorem xc_copyW {post : SX → Prop} (H : ∀ q, (∀ a, a < 8 → q a = ap a) → post (r0, s, ls, sr, ap, ab, q, tr, fo)) : wpX_copyStates__apart_apartWithStep post (r0, s, ls, sr, ap, ab, aw, tr, fo) :=
  pk_loop (fun n i (q : Nat → Int32) => wX_copyStates__apart_apartWithStep_2 post r0 n (nI i) s ls sr ap ab q tr fo)
    (fun i q => ∀ j, j < i → q j = ap j) 8 0 aw (by omega) lt_0
    (fun n q h => br_t le_8 (H q h))
    (fun n i q hi h k => br_f (ng_8 hi) ⟨in_8 hi, in_8 hi, nm_r (e' := upd q i (ap i)) (by rw [cc_8 (by omega)]) (nm_r (nI_1 i) (k _ (lt_s (fun j hj => (pk_un (Nat.ne_of_lt hj)).trans (h j hj)) pk_us)))⟩)
theorem xc_sameW {post : Int32 → Prop} (H : ∀ r, bo_s r (∀ a, a < 8 → ap a = aw a) → post r) : wpX_sameStates__apart_apartWithStep post (r0, s, ls, sr, ap, ab, aw, tr, fo) :=
  lq_1 (fun n i => wX_sameStates__apart_apartWithStep_2 post r0 s ls sr ap ab aw tr fo n (nI i))
    (fun i => ∀ j, j < i → ap j = aw j) 8 0 (by omega) lt_0
    (fun n h => br_t le_8 (H 1 (bo_1 h)))
    (fun n i hi h k => br_f (ng_8 hi) ⟨in_8 hi, in_8 hi, ek_if (d := ap i = aw i) (by rw [cc_8 (by omega)]) (fun z => nm_r (nI_1 i) (k (lt_s h z))) (fun z => H 0 (bo_0 fun w => z (w i hi)))⟩)
end
