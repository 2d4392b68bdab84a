/-- one machine M: the class's sets of steps and the reference's are its -/
def i_Rel (k : Nat) (u : SX) (v : SY) : Prop := ∃ M, cx_T u.2.1 M ∧ cy_T v.1 M
theorem i_up {k : Nat} {u : SX} {v : SY} (h : i_Rel k u v) : i_Rel (k + 4) u v := h
theorem i_vc0 : wpX_init (fun u => wpY_init (fun v => i_Rel 0 u v)) :=
  ⟨fun _ _ _ => False, fun _ _ _ _ => cm_P_0, fun _ _ _ _ => cm_P_0⟩
theorem i_vc_join {k : Nat} {u : SX} {v : SY} (I : i_Rel k u v) (hk : k + 4 ≤ 2048) (v1 : Int32) (v2 : Int32) (v3 : Int32) : wpX_join (fun r u' => wpY_join (fun r' v' => r' = r ∧ i_Rel (k + 4) u' v') v v1 v2 v3) u v1 v2 v3 := by
  obtain ⟨r0, s, ls, sr, ap, ab, aw, tr, fo⟩ := u
  obtain ⟨nx, fa, td, kp, af⟩ := v
  obtain ⟨M, hX, hY⟩ := I
  have hX' : cx_T s M := hX
  have hY' : cy_T nx M := hY
  refine xx_join hX' v1 v2 v3 (fun n => ?_) (fun a b l ha hb hl e1 e2 e3 q hq => ?_)
  · exact ys_join hY' v1 v2 v3 (fun _ => ⟨rfl, M, hX, hY⟩) (fun a b l ha hb hl e1 e2 e3 => absurd ⟨⟨a, ha, e1⟩, ⟨b, hb, e2⟩, ⟨l, hl, e3⟩⟩ n)
  · refine ys_join hY' v1 v2 v3 (fun n => absurd ⟨⟨a, ha, e1⟩, ⟨b, hb, e2⟩, ⟨l, hl, e3⟩⟩ n) (fun a' b' l' ha' hb' hl' e1' e2' e3' q' hq' => ?_)
    rw [e1, nI_eq (by omega) (by omega)] at e1'
    rw [e2, nI_eq (by omega) (by omega)] at e2'
    rw [e3, nI_eq (by omega) (by omega)] at e3'
    subst e1' e2' e3'
    exact ⟨rfl, _, hq, hq'⟩
theorem i_vc_cut {k : Nat} {u : SX} {v : SY} (I : i_Rel k u v) (hk : k + 4 ≤ 2048) (v1 : Int32) (v2 : Int32) (v3 : Int32) : wpX_cut (fun r u' => wpY_cut (fun r' v' => r' = r ∧ i_Rel (k + 4) u' v') v v1 v2 v3) u v1 v2 v3 := by
  obtain ⟨r0, s, ls, sr, ap, ab, aw, tr, fo⟩ := u
  obtain ⟨nx, fa, td, kp, af⟩ := v
  obtain ⟨M, hX, hY⟩ := I
  have hX' : cx_T s M := hX
  have hY' : cy_T nx M := hY
  refine xx_cut hX' v1 v2 v3 (fun n => ?_) (fun a b l ha hb hl e1 e2 e3 hm q hq => ?_)
  · exact ys_cut hY' v1 v2 v3 (fun _ => ⟨rfl, M, hX, hY⟩) (fun a b l ha hb hl e1 e2 e3 hm => absurd ⟨a, b, l, ha, hb, hl, e1, e2, e3, hm⟩ n)
  · refine ys_cut hY' v1 v2 v3 (fun n => absurd ⟨a, b, l, ha, hb, hl, e1, e2, e3, hm⟩ n) (fun a' b' l' ha' hb' hl' e1' e2' e3' hm' q' hq' => ?_)
    rw [e1, nI_eq (by omega) (by omega)] at e1'
    rw [e2, nI_eq (by omega) (by omega)] at e2'
    rw [e3, nI_eq (by omega) (by omega)] at e3'
    subst e1' e2' e3'
    exact ⟨rfl, _, hq, hq'⟩
theorem i_vc_steps {k : Nat} {u : SX} {v : SY} (I : i_Rel k u v) (hk : k + 4 ≤ 2048) : wpX_steps (fun r => wpY_steps (fun r' => r' = r ∧ i_Rel (k + 4) u v) v) u := by
  obtain ⟨r0, s, ls, sr, ap, ab, aw, tr, fo⟩ := u
  obtain ⟨nx, fa, td, kp, af⟩ := v
  obtain ⟨M, hX, hY⟩ := I
  have hX' : cx_T s M := hX
  have hY' : cy_T nx M := hY
  refine xq_steps (yq_steps ⟨?_, M, hX, hY⟩)
  rw [sq_same (s := s) (f := nx) fun a l ha hl => cm_P_u (hX' a l ha hl) (hY' a l ha hl) fun _ _ => Iff.rfl]
theorem i_vc_after {k : Nat} {u : SX} {v : SY} (I : i_Rel k u v) (hk : k + 4 ≤ 2048) (v1 : Int32) (v2 : Int32) : wpX_after (fun r => wpY_after (fun r' => r' = r ∧ i_Rel (k + 4) u v) v v1 v2) u v1 v2 := by
  obtain ⟨r0, s, ls, sr, ap, ab, aw, tr, fo⟩ := u
  obtain ⟨nx, fa, td, kp, af⟩ := v
  obtain ⟨M, hX, hY⟩ := I
  have hX' : cx_T s M := hX
  have hY' : cy_T nx M := hY
  refine xx_after v1 v2 (fun n => yy_after v1 v2 (fun _ => ⟨rfl, M, hX, hY⟩) (fun a l ha hl e1 e2 => absurd ⟨⟨a, ha, e1⟩, ⟨l, hl, e2⟩⟩ n)) (fun a l ha hl e1 e2 => yy_after v1 v2 (fun n => absurd ⟨⟨a, ha, e1⟩, ⟨l, hl, e2⟩⟩ n) (fun a' l' ha' hl' e1' e2' => ⟨?_, M, hX, hY⟩))
  rw [e1, nI_eq (by omega) (by omega)] at e1'
  rw [e2, nI_eq (by omega) (by omega)] at e2'
  subst e1' e2'
  exact cm_P_u (hY' a l ha hl) (hX' a l ha hl) fun _ _ => Iff.rfl
theorem i_vc_alike {k : Nat} {u : SX} {v : SY} (I : i_Rel k u v) (hk : k + 4 ≤ 2048) (v1 : Int32) (v2 : Int32) : wpX_alike (fun r u' => wpY_alike (fun r' v' => r' = r ∧ i_Rel (k + 4) u' v') v v1 v2) u v1 v2 := by
  obtain ⟨r0, s, ls, sr, ap, ab, aw, tr, fo⟩ := u
  obtain ⟨nx, fa, td, kp, af⟩ := v
  obtain ⟨M, hX, hY⟩ := I
  exact xx_alike hX v1 v2 fun r _ _ _ _ hr => yy_alike hY v1 v2 fun r' _ _ hr' => ⟨bo_u hr' hr Iff.rfl, M, hX, hY⟩
theorem i_vc_group {k : Nat} {u : SX} {v : SY} (I : i_Rel k u v) (hk : k + 4 ≤ 2048) (v1 : Int32) : wpX_group (fun r u' => wpY_group (fun r' v' => r' = r ∧ i_Rel (k + 4) u' v') v v1) u v1 := by
  obtain ⟨r0, s, ls, sr, ap, ab, aw, tr, fo⟩ := u
  obtain ⟨nx, fa, td, kp, af⟩ := v
  obtain ⟨M, hX, hY⟩ := I
  exact xx_group hX v1 fun r _ _ _ _ hr => yy_group hY v1 fun r' _ _ hr' => ⟨an_u hr hr', M, hX, hY⟩
theorem i_vc_groups {k : Nat} {u : SX} {v : SY} (I : i_Rel k u v) (hk : k + 4 ≤ 2048) : wpX_groups (fun r u' => wpY_groups (fun r' v' => r' = r ∧ i_Rel (k + 4) u' v') v) u := by
  obtain ⟨r0, s, ls, sr, ap, ab, aw, tr, fo⟩ := u
  obtain ⟨nx, fa, td, kp, af⟩ := v
  obtain ⟨M, hX, hY⟩ := I
  exact xx_groups hX fun _ _ _ _ => yy_groups hY fun _ _ => ⟨rfl, M, hX, hY⟩
theorem i_vc_toldAfter {k : Nat} {u : SX} {v : SY} (I : i_Rel k u v) (hk : k + 4 ≤ 2048) (v1 : Int32) (v2 : Int32) : wpX_toldAfter (fun r u' => wpY_toldAfter (fun r' v' => r' = r ∧ i_Rel (k + 4) u' v') v v1 v2) u v1 v2 := by
  obtain ⟨r0, s, ls, sr, ap, ab, aw, tr, fo⟩ := u
  obtain ⟨nx, fa, td, kp, af⟩ := v
  obtain ⟨M, hX, hY⟩ := I
  exact xx_toldAfter hX v1 v2 fun r _ _ _ _ hr => yy_toldAfter hY v1 v2 fun r' _ _ hr' => ⟨ta_u hr hr', M, hX, hY⟩
theorem i_vc_rounds {k : Nat} {u : SX} {v : SY} (I : i_Rel k u v) (hk : k + 4 ≤ 2048) : wpX_rounds (fun r u' => wpY_rounds (fun r' v' => r' = r ∧ i_Rel (k + 4) u' v') v) u := by
  obtain ⟨r0, s, ls, sr, ap, ab, aw, tr, fo⟩ := u
  obtain ⟨nx, fa, td, kp, af⟩ := v
  obtain ⟨M, hX, hY⟩ := I
  exact xx_rounds hX fun r _ _ _ _ hr => yy_rounds hY fun r' _ _ hr' => ⟨by rw [ma_last_u hr' hr], M, hX, hY⟩
theorem i_vc_looselyAlike {k : Nat} {u : SX} {v : SY} (I : i_Rel k u v) (hk : k + 4 ≤ 2048) (v1 : Int32) (v2 : Int32) : wpX_looselyAlike (fun r u' => wpY_looselyAlike (fun r' v' => r' = r ∧ i_Rel (k + 4) u' v') v v1 v2) u v1 v2 := by
  obtain ⟨r0, s, ls, sr, ap, ab, aw, tr, fo⟩ := u
  obtain ⟨nx, fa, td, kp, af⟩ := v
  obtain ⟨M, hX, hY⟩ := I
  exact xx_loose hX v1 v2 fun r _ _ _ _ _ _ hr => yy_loose hY v1 v2 fun r' _ _ hr' => ⟨bo_u hr' hr Iff.rfl, M, hX, hY⟩
theorem i_vc_looseGroups {k : Nat} {u : SX} {v : SY} (I : i_Rel k u v) (hk : k + 4 ≤ 2048) : wpX_looseGroups (fun r u' => wpY_looseGroups (fun r' v' => r' = r ∧ i_Rel (k + 4) u' v') v) u := by
  obtain ⟨r0, s, ls, sr, ap, ab, aw, tr, fo⟩ := u
  obtain ⟨nx, fa, td, kp, af⟩ := v
  obtain ⟨M, hX, hY⟩ := I
  exact xx_looseGroups hX fun _ _ _ _ _ _ => yy_looseGroups hY fun _ _ => ⟨rfl, M, hX, hY⟩
theorem i_vc_follows {k : Nat} {u : SX} {v : SY} (I : i_Rel k u v) (hk : k + 4 ≤ 2048) (v1 : Int32) (v2 : Int32) : wpX_follows (fun r u' => wpY_follows (fun r' v' => r' = r ∧ i_Rel (k + 4) u' v') v v1 v2) u v1 v2 := by
  obtain ⟨r0, s, ls, sr, ap, ab, aw, tr, fo⟩ := u
  obtain ⟨nx, fa, td, kp, af⟩ := v
  obtain ⟨M, hX, hY⟩ := I
  exact xx_follows hX v1 v2 fun r _ hr => yy_follows hY v1 v2 fun r' _ hr' => ⟨bo_u hr' hr Iff.rfl, M, hX, hY⟩
theorem i_vc_followers {k : Nat} {u : SX} {v : SY} (I : i_Rel k u v) (hk : k + 4 ≤ 2048) (v1 : Int32) : wpX_followers (fun r u' => wpY_followers (fun r' v' => r' = r ∧ i_Rel (k + 4) u' v') v v1) u v1 := by
  obtain ⟨r0, s, ls, sr, ap, ab, aw, tr, fo⟩ := u
  obtain ⟨nx, fa, td, kp, af⟩ := v
  obtain ⟨M, hX, hY⟩ := I
  exact xx_followers hX v1 fun r _ hr => yy_followers hY v1 fun r' _ hr' => ⟨an_u hr hr', M, hX, hY⟩
theorem i_vc_silently {k : Nat} {u : SX} {v : SY} (I : i_Rel k u v) (hk : k + 4 ≤ 2048) (v1 : Int32) : wpX_silently (fun r => wpY_silently (fun r' => r' = r ∧ i_Rel (k + 4) u v) v v1) u v1 := by
  obtain ⟨r0, s, ls, sr, ap, ab, aw, tr, fo⟩ := u
  obtain ⟨nx, fa, td, kp, af⟩ := v
  obtain ⟨M, hX, hY⟩ := I
  exact xx_silently hX v1 fun r hr => yy_silently hY v1 fun r' hr' => ⟨an_u hr hr', M, hX, hY⟩
theorem i_vc_idle {k : Nat} {u : SX} {v : SY} (I : i_Rel k u v) (hk : k + 4 ≤ 2048) (v1 : Int32) (v2 : Int32) (v3 : Int32) : wpX_idle (fun r u' => wpY_idle (fun r' v' => r' = r ∧ i_Rel (k + 4) u' v') v v1 v2 v3) u v1 v2 v3 := by
  obtain ⟨r0, s, ls, sr, ap, ab, aw, tr, fo⟩ := u
  obtain ⟨nx, fa, td, kp, af⟩ := v
  obtain ⟨M, hX, hY⟩ := I
  exact xx_idle hX v1 v2 v3 fun r _ s1 _ _ _ _ hX' hr => yy_idle hY v1 v2 v3 fun r' n1 _ _ _ hY' hr' => ⟨bo_u hr' hr Iff.rfl, M, hX', hY'⟩
