/-! the owed statements of linked, close, emptyCircle, onHull, hullArea2 -/
theorem ow_ne {a b : Nat} (ha : a < 24) (hb : b < 24) (e : ¬ a = b) : ¬ nI a = nI b := by rw [ba_eq ha hb]; exact e
theorem ow_exI {P Q : Nat → Prop} (h : ∀ c, c < 24 → (P c ↔ Q c)) : (∃ c, c < 24 ∧ P c) ↔ (∃ c, c < 24 ∧ Q c) :=
  ⟨fun ⟨c, hc, p⟩ => ⟨c, hc, (h c hc).mp p⟩, fun ⟨c, hc, p⟩ => ⟨c, hc, (h c hc).mpr p⟩⟩
section
variable {fc : Int32} {us xs ys wt gp od ed wy : Nat → Int32} {post : Int32 → Prop}
theorem ow_linkF {p q : Int32} (h : ¬ (dm_has us p ∧ dm_has us q)) (k : post 0) : wpX_linked post (fc, us, xs, ys, wt, gp, od, ed) p q := by
  simp only [wpX_linked]
  refine ⟨fun _ => k, fun _ => ?_⟩
  by_cases hA : dm_has us p
  · obtain ⟨a, ha, rfl, ua⟩ := hA
    exact rx_hasT ha ua (br_f ba_10 (rx_hasF (fun z => h ⟨⟨a, ha, rfl, ua⟩, z⟩) (br_t rfl k)))
  · exact rx_hasF hA (br_t rfl k)
theorem ow_linkG {p q : Int32} (h : ¬ (dm_has us p ∧ dm_has us q)) (k : post 0) : wpY_linked post (us, xs, ys, wy) p q := by
  simp only [wpY_linked]
  by_cases hA : dm_has us p
  · obtain ⟨a, ha, rfl, ua⟩ := hA
    exact ry_isT ha ua (br_f ba_10 (ry_isF (fun z => h ⟨⟨a, ha, rfl, ua⟩, z⟩) (br_t rfl k)))
  · exact ry_isF hA (br_t rfl k)
theorem ow_closeF {p q : Int32} (h : ¬ (dm_has us p ∧ dm_has us q)) (k : post 0) : wpX_close post (fc, us, xs, ys, wt, gp, od, ed) p q := by
  simp only [wpX_close]
  refine ⟨fun _ => k, fun _ => ?_⟩
  by_cases hA : dm_has us p
  · obtain ⟨a, ha, rfl, ua⟩ := hA
    exact rx_hasT ha ua (br_f ba_10 (rx_hasF (fun z => h ⟨⟨a, ha, rfl, ua⟩, z⟩) (br_t rfl k)))
  · exact rx_hasF hA (br_t rfl k)
theorem ow_closeG {p q : Int32} (h : ¬ (dm_has us p ∧ dm_has us q)) (k : post 0) : wpY_close post (us, xs, ys, wy) p q := by
  simp only [wpY_close]
  by_cases hA : dm_has us p
  · obtain ⟨a, ha, rfl, ua⟩ := hA
    exact ry_isT ha ua (br_f ba_10 (ry_isF (fun z => h ⟨⟨a, ha, rfl, ua⟩, z⟩) (br_t rfl k)))
  · exact ry_isF hA (br_t rfl k)
theorem ow_circF {p q r : Int32} (h : ¬ (dm_has us p ∧ dm_has us q ∧ dm_has us r)) (k : post 0) : wpX_emptyCircle post (fc, us, xs, ys, wt, gp, od, ed) p q r := by
  simp only [wpX_emptyCircle]
  refine ⟨fun _ => k, fun _ => ⟨fun _ => k, fun _ => ⟨fun _ => k, fun _ => ?_⟩⟩⟩
  by_cases hA : dm_has us p
  · obtain ⟨a, ha, rfl, ua⟩ := hA
    refine rx_hasT ha ua (br_f ba_10 ?_)
    by_cases hB : dm_has us q
    · obtain ⟨b, hb, rfl, ub⟩ := hB
      exact rx_hasT hb ub (br_f ba_10 (rx_hasF (fun z => h ⟨⟨a, ha, rfl, ua⟩, ⟨b, hb, rfl, ub⟩, z⟩) (br_t rfl k)))
    · exact rx_hasF hB (br_t rfl k)
  · exact rx_hasF hA (br_t rfl k)
theorem ow_circG {p q r : Int32} (h : ¬ (dm_has us p ∧ dm_has us q ∧ dm_has us r)) (k : post 0) : wpY_emptyCircle post (us, xs, ys, wy) p q r := by
  simp only [wpY_emptyCircle]
  by_cases hA : dm_has us p
  · obtain ⟨a, ha, rfl, ua⟩ := hA
    refine ry_isT ha ua (br_f ba_10 ?_)
    by_cases hB : dm_has us q
    · obtain ⟨b, hb, rfl, ub⟩ := hB
      exact ry_isT hb ub (br_f ba_10 (ry_isF (fun z => h ⟨⟨a, ha, rfl, ua⟩, ⟨b, hb, rfl, ub⟩, z⟩) (br_t rfl k)))
    · exact ry_isF hB (br_t rfl k)
  · exact ry_isF hA (br_t rfl k)
end
theorem i_vc_linked {k : Nat} {u : SX} {v : SY} (I : i_Rel k u v) (hk : k + 4 ≤ 2048) (v1 : Int32) (v2 : Int32) : wpX_linked (fun r => wpY_linked (fun r' => r' = r ∧ i_Rel (k + 4) u v) v v1 v2) u v1 v2 := by
  obtain ⟨fc, us, xs, ys, wt, gp, od, ed, wy, rfl, rfl, hok⟩ := I
  by_cases h : dm_has us v1 ∧ dm_has us v2
  · obtain ⟨⟨a, ha, rfl, ua⟩, b, hb, rfl, ub⟩ := h
    simp only [wpX_linked, wpY_linked]
    by_cases e : a = b
    · subst e
      exact br_t (by trivial) (ry_isT ha ua (br_f ba_10 (ry_isT ha ua (br_f ba_10 (br_t (by trivial) ⟨by trivial, dm_rel hok⟩)))))
    · have n := ow_ne ha hb e
      have E := ow_exI fun c hc => nz_link hok ha hb ua ub (c := c) hc
      refine br_f n (rx_hasT ha ua (br_f ba_10 (rx_hasT hb ub (br_f ba_10 (sx_link ha hb (fun g => ?_) (fun g => ?_))))))
      · exact ry_isT ha ua (br_f ba_10 (ry_isT hb ub (br_f ba_10 (br_f n (sy_link ha hb (fun _ => ⟨by trivial, dm_rel hok⟩) (fun f => absurd (E.mpr f) g))))))
      · exact ry_isT ha ua (br_f ba_10 (ry_isT hb ub (br_f ba_10 (br_f n (sy_link ha hb (fun f => absurd (E.mp g) f) (fun _ => ⟨by trivial, dm_rel hok⟩))))))
  · exact ow_linkF h (ow_linkG h ⟨by trivial, dm_rel hok⟩)
theorem i_vc_close {k : Nat} {u : SX} {v : SY} (I : i_Rel k u v) (hk : k + 4 ≤ 2048) (v1 : Int32) (v2 : Int32) : wpX_close (fun r => wpY_close (fun r' => r' = r ∧ i_Rel (k + 4) u v) v v1 v2) u v1 v2 := by
  obtain ⟨fc, us, xs, ys, wt, gp, od, ed, wy, rfl, rfl, hok⟩ := I
  by_cases h : dm_has us v1 ∧ dm_has us v2
  · obtain ⟨⟨a, ha, rfl, ua⟩, b, hb, rfl, ub⟩ := h
    simp only [wpX_close, wpY_close]
    by_cases e : a = b
    · subst e
      exact br_t (by trivial) (ry_isT ha ua (br_f ba_10 (ry_isT ha ua (br_f ba_10 (br_t (by trivial) ⟨by trivial, dm_rel hok⟩)))))
    · have n := ow_ne ha hb e
      have E : (∃ c, c < 24 ∧ sc_closeX us xs ys a b c) ↔ (∃ c, c < 24 ∧ sc_closeY us xs ys a b c) := ow_exI fun c hc => by
        unfold sc_closeX sc_closeY; rw [nz_dsym c a, nz_dsym c b]
      refine br_f n (rx_hasT ha ua (br_f ba_10 (rx_hasT hb ub (br_f ba_10 (rx_dist ha hb (sx_close ha hb (fun g => ?_) (fun g => ?_)))))))
      · exact ry_isT ha ua (br_f ba_10 (ry_isT hb ub (br_f ba_10 (br_f n (sy_close ha hb (fun _ => ⟨by trivial, dm_rel hok⟩) (fun f => absurd (E.mpr f) g))))))
      · exact ry_isT ha ua (br_f ba_10 (ry_isT hb ub (br_f ba_10 (br_f n (sy_close ha hb (fun f => absurd (E.mp g) f) (fun _ => ⟨by trivial, dm_rel hok⟩))))))
  · exact ow_closeF h (ow_closeG h ⟨by trivial, dm_rel hok⟩)
theorem i_vc_emptyCircle {k : Nat} {u : SX} {v : SY} (I : i_Rel k u v) (hk : k + 4 ≤ 2048) (v1 : Int32) (v2 : Int32) (v3 : Int32) : wpX_emptyCircle (fun r => wpY_emptyCircle (fun r' => r' = r ∧ i_Rel (k + 4) u v) v v1 v2 v3) u v1 v2 v3 := by
  obtain ⟨fc, us, xs, ys, wt, gp, od, ed, wy, rfl, rfl, hok⟩ := I
  by_cases h : dm_has us v1 ∧ dm_has us v2 ∧ dm_has us v3
  · obtain ⟨⟨a, ha, rfl, ua⟩, ⟨b, hb, rfl, ub⟩, c, hc, rfl, uc⟩ := h
    have Y0 : ∀ post : Int32 → Prop, post 0 → (a = b ∨ a = c ∨ b = c ∨ dm_t xs ys a b c = 0) → wpY_emptyCircle post (us, xs, ys, wy) (nI a) (nI b) (nI c) := by
      intro post p h
      simp only [wpY_emptyCircle, ba_eq ha hb, ba_eq ha hc, ba_eq hb hc]
      refine ry_isT ha ua (br_f ba_10 (ry_isT hb ub (br_f ba_10 (ry_isT hc uc (br_f ba_10 ⟨fun _ => p, fun n1 => ⟨fun _ => p, fun n2 => ⟨fun _ => p, fun n3 => ry_turn ha hb hc (br_t ?_ p)⟩⟩⟩)))))
      exact ((h.resolve_left n1).resolve_left n2).resolve_left n3
    by_cases e : a = b ∨ a = c ∨ b = c ∨ dm_t xs ys a b c = 0
    · have Y := Y0 (fun r' => r' = 0 ∧ i_Rel (k + 4) (fc, us, xs, ys, wt, gp, od, ed) (us, xs, ys, wy)) ⟨rfl, dm_rel hok⟩ e
      rw [wpX_emptyCircle]
      simp only [ba_eq ha hb, ba_eq ha hc, ba_eq hb hc]
      refine ⟨fun _ => Y, fun n1 => ⟨fun _ => Y, fun n2 => ⟨fun _ => Y, fun n3 => ?_⟩⟩⟩
      exact rx_hasT ha ua (br_f ba_10 (rx_hasT hb ub (br_f ba_10 (rx_hasT hc uc (br_f ba_10 (rx_turn ha hb hc (br_t (((e.resolve_left n1).resolve_left n2).resolve_left n3) Y)))))))
    · have n1 : ¬ a = b := fun z => e (Or.inl z)
      have n2 : ¬ a = c := fun z => e (Or.inr (Or.inl z))
      have n3 : ¬ b = c := fun z => e (Or.inr (Or.inr (Or.inl z)))
      have n4 : ¬ dm_t xs ys a b c = 0 := fun z => e (Or.inr (Or.inr (Or.inr z)))
      have E : (∃ d, d < 24 ∧ sc_circX us xs ys a b c d) ↔ (∃ d, d < 24 ∧ sc_circY us xs ys a b c d) := ow_exI fun d hd => by
        unfold sc_circX sc_circY; rw [Int64.not_lt]
      simp only [wpX_emptyCircle, wpY_emptyCircle, ba_eq ha hb, ba_eq ha hc, ba_eq hb hc]
      refine br_f n1 (br_f n2 (br_f n3 (rx_hasT ha ua (br_f ba_10 (rx_hasT hb ub (br_f ba_10 (rx_hasT hc uc (br_f ba_10 (rx_turn ha hb hc (br_f n4 (sx_circ ha hb hc (fun g => ?_) (fun g => ?_))))))))))))
      · exact ry_isT ha ua (br_f ba_10 (ry_isT hb ub (br_f ba_10 (ry_isT hc uc (br_f ba_10 (br_f n1 (br_f n2 (br_f n3 (ry_turn ha hb hc (br_f n4 (sy_circ ha hb hc (fun _ => ⟨by trivial, dm_rel hok⟩) (fun f => absurd (E.mpr f) g))))))))))))
      · exact ry_isT ha ua (br_f ba_10 (ry_isT hb ub (br_f ba_10 (ry_isT hc uc (br_f ba_10 (br_f n1 (br_f n2 (br_f n3 (ry_turn ha hb hc (br_f n4 (sy_circ ha hb hc (fun f => absurd (E.mp g) f) (fun _ => ⟨by trivial, dm_rel hok⟩))))))))))))
  · exact ow_circF h (ow_circG h ⟨by trivial, dm_rel hok⟩)
theorem i_vc_onHull {k : Nat} {u : SX} {v : SY} (I : i_Rel k u v) (hk : k + 4 ≤ 2048) (v1 : Int32) : wpX_onHull (fun r => wpY_onHull (fun r' => r' = r ∧ i_Rel (k + 4) u v) v v1) u v1 := by
  obtain ⟨fc, us, xs, ys, wt, gp, od, ed, wy, rfl, rfl, hok⟩ := I
  simp only [wpX_onHull, wpY_onHull]
  by_cases hA : dm_has us v1
  · obtain ⟨a, ha, rfl, ua⟩ := hA
    have E : (∃ b, b < 24 ∧ us b ≠ 0 ∧ b ≠ a ∧ sc_side us xs ys a b) ↔ (∃ b, b < 24 ∧ us b ≠ 0 ∧ b ≠ a ∧ sc_sideY us xs ys a b) := ow_exI fun b hb => by
      unfold sc_side sc_sideY; simp only [Classical.not_not]
      constructor
      · rintro ⟨h1, h2, h3⟩; exact ⟨h1, h2, h3.symm⟩
      · rintro ⟨h1, h2, h3⟩; exact ⟨h1, h2, h3.symm⟩
    refine rx_hasT ha ua (br_f ba_10 ⟨fun g => ?_, fun g => ?_⟩)
    · refine sx_hull ha (fun f => ?_) (fun f => ?_)
      · exact ry_isT ha ua (br_f ba_10 (st_size (br_t (by rw [← hok.1]; exact g) (sy_hull ha (fun _ => ⟨by trivial, dm_rel hok⟩) (fun e => absurd (E.mp f) e)))))
      · exact ry_isT ha ua (br_f ba_10 (st_size (br_t (by rw [← hok.1]; exact g) (sy_hull ha (fun e => absurd (E.mpr e) f) (fun _ => ⟨by trivial, dm_rel hok⟩)))))
    · exact ry_isT ha ua (br_f ba_10 (st_size (br_f (by rw [← hok.1]; exact g) ⟨by trivial, dm_rel hok⟩)))
  · exact rx_hasF hA (br_t rfl (ry_isF hA (br_t rfl ⟨by trivial, dm_rel hok⟩)))
theorem i_vc_hullArea2 {k : Nat} {u : SX} {v : SY} (I : i_Rel k u v) (hk : k + 4 ≤ 2048) : wpX_hullArea2 (fun r => wpY_hullArea2 (fun r' => r' = r ∧ i_Rel (k + 4) u v) v) u := by
  obtain ⟨fc, us, xs, ys, wt, gp, od, ed, wy, rfl, rfl, hok⟩ := I
  obtain ⟨r, hX, hY⟩ := sh_out (fc := fc) (us := us) (xs := xs) (ys := ys) (wt := wt) (gp := gp) (od := od) (ed := ed) (wy := wy) (nz_hs hok) 24 0 0 rfl
  exact ⟨25, hX _ ⟨25, hY _ ⟨rfl, dm_rel hok⟩⟩⟩
