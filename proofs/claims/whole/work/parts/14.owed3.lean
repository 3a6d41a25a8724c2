/-! the owed statements of the methods that grow a tree -/
theorem ot_e {us xs ys : Nat → Int32} {fc : Int32} {s c : Nat} {o : Nat → Nat} {e : Nat → Int} (hok : dm_ok fc us xs ys) (hP : tr_P (dm_U us) (dm_D xs ys) s c o e) : (∀ i, 0 < i → i < c → 0 < e i) ∧ (∀ i, i < c → 0 ≤ e i) := by
  have A : ∀ i, 0 < i → i < c → 0 < e i := fun i h0 hi => by
    obtain ⟨⟨t, ht, ee⟩, _⟩ := hP.2.2.2.2 i h0 hi
    rw [ee]
    refine gy_d hok _ _ (hP.2.1 t (by omega)) (hP.2.1 i hi) fun z => ?_
    have := hP.2.2.1 t i (by omega) hi z
    omega
  refine ⟨A, fun i hi => ?_⟩
  by_cases x : i = 0
  · rw [x, (hP.1 (by omega)).2]; omega
  · have := A i (by omega) hi; omega
theorem i_vc_treeTotal {k : Nat} {u : SX} {v : SY} (I : i_Rel k u v) (hk : k + 4 ≤ 2048) : wpX_treeTotal (fun r u' => wpY_treeTotal (fun r' v' => r' = r ∧ i_Rel (k + 4) u' v') v) u := by
  obtain ⟨fc, us, xs, ys, wt, gp, od, ed, wy, rfl, rfl, hok⟩ := I
  unfold wpX_treeTotal
  dsimp only
  refine gx_any hok fun wt gp od ed s o hod hP => ?_
  dsimp only
  have hc := cn_le 24 (dm_u us)
  have Y : ∀ R : Int32, R = Int32.ofInt (tr_s (cn_t 24 (dm_u us)) (fun k => (ed k).toInt)) → wpY_treeTotal (fun r' v' => r' = R ∧ i_Rel (k + 4) (fc, us, xs, ys, wt, gp, od, ed) v') (us, xs, ys, wy) := by
    intro R hR
    unfold wpY_treeTotal
    dsimp only
    refine wy_ways hok fun a hS hn => gy_total ⟨?_, dm_rel hok⟩
    rw [hR]
    have e1 := tr_sum (n := cn_t 24 (dm_u us)) (n' := 24) (f := fun k => (ed k).toInt) (g := fun i => (bk_v us a i).toInt) fun m hm => tr_G hP gy_ds (fun x hx => hx.1) hS (wy_B hn) hm
    rw [← e1]
    exact congrArg Int32.ofInt (tr_sc fun i hi => by have := (ot_e hok hP).2 i hi; omega)
  by_cases h0 : cn_t 24 (dm_u us) = 0
  · refine ⟨1, ?_⟩
    rw [wX_treeTotal_8]
    refine br_t ?_ (Y 0 (by rw [h0]; rfl))
    rw [hok.1, h0]; decide
  · have := hok.1
    subst this
    have G := gx_total (post := fun r u' => wpY_treeTotal (fun r' v' => r' = r ∧ i_Rel (k + 4) u' v') (us, xs, ys, wy)) (wt := wt) (us := us) (xs := xs) (ys := ys) (gp := gp) (od := od) (ed := ed) hc (Y _ rfl) (cn_t 24 (dm_u us) - 1) 1 (by omega) (by omega)
    refine ⟨cn_t 24 (dm_u us) - 1 + 1, ?_⟩
    have z : Int32.ofInt (tr_s 1 (fun k => (ed k).toInt)) = 0 := by
      have : (ed 0).toInt = 0 := (hP.1 (by omega)).2
      show Int32.ofInt (0 + (ed 0).toInt) = 0
      rw [this]; decide
    rw [z] at G
    exact G
theorem i_vc_treeEdge {k : Nat} {u : SX} {v : SY} (I : i_Rel k u v) (hk : k + 4 ≤ 2048) (v1 : Int32) : wpX_treeEdge (fun r u' => wpY_treeEdge (fun r' v' => r' = r ∧ i_Rel (k + 4) u' v') v v1) u v1 := by
  obtain ⟨fc, us, xs, ys, wt, gp, od, ed, wy, rfl, rfl, hok⟩ := I
  unfold wpX_treeEdge wpY_treeEdge
  dsimp only
  by_cases h0 : v1 < 0
  · exact br_t h0 (br_t h0 ⟨rfl, dm_rel hok⟩)
  · by_cases h1 : v1 ≤ fc - 2
    · obtain ⟨q, hq, rfl⟩ := nI_of h0
      have hc := cn_le 24 (dm_u us)
      have fe := hok.1
      subst fe
      have q2 : q + 2 ≤ cn_t 24 (dm_u us) := by
        rw [Int32.le_iff_toInt_le, Int32.toInt_sub, nI_toInt hq, nI_toInt (by omega), show (2 : Int32).toInt = 2 from by decide, Int.bmod_eq_of_le (by omega) (by omega)] at h1
        omega
      have q1 : q + 1 < 24 := by omega
      refine br_f h0 (br_t h1 (gx_any hok fun wt gp od ed s o hod hP => gx_sort hc (by omega) fun a hcnt hsort => ?_))
      dsimp only
      rw [nI_1, ba_cl q1]
      refine ⟨ba_in q1, br_f h0 (st_size (br_t h1 (wy_ways hok fun b hS hn => ?_)))⟩
      dsimp only
      have T := tr_kth (n := cn_t 24 (dm_u us)) (k := q) (e := fun i => (ed i).toInt) (sA := fun i => (a i).toInt) (bk := fun i => (bk_v us b i).toInt) hcnt hsort (hP.1 (by omega)).2 (ot_e hok hP).1
        (fun m hm => tr_G hP gy_ds (fun x hx => hx.1) hS (wy_B hn) hm) q2
      obtain ⟨T1, i, hi, T2, T3, T4, T5⟩ := T
      refine gy_edge (v := a (q + 1)) hq (fun b hb => T1 b hb.1 hb.2.1 hb.2.2) ⟨i, hi, ?_⟩ ⟨rfl, dm_rel hok⟩
      have T2' : (bk_v us b i).toInt = (a (q + 1)).toInt := T2
      rw [T2']
      exact ⟨T3, T4, T5⟩
    · exact br_f h0 (br_f h1 (br_f h0 (st_size (br_f (by rw [← hok.1]; exact h1) ⟨rfl, dm_rel hok⟩))))
theorem i_vc_hop {k : Nat} {u : SX} {v : SY} (I : i_Rel k u v) (hk : k + 4 ≤ 2048) (v1 : Int32) (v2 : Int32) : wpX_hop (fun r u' => wpY_hop (fun r' v' => r' = r ∧ i_Rel (k + 4) u' v') v v1 v2) u v1 v2 := by
  obtain ⟨fc, us, xs, ys, wt, gp, od, ed, wy, rfl, rfl, hok⟩ := I
  unfold wpX_hop wpY_hop
  dsimp only
  by_cases hA : dm_has us v1
  · obtain ⟨a, ha, rfl, ua⟩ := hA
    refine rx_hasT ha ua (br_f ba_10 ?_)
    by_cases hB : dm_has us v2
    · obtain ⟨b, hb, rfl, ub⟩ := hB
      refine rx_hasT hb ub (br_f ba_10 ?_)
      have hc := cn_le 24 (dm_u us)
      refine gx_grow hok ha (fun _ => ua) fun wt gp od ed o hod hP => ?_
      dsimp only
      obtain ⟨j0, hj, ej⟩ := hP.2.2.2.1 b ⟨hb, ub⟩
      have fe := hok.1
      subst fe
      refine ⟨j0 + 1, hx_loop hc hP (fun x hx => hx.1) hod hj ej (fun L l1 l2 l3 => ?_) j0 0 0 (by omega) (fun t a b => by omega) (Or.inl nz_0) (by decide)⟩
      refine ry_isT ha ua (br_f ba_10 (ry_isT hb ub (br_f ba_10 (wy_ways hok fun w hS hn => ?_))))
      dsimp only
      rw [wa_ix, wa_cl ha hb]
      refine ⟨wa_in ha hb, ?_, dm_rel hok⟩
      apply Int32.toInt_inj.mp
      have F : ∀ m : Int, L.toInt ≤ m ↔ wa_w w a b ≤ m := fun m => by
        rw [hS a b ⟨ha, ua⟩ ⟨hb, ub⟩ m, ← ej]
        exact tr_far hP hj l1 l2 l3
      have f1 := (F L.toInt).mp (Int.le_refl _)
      have f2 := (F (wa_w w a b)).mpr (Int.le_refl _)
      unfold wa_w at f1 f2
      omega
    · exact rx_hasF hB (br_t rfl (ry_isT ha ua (br_f ba_10 (ry_isF hB (br_t rfl ⟨rfl, dm_rel hok⟩)))))
  · exact rx_hasF hA (br_t rfl (ry_isF hA (br_t rfl ⟨rfl, dm_rel hok⟩)))
theorem i_vc_groups {k : Nat} {u : SX} {v : SY} (I : i_Rel k u v) (hk : k + 4 ≤ 2048) (v1 : Int32) : wpX_groups (fun r u' => wpY_groups (fun r' v' => r' = r ∧ i_Rel (k + 4) u' v') v v1) u v1 := by
  obtain ⟨fc, us, xs, ys, wt, gp, od, ed, wy, rfl, rfl, hok⟩ := I
  unfold wpX_groups
  dsimp only
  have hc := cn_le 24 (dm_u us)
  have fe := hok.1
  subst fe
  by_cases h0 : cn_t 24 (dm_u us) = 0
  · refine br_t (by rw [h0]; rfl) (gy_groups hok fun wy' => ⟨?_, dm_rel hok⟩)
    rw [cn_none fun i hi z => cn_zero h0 i hi z.1.2]; rfl
  · refine br_f (nI_ne0 (by omega) (by omega)) (gx_any hok fun wt gp od ed s o hod hP => ?_)
    dsimp only
    have C := tr_count hP gy_ds (fun x hx => hx.1) v1.toInt
    refine ⟨cn_t 24 (dm_u us) - 1 + 1, ?_⟩
    have G := gx_groups (m := v1) (post := fun r u' => wpY_groups (fun r' v' => r' = r ∧ i_Rel (k + 4) u' v') (us, xs, ys, wy) v1) (us := us) (xs := xs) (ys := ys) (wt := wt) (gp := gp) (od := od) (ed := ed) hc (gy_groups hok fun wy' => ⟨by rw [C], dm_rel hok⟩) (cn_t 24 (dm_u us) - 1) 1 (by omega) (by omega)
    have z : cn_t 1 (fun k => k = 0 ∨ v1.toInt < (ed k).toInt) = 1 := by
      rw [cn_S, cn_0, cn_bT (p := 0 = 0 ∨ v1.toInt < (ed 0).toInt) (Or.inl rfl)]
    rw [z] at G
    exact G
theorem i_vc_groupOf {k : Nat} {u : SX} {v : SY} (I : i_Rel k u v) (hk : k + 4 ≤ 2048) (v1 : Int32) (v2 : Int32) : wpX_groupOf (fun r u' => wpY_groupOf (fun r' v' => r' = r ∧ i_Rel (k + 4) u' v') v v1 v2) u v1 v2 := by
  obtain ⟨fc, us, xs, ys, wt, gp, od, ed, wy, rfl, rfl, hok⟩ := I
  unfold wpX_groupOf
  dsimp only
  by_cases hA : dm_has us v1
  · obtain ⟨a, ha, rfl, ua⟩ := hA
    refine rx_hasT ha ua (br_f ba_10 ?_)
    have hc := cn_le 24 (dm_u us)
    refine gx_grow hok ha (fun _ => ua) fun wt gp od ed o hod hP => ?_
    dsimp only
    have fe := hok.1
    subst fe
    have c0 : 0 < cn_t 24 (dm_u us) := by
      apply Nat.pos_of_ne_zero
      intro z
      exact cn_zero z a ha ua
    refine ⟨cn_t 24 (dm_u us) - 1 + 1, gx_grp hc hP (fun x hx => hx.1) hod (fun r hQ => ?_) (cn_t 24 (dm_u us) - 1) 1 a (by omega) (by omega) ⟨0, by omega, (hP.1 c0).1.symm⟩ (fun t ht => ?_) (fun t a b => by omega)⟩
    · exact gy_groupOf hok ha ua fun r' wy' hr' hQ' => ⟨by rw [gm_uq hQ hQ'], dm_rel hok⟩
    · cases (by omega : t = 0)
      rw [(hP.1 c0).1]; exact Nat.le_refl _
  · refine rx_hasF hA (br_t rfl ?_)
    unfold wpY_groupOf
    exact ry_isF hA (br_t rfl ⟨rfl, dm_rel hok⟩)
