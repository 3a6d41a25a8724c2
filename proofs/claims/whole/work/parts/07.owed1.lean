/-! the owed statements of the methods that grow no tree -/
theorem ow_in {p : Int32} (h : ¬ p < 0 ∧ ¬ 127 < p) : 0 ≤ p.toInt ∧ p.toInt ≤ 127 := by
  have e : (127 : Int32).toInt = 127 := by decide
  simp only [Int32.lt_iff_toInt_lt, nz_0, e] at h
  omega
section
variable {fc : Int32} {us xs ys wt gp od ed wy : Nat → Int32} {post : Int32 → Prop}
theorem ow_rT {p : Int32} (h : ¬ p < 0 ∧ ¬ 127 < p) (k : post 1) : wpX_inRange post (fc, us, xs, ys, wt, gp, od, ed) p := by
  simp only [wpX_inRange]
  exact br_f h.1 (br_f h.2 k)
theorem ow_rF {p : Int32} (h : ¬ (¬ p < 0 ∧ ¬ 127 < p)) (k : post 0) : wpX_inRange post (fc, us, xs, ys, wt, gp, od, ed) p := by
  simp only [wpX_inRange]
  exact ⟨fun _ => k, fun z => ⟨fun _ => k, fun y => absurd ⟨z, y⟩ h⟩⟩
theorem ow_oT {p q : Int32} (h : ¬ ((¬ p < 0 ∧ ¬ 127 < p) ∧ (¬ q < 0 ∧ ¬ 127 < q))) (k : post 1) : wpY_outside post (us, xs, ys, wy) p q := by
  simp only [wpY_outside]
  exact ⟨fun _ => k, fun z => ⟨fun _ => k, fun y => ⟨fun _ => k, fun x => ⟨fun w => absurd ⟨⟨z, y⟩, x, Int32.not_lt.mpr w⟩ h, fun _ => k⟩⟩⟩⟩
theorem ow_oF {p q : Int32} (h : (¬ p < 0 ∧ ¬ 127 < p) ∧ (¬ q < 0 ∧ ¬ 127 < q)) (k : post 0) : wpY_outside post (us, xs, ys, wy) p q := by
  simp only [wpY_outside]
  exact br_f h.1.1 (br_f h.1.2 (br_f h.2.1 (br_t (Int32.not_lt.mp h.2.2) k)))
end
theorem ow_addok {fc : Int32} {us xs ys : Nat → Int32} (hok : dm_ok fc us xs ys) {x y : Int32} {f : Nat} (hf : f < 24) (u : us f = 0)
    (hd : ¬ ∃ c, c < 24 ∧ st_dup us xs ys x y c) (hx : 0 ≤ x.toInt ∧ x.toInt ≤ 127) (hy : 0 ≤ y.toInt ∧ y.toInt ≤ 127) :
    dm_ok (fc + 1) (upd us f 1) (upd xs f x) (upd ys f y) := by
  obtain ⟨h1, h2, h3, h4, h5⟩ := hok
  refine ⟨?_, fun j => ?_, fun j => ?_, fun j => ?_, fun i j hi hj ui uj ex ey => ?_⟩
  · have := cn_one (n := 24) (k := f) (P := dm_u (upd us f 1)) (Q := dm_u us) hf fun i _ hi => by unfold dm_u; rw [dm_un hi]
    rw [cn_bF (p := dm_u us f) fun z => z u, cn_bT (p := dm_u (upd us f 1) f) (by unfold dm_u; rw [dm_us]; decide)] at this
    rw [h1, nI_1]
    exact congrArg nI (by omega)
  · by_cases e : j = f
    · rw [e, dm_us]; exact Or.inr rfl
    · rw [dm_un e]; exact h2 j
  · by_cases e : j = f
    · rw [e, dm_us]; exact hx
    · rw [dm_un e]; exact h3 j
  · by_cases e : j = f
    · rw [e, dm_us]; exact hy
    · rw [dm_un e]; exact h4 j
  · by_cases e1 : i = f
    · by_cases e2 : j = f
      · rw [e1, e2]
      · rw [dm_un e2] at uj
        rw [e1, dm_us, dm_un e2] at ex ey
        exact absurd ⟨j, hj, uj, ex.symm, ey.symm⟩ hd
    · by_cases e2 : j = f
      · rw [dm_un e1] at ui
        rw [e2, dm_us, dm_un e1] at ex ey
        exact absurd ⟨i, hi, ui, ex, ey⟩ hd
      · rw [dm_un e1] at ui ex ey
        rw [dm_un e2] at uj ex ey
        exact h5 i j hi hj ui uj ex ey
theorem i_vc_add {k : Nat} {u : SX} {v : SY} (I : i_Rel k u v) (hk : k + 4 ≤ 2048) (v1 : Int32) (v2 : Int32) : wpX_add (fun r u' => wpY_add (fun r' v' => r' = r ∧ i_Rel (k + 4) u' v') v v1 v2) u v1 v2 := by
  obtain ⟨fc, us, xs, ys, wt, gp, od, ed, wy, rfl, rfl, hok⟩ := I
  simp only [wpX_add, wpY_add]
  by_cases h1 : ¬ v1 < 0 ∧ ¬ 127 < v1
  · by_cases h2 : ¬ v2 < 0 ∧ ¬ 127 < v2
    · refine ow_rT h1 (br_f ba_10 (ow_rT h2 (br_f ba_10 (st_holds (fun hd => br_f ba_10 ?_) (fun hd => br_t rfl ?_)))))
      · exact ow_oF ⟨h1, h2⟩ (br_t rfl (st_addYd hd ⟨by trivial, dm_rel hok⟩ _))
      · refine st_addX (fun hN => ?_) (fun f hf u hl => ?_)
        · refine ow_oF ⟨h1, h2⟩ (br_t rfl ⟨25, ?_⟩)
          have := st_addY (postY := fun r' v' => r' = -3 ∧ i_Rel (k + 4) (fc, us, xs, ys, wt, gp, od, ed) v') (wy := wy) hd (fun _ => ⟨by trivial, dm_rel hok⟩) (fun f hf u _ => absurd u (hN f hf)) 24 (by omega) (-1) (Or.inl ⟨rfl, fun j h1 h2 => by omega⟩)
          rw [show nI 24 + (-1) = 23 from by decide] at this
          exact this
        · refine ow_oF ⟨h1, h2⟩ (br_t rfl ⟨25, ?_⟩)
          have R := ow_addok hok hf u hd (ow_in h1) (ow_in h2)
          have := st_addY (postY := fun r' v' => r' = nI f ∧ i_Rel (k + 4) (fc + 1, upd us f 1, upd xs f v1, upd ys f v2, wt, gp, od, ed) v') (wy := wy) hd (fun hN => absurd u (hN f hf)) (fun g hg ug hgl => by
            have e : g = f := by
              rcases Nat.lt_trichotomy g f with h | h | h
              · exact absurd ug (hl g h)
              · exact h
              · exact absurd u (hgl f h)
            rw [e]
            exact ⟨by trivial, dm_rel R⟩) 24 (by omega) (-1) (Or.inl ⟨rfl, fun j h1 h2 => by omega⟩)
          rw [show nI 24 + (-1) = 23 from by decide] at this
          exact this
    · exact ow_rT h1 (br_f ba_10 (ow_rF h2 (br_t rfl (ow_oT (fun z => h2 z.2) (br_f ba_10 ⟨by trivial, dm_rel hok⟩)))))
  · exact ow_rF h1 (br_t rfl (ow_oT (fun z => h1 z.1) (br_f ba_10 ⟨by trivial, dm_rel hok⟩)))
theorem i_vc_remove {k : Nat} {u : SX} {v : SY} (I : i_Rel k u v) (hk : k + 4 ≤ 2048) (v1 : Int32) : wpX_remove (fun r u' => wpY_remove (fun r' v' => r' = r ∧ i_Rel (k + 4) u' v') v v1) u v1 := by
  obtain ⟨fc, us, xs, ys, wt, gp, od, ed, wy, rfl, rfl, hok⟩ := I
  simp only [wpX_remove, wpY_remove]
  by_cases hA : dm_has us v1
  · obtain ⟨a, ha, rfl, ua⟩ := hA
    simp only [ba_in ha, ba_cl ha, true_and, forall_eq, dm_n0]
    have := cn_one (n := 24) (k := a) (P := dm_u (upd us a 0)) (Q := dm_u us) ha fun i _ hi => by unfold dm_u; rw [dm_un hi]
    rw [cn_bT (p := dm_u us a) ua, cn_bF (p := dm_u (upd us a 0) a) (by unfold dm_u; rw [dm_us]; decide)] at this
    have e : fc - 1 = nI (cn_t 24 (dm_u (upd us a 0))) := by
      rw [hok.1, show cn_t 24 (dm_u us) = cn_t 24 (dm_u (upd us a 0)) + 1 by omega, nI_pred]
    refine rx_hasT ha ua (br_f ba_10 (ry_isT ha ua (br_f ba_10 (st_size ⟨e.symm, dm_rel ?_⟩))))
    obtain ⟨h1, h2, h3, h4, h5⟩ := hok
    have N : ∀ j, upd us a 0 j ≠ 0 → us j ≠ 0 := fun j hj => by
      by_cases e : j = a
      · rw [e, dm_us] at hj; exact absurd rfl hj
      · rw [dm_un e] at hj; exact hj
    refine ⟨e, fun j => ?_, h3, h4, fun i j hi hj ui uj => h5 i j hi hj (N i ui) (N j uj)⟩
    by_cases e : j = a
    · rw [e, dm_us]; exact Or.inl rfl
    · rw [dm_un e]; exact h2 j
  · exact rx_hasF hA (br_t rfl (ry_isF hA (br_t rfl ⟨by trivial, dm_rel hok⟩)))
theorem ow_clr (us : Nat → Int32) {i : Nat} : upd (fun j => if j < i then 0 else us j) i 0 = fun j => if j < i + 1 then 0 else us j := by
  funext j
  unfold upd
  by_cases e : j = i
  · rw [if_pos e, if_pos (by omega)]
  · rw [if_neg e]
    by_cases l : j < i
    · exact (if_pos l).trans (if_pos (by omega)).symm
    · exact (if_neg l).trans (if_neg (by omega)).symm
theorem i_vc_clear {k : Nat} {u : SX} {v : SY} (I : i_Rel k u v) (hk : k + 4 ≤ 2048) : wpX_clear (fun u' => wpY_clear (fun v' => i_Rel (k + 4) u' v') v) u := by
  obtain ⟨fc, us, xs, ys, wt, gp, od, ed, wy, rfl, rfl, hok⟩ := I
  simp only [wpX_clear, wpY_clear]
  have R : dm_ok 0 (fun j => if j < 24 then 0 else us j) xs ys := by
    obtain ⟨h1, h2, h3, h4, h5⟩ := hok
    have N : ∀ j, j < 24 → (if j < 24 then (0 : Int32) else us j) = 0 := fun j hj => if_pos hj
    refine ⟨?_, fun j => ?_, h3, h4, fun i j hi hj ui => absurd (N i hi) ui⟩
    · rw [cn_none fun i hi z => z (N i hi)]; rfl
    · by_cases l : j < 24
      · exact Or.inl (if_pos l)
      · have e : (if j < 24 then (0 : Int32) else us j) = us j := if_neg l
        exact (h2 j).imp (fun z => e.trans z) (fun z => e.trans z)
  refine loop_0 (fun n i (s : Nat → Int32) => wX_clear_2 (fun u' => ∃ n2, wY_clear_2 (fun v' => i_Rel (k + 4) u' v') n2 0 us xs ys wy) fc n (nI i) s xs ys wt gp od ed) (fun i s => s = fun j => if j < i then 0 else us j) 24 us ?_ ?_ ?_
  · funext j; rw [if_neg (by omega)]
  · rintro n s rfl
    refine br_t ba_le24 ?_
    refine loop_0 (fun n i (s : Nat → Int32) => wY_clear_2 (fun v' => i_Rel (k + 4) (0, (fun j => if j < 24 then 0 else us j), xs, ys, wt, gp, od, ed) v') n (nI i) s xs ys wy) (fun i s => s = fun j => if j < i then 0 else us j) 24 us ?_ ?_ ?_
    · funext j; rw [if_neg (by omega)]
    · rintro n s rfl
      exact br_t ba_le24 (dm_rel R)
    · rintro n i s hi rfl ih
      rw [wY_clear_2]
      simp only [ba_in hi, ba_cl hi, true_and, nI_1, forall_eq, dm_n0]
      exact br_f (ba_ge hi) (ih _ (ow_clr us))
  · rintro n i s hi rfl ih
    rw [wX_clear_2]
    simp only [ba_in hi, ba_cl hi, true_and, nI_1, forall_eq, dm_n0]
    exact br_f (ba_ge hi) (ih _ (ow_clr us))
theorem i_vc_size {k : Nat} {u : SX} {v : SY} (I : i_Rel k u v) (hk : k + 4 ≤ 2048) : wpX_size (fun r => wpY_size (fun r' => r' = r ∧ i_Rel (k + 4) u v) v) u := by
  obtain ⟨fc, us, xs, ys, wt, gp, od, ed, wy, rfl, rfl, hok⟩ := I
  simp only [wpX_size]
  exact st_size ⟨hok.1.symm, dm_rel hok⟩
theorem i_vc_xOf {k : Nat} {u : SX} {v : SY} (I : i_Rel k u v) (hk : k + 4 ≤ 2048) (v1 : Int32) : wpX_xOf (fun r => wpY_xOf (fun r' => r' = r ∧ i_Rel (k + 4) u v) v v1) u v1 := by
  obtain ⟨fc, us, xs, ys, wt, gp, od, ed, wy, rfl, rfl, hok⟩ := I
  simp only [wpX_xOf, wpY_xOf]
  by_cases hA : dm_has us v1
  · obtain ⟨a, ha, rfl, ua⟩ := hA
    exact rx_hasT ha ua (br_f ba_10 ⟨ba_in ha, ry_isT ha ua (br_f ba_10 ⟨ba_in ha, by trivial, dm_rel hok⟩)⟩)
  · exact rx_hasF hA (br_t rfl (ry_isF hA (br_t rfl ⟨by trivial, dm_rel hok⟩)))
theorem i_vc_yOf {k : Nat} {u : SX} {v : SY} (I : i_Rel k u v) (hk : k + 4 ≤ 2048) (v1 : Int32) : wpX_yOf (fun r => wpY_yOf (fun r' => r' = r ∧ i_Rel (k + 4) u v) v v1) u v1 := by
  obtain ⟨fc, us, xs, ys, wt, gp, od, ed, wy, rfl, rfl, hok⟩ := I
  simp only [wpX_yOf, wpY_yOf]
  by_cases hA : dm_has us v1
  · obtain ⟨a, ha, rfl, ua⟩ := hA
    exact rx_hasT ha ua (br_f ba_10 ⟨ba_in ha, ry_isT ha ua (br_f ba_10 ⟨ba_in ha, by trivial, dm_rel hok⟩)⟩)
  · exact rx_hasF hA (br_t rfl (ry_isF hA (br_t rfl ⟨by trivial, dm_rel hok⟩)))
theorem i_vc_nearest {k : Nat} {u : SX} {v : SY} (I : i_Rel k u v) (hk : k + 4 ≤ 2048) (v1 : Int32) (v2 : Int32) : wpX_nearest (fun r => wpY_nearest (fun r' => r' = r ∧ i_Rel (k + 4) u v) v v1 v2) u v1 v2 := by
  obtain ⟨fc, us, xs, ys, wt, gp, od, ed, wy, rfl, rfl, hok⟩ := I
  simp only [wpX_nearest, wpY_nearest, wpX_closestTo]
  by_cases h1 : ¬ v1 < 0 ∧ ¬ 127 < v1
  · by_cases h2 : ¬ v2 < 0 ∧ ¬ 127 < v2
    · obtain ⟨r, hX, hY⟩ := sn_near (fc := fc) (us := us) (xs := xs) (ys := ys) (wt := wt) (gp := gp) (od := od) (ed := ed) (wy := wy) v1 v2 24 0 rfl (-4) 0 (Or.inl rfl)
      exact ow_rT h1 (br_f ba_10 (ow_rT h2 (br_f ba_10 ⟨25, hX _ (ow_oF ⟨h1, h2⟩ (br_t rfl ⟨25, hY _ ⟨by trivial, dm_rel hok⟩⟩))⟩)))
    · exact ow_rT h1 (br_f ba_10 (ow_rF h2 (br_t rfl (ow_oT (fun z => h2 z.2) (br_f ba_10 ⟨by trivial, dm_rel hok⟩)))))
  · exact ow_rF h1 (br_t rfl (ow_oT (fun z => h1 z.1) (br_f ba_10 ⟨by trivial, dm_rel hok⟩)))
theorem i_vc_neighbour {k : Nat} {u : SX} {v : SY} (I : i_Rel k u v) (hk : k + 4 ≤ 2048) (v1 : Int32) : wpX_neighbour (fun r => wpY_neighbour (fun r' => r' = r ∧ i_Rel (k + 4) u v) v v1) u v1 := by
  obtain ⟨fc, us, xs, ys, wt, gp, od, ed, wy, rfl, rfl, hok⟩ := I
  simp only [wpX_neighbour, wpY_neighbour, wpX_closestTo]
  by_cases hA : dm_has us v1
  · obtain ⟨a, ha, rfl, ua⟩ := hA
    obtain ⟨r, hX, hY⟩ := sn_neigh (fc := fc) (us := us) (xs := xs) (ys := ys) (wt := wt) (gp := gp) (od := od) (ed := ed) (wy := wy) ha 24 0 rfl (-4) 0 (Or.inl rfl)
    simp only [ba_in ha, ba_cl ha, true_and]
    exact rx_hasT ha ua (br_f ba_10 ⟨25, hX _ (ry_isT ha ua (br_f ba_10 ⟨25, hY _ ⟨by trivial, dm_rel hok⟩⟩))⟩)
  · exact rx_hasF hA (br_t rfl (ry_isF hA (br_t rfl ⟨by trivial, dm_rel hok⟩)))
