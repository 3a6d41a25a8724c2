/-! the component grows its tree -/
def dm_U (us : Nat → Int32) (v : Nat) : Prop := v < 24 ∧ us v ≠ 0
def dm_D (xs ys : Nat → Int32) (i j : Nat) : Int := (dm_d xs ys i j).toInt
def gt_I (U : Nat → Prop) (d : Nat → Nat → Int) (s c k : Nat) (W : Nat → Prop) (G : Nat → Int) (o : Nat → Nat) (e : Nat → Int) : Prop :=
  (∀ i, i < k → U (o i)) ∧ (∀ v, v < 24 → (W v ↔ (U v ∧ ∀ i, i < k → o i ≠ v))) ∧ cn_t 24 W + k = c ∧
  (∀ v, v < 24 → G v ≤ d s v ∧ (∀ i, i < k → G v ≤ d (o i) v) ∧ (G v = d s v ∨ ∃ i, i < k ∧ G v = d (o i) v)) ∧
  (∀ i j, i < k → j < k → o i = o j → i = j) ∧ (0 < k → o 0 = s ∧ e 0 = 0) ∧
  ∀ i, 0 < i → i < k → (∃ t, t < i ∧ e i = d (o t) (o i)) ∧ (∀ t v, t < i → U v → (∀ j, j < i → o j ≠ v) → e i ≤ d (o t) v)
section
variable {U : Nat → Prop} {d : Nat → Nat → Int} {s c k : Nat} {W W' : Nat → Prop} {G G' : Nat → Int} {o o' : Nat → Nat} {e e' : Nat → Int}
theorem gt_step (hU : ∀ v, U v → v < 24) (us : U s) (d0 : d s s = 0) (dp : ∀ v, U v → d s v ≤ 0 → v = s) (h : gt_I U d s c k W G o e) {r : Nat} (hr : r < 24) (wr : W r)
    (hm : ∀ v, v < 24 → W v → G r ≤ G v) (hW : ∀ v, v < 24 → (W' v ↔ (W v ∧ v ≠ r))) (hG : ∀ v, v < 24 → G' v = min (G v) (d r v)) (ho : ∀ i, i < k → o' i = o i) (hok : o' k = r)
    (he : ∀ i, i < k → e' i = e i) (hek : e' k = G r) : gt_I U d s c (k + 1) W' G' o' e' := by
  obtain ⟨h1, h2, h3, h4, h5, h6, h7⟩ := h
  have ur := ((h2 r hr).mp wr).1
  have nr := ((h2 r hr).mp wr).2
  have z0 : k = 0 → r = s := by
    intro k0
    have ws : W s := (h2 s (hU s us)).mpr ⟨us, fun i hi => by omega⟩
    have a := hm s (hU s us) ws
    obtain ⟨_, _, b⟩ := h4 r hr
    obtain ⟨c1, _, _⟩ := h4 s (hU s us)
    refine dp r ur ?_
    rcases b with b | ⟨i, hi, _⟩
    · omega
    · omega
  refine ⟨fun i hi => ?_, fun v hv => ?_, ?_, fun v hv => ?_, fun i j hi hj ee => ?_, fun _ => ?_, fun i h0 hi => ?_⟩
  · by_cases x : i = k
    · rw [x, hok]; exact ur
    · rw [ho i (by omega)]; exact h1 i (by omega)
  · rw [hW v hv, h2 v hv]
    constructor
    · rintro ⟨⟨a, b⟩, n⟩
      refine ⟨a, fun i hi => ?_⟩
      by_cases x : i = k
      · rw [x, hok]; exact fun w => n w.symm
      · rw [ho i (by omega)]; exact b i (by omega)
    · rintro ⟨a, b⟩
      refine ⟨⟨a, fun i hi => ?_⟩, fun w => ?_⟩
      · have := b i (by omega); rw [ho i hi] at this; exact this
      · have := b k (by omega); rw [hok] at this; exact this w.symm
  · have := cn_one (n := 24) (k := r) (P := W') (Q := W) hr fun i hi ne => ⟨fun z => ((hW i hi).mp z).1, fun z => (hW i hi).mpr ⟨z, ne⟩⟩
    rw [cn_bT wr, cn_bF (p := W' r) fun z => ((hW r hr).mp z).2 rfl] at this
    omega
  · obtain ⟨a, b, b'⟩ := h4 v hv
    rw [hG v hv]
    refine ⟨by omega, fun i hi => ?_, ?_⟩
    · by_cases x : i = k
      · rw [x, hok]; omega
      · rw [ho i (by omega)]; have := b i (by omega); omega
    · by_cases x : d r v < G v
      · exact Or.inr ⟨k, by omega, by rw [hok]; omega⟩
      · rcases b' with b' | ⟨i, hi, b'⟩
        · exact Or.inl (by omega)
        · exact Or.inr ⟨i, by omega, by rw [ho i hi]; omega⟩
  · by_cases x : i = k
    · by_cases y : j = k
      · omega
      · rw [x, hok, ho j (by omega)] at ee; exact absurd ee.symm (nr j (by omega))
    · by_cases y : j = k
      · rw [y, hok, ho i (by omega)] at ee; exact absurd ee (nr i (by omega))
      · rw [ho i (by omega), ho j (by omega)] at ee; exact h5 i j (by omega) (by omega) ee
  · by_cases x : k = 0
    · have rs := z0 x
      subst x
      refine ⟨by rw [hok, rs], ?_⟩
      rw [hek]
      obtain ⟨_, _, b⟩ := h4 r hr
      rcases b with b | ⟨i, hi, _⟩
      · rw [b, rs]; exact d0
      · omega
    · rw [ho 0 (by omega), he 0 (by omega)]; exact h6 (by omega)
  · by_cases x : i = k
    · subst x
      rw [hek, hok]
      refine ⟨?_, fun t v ht uv nv => ?_⟩
      · obtain ⟨_, _, b⟩ := h4 r hr
        rcases b with b | ⟨j, hj, b⟩
        · exact ⟨0, h0, by rw [ho 0 h0, (h6 h0).1]; exact b⟩
        · exact ⟨j, hj, by rw [ho j hj]; exact b⟩
      · rw [ho t ht]
        have wv : W v := (h2 v (hU v uv)).mpr ⟨uv, fun j hj => by have := nv j hj; rw [ho j hj] at this; exact this⟩
        have a := hm v (hU v uv) wv
        have b := (h4 v (hU v uv)).2.1 t ht
        omega
    · obtain ⟨⟨t, ht, a⟩, b⟩ := h7 i h0 (by omega)
      refine ⟨⟨t, ht, by rw [he i (by omega), ho t (by omega), ho i (by omega)]; exact a⟩, fun t v ht uv nv => ?_⟩
      rw [he i (by omega), ho t (by omega)]
      exact b t v ht uv fun j hj => by have := nv j hj; rw [ho j (by omega)] at this; exact this
theorem gt_end (hU : ∀ v, U v → v < 24) (h : gt_I U d s c c W G o e) : tr_P U d s c o e := by
  obtain ⟨h1, h2, h3, h4, h5, h6, h7⟩ := h
  refine ⟨h6, h1, h5, fun v uv => ?_, h7⟩
  apply Classical.byContradiction
  intro z
  have wv : W v := (h2 v (hU v uv)).mpr ⟨uv, fun i hi w => z ⟨i, hi, w⟩⟩
  exact cn_zero (n := 24) (P := W) (by omega) v (hU v uv) wv
end
section
variable {fc : Int32} {us xs ys wt gp od ed wy : Nat → Int32} {post : Int32 → Prop} {postS : SX → Prop}
theorem gx_next {s : Nat} (hs : s < 24) (hw : ∃ v, v < 24 ∧ wt v ≠ 0) (h : ∀ r, r < 24 → wt r ≠ 0 → (∀ v, v < 24 → wt v ≠ 0 → (gp r).toInt ≤ (gp v).toInt) → post (nI r)) :
    wpX_nextWaiting post (fc, us, xs, ys, wt, gp, od, ed) (nI s) := by
  simp only [wpX_nextWaiting]
  refine loop_0 (fun n i (b : Nat) => wX_nextWaiting_4 post fc us xs ys wt gp od ed n (nI b) (nI i)) (fun i b => b < 24 ∧ ∀ v, v < i → wt v ≠ 0 → wt b ≠ 0 ∧ (gp b).toInt ≤ (gp v).toInt) 24 s ⟨hs, fun v hv => by omega⟩ ?_ ?_
  · rintro n b ⟨hb, hI⟩
    obtain ⟨v, hv, wv⟩ := hw
    exact br_t ba_le24 (h b hb (hI v hv wv).1 fun v hv wv => (hI v hv wv).2)
  · rintro n c b hc ⟨hb, hI⟩ ih
    rw [wX_nextWaiting_4]
    simp only [ba_in hc, ba_cl hc, ba_in hb, ba_cl hb, true_and, nI_1, forall_eq]
    refine br_f (ba_ge hc) ⟨fun wc => ih b ⟨hb, fun v hv wv => ?_⟩, fun wc => ⟨fun wb => ih c ⟨hc, fun v hv wv => ?_⟩, fun wb => ⟨fun g => ih b ⟨hb, fun v hv wv => ?_⟩, fun g => ih c ⟨hc, fun v hv wv => ?_⟩⟩⟩⟩
    · by_cases x : v = c
      · rw [x] at wv; exact absurd wc wv
      · exact hI v (by omega) wv
    · by_cases x : v = c
      · rw [x]; exact ⟨wc, Int.le_refl _⟩
      · exact absurd wb (hI v (by omega) wv).1
    · by_cases x : v = c
      · rw [x]; exact ⟨wb, Int32.le_iff_toInt_le.mp g⟩
      · exact hI v (by omega) wv
    · by_cases x : v = c
      · rw [x]; exact ⟨wc, Int.le_refl _⟩
      · have := (hI v (by omega) wv).2
        rw [Int32.le_iff_toInt_le] at g
        exact ⟨wc, by omega⟩
theorem gx_narrow {t : Nat} (ht : t < 24) (h : ∀ g : Nat → Int32, (∀ v, v < 24 → (g v).toInt = min (gp v).toInt (dm_D xs ys t v)) → postS (fc, us, xs, ys, wt, g, od, ed)) :
    wpX_narrowGaps postS (fc, us, xs, ys, wt, gp, od, ed) (nI t) := by
  simp only [wpX_narrowGaps]
  refine loop_0 (fun n i (g : Nat → Int32) => wX_narrowGaps_2 postS (nI t) fc n (nI i) us xs ys wt g od ed) (fun i g => (∀ v, v < i → (g v).toInt = min (gp v).toInt (dm_D xs ys t v)) ∧ ∀ v, i ≤ v → g v = gp v) 24 gp ⟨fun v hv => by omega, fun v _ => rfl⟩ ?_ ?_
  · rintro n g ⟨hg, _⟩
    exact br_t ba_le24 (h g hg)
  · rintro n c g hc ⟨h1, h2⟩ ih
    rw [wX_narrowGaps_2]
    simp only [ba_in hc, ba_cl hc, true_and, nI_1, forall_eq]
    have gc := h2 c (Nat.le_refl c)
    refine br_f (ba_ge hc) (rx_dist ht hc ⟨fun q => ih g ⟨fun v hv => ?_, fun v hv => h2 v (by omega)⟩, fun q => ih _ ⟨fun v hv => ?_, fun v hv => ?_⟩⟩)
    · by_cases x : v = c
      · rw [Int32.le_iff_toInt_le] at q
        rw [x, gc]; rw [gc] at q; unfold dm_D; omega
      · exact h1 v (by omega)
    · by_cases x : v = c
      · rw [Int32.le_iff_toInt_le] at q
        rw [gc] at q
        rw [x, dm_us]; unfold dm_D; omega
      · rw [dm_un x]; exact h1 v (by omega)
    · rw [dm_un (by omega)]; exact h2 v (by omega)
theorem gx_nar {x : Int32} (h : x = 0 ∨ x = 1) : vp_nar .boolean x = x := by
  rcases h with rfl | rfl
  · exact dm_n0
  · exact dm_n1
theorem gx_loop {c s : Nat} (hc : c ≤ 24) (hs : s < 24) (us' : 0 < c → us s ≠ 0) (d0 : dm_D xs ys s s = 0) (dp : ∀ v, dm_U us v → dm_D xs ys s v ≤ 0 → dm_U us s → v = s)
    (h : ∀ (wt gp od ed : Nat → Int32) (o : Nat → Nat), (∀ i, i < c → od i = nI (o i)) → tr_P (dm_U us) (dm_D xs ys) s c o (fun i => (ed i).toInt) → postS (nI c, us, xs, ys, wt, gp, od, ed))
    (hI : ∃ o, gt_I (dm_U us) (dm_D xs ys) s c 0 (dm_u wt) (fun v => (gp v).toInt) o (fun i => (ed i).toInt)) :
    ∃ n, wX_growTree_40 postS (nI s) n 0 (nI c) us xs ys wt gp od ed := by
  refine loop_0 (fun n i (q : (Nat → Int32) × (Nat → Int32) × (Nat → Int32) × (Nat → Int32)) => wX_growTree_40 postS (nI s) n (nI i) (nI c) us xs ys q.1 q.2.1 q.2.2.1 q.2.2.2)
    (fun i q => ∃ o : Nat → Nat, (∀ j, j < i → q.2.2.1 j = nI (o j)) ∧ gt_I (dm_U us) (dm_D xs ys) s c i (dm_u q.1) (fun v => (q.2.1 v).toInt) o (fun j => (q.2.2.2 j).toInt)) c (wt, gp, od, ed) ?_ ?_ ?_
  · obtain ⟨o, ho⟩ := hI
    exact ⟨o, fun j hj => by omega, ho⟩
  · rintro n ⟨wt, gp, od, ed⟩ ⟨o, ho, hg⟩
    dsimp only at ho hg ⊢
    rw [wX_growTree_40]
    exact br_t (nI_le (Nat.le_refl c) (by omega)) (h wt gp od ed o ho (gt_end (fun v hv => hv.1) hg))
  · rintro n k ⟨wt, gp, od, ed⟩ hk ⟨o, ho, hg⟩ ih
    dsimp only at ho hg ⊢
    have hk' : k < 24 := by omega
    have hwe : ∃ v, v < 24 ∧ wt v ≠ 0 := cn_pos (n := 24) (P := dm_u wt) (by have := hg.2.2.1; omega)
    rw [wX_growTree_40]
    refine br_f (nI_ge hk (by omega)) (gx_next hs hwe fun r hr wr hm => ?_)
    simp only [ba_in hk', ba_cl hk', ba_in hr, ba_cl hr, true_and, nI_1, forall_eq, dm_n0]
    refine gx_narrow hr fun g hgg => ?_
    dsimp only
    have usr : dm_U us s := ⟨hs, us' (by omega)⟩
    refine ih (upd wt r 0, g, upd od k (nI r), upd ed k (gp r)) ⟨fun j => if j = k then r else o j, fun j hj => ?_, ?_⟩
    · dsimp only
      by_cases x : j = k
      · rw [x, dm_us, if_pos rfl]
      · rw [dm_un x, if_neg x]; exact ho j (by omega)
    · dsimp only
      refine gt_step (fun v hv => hv.1) usr d0 (fun v uv hv => dp v uv hv usr) hg hr wr hm (fun v hv => ?_) hgg (fun i hi => if_neg (by omega)) (if_pos rfl) (fun i hi => ?_) ?_
      · unfold dm_u
        by_cases x : v = r
        · rw [x, dm_us]; exact ⟨fun z => absurd rfl z, fun z => absurd rfl z.2⟩
        · rw [dm_un x]; exact ⟨fun z => ⟨z, x⟩, fun z => z.1⟩
      · rw [dm_un (by omega)]
      · rw [dm_us]
theorem gx_grow {s : Nat} (hok : dm_ok fc us xs ys) (hs : s < 24) (us' : 0 < cn_t 24 (dm_u us) → us s ≠ 0)
    (h : ∀ (wt gp od ed : Nat → Int32) (o : Nat → Nat), (∀ i, i < cn_t 24 (dm_u us) → od i = nI (o i)) → tr_P (dm_U us) (dm_D xs ys) s (cn_t 24 (dm_u us)) o (fun i => (ed i).toInt) → postS (fc, us, xs, ys, wt, gp, od, ed)) :
    wpX_growTree postS (fc, us, xs, ys, wt, gp, od, ed) (nI s) := by
  obtain ⟨h1, h2, h3, h4, h5⟩ := hok
  subst h1
  simp only [wpX_growTree]
  refine loop_0 (fun n i (q : (Nat → Int32) × (Nat → Int32)) => wX_growTree_2 postS (nI s) (nI (cn_t 24 (dm_u us))) n (nI i) us xs ys q.1 q.2 od ed)
    (fun i q => ∀ v, v < i → q.1 v = us v ∧ q.2 v = dm_d xs ys s v) 24 (wt, gp) (fun v hv => by omega) ?_ ?_
  · rintro n ⟨wt, gp⟩ hq
    dsimp only at hq ⊢
    rw [wX_growTree_2]
    refine br_t ba_le24 (gx_loop (cn_le 24 _) hs us' ?_ ?_ h ⟨fun _ => 0, ?_⟩)
    · unfold dm_D; rw [nz_d h3 h4]; simp
    · intro v uv hv usr
      unfold dm_D at hv
      rw [nz_d h3 h4] at hv
      obtain ⟨g1, g2⟩ := nz_sq ((xs s).toInt - (xs v).toInt) ((ys s).toInt - (ys v).toInt)
      obtain ⟨g3, g4⟩ := g2 (by omega)
      exact h5 v s uv.1 hs uv.2 usr.2 (Int32.toInt_inj.mp (by omega)) (Int32.toInt_inj.mp (by omega))
    · refine ⟨fun i hi => by omega, fun v hv => ?_, ?_, fun v hv => ?_, fun i j hi => by omega, fun z => by omega, fun i a b => by omega⟩
      · unfold dm_u dm_U
        rw [(hq v hv).1]
        exact ⟨fun z => ⟨⟨hv, z⟩, fun i hi => by omega⟩, fun z => z.1.2⟩
      · rw [Nat.add_zero]
        exact cn_cong fun v hv => by unfold dm_u; rw [(hq v hv).1]
      · have e : (gp v).toInt = dm_D xs ys s v := by rw [(hq v hv).2]; rfl
        exact ⟨Int.le_of_eq e, fun i hi => by omega, Or.inl e⟩
  · rintro n c ⟨wt, gp⟩ hc hq ih
    dsimp only at hq ⊢
    rw [wX_growTree_2]
    simp only [ba_in hc, ba_cl hc, true_and, nI_1, forall_eq]
    refine br_f (ba_ge hc) (rx_dist hs hc ?_)
    refine ih (upd wt c (vp_nar .boolean (us c)), upd gp c (dm_d xs ys s c)) fun v hv => ?_
    dsimp only
    by_cases x : v = c
    · rw [x, dm_us, dm_us, gx_nar (h2 c)]; exact ⟨rfl, rfl⟩
    · rw [dm_un x, dm_un x]; exact hq v (by omega)
theorem gx_any (hok : dm_ok fc us xs ys)
    (h : ∀ (wt gp od ed : Nat → Int32) (s : Nat) (o : Nat → Nat), (∀ i, i < cn_t 24 (dm_u us) → od i = nI (o i)) → tr_P (dm_U us) (dm_D xs ys) s (cn_t 24 (dm_u us)) o (fun i => (ed i).toInt) → postS (fc, us, xs, ys, wt, gp, od, ed)) :
    wpX_growTreeAnywhere postS (fc, us, xs, ys, wt, gp, od, ed) := by
  simp only [wpX_growTreeAnywhere]
  refine loop_m (fun n (i : Nat) => wX_growTreeAnywhere_2 postS fc us xs ys wt gp od ed n (nI i)) (fun i => i ≤ 23 ∧ ∀ v, v < i → us v = 0) (fun i => 23 - i) ?_ 0 ⟨by omega, fun v hv => by omega⟩
  rintro n i ⟨hi, hz⟩ ih
  have hi' : i < 24 := by omega
  have G : (us i ≠ 0 ∨ i = 23) → wX_growTreeAnywhere_23 postS (nI i) fc us xs ys wt gp od ed := by
    intro hu
    simp only [wX_growTreeAnywhere_23]
    refine gx_grow hok hi' (fun hp => ?_) fun wt gp od ed o ho hP => h wt gp od ed i o ho hP
    rcases hu with hu | hu
    · exact hu
    · obtain ⟨v, hv, uv⟩ := cn_pos hp
      by_cases x : v = i
      · rw [← x]; exact uv
      · exact absurd (hz v (by omega)) uv
  rw [wX_growTreeAnywhere_2]
  simp only [ba_in hi', ba_cl hi', true_and, nI_1, forall_eq]
  by_cases x : i = 23
  · refine br_t ?_ (G (Or.inr x))
    rw [x]; decide
  · refine br_f (nI_ge (b := 23) (by omega) (by decide)) ⟨fun u => ih (i + 1) ⟨by omega, fun v hv => ?_⟩ (by omega), fun u => G (Or.inl u)⟩
    by_cases y : v = i
    · rw [y]; exact u
    · exact hz v (by omega)
end
