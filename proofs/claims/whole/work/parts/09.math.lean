/-! the mathematics of shortest trees: reach within a limit, a tree grown by least ways out, counts -/
def tr_R (U : Nat → Prop) (d : Nat → Nat → Int) (m : Int) (a b : Nat) : Prop := ∀ S : Nat → Prop, S a → (∀ x y, S x → U x → U y → d x y ≤ m → S y) → S b
section
variable {U : Nat → Prop} {d : Nat → Nat → Int} {m : Int}
theorem tr_refl (a : Nat) : tr_R U d m a a := fun _ h _ => h
theorem tr_trans {a b c : Nat} (h : tr_R U d m a b) (k : tr_R U d m b c) : tr_R U d m a c := fun S s t => k S (h S s t) t
theorem tr_hop {a b : Nat} (ua : U a) (ub : U b) (h : d a b ≤ m) : tr_R U d m a b := fun _ s t => t a b s ua ub h
theorem tr_symm (hs : ∀ x y, d x y = d y x) {a b : Nat} (h : tr_R U d m a b) : tr_R U d m b a :=
  h (fun y => tr_R U d m y a) (tr_refl a) fun x y k ux uy e => tr_trans (tr_hop uy ux (by rw [hs]; exact e)) k
theorem tr_mem {a b : Nat} (ua : U a) (h : tr_R U d m a b) : U b := h U ua fun _ _ _ _ uy _ => uy
theorem tr_neg (hd : ∀ x y, U x → U y → x ≠ y → m < d x y) {a b : Nat} (h : tr_R U d m a b) : b = a :=
  h (fun y => y = a) rfl fun x y k ux uy e => Classical.byContradiction fun z => by
    have := hd x y ux uy (fun w => z (w ▸ k)); omega
theorem tr_le {m' : Int} (hm : m ≤ m') {a b : Nat} (h : tr_R U d m a b) : tr_R U d m' a b := fun S s t => h S s fun x y sx ux uy e => t x y sx ux uy (by omega)
end
def tr_P (U : Nat → Prop) (d : Nat → Nat → Int) (s n : Nat) (o : Nat → Nat) (e : Nat → Int) : Prop :=
  (0 < n → o 0 = s ∧ e 0 = 0) ∧ (∀ k, k < n → U (o k)) ∧ (∀ i j, i < n → j < n → o i = o j → i = j) ∧ (∀ v, U v → ∃ k, k < n ∧ o k = v) ∧
  ∀ k, 0 < k → k < n → (∃ t, t < k ∧ e k = d (o t) (o k)) ∧ (∀ t v, t < k → U v → (∀ j, j < k → o j ≠ v) → e k ≤ d (o t) v)
section
variable {U : Nat → Prop} {d : Nat → Nat → Int} {m : Int} {s n : Nat} {o : Nat → Nat} {e : Nat → Int}
theorem tr_cut (hP : tr_P U d s n o e) {k : Nat} (h0 : 0 < k) (hk : k < n) (hm : m < e k) {j y : Nat} (hj : j < k) (h : tr_R U d m (o j) y) : ∃ i, i < k ∧ o i = y := by
  refine h (fun y => ∃ i, i < k ∧ o i = y) ⟨j, hj, rfl⟩ fun x y hx ux uy hd => ?_
  obtain ⟨t, ht, rfl⟩ := hx
  apply Classical.byContradiction
  intro z
  have := (hP.2.2.2.2 k h0 hk).2 t y ht uy fun i hi w => z ⟨i, hi, w⟩
  omega
theorem tr_head (hP : tr_P U d s n o e) {k : Nat} (h0 : 0 < k) (hk : k < n) : m < e k ↔ ∀ j, j < k → ¬ tr_R U d m (o j) (o k) := by
  constructor
  · intro hm j hj h
    obtain ⟨i, hi, he⟩ := tr_cut hP h0 hk hm hj h
    have := hP.2.2.1 i k (by omega) hk he
    omega
  · intro h
    apply Classical.byContradiction
    intro z
    obtain ⟨⟨t, ht, he⟩, _⟩ := hP.2.2.2.2 k h0 hk
    exact h t ht (tr_hop (hP.2.1 t (by omega)) (hP.2.1 k hk) (by omega))
theorem tr_conn (hP : tr_P U d s n o e) {k : Nat} (hk : k < n) (h : ∀ i, 0 < i → i ≤ k → e i ≤ m) : tr_R U d m s (o k) := by
  induction k using Nat.strongRecOn with
  | ind k ih =>
    by_cases h0 : k = 0
    · subst h0; rw [(hP.1 hk).1]; exact tr_refl s
    · obtain ⟨⟨t, ht, he⟩, _⟩ := hP.2.2.2.2 k (by omega) hk
      refine tr_trans (ih t ht (by omega) fun i h1 h2 => h i h1 (by omega)) (tr_hop (hP.2.1 t (by omega)) (hP.2.1 k hk) ?_)
      have := h k (by omega) (Nat.le_refl k)
      omega
theorem tr_far (hP : tr_P U d s n o e) {j : Nat} (hj : j < n) {L : Int} (h1 : ∀ i, 0 < i → i ≤ j → e i ≤ L) (h2 : L = 0 ∨ ∃ i, 0 < i ∧ i ≤ j ∧ L = e i) (h3 : 0 ≤ L) : L ≤ m ↔ (0 ≤ m ∧ tr_R U d m s (o j)) := by
  constructor
  · intro h
    exact ⟨by omega, tr_conn hP hj fun i a b => by have := h1 i a b; omega⟩
  · rintro ⟨h0, h⟩
    apply Classical.byContradiction
    intro z
    rcases h2 with h2 | ⟨i, a, b, h2⟩
    · omega
    · rw [← (hP.1 (by omega)).1] at h
      obtain ⟨i', hi, he⟩ := tr_cut hP a (by omega) (by omega : m < e i) a h
      have := hP.2.2.1 i' j (by omega) hj he
      omega
theorem tr_grp (hP : tr_P U d s n o e) {q : Nat} (h0 : 0 < q) (hq : q ≤ n) (h1 : ∀ i, 0 < i → i < q → e i ≤ m) (h2 : q = n ∨ m < e q) {y : Nat} (uy : U y) : tr_R U d m s y ↔ ∃ i, i < q ∧ o i = y := by
  constructor
  · intro h
    by_cases e1 : q = n
    · rw [e1]; exact hP.2.2.2.1 y uy
    · rw [← (hP.1 (by omega)).1] at h
      exact tr_cut hP h0 (by omega) (h2.resolve_left e1) h0 h
  · rintro ⟨i, hi, rfl⟩
    exact tr_conn hP (by omega) fun j a b => h1 j a (by omega)
end
theorem cn_ph {m : Nat} {P : Nat → Prop} (F : Nat → Nat → Prop) : ∀ (n : Nat) (Q : Nat → Prop), (∀ i, i < n → P i → ∃ j, j < m ∧ Q j ∧ F i j) →
    (∀ i i' j, i < n → i' < n → P i → P i' → F i j → F i' j → i = i') → cn_t n P ≤ cn_t m Q := by
  intro n
  induction n with
  | zero => intro Q _ _; exact Nat.zero_le _
  | succ n ih =>
    intro Q h hi
    rw [cn_S]
    by_cases p : P n
    · obtain ⟨j, hj, qj, fj⟩ := h n (by omega) p
      have h1 := ih (fun x => Q x ∧ x ≠ j) (fun i li pi => by
        obtain ⟨j', a, b, c⟩ := h i (by omega) pi
        refine ⟨j', a, ⟨b, fun z => ?_⟩, c⟩
        have := hi i n j (by omega) (by omega) pi p (z ▸ c) fj
        omega) (fun i i' j a b => hi i i' j (by omega) (by omega))
      have h2 := cn_one (n := m) (k := j) (P := fun x => Q x ∧ x ≠ j) (Q := Q) hj fun i _ ne => ⟨fun z => z.1, fun z => ⟨z, ne⟩⟩
      rw [cn_bT qj, cn_bF (p := Q j ∧ j ≠ j) fun z => z.2 rfl] at h2
      rw [cn_bT p]
      omega
    · rw [cn_bF p]
      have := ih Q (fun i li => h i (by omega)) (fun i i' j a b => hi i i' j (by omega) (by omega))
      omega
theorem tr_min {E : Nat → Nat → Prop} (er : ∀ a, E a a) (es : ∀ a b, E a b → E b a) (et : ∀ a b c, E a b → E b c → E a c)
    {n1 n2 : Nat} {V1 V2 : Nat → Prop} {o1 o2 : Nat → Nat} (h : ∀ i, i < n1 → V1 i → ∃ j, j < n2 ∧ V2 j ∧ o2 j = o1 i) :
    cn_t n1 (fun i => V1 i ∧ ∀ j, j < i → V1 j → ¬ E (o1 j) (o1 i)) ≤ cn_t n2 (fun i => V2 i ∧ ∀ j, j < i → V2 j → ¬ E (o2 j) (o2 i)) := by
  refine cn_ph (fun i j => E (o2 j) (o1 i)) n1 _ ?_ ?_
  · rintro i hi ⟨v, _⟩
    obtain ⟨j0, h0, v0, e0⟩ := h i hi v
    obtain ⟨j, ⟨vj, ej⟩, hl⟩ := ba_least (fun j => V2 j ∧ E (o2 j) (o1 i)) ⟨j0, v0, by rw [e0]; exact er _⟩
    refine ⟨j, ?_, ⟨vj, fun j' lj vj' ee => hl j' lj ⟨vj', et _ _ _ ee ej⟩⟩, ej⟩
    apply Classical.byContradiction
    intro z
    exact hl j0 (by omega) ⟨v0, by rw [e0]; exact er _⟩
  · rintro i i' j hi hi' ⟨v, k⟩ ⟨v', k'⟩ f f'
    rcases Nat.lt_trichotomy i i' with l | l | l
    · exact absurd (et _ _ _ (es _ _ f) f') (k' i l v)
    · exact l
    · exact absurd (et _ _ _ (es _ _ f') f) (k i' l v')
section
variable {U : Nat → Prop} {d : Nat → Nat → Int} {s n : Nat} {o : Nat → Nat} {e : Nat → Int}
theorem tr_count (hP : tr_P U d s n o e) (hs : ∀ x y, d x y = d y x) (hU : ∀ x, U x → x < 24) (m : Int) :
    cn_t n (fun k => k = 0 ∨ m < e k) = cn_t 24 (fun i => U i ∧ ∀ j, j < i → U j → ¬ tr_R U d m j i) := by
  have e1 : cn_t n (fun k => k = 0 ∨ m < e k) = cn_t n (fun k => True ∧ ∀ j, j < k → True → ¬ tr_R U d m (o j) (o k)) := cn_cong fun k hk => by
    by_cases h0 : k = 0
    · exact ⟨fun _ => ⟨trivial, fun j hj => by omega⟩, fun _ => Or.inl h0⟩
    · have := tr_head (m := m) hP (by omega : 0 < k) hk
      exact ⟨fun z => ⟨trivial, fun j hj _ => this.mp (z.resolve_left h0) j hj⟩, fun z => Or.inr (this.mpr fun j hj => z.2 j hj trivial)⟩
  rw [e1]
  apply Nat.le_antisymm
  · exact tr_min (E := tr_R U d m) (V1 := fun _ => True) (V2 := U) (o1 := o) (o2 := fun i => i) tr_refl (fun _ _ => tr_symm hs) (fun _ _ _ => tr_trans) fun i hi _ => ⟨o i, hU _ (hP.2.1 i hi), hP.2.1 i hi, rfl⟩
  · exact tr_min (E := tr_R U d m) (V1 := U) (V2 := fun _ => True) (o1 := fun i => i) (o2 := o) tr_refl (fun _ _ => tr_symm hs) (fun _ _ _ => tr_trans) fun i hi u => by
      obtain ⟨k, hk, he⟩ := hP.2.2.2.1 i u
      exact ⟨k, hk, trivial, he⟩
end
def tr_B (U : Nat → Prop) (w : Nat → Nat → Int) (bk : Nat → Int) : Prop :=
  ∀ i, i < 24 → ((¬ U i ∨ ¬ ∃ j, j < i ∧ U j) → bk i = -1) ∧ (U i → ∀ j, j < i → U j → bk i ≤ w i j) ∧ (U i → (∃ j, j < i ∧ U j) → ∃ j, j < i ∧ U j ∧ bk i = w i j)
section
variable {U : Nat → Prop} {d w : Nat → Nat → Int} {s n : Nat} {o : Nat → Nat} {e bk : Nat → Int}
theorem tr_G (hP : tr_P U d s n o e) (hs : ∀ x y, d x y = d y x) (hU : ∀ x, U x → x < 24)
    (hw : ∀ i j, U i → U j → ∀ m, w i j ≤ m ↔ (0 ≤ m ∧ tr_R U d m i j)) (hB : tr_B U w bk) {m : Int} (hm : 0 ≤ m) :
    cn_t n (fun k => m < e k) = cn_t 24 (fun i => m < bk i) := by
  by_cases h0 : 0 < n
  · have u0 := hP.2.1 0 h0
    obtain ⟨f, uf, hf⟩ := ba_least U ⟨_, u0⟩
    have lf := hU f uf
    have e1 := tr_count hP hs hU m
    have e2 := cn_one (n := n) (k := 0) (P := fun k => k = 0 ∨ m < e k) (Q := fun k => m < e k) h0 fun i _ ne => ⟨fun z => z.resolve_left ne, Or.inr⟩
    rw [cn_bF (p := m < e 0) (by rw [(hP.1 h0).2]; omega), cn_bT (p := 0 = 0 ∨ m < e 0) (Or.inl rfl)] at e2
    have e3 := cn_one (n := 24) (k := f) (P := fun i => i = f ∨ m < bk i) (Q := fun i => m < bk i) lf fun i _ ne => ⟨fun z => z.resolve_left ne, Or.inr⟩
    have bf : bk f = -1 := (hB f lf).1 (Or.inr fun ⟨j, hj, uj⟩ => hf j hj uj)
    rw [cn_bF (p := m < bk f) (by rw [bf]; omega), cn_bT (p := f = f ∨ m < bk f) (Or.inl rfl)] at e3
    have e4 : cn_t 24 (fun i => U i ∧ ∀ j, j < i → U j → ¬ tr_R U d m j i) = cn_t 24 (fun i => i = f ∨ m < bk i) := cn_cong fun i hi => by
      obtain ⟨b1, b2, b3⟩ := hB i hi
      constructor
      · rintro ⟨u, h⟩
        by_cases ei : i = f
        · exact Or.inl ei
        · have fi : f < i := by
            rcases Nat.lt_trichotomy i f with l | l | l
            · exact absurd u (hf i l)
            · exact absurd l ei
            · exact l
          obtain ⟨j, hj, uj, ej⟩ := b3 u ⟨f, fi, uf⟩
          refine Or.inr ?_
          apply Classical.byContradiction
          intro z
          have := ((hw i j u uj m).mp (by omega)).2
          exact h j hj uj (tr_symm hs this)
      · rintro (h | h)
        · subst h
          exact ⟨uf, fun j hj uj => absurd uj (hf j hj)⟩
        · have u : U i := Classical.byContradiction fun z => by have := b1 (Or.inl z); omega
          refine ⟨u, fun j hj uj r => ?_⟩
          have h1 := (hw i j u uj m).mpr ⟨hm, tr_symm hs r⟩
          have h2 := b2 u j hj uj
          omega
    omega
  · have nu : ∀ i, ¬ U i := fun i u => by
      obtain ⟨k, hk, _⟩ := hP.2.2.2.1 i u
      omega
    have z : n = 0 := by omega
    rw [cn_none (n := 24) fun i hi h => by have := (hB i hi).1 (Or.inl (nu i)); omega]
    rw [z]; rfl
end
def tr_s : Nat → (Nat → Int) → Int
  | 0, _ => 0
  | n + 1, f => tr_s n f + f n
theorem tr_sc {n : Nat} {f g : Nat → Int} (h : ∀ i, i < n → f i = g i) : tr_s n f = tr_s n g := by
  induction n with
  | zero => rfl
  | succ n ih => rw [tr_s, tr_s, ih fun i hi => h i (by omega), h n (by omega)]
theorem tr_cake (f : Nat → Int) (M : Nat) (n : Nat) : tr_s n (fun i => min (max (f i) 0) ((M : Int) + 1)) = tr_s n (fun i => min (max (f i) 0) (M : Int)) + (cn_t n (fun i => (M : Int) < f i) : Int) := by
  induction n with
  | zero => rfl
  | succ n ih =>
    rw [tr_s, tr_s, ih, cn_S]
    by_cases h : (M : Int) < f n
    · rw [cn_bT h]; omega
    · rw [cn_bF h]; omega
theorem tr_cap {n n' : Nat} {f g : Nat → Int} (h : ∀ m : Int, 0 ≤ m → cn_t n (fun i => m < f i) = cn_t n' (fun i => m < g i)) (M : Nat) :
    tr_s n (fun i => min (max (f i) 0) (M : Int)) = tr_s n' (fun i => min (max (g i) 0) (M : Int)) := by
  induction M with
  | zero =>
    have z : ∀ (n : Nat) (f : Nat → Int), tr_s n (fun i => min (max (f i) 0) ((0 : Nat) : Int)) = 0 := by
      intro n f
      induction n with
      | zero => rfl
      | succ n ih => rw [tr_s, ih]; omega
    rw [z, z]
  | succ M ih =>
    have a := tr_cake f M n
    have b := tr_cake g M n'
    have c := h M (by omega)
    rw [show ((M + 1 : Nat) : Int) = (M : Int) + 1 by omega, a, b, ih, c]
theorem tr_bd (f : Nat → Int) (n : Nat) : ∃ M : Nat, ∀ i, i < n → f i ≤ M := by
  induction n with
  | zero => exact ⟨0, fun i hi => by omega⟩
  | succ n ih =>
    obtain ⟨M, h⟩ := ih
    refine ⟨M + (f n).toNat, fun i hi => ?_⟩
    by_cases e : i = n
    · rw [e]; omega
    · have := h i (by omega); omega
theorem tr_sum {n n' : Nat} {f g : Nat → Int} (h : ∀ m : Int, 0 ≤ m → cn_t n (fun i => m < f i) = cn_t n' (fun i => m < g i)) : tr_s n (fun i => max (f i) 0) = tr_s n' (fun i => max (g i) 0) := by
  obtain ⟨M, hM⟩ := tr_bd f n
  obtain ⟨M', hM'⟩ := tr_bd g n'
  have := tr_cap h (M + M')
  rw [tr_sc (g := fun i => max (f i) 0) fun i hi => by have := hM i hi; omega, tr_sc (n := n') (g := fun i => max (g i) 0) fun i hi => by have := hM' i hi; omega] at this
  exact this
theorem cn_split (n : Nat) (P Q : Nat → Prop) : cn_t n P = cn_t n (fun i => P i ∧ Q i) + cn_t n (fun i => P i ∧ ¬ Q i) := by
  induction n with
  | zero => rfl
  | succ n ih =>
    rw [cn_S, cn_S, cn_S, ih]
    by_cases p : P n
    · by_cases q : Q n
      · rw [cn_bT p, cn_bT (p := P n ∧ Q n) ⟨p, q⟩, cn_bF (p := P n ∧ ¬ Q n) fun z => z.2 q]; omega
      · rw [cn_bT p, cn_bF (p := P n ∧ Q n) fun z => q z.2, cn_bT (p := P n ∧ ¬ Q n) ⟨p, q⟩]; omega
    · rw [cn_bF p, cn_bF (p := P n ∧ Q n) fun z => p z.1, cn_bF (p := P n ∧ ¬ Q n) fun z => p z.1]; omega
theorem cn_gt (n q : Nat) : cn_t n (fun i => q < i) = n - (q + 1) := by
  induction n with
  | zero => rw [cn_0]; omega
  | succ n ih =>
    rw [cn_S, ih]
    by_cases h : q < n
    · rw [cn_bT h]; omega
    · rw [cn_bF h]; omega
theorem cn_ge (n q : Nat) : cn_t n (fun i => q ≤ i) = n - q := by
  induction n with
  | zero => rw [cn_0]; omega
  | succ n ih =>
    rw [cn_S, ih]
    by_cases h : q ≤ n
    · rw [cn_bT h]; omega
    · rw [cn_bF h]; omega
theorem tr_la (bk : Nat → Int) {b : Int} (hb : 0 < b) : cn_t 24 (fun j => 0 < bk j) = cn_t 24 (fun j => 0 < bk j ∧ bk j < b) + cn_t 24 (fun j => b - 1 < bk j) ∧
    cn_t 24 (fun j => b - 1 < bk j) = cn_t 24 (fun j => bk j = b) + cn_t 24 (fun j => b < bk j) := by
  refine ⟨?_, ?_⟩
  · rw [cn_split 24 (fun j => 0 < bk j) (fun j => bk j < b), cn_cong (P := fun j => 0 < bk j ∧ ¬ bk j < b) (Q := fun j => b - 1 < bk j) fun i _ => by omega]
  · rw [cn_split 24 (fun j => b - 1 < bk j) (fun j => bk j = b), cn_cong (P := fun j => b - 1 < bk j ∧ bk j = b) (Q := fun j => bk j = b) fun i _ => by omega, cn_cong (P := fun j => b - 1 < bk j ∧ ¬ bk j = b) (Q := fun j => b < bk j) fun i _ => by omega]
section
variable {n k : Nat} {e sA bk : Nat → Int}
theorem tr_kth (hc : ∀ m : Int, cn_t n (fun i => m < sA i) = cn_t n (fun i => m < e i)) (hS : ∀ i j, i ≤ j → j < n → sA i ≤ sA j) (e0 : e 0 = 0) (eP : ∀ i, 0 < i → i < n → 0 < e i)
    (hG : ∀ m : Int, 0 ≤ m → cn_t n (fun i => m < e i) = cn_t 24 (fun i => m < bk i)) (hk : k + 2 ≤ n) :
    (∀ b : Int, 0 < b → cn_t 24 (fun j => 0 < bk j ∧ bk j < b) ≤ k → k < cn_t 24 (fun j => 0 < bk j ∧ bk j < b) + cn_t 24 (fun j => bk j = b) → b = sA (k + 1)) ∧
    (∃ i, i < 24 ∧ bk i = sA (k + 1) ∧ 0 < sA (k + 1) ∧ cn_t 24 (fun j => 0 < bk j ∧ bk j < sA (k + 1)) ≤ k ∧ k < cn_t 24 (fun j => 0 < bk j ∧ bk j < sA (k + 1)) + cn_t 24 (fun j => bk j = sA (k + 1))) := by
  have g0 : cn_t n (fun i => 0 < e i) = n - 1 := by
    rw [cn_cong (P := fun i => 0 < e i) (Q := fun i => 0 < i) fun i hi => ⟨fun h => Nat.pos_of_ne_zero fun z => by rw [z, e0] at h; omega, fun h => eP i h hi⟩]
    have := cn_gt n 0
    omega
  have u1 : ∀ m : Int, sA (k + 1) ≤ m → cn_t n (fun i => m < sA i) ≤ n - (k + 2) := by
    intro m hm
    have := cn_gt n (k + 1)
    rw [show n - (k + 2) = n - (k + 1 + 1) by omega, ← this]
    refine cn_mono fun i hi h => ?_
    apply Classical.byContradiction
    intro z
    have := hS i (k + 1) (by omega) (by omega)
    omega
  have u2 : ∀ m : Int, m < sA (k + 1) → n - (k + 1) ≤ cn_t n (fun i => m < sA i) := by
    intro m hm
    have := cn_ge n (k + 1)
    rw [← this]
    refine cn_mono fun i hi h => ?_
    have := hS (k + 1) i h hi
    omega
  have vp : 0 < sA (k + 1) := by
    apply Classical.byContradiction
    intro z
    have := u1 0 (by omega)
    rw [hc, g0] at this
    omega
  have b0 : cn_t 24 (fun j => 0 < bk j) = n - 1 := by rw [← hG 0 (by omega), g0]
  have B : ∀ m : Int, 0 ≤ m → cn_t n (fun i => m < sA i) = cn_t 24 (fun i => m < bk i) := fun m hm => by rw [hc, hG m hm]
  refine ⟨fun b hb h1 h2 => ?_, ?_⟩
  · obtain ⟨l1, l2⟩ := tr_la bk hb
    have c1 := B (b - 1) (by omega)
    have c2 := B b (by omega)
    by_cases x : sA (k + 1) ≤ b - 1
    · have := u1 (b - 1) x; omega
    · by_cases y : b < sA (k + 1)
      · have := u2 b y; omega
      · omega
  · obtain ⟨l1, l2⟩ := tr_la bk vp
    have c1 := B (sA (k + 1) - 1) (by omega)
    have c2 := B (sA (k + 1)) (by omega)
    have d1 := u1 (sA (k + 1)) (Int.le_refl _)
    have d2 := u2 (sA (k + 1) - 1) (by omega)
    obtain ⟨i, hi, hb⟩ := cn_pos (n := 24) (P := fun j => bk j = sA (k + 1)) (by omega)
    exact ⟨i, hi, hb, vp, by omega, by omega⟩
end
