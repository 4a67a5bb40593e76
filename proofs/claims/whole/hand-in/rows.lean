section
/-- counting below k -/
noncomputable def cn_t (P : Nat → Prop) : Nat → Nat
  | 0 => 0
  | k + 1 => cn_t P k + @ite Nat (P k) (Classical.propDecidable (P k)) 1 0
theorem cn_s1 {P : Nat → Prop} {k : Nat} (h : P k) : cn_t P (k + 1) = cn_t P k + 1 := by
  show cn_t P k + @ite Nat (P k) (Classical.propDecidable (P k)) 1 0 = _
  rw [if_pos h]
theorem cn_s0 {P : Nat → Prop} {k : Nat} (h : ¬ P k) : cn_t P (k + 1) = cn_t P k := by
  show cn_t P k + @ite Nat (P k) (Classical.propDecidable (P k)) 1 0 = _
  rw [if_neg h, Nat.add_zero]
theorem cn_le (P : Nat → Prop) : ∀ k, cn_t P k ≤ k := by
  intro k
  induction k with
  | zero => exact Nat.le_refl 0
  | succ k ih =>
    by_cases h : P k
    · rw [cn_s1 h]; omega
    · rw [cn_s0 h]; omega
theorem cn_mono {P Q : Nat → Prop} : ∀ k, (∀ i, i < k → P i → Q i) → cn_t P k ≤ cn_t Q k := by
  intro k
  induction k with
  | zero => intro _; exact Nat.le_refl 0
  | succ k ih =>
    intro h
    have h1 := ih (fun i hi => h i (by omega))
    by_cases p : P k
    · rw [cn_s1 p, cn_s1 (h k (by omega) p)]; omega
    · rw [cn_s0 p]
      by_cases q : Q k
      · rw [cn_s1 q]; omega
      · rw [cn_s0 q]; exact h1
theorem cn_lt {P Q : Nat → Prop} (a : Nat) : ∀ k, (∀ i, i < k → P i → Q i) → a < k → Q a → ¬ P a → cn_t P k + 1 ≤ cn_t Q k := by
  intro k
  induction k with
  | zero => intro _ h; omega
  | succ k ih =>
    intro h ha qa pa
    by_cases e : a = k
    · have h1 := cn_mono (P := P) (Q := Q) k (fun i hi => h i (by omega))
      rw [e] at qa pa
      rw [cn_s0 pa, cn_s1 qa]
      omega
    · have h1 := ih (fun i hi => h i (by omega)) (by omega) qa pa
      by_cases p : P k
      · rw [cn_s1 p, cn_s1 (h k (by omega) p)]; omega
      · rw [cn_s0 p]
        by_cases q : Q k
        · rw [cn_s1 q]; omega
        · rw [cn_s0 q]; exact h1
theorem cn_room {P : Nat → Prop} {k : Nat} (a : Nat) (ha : a < k) (pa : ¬ P a) : cn_t P k + 1 ≤ k :=
  Nat.le_trans (cn_lt (Q := fun _ => True) a k (fun _ _ _ => trivial) ha trivial pa) (cn_le _ k)
theorem cn_all {P : Nat → Prop} {k : Nat} (h : k ≤ cn_t P k) (i : Nat) (hi : i < k) : P i :=
  Classical.byContradiction fun z => by have := cn_room i hi z; omega
theorem cn_pos {P : Nat → Prop} {k : Nat} (a : Nat) (ha : a < k) (pa : P a) : 1 ≤ cn_t P k := by
  have := cn_lt (P := fun _ => False) (Q := P) a k (fun _ _ z => z.elim) ha pa (fun z => z)
  omega
/-- closed over the middles below k -/
def fw_C (n k : Nat) (p : Nat → Nat → Prop) (c : Nat → Nat → Int) : Prop :=
  ∀ x u v, x < k → u < n → v < n → p u x → p x v → p u v ∧ c u v ≤ c u x + c x v
/-- a stage at middle k, done for the pairs of P -/
def fw_S (n k : Nat) (P p0 : Nat → Nat → Prop) (c0 : Nat → Nat → Int) (p : Nat → Nat → Prop) (c : Nat → Nat → Int) : Prop :=
  ∀ u v, u < n → v < n → (¬ P u v → (p u v ↔ p0 u v) ∧ c u v = c0 u v) ∧ (p0 u v → p u v ∧ c u v ≤ c0 u v) ∧
    (P u v → p0 u k → p0 k v → p u v ∧ c u v ≤ c0 u k + c0 k v) ∧
    (p u v → (p0 u v ∧ c u v = c0 u v) ∨ (p0 u k ∧ p0 k v ∧ c u v = c0 u k + c0 k v))
theorem fw_start {n k : Nat} {P p0 : Nat → Nat → Prop} {c0 : Nat → Nat → Int} (hP : ∀ u v, ¬ P u v) : fw_S n k P p0 c0 p0 c0 :=
  fun u v _ _ => ⟨fun _ => ⟨Iff.rfl, rfl⟩, fun q => ⟨q, Int.le_refl _⟩, fun z => absurd z (hP u v), fun q => Or.inl ⟨q, rfl⟩⟩
theorem fw_close {n k : Nat} {P p0 p : Nat → Nat → Prop} {c0 c : Nat → Nat → Int} (hk : k < n) (hC : fw_C n k p0 c0)
    (hS : fw_S n k P p0 c0 p c) (hP : ∀ u v, u < n → v < n → P u v) (h0 : p0 k k → 0 ≤ c0 k k) : fw_C n (k + 1) p c := by
  intro x u v hx hu hv p1 p2
  have A : ∀ a, a < n → p a k → p0 a k ∧ c0 a k ≤ c a k := by
    intro a ha pa
    rcases (hS a k ha hk).2.2.2 pa with ⟨q, e⟩ | ⟨q, q', e⟩
    · exact ⟨q, by omega⟩
    · have := h0 q'
      exact ⟨q, by omega⟩
  have B : ∀ b, b < n → p k b → p0 k b ∧ c0 k b ≤ c k b := by
    intro b hb pb
    rcases (hS k b hk hb).2.2.2 pb with ⟨q, e⟩ | ⟨q, q', e⟩
    · exact ⟨q, by omega⟩
    · have := h0 q
      exact ⟨q', by omega⟩
  obtain ⟨_, s2, s3', _⟩ := hS u v hu hv
  have s3 := s3' (hP u v hu hv)
  by_cases e : x = k
  · rw [e] at p1 p2 ⊢
    obtain ⟨q1, l1⟩ := A u hu p1
    obtain ⟨q2, l2⟩ := B v hv p2
    obtain ⟨q, l⟩ := s3 q1 q2
    exact ⟨q, by omega⟩
  · have hx : x < k := by omega
    have hxn : x < n := by omega
    rcases (hS u x hu hxn).2.2.2 p1 with ⟨a1, e1⟩ | ⟨a1, b1, e1⟩
    · rcases (hS x v hxn hv).2.2.2 p2 with ⟨a2, e2⟩ | ⟨a2, b2, e2⟩
      · obtain ⟨q, l⟩ := hC x u v hx hu hv a1 a2
        obtain ⟨q', l'⟩ := s2 q
        exact ⟨q', by omega⟩
      · obtain ⟨q, l⟩ := hC x u k hx hu hk a1 a2
        obtain ⟨q', l'⟩ := s3 q b2
        exact ⟨q', by omega⟩
    · rcases (hS x v hxn hv).2.2.2 p2 with ⟨a2, e2⟩ | ⟨a2, b2, e2⟩
      · obtain ⟨q, l⟩ := hC x k v hx hk hv b1 a2
        obtain ⟨q', l'⟩ := s3 a1 q
        exact ⟨q', by omega⟩
      · obtain ⟨q, l⟩ := hC x k k hx hk hk b1 a2
        have := h0 q
        obtain ⟨q', l'⟩ := s3 a1 b2
        exact ⟨q', by omega⟩
theorem fw_A {n k : Nat} {P p0 p : Nat → Nat → Prop} {c0 c : Nat → Nat → Int} (hk : k < n)
    (hS : fw_S n k P p0 c0 p c) (h0 : p0 k k → 0 ≤ c0 k k) : ∀ a, a < n → (p a k ↔ p0 a k) ∧ (p0 a k → c a k = c0 a k) := by
  intro a ha
  obtain ⟨_, s2, _, s4⟩ := hS a k ha hk
  refine ⟨⟨fun q => ?_, fun q => (s2 q).1⟩, fun q => ?_⟩
  · rcases s4 q with ⟨z, _⟩ | ⟨z, _, _⟩
    · exact z
    · exact z
  · obtain ⟨l1, l2⟩ := s2 q
    rcases s4 l1 with ⟨_, e⟩ | ⟨_, z, e⟩
    · exact e
    · have := h0 z
      omega
theorem fw_B {n k : Nat} {P p0 p : Nat → Nat → Prop} {c0 c : Nat → Nat → Int} (hk : k < n)
    (hS : fw_S n k P p0 c0 p c) (h0 : p0 k k → 0 ≤ c0 k k) : ∀ a, a < n → (p k a ↔ p0 k a) ∧ (p0 k a → c k a = c0 k a) := by
  intro a ha
  obtain ⟨_, s2, _, s4⟩ := hS k a hk ha
  refine ⟨⟨fun q => ?_, fun q => (s2 q).1⟩, fun q => ?_⟩
  · rcases s4 q with ⟨z, _⟩ | ⟨_, z, _⟩
    · exact z
    · exact z
  · obtain ⟨l1, l2⟩ := s2 q
    rcases s4 l1 with ⟨_, e⟩ | ⟨z, _, e⟩
    · exact e
    · have := h0 z
      omega
theorem fw_step {n k u v : Nat} {P P' p0 p p' : Nat → Nat → Prop} {c0 c c' : Nat → Nat → Int} (hk : k < n)
    (hS : fw_S n k P p0 c0 p c) (h0 : p0 k k → 0 ≤ c0 k k)
    (hP : ∀ a b, P' a b ↔ (P a b ∨ (a = u ∧ b = v)))
    (ho : ∀ a b, a < n → b < n → ¬ (a = u ∧ b = v) → (p' a b ↔ p a b) ∧ c' a b = c a b)
    (h1 : p u v → p' u v ∧ c' u v ≤ c u v)
    (h2 : p u k → p k v → p' u v ∧ c' u v ≤ c u k + c k v)
    (h3 : p' u v → (p u v ∧ c' u v = c u v) ∨ (p u k ∧ p k v ∧ c' u v = c u k + c k v)) : fw_S n k P' p0 c0 p' c' := by
  have A := fw_A hk hS h0
  have B := fw_B hk hS h0
  intro a b ha hb
  obtain ⟨s1, s2, s3, s4⟩ := hS a b ha hb
  by_cases e : a = u ∧ b = v
  · obtain ⟨e1, e2⟩ := e
    rw [← e1, ← e2] at h1 h2 h3
    refine ⟨fun z => absurd ((hP a b).mpr (Or.inr ⟨e1, e2⟩)) z, fun q => ?_, fun _ q1 q2 => ?_, fun q => ?_⟩
    · obtain ⟨x, l⟩ := s2 q
      obtain ⟨x', l'⟩ := h1 x
      exact ⟨x', by omega⟩
    · obtain ⟨x', l'⟩ := h2 ((A a ha).1.mpr q1) ((B b hb).1.mpr q2)
      have := (A a ha).2 q1
      have := (B b hb).2 q2
      exact ⟨x', by omega⟩
    · rcases h3 q with ⟨x, e⟩ | ⟨x, y, e⟩
      · rcases s4 x with ⟨z, e'⟩ | ⟨z, z', e'⟩
        · exact Or.inl ⟨z, by omega⟩
        · exact Or.inr ⟨z, z', by omega⟩
      · have x0 := (A a ha).1.mp x
        have y0 := (B b hb).1.mp y
        have := (A a ha).2 x0
        have := (B b hb).2 y0
        exact Or.inr ⟨x0, y0, by omega⟩
  · obtain ⟨i1, i2⟩ := ho a b ha hb e
    refine ⟨fun z => ?_, fun q => ?_, fun z q1 q2 => ?_, fun q => ?_⟩
    · have := s1 (fun y => z ((hP a b).mpr (Or.inl y)))
      exact ⟨i1.trans this.1, i2.trans this.2⟩
    · exact ⟨i1.mpr (s2 q).1, by rw [i2]; exact (s2 q).2⟩
    · have hz : P a b := ((hP a b).mp z).resolve_right e
      have := s3 hz q1 q2
      exact ⟨i1.mpr this.1, by rw [i2]; exact this.2⟩
    · rw [i2]
      exact s4 (i1.mp q)
end
section
/-- the circuit as numbers -/
def rb_Ci (n m : Nat) (d : Nat → Int) (s t : Nat → Nat) (r : Nat → Int) (B : Int) : Prop :=
  (1 ≤ n ∧ n ≤ 5 ∧ m ≤ 12) ∧ (∀ v, v < n → 0 ≤ d v ∧ d v ≤ 9) ∧ (∀ i, i < m → s i < n ∧ t i < n ∧ 0 ≤ r i ∧ r i ≤ B)
def mw_p (W : Nat → Nat → Int) : Nat → Nat → Prop := fun u v => W u v ≠ 1000000
def mw_c (d : Nat → Int) (W D : Nat → Nat → Int) : Nat → Nat → Int := fun u v => 1000000 * W u v - D u v + d u
/-- whatever holds of the wires and of joins holds of the entries -/
def mw_U (n m : Nat) (d : Nat → Int) (s t : Nat → Nat) (r : Nat → Int) (W D : Nat → Nat → Int) : Prop :=
  ∀ Q : Nat → Nat → Int → Int → Prop, (∀ i, i < m → Q (s i) (t i) (r i) (d (s i) + d (t i))) →
    (∀ u k v w1 w2 l1 l2, u < n → k < n → v < n → 0 ≤ w1 → 0 ≤ w2 → Q u k w1 l1 → Q k v w2 l2 → Q u v (w1 + w2) (l1 + l2 - d k)) →
    ∀ u v, u < n → v < n → W u v ≠ 1000000 → Q u v (W u v) (D u v)
def mw_B (n : Nat) (d : Nat → Int) (b e : Int) (W D : Nat → Nat → Int) : Prop :=
  ∀ u v, u < n → v < n → 0 ≤ W u v ∧ W u v ≤ 1000000 ∧ (W u v ≠ 1000000 → W u v ≤ b ∧ d u ≤ D u v ∧ d v ≤ D u v ∧ D u v ≤ e)
def mw_so (n : Nat) (W : Nat → Nat → Int) : Prop := ∀ x, x < n → W x x ≠ 0
def mw_Sg (n m : Nat) (d : Nat → Int) (s t : Nat → Nat) (r : Nat → Int) (k : Nat) (b e : Int) (W D : Nat → Nat → Int) : Prop :=
  mw_B n d b e W D ∧ mw_U n m d s t r W D ∧ (∀ i, i < m → W (s i) (t i) ≠ 1000000 ∧ W (s i) (t i) ≤ r i) ∧ fw_C n k (mw_p W) W ∧
  (mw_so n W → fw_C n k (mw_p W) (mw_c d W D) ∧ ∀ i, i < m → mw_c d W D (s i) (t i) ≤ 1000000 * r i - d (t i))
def fw_P (u0 v0 : Nat) : Nat → Nat → Prop := fun u v => u < u0 ∨ (u = u0 ∧ v < v0)
theorem fw_P1 (u v a b : Nat) : fw_P u (v + 1) a b ↔ (fw_P u v a b ∨ (a = u ∧ b = v)) := by
  unfold fw_P
  constructor
  · intro h; omega
  · intro h; omega
theorem fw_Sc {n k : Nat} {P P' p0 p : Nat → Nat → Prop} {c0 c : Nat → Nat → Int} (h : ∀ a b, a < n → b < n → (P' a b ↔ P a b))
    (hS : fw_S n k P p0 c0 p c) : fw_S n k P' p0 c0 p c := by
  intro u v hu hv
  obtain ⟨s1, s2, s3, s4⟩ := hS u v hu hv
  exact ⟨fun z => s1 (fun y => z ((h u v hu hv).mpr y)), s2, fun z => s3 ((h u v hu hv).mp z), s4⟩
def mw_e (k : Nat) (e : Int) (u v : Nat) : Int := if u = k then (if v = k then 2 * e else 3 * e) else (if v = k then 3 * e else 6 * e)
theorem mw_e1 (k : Nat) (e : Int) : mw_e k e k k = 2 * e := by unfold mw_e; rw [if_pos rfl, if_pos rfl]
theorem mw_e2 {k u : Nat} (e : Int) (h : u ≠ k) : mw_e k e u k = 3 * e := by unfold mw_e; rw [if_neg h, if_pos rfl]
theorem mw_e3 {k v : Nat} (e : Int) (h : v ≠ k) : mw_e k e k v = 3 * e := by unfold mw_e; rw [if_pos rfl, if_neg h]
theorem mw_e4 {k u v : Nat} (e : Int) (h : u ≠ k) (h' : v ≠ k) : mw_e k e u v = 6 * e := by unfold mw_e; rw [if_neg h, if_neg h']
theorem mw_e6 (k : Nat) (e : Int) (he : 0 ≤ e) (u v : Nat) : mw_e k e u v ≤ 6 * e := by
  unfold mw_e
  by_cases h : u = k
  · rw [if_pos h]
    by_cases h' : v = k
    · rw [if_pos h']; omega
    · rw [if_neg h']; omega
  · rw [if_neg h]
    by_cases h' : v = k
    · rw [if_pos h']; omega
    · rw [if_neg h']; omega
theorem mw_e0 (k : Nat) (e : Int) (he : 0 ≤ e) (u v : Nat) : e ≤ mw_e k e u v := by
  unfold mw_e
  by_cases h : u = k
  · rw [if_pos h]
    by_cases h' : v = k
    · rw [if_pos h']; omega
    · rw [if_neg h']; omega
  · rw [if_neg h]
    by_cases h' : v = k
    · rw [if_pos h']; omega
    · rw [if_neg h']; omega
def mw_In (n m : Nat) (d : Nat → Int) (s t : Nat → Nat) (r : Nat → Int) (k u0 v0 : Nat) (e : Int) (W0 D0 W D : Nat → Nat → Int) : Prop :=
  fw_S n k (fw_P u0 v0) (mw_p W0) W0 (mw_p W) W ∧
  (W0 k k ≠ 0 → fw_S n k (fw_P u0 v0) (mw_p W0) (mw_c d W0 D0) (mw_p W) (mw_c d W D)) ∧
  (∀ u v, u < n → v < n → 0 ≤ W u v ∧ W u v ≤ 1000000 ∧ (W u v ≠ 1000000 → d u ≤ D u v ∧ d v ≤ D u v ∧ D u v ≤ mw_e k e u v ∧ (¬ fw_P u0 v0 u v → D u v ≤ e))) ∧
  mw_U n m d s t r W D
theorem mw_bW {n k : Nat} {P : Nat → Nat → Prop} {d : Nat → Int} {b e : Int} {W0 D0 W : Nat → Nat → Int} (hk : k < n) (hb : 0 ≤ b)
    (h0 : mw_B n d b e W0 D0) (i1 : fw_S n k P (mw_p W0) W0 (mw_p W) W) : ∀ a x, a < n → x < n → W a x ≠ 1000000 → W a x ≤ 2 * b := by
  intro a x ha hx q
  rcases (i1 a x ha hx).2.2.2 q with ⟨z, ez⟩ | ⟨z, z', ez⟩
  · have := ((h0 a x ha hx).2.2 z).1
    omega
  · have := ((h0 a k ha hk).2.2 z).1
    have := ((h0 k x hk hx).2.2 z').1
    omega
theorem mw_h0c {n k : Nat} {d : Nat → Int} {b e : Int} {W0 D0 : Nat → Nat → Int} (hk : k < n) (he : 0 ≤ e ∧ e ≤ 23328)
    (hd : ∀ x, x < n → 0 ≤ d x ∧ d x ≤ 9) (h0 : mw_B n d b e W0 D0) (q : W0 k k ≠ 0) : mw_p W0 k k → 0 ≤ mw_c d W0 D0 k k := by
  intro z
  show 0 ≤ 1000000 * W0 k k - D0 k k + d k
  obtain ⟨h1, _, h3⟩ := h0 k k hk hk
  have := h3 z
  have := hd k hk
  omega
/-- what an offer at (u, v) makes of the two tables -/
def mw_Of (n u v : Nat) (w l : Int) (W D W' D' : Nat → Nat → Int) : Prop :=
  (∀ a x, a < n → x < n → ¬ (a = u ∧ x = v) → W' a x = W a x ∧ D' a x = D a x) ∧
  ((W' u v = W u v ∧ D' u v = D u v ∧ ¬ (w < W u v ∨ (w = W u v ∧ D u v < l))) ∨
   ((w < W u v ∨ (w = W u v ∧ D u v < l)) ∧ W' u v = w ∧ D' u v = l))
theorem mw_step {n m k u v : Nat} {d : Nat → Int} {s t : Nat → Nat} {r : Nat → Int} {b e : Int} {W0 D0 W D W' D' : Nat → Nat → Int}
    (hk : k < n) (hu : u < n) (hv : v < n) (hb : 0 ≤ b ∧ 4 * b < 1000000) (he : 0 ≤ e ∧ e ≤ 23328)
    (hd : ∀ x, x < n → 0 ≤ d x ∧ d x ≤ 9) (h0 : mw_B n d b e W0 D0) (hI : mw_In n m d s t r k u v e W0 D0 W D)
    (q1 : W u k ≠ 1000000) (q2 : W k v ≠ 1000000)
    (hO : mw_Of n u v (W u k + W k v) (D u k + D k v - d k) W D W' D') : mw_In n m d s t r k u (v + 1) e W0 D0 W' D' := by
  obtain ⟨i1, i2, i3, i4⟩ := hI
  obtain ⟨ho, hn⟩ := hO
  have bW := mw_bW hk hb.1 h0 i1
  obtain ⟨w1l, w1u, w1⟩ := i3 u k hu hk
  obtain ⟨w2l, w2u, w2⟩ := i3 k v hk hv
  obtain ⟨w3l, w3u, w3⟩ := i3 u v hu hv
  have b1 := bW u k hu hk q1
  have b2 := bW k v hk hv q2
  obtain ⟨x1, y1, z1, t1⟩ := w1 q1
  obtain ⟨x2, y2, z2, t2⟩ := w2 q2
  have g1 := mw_e6 k e he.1 u k
  have g2 := mw_e6 k e he.1 k v
  have g3 := mw_e6 k e he.1 u v
  have dk := hd k hk
  have du := hd u hu
  have dv := hd v hv
  have hz : ¬ fw_P u v u v := by unfold fw_P; omega
  refine ⟨fw_step hk i1 (fun _ => (h0 k k hk hk).1) (fw_P1 u v) ?_ ?_ ?_ ?_, fun q => fw_step hk (i2 q) (mw_h0c hk he hd h0 q) (fw_P1 u v) ?_ ?_ ?_ ?_, ?_, ?_⟩
  · intro a x ha hx z
    obtain ⟨e1, e2⟩ := ho a x ha hx z
    exact ⟨by show W' a x ≠ 1000000 ↔ W a x ≠ 1000000; rw [e1], e1⟩
  · intro q
    have q' : W u v ≠ 1000000 := q
    have := bW u v hu hv q'
    show W' u v ≠ 1000000 ∧ W' u v ≤ W u v
    rcases hn with ⟨e1, _, _⟩ | ⟨im, e1, _⟩
    · rw [e1]; exact ⟨q', Int.le_refl _⟩
    · rw [e1]; constructor <;> omega
  · intro _ _
    show W' u v ≠ 1000000 ∧ W' u v ≤ W u k + W k v
    rcases hn with ⟨e1, _, ni⟩ | ⟨im, e1, _⟩
    · rw [e1]; constructor <;> omega
    · rw [e1]; constructor <;> omega
  · intro q
    rcases hn with ⟨e1, _, _⟩ | ⟨_, e1, _⟩
    · exact Or.inl ⟨by show W u v ≠ 1000000; rw [← e1]; exact q, e1⟩
    · exact Or.inr ⟨q1, q2, e1⟩
  · intro a x ha hx z
    obtain ⟨e1, e2⟩ := ho a x ha hx z
    refine ⟨by show W' a x ≠ 1000000 ↔ W a x ≠ 1000000; rw [e1], ?_⟩
    show 1000000 * W' a x - D' a x + d a = 1000000 * W a x - D a x + d a
    rw [e1, e2]
  · intro z
    have z' : W u v ≠ 1000000 := z
    have := bW u v hu hv z'
    obtain ⟨x3, y3, z3, t3⟩ := w3 z'
    show W' u v ≠ 1000000 ∧ 1000000 * W' u v - D' u v + d u ≤ 1000000 * W u v - D u v + d u
    rcases hn with ⟨e1, e2, _⟩ | ⟨im, e1, e2⟩
    · rw [e1, e2]; exact ⟨z', Int.le_refl _⟩
    · rw [e1, e2]; constructor <;> omega
  · intro _ _
    show W' u v ≠ 1000000 ∧ 1000000 * W' u v - D' u v + d u ≤ (1000000 * W u k - D u k + d u) + (1000000 * W k v - D k v + d k)
    rcases hn with ⟨e1, e2, ni⟩ | ⟨im, e1, e2⟩
    · have z' : W u v ≠ 1000000 := by omega
      obtain ⟨x3, y3, z3, t3⟩ := w3 z'
      rw [e1, e2]; constructor <;> omega
    · rw [e1, e2]; constructor <;> omega
  · intro z
    rcases hn with ⟨e1, e2, _⟩ | ⟨_, e1, e2⟩
    · refine Or.inl ⟨by show W u v ≠ 1000000; rw [← e1]; exact z, ?_⟩
      show 1000000 * W' u v - D' u v + d u = 1000000 * W u v - D u v + d u
      rw [e1, e2]
    · refine Or.inr ⟨q1, q2, ?_⟩
      show 1000000 * W' u v - D' u v + d u = (1000000 * W u k - D u k + d u) + (1000000 * W k v - D k v + d k)
      rw [e1, e2]; omega
  · intro a x ha hx
    by_cases z : a = u ∧ x = v
    · obtain ⟨za, zx⟩ := z
      rw [za, zx]
      have hz1 : fw_P u (v + 1) u v := (fw_P1 u v u v).mpr (Or.inr ⟨rfl, rfl⟩)
      rcases hn with ⟨e1, e2, _⟩ | ⟨im, e1, e2⟩
      · rw [e1, e2]
        exact ⟨w3l, w3u, fun q => ⟨(w3 q).1, (w3 q).2.1, (w3 q).2.2.1, fun y => absurd hz1 y⟩⟩
      · rw [e1, e2]
        refine ⟨by omega, by omega, fun _ => ⟨by omega, by omega, ?_, fun y => absurd hz1 y⟩⟩
        by_cases c1 : u = k
        · subst c1
          by_cases c2 : v = u
          · subst c2
            have := t1 hz
            rw [mw_e1]; omega
          · have := t2 hz
            rw [mw_e1] at z1
            rw [mw_e3 e c2]; omega
        · by_cases c2 : v = k
          · subst c2
            have := t1 hz
            rw [mw_e1] at z2
            rw [mw_e2 e c1]; omega
          · rw [mw_e2 e c1] at z1
            rw [mw_e3 e c2] at z2
            rw [mw_e4 e c1 c2]; omega
    · obtain ⟨e1, e2⟩ := ho a x ha hx z
      rw [e1, e2]
      obtain ⟨j1, j2, j3⟩ := i3 a x ha hx
      refine ⟨j1, j2, fun q => ⟨(j3 q).1, (j3 q).2.1, (j3 q).2.2.1, fun y => (j3 q).2.2.2 (fun y' => y ((fw_P1 u v a x).mpr (Or.inl y')))⟩⟩
  · intro Q hw hj a x ha hx q
    by_cases z : a = u ∧ x = v
    · obtain ⟨za, zx⟩ := z
      rw [za, zx] at q ⊢
      rcases hn with ⟨e1, e2, _⟩ | ⟨im, e1, e2⟩
      · rw [e1] at q
        rw [e1, e2]
        exact i4 Q hw hj u v hu hv q
      · rw [e1, e2]
        exact hj u k v _ _ _ _ hu hk hv w1l w2l (i4 Q hw hj u k hu hk q1) (i4 Q hw hj k v hk hv q2)
    · obtain ⟨e1, e2⟩ := ho a x ha hx z
      rw [e1] at q
      rw [e1, e2]
      exact i4 Q hw hj a x ha hx q
/-- a pair without a way over k -/
theorem mw_skip {n m k u v : Nat} {d : Nat → Int} {s t : Nat → Nat} {r : Nat → Int} {b e : Int} {W0 D0 W D : Nat → Nat → Int}
    (hk : k < n) (hu : u < n) (hv : v < n) (he : 0 ≤ e ∧ e ≤ 23328)
    (hd : ∀ x, x < n → 0 ≤ d x ∧ d x ≤ 9) (h0 : mw_B n d b e W0 D0) (hI : mw_In n m d s t r k u v e W0 D0 W D)
    (hq : ¬ (W u k ≠ 1000000 ∧ W k v ≠ 1000000)) : mw_In n m d s t r k u (v + 1) e W0 D0 W D := by
  obtain ⟨i1, i2, i3, i4⟩ := hI
  refine ⟨fw_step hk i1 (fun _ => (h0 k k hk hk).1) (fw_P1 u v) (fun _ _ _ _ _ => ⟨Iff.rfl, rfl⟩) (fun q => ⟨q, Int.le_refl _⟩) (fun a x => absurd ⟨a, x⟩ hq) (fun q => Or.inl ⟨q, rfl⟩),
    fun q => fw_step hk (i2 q) (mw_h0c hk he hd h0 q) (fw_P1 u v) (fun _ _ _ _ _ => ⟨Iff.rfl, rfl⟩) (fun q => ⟨q, Int.le_refl _⟩) (fun a x => absurd ⟨a, x⟩ hq) (fun q => Or.inl ⟨q, rfl⟩), ?_, i4⟩
  intro a x ha hx
  obtain ⟨j1, j2, j3⟩ := i3 a x ha hx
  exact ⟨j1, j2, fun q => ⟨(j3 q).1, (j3 q).2.1, (j3 q).2.2.1, fun y => (j3 q).2.2.2 (fun y' => y ((fw_P1 u v a x).mpr (Or.inl y')))⟩⟩
theorem mw_row {n m k u : Nat} {d : Nat → Int} {s t : Nat → Nat} {r : Nat → Int} {e : Int} {W0 D0 W D : Nat → Nat → Int}
    (hI : mw_In n m d s t r k u n e W0 D0 W D) : mw_In n m d s t r k (u + 1) 0 e W0 D0 W D := by
  obtain ⟨i1, i2, i3, i4⟩ := hI
  have hP : ∀ a x, a < n → x < n → (fw_P (u + 1) 0 a x ↔ fw_P u n a x) := by
    intro a x ha hx
    unfold fw_P
    constructor
    · intro h; omega
    · intro h; omega
  refine ⟨fw_Sc hP i1, fun q => fw_Sc hP (i2 q), ?_, i4⟩
  intro a x ha hx
  obtain ⟨j1, j2, j3⟩ := i3 a x ha hx
  exact ⟨j1, j2, fun q => ⟨(j3 q).1, (j3 q).2.1, (j3 q).2.2.1, fun y => (j3 q).2.2.2 (fun y' => y ((hP a x ha hx).mpr y'))⟩⟩
theorem mw_enter {n m k : Nat} {d : Nat → Int} {s t : Nat → Nat} {r : Nat → Int} {b e : Int} {W D : Nat → Nat → Int} (he : 0 ≤ e)
    (h0 : mw_B n d b e W D) (hU : mw_U n m d s t r W D) : mw_In n m d s t r k 0 0 e W D W D := by
  have hP : ∀ a x, ¬ fw_P 0 0 a x := by intro a x; unfold fw_P; omega
  refine ⟨fw_start hP, fun _ => fw_start hP, ?_, hU⟩
  intro a x ha hx
  obtain ⟨j1, j2, j3⟩ := h0 a x ha hx
  have := mw_e0 k e he a x
  exact ⟨j1, j2, fun q => ⟨(j3 q).2.1, (j3 q).2.2.1, Int.le_trans (j3 q).2.2.2 this, fun _ => (j3 q).2.2.2⟩⟩
theorem mw_stage {n m k : Nat} {d : Nat → Int} {s t : Nat → Nat} {r : Nat → Int} {b e B : Int} {W0 D0 W D : Nat → Nat → Int}
    (hc : rb_Ci n m d s t r B) (hk : k < n) (hb : 0 ≤ b) (he : 0 ≤ e ∧ e ≤ 23328) (h0 : mw_Sg n m d s t r k b e W0 D0)
    (hI : mw_In n m d s t r k n 0 e W0 D0 W D) : mw_Sg n m d s t r (k + 1) (2 * b) (6 * e) W D := by
  obtain ⟨_, hd, hs⟩ := hc
  obtain ⟨hB, hU, hw, hC, hso⟩ := h0
  obtain ⟨i1, i2, i3, i4⟩ := hI
  have hP : ∀ u v, u < n → v < n → fw_P n 0 u v := fun u v hu _ => Or.inl hu
  have bW := mw_bW hk hb hB i1
  refine ⟨?_, i4, ?_, fw_close hk hC i1 hP (fun _ => (hB k k hk hk).1), ?_⟩
  · intro u v hu hv
    obtain ⟨j1, j2, j3⟩ := i3 u v hu hv
    have := mw_e6 k e he.1 u v
    exact ⟨j1, j2, fun q => ⟨bW u v hu hv q, (j3 q).1, (j3 q).2.1, Int.le_trans (j3 q).2.2.1 this⟩⟩
  · intro i hi
    obtain ⟨s1, s2, _⟩ := hs i hi
    obtain ⟨q1, q2⟩ := hw i hi
    obtain ⟨q3, q4⟩ := (i1 (s i) (t i) s1 s2).2.1 q1
    exact ⟨q3, by omega⟩
  · intro q
    have so0 : mw_so n W0 := by
      intro x hx z
      obtain ⟨_, l⟩ := (i1 x x hx hx).2.1 (by show W0 x x ≠ 1000000; omega)
      have := q x hx
      have := (i3 x x hx hx).1
      omega
    obtain ⟨c1, c2⟩ := hso so0
    have j := i2 (so0 k hk)
    refine ⟨fw_close hk c1 j hP (mw_h0c hk he hd hB (so0 k hk)), ?_⟩
    intro i hi
    obtain ⟨s1, s2, _⟩ := hs i hi
    exact Int.le_trans ((j (s i) (t i) s1 s2).2.1 (hw i hi).1).2 (c2 i hi)
/-- the wires offered one by one -/
def mw_Wr (n m : Nat) (d : Nat → Int) (s t : Nat → Nat) (r : Nat → Int) (B : Int) (i : Nat) (W D : Nat → Nat → Int) : Prop :=
  mw_B n d B 18 W D ∧ mw_U n m d s t r W D ∧
  (∀ j, j < i → W (s j) (t j) ≠ 1000000 ∧ W (s j) (t j) ≤ r j ∧ mw_c d W D (s j) (t j) ≤ 1000000 * r j - d (t j))
theorem mw_wire {n m i : Nat} {d : Nat → Int} {s t : Nat → Nat} {r : Nat → Int} {B : Int} {W D W' D' : Nat → Nat → Int}
    (hc : rb_Ci n m d s t r B) (hi : i < m) (hB : B < 1000000) (hI : mw_Wr n m d s t r B i W D)
    (hO : mw_Of n (s i) (t i) (r i) (d (s i) + d (t i)) W D W' D') : mw_Wr n m d s t r B (i + 1) W' D' := by
  obtain ⟨_, hd, hs⟩ := hc
  obtain ⟨hs1, hs2, hs3, hs4⟩ := hs i hi
  obtain ⟨iB, iU, iW⟩ := hI
  obtain ⟨ho, hn⟩ := hO
  have d1 := hd (s i) hs1
  have d2 := hd (t i) hs2
  obtain ⟨w1, w2, w3⟩ := iB (s i) (t i) hs1 hs2
  refine ⟨?_, ?_, ?_⟩
  · intro a x ha hx
    by_cases z : a = s i ∧ x = t i
    · obtain ⟨za, zx⟩ := z
      rw [za, zx]
      rcases hn with ⟨e1, e2, _⟩ | ⟨im, e1, e2⟩
      · rw [e1, e2]; exact ⟨w1, w2, w3⟩
      · rw [e1, e2]; exact ⟨by omega, by omega, fun _ => ⟨by omega, by omega, by omega, by omega⟩⟩
    · obtain ⟨e1, e2⟩ := ho a x ha hx z
      rw [e1, e2]; exact iB a x ha hx
  · intro Q hw hj a x ha hx q
    by_cases z : a = s i ∧ x = t i
    · obtain ⟨za, zx⟩ := z
      rw [za, zx] at q ⊢
      rcases hn with ⟨e1, e2, _⟩ | ⟨im, e1, e2⟩
      · rw [e1] at q
        rw [e1, e2]
        exact iU Q hw hj (s i) (t i) hs1 hs2 q
      · rw [e1, e2]
        exact hw i hi
    · obtain ⟨e1, e2⟩ := ho a x ha hx z
      rw [e1] at q
      rw [e1, e2]
      exact iU Q hw hj a x ha hx q
  · intro j hj
    show W' (s j) (t j) ≠ 1000000 ∧ W' (s j) (t j) ≤ r j ∧ 1000000 * W' (s j) (t j) - D' (s j) (t j) + d (s j) ≤ 1000000 * r j - d (t j)
    have hold : j < i → W (s j) (t j) ≠ 1000000 ∧ W (s j) (t j) ≤ r j ∧ 1000000 * W (s j) (t j) - D (s j) (t j) + d (s j) ≤ 1000000 * r j - d (t j) := iW j
    obtain ⟨hj1, hj2, _, _⟩ := hs j (by omega)
    by_cases z : s j = s i ∧ t j = t i
    · obtain ⟨za, zx⟩ := z
      have hr : j < i ∨ j = i := by omega
      rcases hn with ⟨e1, e2, ni⟩ | ⟨im, e1, e2⟩
      · rcases hr with h | h
        · have := hold h
          rw [za, zx] at this ⊢
          rw [e1, e2]; exact this
        · subst h
          rw [e1, e2]
          have z' : W (s j) (t j) ≠ 1000000 := by omega
          have := w3 z'
          refine ⟨z', by omega, by omega⟩
      · rcases hr with h | h
        · have h1 := hold h
          rw [za, zx] at h1 ⊢
          have := w3 h1.1
          rw [e1, e2]
          refine ⟨by omega, by omega, by omega⟩
        · subst h
          rw [e1, e2]
          refine ⟨by omega, by omega, by omega⟩
    · obtain ⟨e1, e2⟩ := ho (s j) (t j) hj1 hj2 z
      have hr : j < i := by
        have : j ≠ i := fun h => z (by rw [h]; exact ⟨rfl, rfl⟩)
        omega
      rw [e1, e2]
      exact hold hr
theorem mw_wire0 {n m : Nat} {d : Nat → Int} {s t : Nat → Nat} {r : Nat → Int} {B : Int} {W D : Nat → Nat → Int}
    (h : ∀ u v, u < n → v < n → W u v = 1000000) : mw_Wr n m d s t r B 0 W D := by
  refine ⟨?_, ?_, fun j hj => absurd hj (by omega)⟩
  · intro u v hu hv
    have := h u v hu hv
    exact ⟨by omega, by omega, fun z => absurd this z⟩
  · intro Q _ _ u v hu hv z
    exact absurd (h u v hu hv) z
theorem mw_start {n m : Nat} {d : Nat → Int} {s t : Nat → Nat} {r : Nat → Int} {B : Int} {W D : Nat → Nat → Int}
    (h : mw_Wr n m d s t r B m W D) : mw_Sg n m d s t r 0 B 18 W D := by
  obtain ⟨h1, h2, h3⟩ := h
  exact ⟨h1, h2, fun i hi => ⟨(h3 i hi).1, (h3 i hi).2.1⟩, fun x _ _ hx => absurd hx (by omega), fun _ => ⟨fun x _ _ hx => absurd hx (by omega), fun i hi => (h3 i hi).2.2⟩⟩
/-- bounds by stage -/
def mw_b (B : Int) : Nat → Int
  | 0 => B
  | k + 1 => 2 * mw_b B k
def mw_g : Nat → Int
  | 0 => 18
  | k + 1 => 6 * mw_g k
theorem mw_bg {B : Int} (h0 : 0 ≤ B) (h1 : B ≤ 8000) : ∀ k, k ≤ 5 → 0 ≤ mw_b B k ∧ mw_b B k ≤ 256000 ∧ 0 ≤ mw_g k ∧ mw_g k ≤ 139968 ∧ (k < 5 → 4 * mw_b B k < 1000000 ∧ mw_g k ≤ 23328) := by
  intro k hk
  have : k = 0 ∨ k = 1 ∨ k = 2 ∨ k = 3 ∨ k = 4 ∨ k = 5 := by omega
  rcases this with h | h | h | h | h | h <;> subst h <;> simp only [mw_b, mw_g] <;> omega
/-- what measureWays leaves -/
def mw_F (n m : Nat) (d : Nat → Int) (s t : Nat → Nat) (r : Nat → Int) (W D : Nat → Nat → Int) : Prop :=
  mw_Sg n m d s t r n 256000 139968 W D
theorem mw_done {n m : Nat} {d : Nat → Int} {s t : Nat → Nat} {r : Nat → Int} {B : Int} {W D : Nat → Nat → Int} (hn : n ≤ 5) (h0 : 0 ≤ B) (h1 : B ≤ 8000)
    (h : mw_Sg n m d s t r n (mw_b B n) (mw_g n) W D) : mw_F n m d s t r W D := by
  obtain ⟨hB, hr⟩ := h
  obtain ⟨_, b2, _, b4, _⟩ := mw_bg h0 h1 n hn
  refine ⟨?_, hr⟩
  intro u v hu hv
  obtain ⟨j1, j2, j3⟩ := hB u v hu hv
  exact ⟨j1, j2, fun q => ⟨Int.le_trans (j3 q).1 b2, (j3 q).2.1, (j3 q).2.2.1, Int.le_trans (j3 q).2.2.2 b4⟩⟩
end
section
def bf_c (W D : Nat → Nat → Int) (p : Int) (u v : Nat) : Int := W u v - (if p < D u v then 1 else 0)
theorem bf_c1 {W D : Nat → Nat → Int} {p : Int} {u v : Nat} (h : p < D u v) : bf_c W D p u v = W u v - 1 := by unfold bf_c; rw [if_pos h]
theorem bf_c0 {W D : Nat → Nat → Int} {p : Int} {u v : Nat} (h : ¬ p < D u v) : bf_c W D p u v = W u v := by unfold bf_c; rw [if_neg h]; omega
theorem bf_cb (W D : Nat → Nat → Int) (p : Int) (u v : Nat) : W u v - 1 ≤ bf_c W D p u v ∧ bf_c W D p u v ≤ W u v := by
  by_cases h : p < D u v
  · rw [bf_c1 h]; omega
  · rw [bf_c0 h]; omega
def bf_en (n : Nat) (W : Nat → Nat → Int) (u v : Nat) : Prop := u < n ∧ v < n ∧ u ≠ v ∧ W u v ≠ 1000000
def bf_fe (n : Nat) (W D : Nat → Nat → Int) (p : Int) (L : Nat → Int) : Prop := ∀ u v, bf_en n W u v → L u ≤ L v + bf_c W D p u v
def bf_ok (n : Nat) (W D : Nat → Nat → Int) (d : Nat → Int) (p : Int) (L : Nat → Int) : Prop := (∀ v, v < n → d v ≤ p) ∧ bf_fe n W D p L
def bf_le (n : Nat) (L M : Nat → Int) : Prop := ∀ v, v < n → L v ≤ M v
def bf_0 (n : Nat) (L : Nat → Int) : Prop := ∀ v, v < n → L v ≤ 0
def bf_Gr (n : Nat) (W D : Nat → Nat → Int) (p : Int) (G : Nat → Int) : Prop :=
  bf_fe n W D p G ∧ bf_0 n G ∧ ∀ L, bf_fe n W D p L → bf_0 n L → bf_le n L G
theorem bf_feC {n : Nat} {W D : Nat → Nat → Int} {p : Int} {L M : Nat → Int} (e : ∀ v, v < n → L v = M v) (h : bf_fe n W D p L) : bf_fe n W D p M := by
  intro u v en
  rw [← e u en.1, ← e v en.2.1]
  exact h u v en
def sm_t (L : Nat → Int) : Nat → Nat
  | 0 => 0
  | k + 1 => sm_t L k + (-(L k)).toNat
theorem sm_le {L M : Nat → Int} : ∀ k, (∀ v, v < k → L v ≤ M v) → sm_t M k ≤ sm_t L k := by
  intro k
  induction k with
  | zero => intro _; exact Nat.le_refl 0
  | succ k ih =>
    intro h
    have h1 := ih (fun v hv => h v (by omega))
    have h2 := h k (by omega)
    show sm_t M k + (-(M k)).toNat ≤ sm_t L k + (-(L k)).toNat
    omega
theorem sm_lt {L M : Nat → Int} (a : Nat) : ∀ k, (∀ v, v < k → L v ≤ M v) → a < k → L a < M a → M a ≤ 0 → sm_t M k < sm_t L k := by
  intro k
  induction k with
  | zero => intro _ h; omega
  | succ k ih =>
    intro h ha h1 h2
    show sm_t M k + (-(M k)).toNat < sm_t L k + (-(L k)).toNat
    by_cases e : a = k
    · have h3 := sm_le (L := L) (M := M) k (fun v hv => h v (by omega))
      rw [e] at h1 h2
      omega
    · have h3 := ih (fun v hv => h v (by omega)) (by omega) h1 h2
      have h4 := h k (by omega)
      omega
def mx_t (a b : Int) : Int := if a ≤ b then b else a
theorem mx_s (a b : Int) : a ≤ mx_t a b ∧ b ≤ mx_t a b ∧ (mx_t a b = a ∨ mx_t a b = b) := by
  unfold mx_t
  by_cases h : a ≤ b
  · rw [if_pos h]; omega
  · rw [if_neg h]; omega
theorem bf_max {n : Nat} {W D : Nat → Nat → Int} {p : Int} {L M : Nat → Int} (h : bf_fe n W D p L) (h' : bf_fe n W D p M) :
    bf_fe n W D p (fun v => mx_t (L v) (M v)) := by
  intro u v en
  have h1 := h u v en
  have h2 := h' u v en
  have h3 := mx_s (L u) (M u)
  have h4 := mx_s (L v) (M v)
  show mx_t (L u) (M u) ≤ mx_t (L v) (M v) + bf_c W D p u v
  omega
theorem bf_ex {n : Nat} {W D : Nat → Nat → Int} {p : Int} : ∀ (N : Nat) (L : Nat → Int), sm_t L n ≤ N → bf_fe n W D p L → bf_0 n L → ∃ G, bf_Gr n W D p G := by
  intro N
  induction N with
  | zero =>
    intro L hN h1 h2
    refine ⟨L, h1, h2, fun M m1 m2 v hv => ?_⟩
    apply Classical.byContradiction
    intro z
    have h3 := sm_lt (L := L) (M := fun v => mx_t (L v) (M v)) v n (fun x _ => (mx_s (L x) (M x)).1) hv
      (by show L v < mx_t (L v) (M v); have := mx_s (L v) (M v); omega)
      (by show mx_t (L v) (M v) ≤ 0; have := mx_s (L v) (M v); have := h2 v hv; have := m2 v hv; omega)
    omega
  | succ N ih =>
    intro L hN h1 h2
    by_cases g : ∀ M, bf_fe n W D p M → bf_0 n M → bf_le n M L
    · exact ⟨L, h1, h2, g⟩
    · have ⟨M, hM⟩ := Classical.not_forall.mp g
      have m1 : bf_fe n W D p M := Classical.byContradiction fun z => hM (fun y => absurd y z)
      have m2 : bf_0 n M := Classical.byContradiction fun z => hM (fun _ y => absurd y z)
      have m3 : ¬ bf_le n M L := fun z => hM (fun _ _ => z)
      have ⟨v, hv'⟩ := Classical.not_forall.mp m3
      have hv : v < n := Classical.byContradiction fun z => hv' (fun y => absurd y z)
      have hv2 : ¬ M v ≤ L v := fun z => hv' (fun _ => z)
      have h3 := sm_lt (L := L) (M := fun v => mx_t (L v) (M v)) v n (fun x _ => (mx_s (L x) (M x)).1) hv
        (by show L v < mx_t (L v) (M v); have := mx_s (L v) (M v); omega)
        (by show mx_t (L v) (M v) ≤ 0; have := mx_s (L v) (M v); have := h2 v hv; have := m2 v hv; omega)
      refine ih (fun v => mx_t (L v) (M v)) (by omega) (bf_max h1 m1) ?_
      intro x hx
      show mx_t (L x) (M x) ≤ 0
      have := mx_s (L x) (M x)
      have := h2 x hx
      have := m2 x hx
      omega
def bf_W (n : Nat) (W : Nat → Nat → Int) : Prop := ∀ u v, u < n → v < n → 0 ≤ W u v
def bf_up (G : Nat → Int) (t : Int) (v : Nat) : Int := if G v < t then G v + 1 else G v
theorem bf_upS (G : Nat → Int) (t : Int) (v : Nat) : (G v < t ∧ bf_up G t v = G v + 1) ∨ (t ≤ G v ∧ bf_up G t v = G v) := by
  unfold bf_up
  by_cases h : G v < t
  · rw [if_pos h]; exact Or.inl ⟨h, rfl⟩
  · rw [if_neg h]; exact Or.inr ⟨by omega, rfl⟩
theorem bf_gap {n : Nat} {W D : Nat → Nat → Int} {p : Int} {G : Nat → Int} (hW : bf_W n W) (hG : bf_Gr n W D p G) (t : Int) (ht : t ≤ 0) (a : Nat) (ha : a < n)
    (h : G a < t) : ∃ b, b < n ∧ G b = t := by
  apply Classical.byContradiction
  intro z
  have hz : ∀ b, b < n → G b ≠ t := fun b hb e => z ⟨b, hb, e⟩
  have h1 : bf_fe n W D p (bf_up G t) := by
    intro u v en
    have e1 := hG.1 u v en
    have e2 := bf_cb W D p u v
    have e3 := hW u v en.1 en.2.1
    have e4 := hz u en.1
    have e5 := hz v en.2.1
    have e6 := bf_upS G t u
    have e7 := bf_upS G t v
    omega
  have h2 : bf_0 n (bf_up G t) := by
    intro v hv
    have e6 := bf_upS G t v
    have := hG.2.1 v hv
    omega
  have h3 := hG.2.2 _ h1 h2 a ha
  have e6 := bf_upS G t a
  omega
theorem bf_range {n : Nat} {W D : Nat → Nat → Int} {p : Int} {G : Nat → Int} (hn : n ≤ 5) (hW : bf_W n W) (hG : bf_Gr n W D p G) : ∀ v, v < n → -4 ≤ G v := by
  intro v hv
  apply Classical.byContradiction
  intro z
  have st : ∀ t : Int, t ≤ 0 → -4 ≤ t → cn_t (fun x => G x ≤ t - 1) n + 1 ≤ cn_t (fun x => G x ≤ t) n := by
    intro t h0 h4
    obtain ⟨b, hb, e⟩ := bf_gap hW hG t h0 v hv (by omega)
    refine cn_lt b n (fun i _ (h : G i ≤ t - 1) => (by omega : G i ≤ t)) hb ?_ ?_
    · show G b ≤ t; omega
    · show ¬ G b ≤ t - 1; omega
  have s0 := st 0 (by omega) (by omega)
  have s1 := st (-1) (by omega) (by omega)
  have s2 := st (-2) (by omega) (by omega)
  have s3 := st (-3) (by omega) (by omega)
  have s4 := st (-4) (by omega) (by omega)
  have s5 := cn_pos (P := fun x => G x ≤ -5) v hv (by show G v ≤ -5; omega)
  have s6 := cn_le (fun x => G x ≤ 0) n
  simp only [Int.reduceSub, Int.reduceNeg] at s0 s1 s2 s3 s4
  omega
/-- a pass over the demands -/
def bf_Ps (n : Nat) (W D : Nat → Nat → Int) (p : Int) (a0 a : Nat → Int) (lo : Prop) : Prop :=
  bf_le n a a0 ∧ (∀ L, bf_fe n W D p L → bf_le n L a0 → bf_le n L a) ∧ (∀ u v, bf_en n W u v → a u ≤ a0 v + bf_c W D p u v) ∧
  (¬ lo → (∀ v, v < n → a v = a0 v) ∧ bf_fe n W D p a0) ∧ (bf_fe n W D p a0 → ¬ lo)
def bf_In (n : Nat) (W D : Nat → Nat → Int) (p : Int) (u0 v0 : Nat) (β : Int) (a0 a : Nat → Int) (lo : Prop) : Prop :=
  bf_le n a a0 ∧ (∀ L, bf_fe n W D p L → bf_le n L a0 → bf_le n L a) ∧ (∀ u v, bf_en n W u v → fw_P u0 v0 u v → a u ≤ a0 v + bf_c W D p u v) ∧
  (¬ lo → (∀ v, v < n → a v = a0 v) ∧ ∀ u v, bf_en n W u v → fw_P u0 v0 u v → a0 u ≤ a0 v + bf_c W D p u v) ∧ (bf_fe n W D p a0 → ¬ lo) ∧
  (∀ v, v < n → β - (5 * (u0 : Int) + v0) ≤ a v)
theorem bf_start {n : Nat} {W D : Nat → Nat → Int} {p β : Int} {a0 : Nat → Int} {lo : Prop} (hl : ¬ lo) (hβ : ∀ v, v < n → β ≤ a0 v) : bf_In n W D p 0 0 β a0 a0 lo := by
  have hP : ∀ u v, ¬ fw_P 0 0 u v := by intro u v; unfold fw_P; omega
  refine ⟨fun _ _ => Int.le_refl _, fun L _ h => h, fun u v _ z => absurd z (hP u v), fun _ => ⟨fun _ _ => rfl, fun u v _ z => absurd z (hP u v)⟩, fun _ => hl, ?_⟩
  intro v hv
  have := hβ v hv
  omega
theorem bf_keep {n u v : Nat} {W D : Nat → Nat → Int} {p β : Int} {a0 a : Nat → Int} {lo : Prop} (hI : bf_In n W D p u v β a0 a lo)
    (h : bf_en n W u v → a u ≤ a v + bf_c W D p u v) : bf_In n W D p u (v + 1) β a0 a lo := by
  obtain ⟨i1, i2, i3, i4, i5, i6⟩ := hI
  refine ⟨i1, i2, ?_, ?_, i5, ?_⟩
  · intro x y en q
    rcases (fw_P1 u v x y).mp q with q | ⟨q, q'⟩
    · exact i3 x y en q
    · rw [q, q'] at en ⊢
      have := h en
      have := i1 v en.2.1
      omega
  · intro l
    obtain ⟨j1, j2⟩ := i4 l
    refine ⟨j1, ?_⟩
    intro x y en q
    rcases (fw_P1 u v x y).mp q with q | ⟨q, q'⟩
    · exact j2 x y en q
    · rw [q, q'] at en ⊢
      have := h en
      rw [← j1 u en.1, ← j1 v en.2.1]
      exact this
  · intro x hx
    have := i6 x hx
    omega
theorem bf_low {n u v : Nat} {W D : Nat → Nat → Int} {p β : Int} {a0 a a' : Nat → Int} {lo lo' : Prop} (hW : bf_W n W) (hI : bf_In n W D p u v β a0 a lo)
    (en : bf_en n W u v) (h : a v + bf_c W D p u v < a u) (e1 : a' u = a v + bf_c W D p u v) (e2 : ∀ x, x < n → x ≠ u → a' x = a x) (hl : lo') :
    bf_In n W D p u (v + 1) β a0 a' lo' := by
  obtain ⟨i1, i2, i3, i4, i5, i6⟩ := hI
  have hle : ∀ x, x < n → a' x ≤ a x := by
    intro x hx
    by_cases q : x = u
    · rw [q, e1]; omega
    · rw [e2 x hx q]; exact Int.le_refl _
  refine ⟨?_, ?_, ?_, fun z => absurd hl z, ?_, ?_⟩
  · intro x hx
    exact Int.le_trans (hle x hx) (i1 x hx)
  · intro L l1 l2 x hx
    by_cases q : x = u
    · rw [q, e1]
      have := l1 u v en
      have := i2 L l1 l2 v en.2.1
      omega
    · rw [e2 x hx q]; exact i2 L l1 l2 x hx
  · intro x y en' q
    rcases (fw_P1 u v x y).mp q with q | ⟨q, q'⟩
    · exact Int.le_trans (hle x en'.1) (i3 x y en' q)
    · rw [q, q', e1]
      have := i1 v en.2.1
      omega
  · intro f
    have l := i5 f
    obtain ⟨j1, _⟩ := i4 l
    have := f u v en
    rw [← j1 u en.1, ← j1 v en.2.1] at this
    omega
  · intro x hx
    by_cases q : x = u
    · rw [q, e1]
      have := i6 v en.2.1
      have := bf_cb W D p u v
      have := hW u v en.1 en.2.1
      omega
    · rw [e2 x hx q]
      have := i6 x hx
      omega
theorem bf_row {n u : Nat} {W D : Nat → Nat → Int} {p β : Int} {a0 a : Nat → Int} {lo : Prop} (hn : n ≤ 5) (hI : bf_In n W D p u n β a0 a lo) :
    bf_In n W D p (u + 1) 0 β a0 a lo := by
  obtain ⟨i1, i2, i3, i4, i5, i6⟩ := hI
  have hP : ∀ x y, y < n → fw_P (u + 1) 0 x y → fw_P u n x y := by
    intro x y hy; unfold fw_P; omega
  refine ⟨i1, i2, fun x y en q => i3 x y en (hP x y en.2.1 q), fun l => ⟨(i4 l).1, fun x y en q => (i4 l).2 x y en (hP x y en.2.1 q)⟩, i5, ?_⟩
  intro x hx
  have := i6 x hx
  omega
theorem bf_end {n : Nat} {W D : Nat → Nat → Int} {p β : Int} {a0 a : Nat → Int} {lo : Prop} (hI : bf_In n W D p n 0 β a0 a lo) : bf_Ps n W D p a0 a lo := by
  obtain ⟨i1, i2, i3, i4, i5, i6⟩ := hI
  exact ⟨i1, i2, fun x y en => i3 x y en (Or.inl en.1), fun l => ⟨(i4 l).1, fun x y en => (i4 l).2 x y en (Or.inl en.1)⟩, i5⟩
/-- a pass settles a lag more -/
theorem bf_round {n : Nat} {W D : Nat → Nat → Int} {p : Int} {a0 a G : Nat → Int} {lo : Prop} (hG : bf_Gr n W D p G) (h0 : bf_0 n a0) (hl : bf_le n G a0)
    (hP : bf_Ps n W D p a0 a lo) : cn_t (fun v => a0 v = G v) n + 1 ≤ cn_t (fun v => a v = G v) n ∨ ∀ v, v < n → a v = G v := by
  obtain ⟨p1, p2, p3, _, _⟩ := hP
  have hg := p2 G hG.1 hl
  have fin : ∀ v, v < n → a0 v = G v → a v = G v := by
    intro v hv e
    have := p1 v hv
    have := hg v hv
    omega
  by_cases all : ∀ v, v < n → a0 v = G v
  · exact Or.inr fun v hv => fin v hv (all v hv)
  · refine Or.inl ?_
    by_cases w : ∃ b, b < n ∧ a b = G b ∧ ¬ a0 b = G b
    · obtain ⟨b, hb, h1, h2⟩ := w
      exact cn_lt b n fin hb h1 h2
    · exfalso
      have hw : ∀ b, b < n → a b = G b → a0 b = G b := fun b hb h1 => Classical.byContradiction fun z => w ⟨b, hb, h1, z⟩
      have key : ∀ f : Nat → Int, (∀ v, (a0 v = G v ∧ f v = G v) ∨ (a0 v ≠ G v ∧ f v = G v + 1)) → False := by
        intro f hf
        have f1 : bf_fe n W D p f := by
          intro u v en
          have e1 := hG.1 u v en
          have e2 := p3 u v en
          have e3 := hf u
          have e4 := hf v
          have e5 := hw u en.1
          have e6 := hg u en.1
          omega
        have f2 : bf_0 n f := by
          intro v hv
          have e1 := h0 v hv
          have e2 := hl v hv
          have e3 := hf v
          omega
        have f3 := hG.2.2 f f1 f2
        exact all fun v hv => by
          have e1 := f3 v hv
          have e2 := hf v
          omega
      refine key (fun v => if a0 v = G v then G v else G v + 1) ?_
      intro v
      by_cases z : a0 v = G v
      · exact Or.inl ⟨z, if_pos z⟩
      · exact Or.inr ⟨z, if_neg z⟩
def bf_R (n : Nat) (W D : Nat → Nat → Int) (p : Int) (R : Nat) (a : Nat → Int) : Prop :=
  bf_0 n a ∧ (∀ L, bf_fe n W D p L → bf_0 n L → bf_le n L a) ∧
  (∀ G, bf_Gr n W D p G → R ≤ cn_t (fun v => a v = G v) n ∨ ∀ v, v < n → a v = G v)
theorem bf_R0 {n : Nat} {W D : Nat → Nat → Int} {p : Int} {a : Nat → Int} (h : ∀ v, v < n → a v = 0) : bf_R n W D p 0 a :=
  ⟨fun v hv => by have := h v hv; omega, fun L _ l v hv => by have := h v hv; have := l v hv; omega, fun _ _ => Or.inl (Nat.zero_le _)⟩
theorem bf_Rs {n R : Nat} {W D : Nat → Nat → Int} {p : Int} {a0 a : Nat → Int} {lo : Prop} (h : bf_R n W D p R a0) (hP : bf_Ps n W D p a0 a lo) :
    bf_R n W D p (R + 1) a := by
  obtain ⟨h1, h2, h3⟩ := h
  have hP' := hP
  obtain ⟨p1, p2, p3, _, _⟩ := hP'
  refine ⟨fun v hv => Int.le_trans (p1 v hv) (h1 v hv), fun L l1 l2 => p2 L l1 (h2 L l1 l2), ?_⟩
  intro G hG
  have hl := h2 G hG.1 hG.2.1
  rcases bf_round hG h1 hl hP with q | q
  · rcases h3 G hG with z | z
    · exact Or.inl (by omega)
    · refine Or.inr fun v hv => ?_
      have := p1 v hv
      have := p2 G hG.1 hl v hv
      have := z v hv
      omega
  · exact Or.inr q
theorem bf_fin {n : Nat} {W D : Nat → Nat → Int} {p : Int} {a0 a : Nat → Int} {lo : Prop} (h : bf_R n W D p n a0) (hP : bf_Ps n W D p a0 a lo) :
    (¬ lo → bf_Gr n W D p a) ∧ (lo → ∀ L, bf_fe n W D p L → bf_0 n L → False) := by
  obtain ⟨h1, h2, h3⟩ := h
  obtain ⟨p1, p2, p3, p4, p5⟩ := hP
  constructor
  · intro l
    obtain ⟨e, f⟩ := p4 l
    refine ⟨bf_feC (fun v hv => (e v hv).symm) f, fun v hv => by rw [e v hv]; exact h1 v hv, fun L l1 l2 v hv => by rw [e v hv]; exact h2 L l1 l2 v hv⟩
  · intro l L l1 l2
    obtain ⟨G, hG⟩ := bf_ex (sm_t L n) L (Nat.le_refl _) l1 l2
    have eq : ∀ v, v < n → a0 v = G v := by
      rcases h3 G hG with z | z
      · exact fun v hv => cn_all (P := fun v => a0 v = G v) z v hv
      · exact z
    exact p5 (bf_feC (fun v hv => (eq v hv).symm) hG.1) l
/-- the best period and the proposed plan -/
def se_l (n : Nat) (W D : Nat → Nat → Int) (d : Nat → Int) (B : Int) (G : Nat → Int) : Prop :=
  bf_ok n W D d B G ∧ (∀ v, v < n → -4 ≤ G v ∧ G v ≤ 0) ∧ (∀ L p, bf_0 n L → bf_ok n W D d p L → B ≤ p) ∧
  (∀ L, bf_0 n L → bf_ok n W D d B L → bf_le n L G)
theorem se_uniq {n : Nat} {W D : Nat → Nat → Int} {d : Nat → Int} {B B' : Int} {G G' : Nat → Int} (h : se_l n W D d B G) (h' : se_l n W D d B' G') :
    B = B' ∧ ∀ v, v < n → G v = G' v := by
  obtain ⟨a1, a2, a3, a4⟩ := h
  obtain ⟨b1, b2, b3, b4⟩ := h'
  have g0 : bf_0 n G := fun v hv => (a2 v hv).2
  have g0' : bf_0 n G' := fun v hv => (b2 v hv).2
  have e1 := a3 G' B' g0' b1
  have e2 := b3 G B g0 a1
  have e : B = B' := by omega
  refine ⟨e, fun v hv => ?_⟩
  subst e
  have := a4 G' g0' b1 v hv
  have := b4 G g0 a1 v hv
  omega
theorem se_of {n : Nat} {W D : Nat → Nat → Int} {d : Nat → Int} {p : Int} {G : Nat → Int} (hn : n ≤ 5) (hW : bf_W n W) (hd : ∀ v, v < n → d v ≤ p) (hG : bf_Gr n W D p G)
    (hm : ∀ L q, bf_0 n L → bf_ok n W D d q L → p ≤ q) : se_l n W D d p G :=
  ⟨⟨hd, hG.1⟩, fun v hv => ⟨bf_range hn hW hG v hv, hG.2.1 v hv⟩, hm, fun L l0 l => hG.2.2 L l.2 l0⟩
theorem se_C {n : Nat} {W D : Nat → Nat → Int} {d : Nat → Int} {B : Int} {G G' : Nat → Int} (e : ∀ v, v < n → G v = G' v) (h : se_l n W D d B G) : se_l n W D d B G' := by
  obtain ⟨a1, a2, a3, a4⟩ := h
  exact ⟨⟨a1.1, bf_feC e a1.2⟩, fun v hv => by rw [← e v hv]; exact a2 v hv, a3, fun L l0 l v hv => by rw [← e v hv]; exact a4 L l0 l v hv⟩
theorem se_least (P : Nat → Prop) : ∀ N k, k ≤ N → P k → ∃ j, P j ∧ ∀ i, i < j → ¬ P i := by
  intro N
  induction N with
  | zero =>
    intro k hk h
    exact ⟨k, h, fun i hi => by omega⟩
  | succ N ih =>
    intro k hk h
    by_cases g : ∃ i, i < k ∧ P i
    · obtain ⟨i, hi, pi⟩ := g
      exact ih i (by omega) pi
    · exact ⟨k, h, fun i hi z => g ⟨i, hi, z⟩⟩
theorem se_ex {n : Nat} {W D : Nat → Nat → Int} {d : Nat → Int} {L0 : Nat → Int} (hn1 : 1 ≤ n) (hn : n ≤ 5) (hW : bf_W n W) (hd : ∀ v, v < n → 0 ≤ d v ∧ d v ≤ 9)
    (q : Nat) (h0 : bf_0 n L0) (h : bf_ok n W D d (q : Int) L0) : ∃ B G, se_l n W D d B G := by
  obtain ⟨j, ⟨L, l0, l⟩, hm⟩ := se_least (fun k => ∃ L, bf_0 n L ∧ bf_ok n W D d (k : Int) L) q q (Nat.le_refl _) ⟨L0, h0, h⟩
  obtain ⟨G, hG⟩ := bf_ex (sm_t L n) L (Nat.le_refl _) l.2 l0
  refine ⟨(j : Int), G, se_of hn hW l.1 hG ?_⟩
  intro M p m0 m
  apply Classical.byContradiction
  intro z
  have hp := m.1 0 (by omega)
  have hd0 := hd 0 (by omega)
  have ep : ((p.toNat : Nat) : Int) = p := by omega
  exact hm p.toNat (by omega) ⟨M, m0, by rw [ep]; exact m⟩
end
section
/-- all that is known of a sound circuit -/
def rb_K (n m : Nat) (d : Nat → Int) (s t : Nat → Nat) (r : Nat → Int) (B : Int) (W D : Nat → Nat → Int) : Prop :=
  rb_Ci n m d s t r B ∧ mw_F n m d s t r W D ∧ mw_so n W
theorem rb_W {n m : Nat} {d : Nat → Int} {s t : Nat → Nat} {r : Nat → Int} {W D : Nat → Nat → Int} (h : mw_F n m d s t r W D) : bf_W n W :=
  fun u v hu hv => (h.1 u v hu hv).1
def lo_g (m : Nat) (s t : Nat → Nat) (r L : Nat → Int) : Prop := ∀ i, i < m → 0 ≤ r i + L (t i) - L (s i)
noncomputable def lo_h (n : Nat) (W : Nat → Nat → Int) (L : Nat → Int) (v : Nat) : Nat := cn_t (fun u => u ≠ v ∧ W u v ≠ 1000000 ∧ W u v + L v - L u = 0) n
theorem lo_hn {n : Nat} {W : Nat → Nat → Int} {L : Nat → Int} {v : Nat} (hv : v < n) : lo_h n W L v + 1 ≤ n :=
  cn_room v hv (fun z => z.1 rfl)
theorem lo_W {n m : Nat} {d : Nat → Int} {s t : Nat → Nat} {r : Nat → Int} {W D : Nat → Nat → Int} {L : Nat → Int} (hF : mw_F n m d s t r W D) (hg : lo_g m s t r L) :
    ∀ u v, u < n → v < n → W u v ≠ 1000000 → 0 ≤ W u v + L v - L u := by
  intro u v hu hv q
  refine hF.2.1 (fun u v w _ => 0 ≤ w + L v - L u) hg ?_ u v hu hv q
  intro u k v w1 w2 l1 l2 _ _ _ _ _ h1 h2
  show 0 ≤ w1 + w2 + L v - L u
  have h1' : 0 ≤ w1 + L k - L u := h1
  have h2' : 0 ≤ w2 + L v - L k := h2
  omega
theorem lo_t {n m i : Nat} {d : Nat → Int} {s t : Nat → Nat} {r : Nat → Int} {B : Int} {W D : Nat → Nat → Int} {L : Nat → Int} (hK : rb_K n m d s t r B W D) (hg : lo_g m s t r L)
    (hi : i < m) (z : r i + L (t i) - L (s i) = 0) : s i ≠ t i ∧ W (s i) (t i) ≠ 1000000 ∧ W (s i) (t i) = r i := by
  obtain ⟨hC, hF, hS⟩ := hK
  obtain ⟨s1, s2, _, _⟩ := hC.2.2 i hi
  obtain ⟨w1, w2⟩ := hF.2.2.1 i hi
  have h1 := lo_W hF hg (s i) (t i) s1 s2 w1
  have h2 : W (s i) (t i) = r i := by omega
  refine ⟨fun e => ?_, w1, h2⟩
  rw [← e] at h2 z
  have := hS (s i) s1
  omega
theorem lo_hs {n m i : Nat} {d : Nat → Int} {s t : Nat → Nat} {r : Nat → Int} {B : Int} {W D : Nat → Nat → Int} {L : Nat → Int} (hK : rb_K n m d s t r B W D) (hg : lo_g m s t r L)
    (hi : i < m) (z : r i + L (t i) - L (s i) = 0) : lo_h n W L (s i) + 1 ≤ lo_h n W L (t i) := by
  obtain ⟨t1, t2, t3⟩ := lo_t hK hg hi z
  obtain ⟨hC, hF, hS⟩ := hK
  obtain ⟨s1, s2, _, _⟩ := hC.2.2 i hi
  refine cn_lt (s i) n ?_ s1 ⟨t1, t2, by omega⟩ (fun q => q.1 rfl)
  intro u hu q
  obtain ⟨q1, q2, q3⟩ := q
  obtain ⟨c1, c2⟩ := hF.2.2.2.1 (s i) u (t i) s1 hu s2 q2 t2
  have c1 : W u (t i) ≠ 1000000 := c1
  have h1 := lo_W hF hg u (t i) hu s2 c1
  refine ⟨fun e => ?_, c1, by omega⟩
  rw [e] at c2 q3
  have := hS (t i) s2
  have := (hF.1 (t i) (t i) s2 s2).1
  omega
/-- a length is the length of a run -/
def lo_f (n : Nat) (d : Nat → Int) (W D : Nat → Nat → Int) (L f : Nat → Int) (v : Nat) : Prop :=
  f v = d v ∨ ∃ u, u < n ∧ u ≠ v ∧ W u v ≠ 1000000 ∧ W u v + L v - L u = 0 ∧ f v ≤ D u v
def lo_I (n m : Nat) (d : Nat → Int) (s t : Nat → Nat) (r : Nat → Int) (W D : Nat → Nat → Int) (L : Nat → Int) (R i : Nat) (f : Nat → Int) : Prop :=
  (∀ v, v < n → d v ≤ f v ∧ f v ≤ 9 * ((lo_h n W L v : Int) + 1) ∧ lo_f n d W D L f v) ∧
  (∀ j, j < m → r j + L (t j) - L (s j) = 0 → f (s j) + d (t j) ≤ f (t j) ∨ (j < i ∧ R + 1 ≤ lo_h n W L (s j)) ∨ (i ≤ j ∧ R ≤ lo_h n W L (s j)))
theorem lo_I0 {n m : Nat} {d : Nat → Int} {s t : Nat → Nat} {r : Nat → Int} {W D : Nat → Nat → Int} {L f : Nat → Int} (hd : ∀ v, v < n → 0 ≤ d v ∧ d v ≤ 9)
    (h : ∀ v, v < n → f v = d v) : lo_I n m d s t r W D L 0 0 f := by
  refine ⟨fun v hv => ?_, fun j hj _ => Or.inr (Or.inr ⟨by omega, by omega⟩)⟩
  have := h v hv
  have := hd v hv
  exact ⟨by omega, by omega, Or.inl (h v hv)⟩
theorem lo_keep {n m i R : Nat} {d : Nat → Int} {s t : Nat → Nat} {r : Nat → Int} {W D : Nat → Nat → Int} {L f : Nat → Int}
    (hI : lo_I n m d s t r W D L R i f) (h : r i + L (t i) - L (s i) = 0 → f (s i) + d (t i) ≤ f (t i)) : lo_I n m d s t r W D L R (i + 1) f := by
  refine ⟨hI.1, fun j hj z => ?_⟩
  by_cases e : j = i
  · rw [e] at z ⊢; exact Or.inl (h z)
  · rcases hI.2 j hj z with q | q | q
    · exact Or.inl q
    · exact Or.inr (Or.inl ⟨by omega, q.2⟩)
    · exact Or.inr (Or.inr ⟨by omega, q.2⟩)
theorem lo_step {n m i R : Nat} {d : Nat → Int} {s t : Nat → Nat} {r : Nat → Int} {B : Int} {W D : Nat → Nat → Int} {L f f' : Nat → Int} (hK : rb_K n m d s t r B W D)
    (hg : lo_g m s t r L) (hi : i < m) (hI : lo_I n m d s t r W D L R i f) (z : r i + L (t i) - L (s i) = 0) (hlt : f (t i) < f (s i) + d (t i))
    (e1 : f' (t i) = f (s i) + d (t i)) (e2 : ∀ x, x < n → x ≠ t i → f' x = f x) : lo_I n m d s t r W D L R (i + 1) f' := by
  obtain ⟨t1, t2, t3⟩ := lo_t hK hg hi z
  have hh := lo_hs hK hg hi z
  obtain ⟨hC, hF, hS⟩ := hK
  obtain ⟨s1, s2, _, _⟩ := hC.2.2 i hi
  have hd := hC.2.1
  obtain ⟨i1, i2⟩ := hI
  obtain ⟨a1, a2, a3⟩ := i1 (s i) s1
  have ds := hd (s i) s1
  have dt := hd (t i) s2
  obtain ⟨cC, cW⟩ := hF.2.2.2.2 hS
  have cw : 1000000 * W (s i) (t i) - D (s i) (t i) + d (s i) ≤ 1000000 * r i - d (t i) := cW i hi
  have vio : R ≤ lo_h n W L (s i) := by
    rcases i2 i hi z with q | q | q
    · omega
    · omega
    · exact q.2
  constructor
  · intro v hv
    by_cases e : v = t i
    · rw [e]
      refine ⟨by omega, by omega, ?_⟩
      refine Or.inr ?_
      rcases a3 with q | ⟨u, hu, q1, q2, q3, q4⟩
      · exact ⟨s i, s1, t1, t2, by omega, by omega⟩
      · obtain ⟨c1, c2⟩ := hF.2.2.2.1 (s i) u (t i) s1 hu s2 q2 t2
        have c1 : W u (t i) ≠ 1000000 := c1
        obtain ⟨_, c3⟩ := cC (s i) u (t i) s1 hu s2 q2 t2
        have c3 : 1000000 * W u (t i) - D u (t i) + d u ≤ (1000000 * W u (s i) - D u (s i) + d u) + (1000000 * W (s i) (t i) - D (s i) (t i) + d (s i)) := c3
        have h1 := lo_W hF hg u (t i) hu s2 c1
        refine ⟨u, hu, fun e' => ?_, c1, by omega, by omega⟩
        rw [e'] at c2 q3
        have := hS (t i) s2
        have := (hF.1 (t i) (t i) s2 s2).1
        omega
    · have hv' := e2 v hv e
      obtain ⟨b1, b2, b3⟩ := i1 v hv
      refine ⟨by omega, by omega, ?_⟩
      rcases b3 with q | ⟨u, hu, q1, q2, q3, q4⟩
      · exact Or.inl (by omega)
      · exact Or.inr ⟨u, hu, q1, q2, q3, by omega⟩
  · intro j hj zj
    obtain ⟨k1, k2, _, _⟩ := hC.2.2 j hj
    have et : f (t j) ≤ f' (t j) := by
      by_cases e : t j = t i
      · rw [e]; omega
      · rw [e2 (t j) k2 e]; exact Int.le_refl _
    by_cases e : s j = t i
    · have : R + 1 ≤ lo_h n W L (s j) := by rw [e]; omega
      by_cases q : j < i + 1
      · exact Or.inr (Or.inl ⟨q, this⟩)
      · exact Or.inr (Or.inr ⟨by omega, by omega⟩)
    · have es := e2 (s j) k1 e
      by_cases ej : j = i
      · rw [ej, e1, ← ej, es, ej]; exact Or.inl (Int.le_refl _)
      · rcases i2 j hj zj with q | q | q
        · exact Or.inl (by omega)
        · exact Or.inr (Or.inl ⟨by omega, q.2⟩)
        · exact Or.inr (Or.inr ⟨by omega, q.2⟩)
theorem lo_rnd {n m R : Nat} {d : Nat → Int} {s t : Nat → Nat} {r : Nat → Int} {W D : Nat → Nat → Int} {L f : Nat → Int}
    (hI : lo_I n m d s t r W D L R m f) : lo_I n m d s t r W D L (R + 1) 0 f := by
  refine ⟨hI.1, fun j hj z => ?_⟩
  rcases hI.2 j hj z with q | q | q
  · exact Or.inl q
  · exact Or.inr (Or.inr ⟨by omega, q.2⟩)
  · omega
/-- the value of a plan -/
def lo_V (n : Nat) (W D : Nat → Nat → Int) (d L : Nat → Int) (x : Int) : Prop := 0 ≤ x ∧ x ≤ 45 ∧ ∀ p, bf_ok n W D d p L ↔ x ≤ p
theorem lo_val {n m : Nat} {d : Nat → Int} {s t : Nat → Nat} {r : Nat → Int} {B : Int} {W D : Nat → Nat → Int} {L f : Nat → Int} {x : Int} (hK : rb_K n m d s t r B W D)
    (hg : lo_g m s t r L) (hI : lo_I n m d s t r W D L 5 0 f) (h1 : ∀ v, v < n → f v ≤ x) (h2 : x = 0 ∨ ∃ v, v < n ∧ f v = x) : lo_V n W D d L x := by
  obtain ⟨hC, hF, hS⟩ := hK
  have hd := hC.2.1
  have hn := hC.1
  obtain ⟨i1, i2⟩ := hI
  have sat : ∀ j, j < m → r j + L (t j) - L (s j) = 0 → f (s j) + d (t j) ≤ f (t j) := by
    intro j hj z
    obtain ⟨k1, _⟩ := hC.2.2 j hj
    have := lo_hn (W := W) (L := L) k1
    rcases i2 j hj z with q | q | q
    · exact q
    · omega
    · omega
  have att : ∃ v, v < n ∧ f v = x := by
    rcases h2 with q | q
    · refine ⟨0, by omega, ?_⟩
      have := h1 0 (by omega)
      have := i1 0 (by omega)
      have := hd 0 (by omega)
      omega
    · exact q
  obtain ⟨v0, hv0, e0⟩ := att
  obtain ⟨g1, g2, g3⟩ := i1 v0 hv0
  have g4 := lo_hn (W := W) (L := L) hv0
  have g5 := hd v0 hv0
  refine ⟨by omega, by omega, fun p => ⟨fun ok => ?_, fun hx => ⟨fun v hv => ?_, ?_⟩⟩⟩
  · rcases g3 with q | ⟨u, hu, q1, q2, q3, q4⟩
    · have := ok.1 v0 hv0
      omega
    · apply Classical.byContradiction
      intro z
      have h3 := ok.2 u v0 ⟨hu, hv0, q1, q2⟩
      rw [bf_c1 (by omega)] at h3
      omega
  · have := (i1 v hv).1
    have := h1 v hv
    omega
  · intro u v en
    obtain ⟨hu, hv, ne, way⟩ := en
    have key := hF.2.1 (fun u v w l => 0 ≤ w + L v - L u ∧ (w + L v - L u = 0 → f u + (l - d u) ≤ f v)) ?_ ?_ u v hu hv way
    · obtain ⟨k1, k2⟩ := key
      by_cases c : p < D u v
      · rw [bf_c1 c]
        have b1 := (i1 u hu).1
        have b2 := h1 v hv
        have b3 := hd u hu
        by_cases z : W u v + L v - L u = 0
        · have := k2 z
          omega
        · omega
      · rw [bf_c0 c]
        omega
    · intro i hi
      refine ⟨hg i hi, fun z => ?_⟩
      have := sat i hi z
      omega
    · intro u k v w1 w2 l1 l2 _ _ _ _ _ a1 a2
      obtain ⟨a1, b1⟩ := a1
      obtain ⟨a2, b2⟩ := a2
      refine ⟨by omega, fun z => ?_⟩
      have := b1 (by omega)
      have := b2 (by omega)
      omega
theorem lo_leg {n m : Nat} {d : Nat → Int} {s t : Nat → Nat} {r : Nat → Int} {B : Int} {W D : Nat → Nat → Int} {L : Nat → Int} {p : Int} (hC : rb_Ci n m d s t r B)
    (hF : mw_F n m d s t r W D) (h : bf_fe n W D p L) : lo_g m s t r L := by
  intro i hi
  obtain ⟨s1, s2, s3, s4⟩ := hC.2.2 i hi
  by_cases e : s i = t i
  · rw [e]; omega
  · obtain ⟨w1, w2⟩ := hF.2.2.1 i hi
    have := h (s i) (t i) ⟨s1, s2, e, w1⟩
    have := bf_cb W D p (s i) (t i)
    omega
theorem lo_g0 {n m : Nat} {d : Nat → Int} {s t : Nat → Nat} {r : Nat → Int} {B : Int} (hC : rb_Ci n m d s t r B) : lo_g m s t r (fun _ => 0) := by
  intro i hi
  obtain ⟨_, _, s3, _⟩ := hC.2.2 i hi
  show 0 ≤ r i + 0 - 0
  omega
theorem lo_45 {n m : Nat} {d : Nat → Int} {s t : Nat → Nat} {r : Nat → Int} {B : Int} {W D : Nat → Nat → Int} (hK : rb_K n m d s t r B W D) : bf_ok n W D d 45 (fun _ => 0) := by
  have hK' := hK
  obtain ⟨hC, hF, hS⟩ := hK'
  have hd := hC.2.1
  refine ⟨fun v hv => by have := hd v hv; omega, ?_⟩
  intro u v en
  obtain ⟨hu, hv, ne, way⟩ := en
  have key := hF.2.1 (fun u v w l => u < n ∧ 0 ≤ w ∧ (w = 0 → l - d u ≤ 9 * ((lo_h n W (fun _ => 0) v : Int) - (lo_h n W (fun _ => 0) u : Int)))) ?_ ?_ u v hu hv way
  · obtain ⟨_, k1, k2⟩ := key
    show (0 : Int) ≤ 0 + bf_c W D 45 u v
    by_cases c : 45 < D u v
    · rw [bf_c1 c]
      have := lo_hn (W := W) (L := fun _ => 0) hv
      have := hd u hu
      have := hC.1
      by_cases z : W u v = 0
      · have := k2 z
        omega
      · omega
    · rw [bf_c0 c]; omega
  · intro i hi
    obtain ⟨s1, s2, s3, _⟩ := hC.2.2 i hi
    refine ⟨s1, s3, fun z => ?_⟩
    have := lo_hs hK (lo_g0 hC) hi (by show r i + 0 - 0 = 0; omega)
    have := hd (t i) s2
    omega
  · intro u k v w1 w2 l1 l2 _ _ _ _ _ a1 a2
    obtain ⟨a0, a1, b1⟩ := a1
    obtain ⟨_, a2, b2⟩ := a2
    refine ⟨a0, by omega, fun z => ?_⟩
    have := b1 (by omega)
    have := b2 (by omega)
    omega
theorem se_have {n m : Nat} {d : Nat → Int} {s t : Nat → Nat} {r : Nat → Int} {B : Int} {W D : Nat → Nat → Int} (hK : rb_K n m d s t r B W D) : ∃ b G, se_l n W D d b G := by
  have h := lo_45 hK
  obtain ⟨hC, hF, _⟩ := hK
  exact se_ex hC.1.1 hC.1.2.1 (rb_W hF) hC.2.1 45 (fun _ _ => Int.le_refl 0) h
theorem se_45 {n m : Nat} {d : Nat → Int} {s t : Nat → Nat} {r : Nat → Int} {B b : Int} {W D : Nat → Nat → Int} {G : Nat → Int} (hK : rb_K n m d s t r B W D) (h : se_l n W D d b G) :
    0 ≤ b ∧ b ≤ 45 := by
  have h1 := h.2.2.1 (fun _ => 0) 45 (fun _ _ => Int.le_refl 0) (lo_45 hK)
  have h2 := h.1.1 0 (by have := hK.1.1; omega)
  have h3 := hK.1.2.1 0 (by have := hK.1.1; omega)
  omega
/-- the levels of the reference's sound -/
def so_I (n m : Nat) (s t : Nat → Nat) (r : Nat → Int) (W : Nat → Nat → Int) (R i : Nat) (f : Nat → Int) : Prop :=
  (∀ v, v < n → 0 ≤ f v ∧ f v ≤ 12 * (R : Int) + i ∧ (mw_so n W → f v ≤ lo_h n W (fun _ => 0) v)) ∧
  (∀ j, j < m → r j = 0 → f (s j) + 1 ≤ f (t j) ∨ (j < i ∧ (R : Int) + 1 ≤ f (s j)) ∨ (i ≤ j ∧ (R : Int) ≤ f (s j)))
theorem so_I0 {n m : Nat} {d : Nat → Int} {s t : Nat → Nat} {r : Nat → Int} {B : Int} {W : Nat → Nat → Int} {f : Nat → Int} (hC : rb_Ci n m d s t r B)
    (h : ∀ v, v < n → f v = 0) : so_I n m s t r W 0 0 f := by
  refine ⟨fun v hv => ?_, fun j hj _ => Or.inr (Or.inr ⟨by omega, ?_⟩)⟩
  · have := h v hv
    exact ⟨by omega, by omega, fun _ => by omega⟩
  · have := h (s j) (hC.2.2 j hj).1
    omega
theorem so_keep {n m i R : Nat} {s t : Nat → Nat} {r : Nat → Int} {W : Nat → Nat → Int} {f : Nat → Int} (hI : so_I n m s t r W R i f)
    (h : r i = 0 → f (s i) + 1 ≤ f (t i)) : so_I n m s t r W R (i + 1) f := by
  refine ⟨fun v hv => ?_, fun j hj z => ?_⟩
  · obtain ⟨h1, h2, h3⟩ := hI.1 v hv
    exact ⟨h1, by omega, h3⟩
  by_cases e : j = i
  · rw [e] at z ⊢; exact Or.inl (h z)
  · rcases hI.2 j hj z with q | q | q
    · exact Or.inl q
    · exact Or.inr (Or.inl ⟨by omega, q.2⟩)
    · exact Or.inr (Or.inr ⟨by omega, q.2⟩)
theorem so_step {n m i R : Nat} {d : Nat → Int} {s t : Nat → Nat} {r : Nat → Int} {B : Int} {W D : Nat → Nat → Int} {f f' : Nat → Int} (hC : rb_Ci n m d s t r B)
    (hF : mw_F n m d s t r W D) (hi : i < m) (hI : so_I n m s t r W R i f) (z : r i = 0) (hlt : f (t i) ≤ f (s i))
    (e1 : f' (t i) = f (s i) + 1) (e2 : ∀ x, x < n → x ≠ t i → f' x = f x) : so_I n m s t r W R (i + 1) f' := by
  obtain ⟨s1, s2, _, _⟩ := hC.2.2 i hi
  obtain ⟨i1, i2⟩ := hI
  obtain ⟨a1, a2, a3⟩ := i1 (s i) s1
  have vio : (R : Int) ≤ f (s i) := by
    rcases i2 i hi z with q | q | q
    · omega
    · omega
    · exact q.2
  constructor
  · intro v hv
    by_cases e : v = t i
    · rw [e]
      refine ⟨by omega, by omega, fun so => ?_⟩
      have := lo_hs (L := fun _ => 0) ⟨hC, hF, so⟩ (lo_g0 hC) hi (by show r i + 0 - 0 = 0; omega)
      have := a3 so
      omega
    · have hv' := e2 v hv e
      obtain ⟨b1, b2, b3⟩ := i1 v hv
      exact ⟨by omega, by omega, fun so => by have := b3 so; omega⟩
  · intro j hj zj
    obtain ⟨k1, k2, _, _⟩ := hC.2.2 j hj
    have et : f (t j) ≤ f' (t j) := by
      by_cases e : t j = t i
      · rw [e]; omega
      · rw [e2 (t j) k2 e]; exact Int.le_refl _
    by_cases e : s j = t i
    · have : (R : Int) + 1 ≤ f' (s j) := by rw [e]; omega
      by_cases q : j < i + 1
      · exact Or.inr (Or.inl ⟨q, this⟩)
      · exact Or.inr (Or.inr ⟨by omega, by omega⟩)
    · have es := e2 (s j) k1 e
      by_cases ej : j = i
      · rw [ej] at es ⊢
        exact Or.inl (by omega)
      · rcases i2 j hj zj with q | q | q
        · exact Or.inl (by omega)
        · exact Or.inr (Or.inl ⟨by omega, by omega⟩)
        · exact Or.inr (Or.inr ⟨by omega, by omega⟩)
theorem so_rnd {n m R : Nat} {s t : Nat → Nat} {r : Nat → Int} {W : Nat → Nat → Int} {f : Nat → Int} (hm : m ≤ 12)
    (hI : so_I n m s t r W R m f) : so_I n m s t r W (R + 1) 0 f := by
  refine ⟨fun v hv => ?_, fun j hj z => ?_⟩
  · obtain ⟨h1, h2, h3⟩ := hI.1 v hv
    exact ⟨h1, by omega, h3⟩
  rcases hI.2 j hj z with q | q | q
  · exact Or.inl q
  · exact Or.inr (Or.inr ⟨by omega, by omega⟩)
  · omega
theorem so_end {n m : Nat} {d : Nat → Int} {s t : Nat → Nat} {r : Nat → Int} {B : Int} {W D : Nat → Nat → Int} {f : Nat → Int} (hC : rb_Ci n m d s t r B)
    (hF : mw_F n m d s t r W D) (hI : so_I n m s t r W 6 0 f) : mw_so n W ↔ ∀ v, v < n → f v < n := by
  obtain ⟨i1, i2⟩ := hI
  have hn := hC.1
  constructor
  · intro so v hv
    have := (i1 v hv).2.2 so
    have := lo_hn (W := W) (L := fun _ => 0) hv
    omega
  · intro h x hx e
    have key := hF.2.1 (fun u v w _ => 0 ≤ w ∧ (w = 0 → f u + 1 ≤ f v)) ?_ ?_ x x hx hx (by omega)
    · have := key.2 e
      omega
    · intro i hi
      obtain ⟨s1, s2, s3, _⟩ := hC.2.2 i hi
      refine ⟨s3, fun z => ?_⟩
      have := h (s i) s1
      rcases i2 i hi z with q | q | q
      · exact q
      · omega
      · omega
    · intro u k v w1 w2 l1 l2 _ _ _ _ _ a1 a2
      obtain ⟨a1, b1⟩ := a1
      obtain ⟨a2, b2⟩ := a2
      refine ⟨by omega, fun z => ?_⟩
      have := b1 (by omega)
      have := b2 (by omega)
      omega
end
section
/-- the plan of a code -/
def fi_L (c v : Nat) : Int := -(((c / 5 ^ v) % 5 : Nat) : Int)
theorem fi_L0 (c n : Nat) : bf_0 n (fi_L c) := by
  intro v _
  unfold fi_L
  omega
def fi_I (n : Nat) (W D : Nat → Nat → Int) (d : Nat → Int) (c : Nat) (best : Int) (plan : Nat → Int) : Prop :=
  (best = 100 ∧ ∀ a, a < c → ∀ p, ¬ bf_ok n W D d p (fi_L a)) ∨
  (best < 100 ∧ (∃ a, a < c ∧ bf_ok n W D d best (fi_L a)) ∧ (∀ a, a < c → ∀ p, bf_ok n W D d p (fi_L a) → best ≤ p) ∧
    ∀ v, v < n → (∃ a, a < c ∧ bf_ok n W D d best (fi_L a) ∧ fi_L a v = plan v) ∧ (∀ a, a < c → bf_ok n W D d best (fi_L a) → fi_L a v ≤ plan v))
theorem fi_keep {n c : Nat} {W D : Nat → Nat → Int} {d : Nat → Int} {best : Int} {plan : Nat → Int} (h : fi_I n W D d c best plan)
    (no : ∀ p, ¬ bf_ok n W D d p (fi_L c)) : fi_I n W D d (c + 1) best plan := by
  rcases h with ⟨e, h⟩ | ⟨h1, ⟨a, ha, ok⟩, h3, h4⟩
  · refine Or.inl ⟨e, fun a ha p => ?_⟩
    by_cases z : a = c
    · rw [z]; exact no p
    · exact h a (by omega) p
  · refine Or.inr ⟨h1, ⟨a, by omega, ok⟩, fun a ha p q => ?_, fun v hv => ⟨?_, fun a ha q => ?_⟩⟩
    · by_cases z : a = c
      · rw [z] at q; exact absurd q (no p)
      · exact h3 a (by omega) p q
    · obtain ⟨x, hx, y⟩ := (h4 v hv).1
      exact ⟨x, by omega, y⟩
    · by_cases z : a = c
      · rw [z] at q; exact absurd q (no _)
      · exact (h4 v hv).2 a (by omega) q
theorem fi_lt {n c : Nat} {W D : Nat → Nat → Int} {d : Nat → Int} {best x : Int} {plan plan' : Nat → Int} (h : fi_I n W D d c best plan)
    (hx : lo_V n W D d (fi_L c) x) (hlt : x < best) (hp : ∀ v, v < n → plan' v = fi_L c v) : fi_I n W D d (c + 1) x plan' := by
  have ok : bf_ok n W D d x (fi_L c) := (hx.2.2 x).mpr (Int.le_refl _)
  have old : ∀ a, a < c → ∀ p, bf_ok n W D d p (fi_L a) → x < p := by
    intro a ha p q
    rcases h with ⟨_, h⟩ | ⟨_, _, h3, _⟩
    · exact absurd q (h a ha p)
    · have := h3 a ha p q
      omega
  refine Or.inr ⟨by have := hx.2.1; omega, ⟨c, by omega, ok⟩, fun a ha p q => ?_, fun v hv => ⟨⟨c, by omega, ok, (hp v hv).symm⟩, fun a ha q => ?_⟩⟩
  · by_cases z : a = c
    · rw [z] at q; exact (hx.2.2 p).mp q
    · have := old a (by omega) p q
      omega
  · by_cases z : a = c
    · rw [z, hp v hv]; exact Int.le_refl _
    · have := old a (by omega) x q
      omega
theorem fi_ge {n c : Nat} {W D : Nat → Nat → Int} {d : Nat → Int} {best x : Int} {plan plan' : Nat → Int} (h : fi_I n W D d c best plan)
    (hx : lo_V n W D d (fi_L c) x) (hge : ¬ x < best) (hp : ∀ v, v < n → (x = best ∧ plan v < fi_L c v ∧ plan' v = fi_L c v) ∨ (¬ (x = best ∧ plan v < fi_L c v) ∧ plan' v = plan v)) :
    fi_I n W D d (c + 1) best plan' := by
  have := hx.2.1
  rcases h with ⟨e, h⟩ | ⟨h1, ⟨a, ha, ok⟩, h3, h4⟩
  · omega
  · refine Or.inr ⟨h1, ⟨a, by omega, ok⟩, fun a ha p q => ?_, fun v hv => ⟨?_, fun a ha q => ?_⟩⟩
    · by_cases z : a = c
      · rw [z] at q
        have := (hx.2.2 p).mp q
        omega
      · exact h3 a (by omega) p q
    · rcases hp v hv with ⟨q1, q2, q3⟩ | ⟨q1, q3⟩
      · exact ⟨c, by omega, (hx.2.2 best).mpr (by omega), q3.symm⟩
      · obtain ⟨y, hy, y1, y2⟩ := (h4 v hv).1
        exact ⟨y, by omega, y1, by rw [y2, q3]⟩
    · by_cases z : a = c
      · rw [z] at q ⊢
        have := (hx.2.2 best).mp q
        rcases hp v hv with ⟨q1, q2, q3⟩ | ⟨q1, q3⟩
        · rw [q3]; exact Int.le_refl _
        · omega
      · have := (h4 v hv).2 a (by omega) q
        rcases hp v hv with ⟨q1, q2, q3⟩ | ⟨q1, q3⟩
        · omega
        · omega
def fi_all (n : Nat) : Nat := if n = 1 then 5 else if n = 2 then 25 else if n = 3 then 125 else if n = 4 then 625 else 3125
theorem fi_code (n : Nat) (h1 : 1 ≤ n) (h5 : n ≤ 5) (G : Nat → Int) (h : ∀ v, v < n → -4 ≤ G v ∧ G v ≤ 0) : ∃ c, c < fi_all n ∧ ∀ v, v < n → fi_L c v = G v := by
  have one : ∀ v, ∃ x : Nat, x ≤ 4 ∧ (v < n → (x : Int) = -(G v)) ∧ (¬ v < n → x = 0) := by
    intro v
    by_cases hv : v < n
    · have := h v hv
      exact ⟨(-(G v)).toNat, by omega, fun _ => by omega, fun z => absurd hv z⟩
    · exact ⟨0, by omega, fun z => absurd z hv, fun _ => rfl⟩
  obtain ⟨x0, a0, b0, c0⟩ := one 0
  obtain ⟨x1, a1, b1, c1⟩ := one 1
  obtain ⟨x2, a2, b2, c2⟩ := one 2
  obtain ⟨x3, a3, b3, c3⟩ := one 3
  obtain ⟨x4, a4, b4, c4⟩ := one 4
  refine ⟨x0 + 5 * x1 + 25 * x2 + 125 * x3 + 625 * x4, ?_, ?_⟩
  · have : n = 1 ∨ n = 2 ∨ n = 3 ∨ n = 4 ∨ n = 5 := by omega
    rcases this with e | e | e | e | e <;> subst e <;> simp only [fi_all] <;> simp <;> omega
  · intro v hv
    have : v = 0 ∨ v = 1 ∨ v = 2 ∨ v = 3 ∨ v = 4 := by omega
    rcases this with e | e | e | e | e
    · subst e
      have := b0 hv
      have q : (x0 + 5 * x1 + 25 * x2 + 125 * x3 + 625 * x4) / 5 ^ 0 % 5 = x0 := by rw [Nat.pow_zero, Nat.div_one]; omega
      unfold fi_L
      rw [q]; omega
    · subst e
      have := b1 hv
      have q : (x0 + 5 * x1 + 25 * x2 + 125 * x3 + 625 * x4) / 5 ^ 1 % 5 = x1 := by rw [show 5 ^ 1 = 5 from rfl]; omega
      unfold fi_L
      rw [q]; omega
    · subst e
      have := b2 hv
      have q : (x0 + 5 * x1 + 25 * x2 + 125 * x3 + 625 * x4) / 5 ^ 2 % 5 = x2 := by rw [show 5 ^ 2 = 25 from rfl]; omega
      unfold fi_L
      rw [q]; omega
    · subst e
      have := b3 hv
      have q : (x0 + 5 * x1 + 25 * x2 + 125 * x3 + 625 * x4) / 5 ^ 3 % 5 = x3 := by rw [show 5 ^ 3 = 125 from rfl]; omega
      unfold fi_L
      rw [q]; omega
    · subst e
      have := b4 hv
      have q : (x0 + 5 * x1 + 25 * x2 + 125 * x3 + 625 * x4) / 5 ^ 4 % 5 = x4 := by rw [show 5 ^ 4 = 625 from rfl]; omega
      unfold fi_L
      rw [q]; omega
theorem fi_end {n : Nat} {W D : Nat → Nat → Int} {d : Nat → Int} {best B : Int} {plan G : Nat → Int} (h1 : 1 ≤ n) (h5 : n ≤ 5) (h : fi_I n W D d (fi_all n) best plan)
    (hs : se_l n W D d B G) : best = B ∧ ∀ v, v < n → plan v = G v := by
  obtain ⟨c, hc, ec⟩ := fi_code n h1 h5 G hs.2.1
  have okc : bf_ok n W D d B (fi_L c) := ⟨hs.1.1, bf_feC (fun v hv => (ec v hv).symm) hs.1.2⟩
  rcases h with ⟨_, no⟩ | ⟨_, ⟨a, ha, ok⟩, h3, h4⟩
  · exact absurd okc (no c hc B)
  · have e1 := h3 c hc B okc
    have e2 := hs.2.2.1 (fi_L a) best (fi_L0 a n) ok
    have e : best = B := by omega
    refine ⟨e, fun v hv => ?_⟩
    subst e
    obtain ⟨⟨x, hx, x1, x2⟩, y⟩ := h4 v hv
    have z1 := y c hc okc
    have z2 := hs.2.2.2 (fi_L x) (fi_L0 x n) x1 v hv
    rw [ec v hv] at z1
    omega
/-- the reference's search of the fewest registers from u -/
def re_A (n u : Nat) (W : Nat → Nat → Int) (f : Nat → Int) : Prop := ∀ v, v < n → f v = -1 ∨ (W u v ≠ 1000000 ∧ W u v ≤ f v)
def re_F (u : Nat) (W : Nat → Nat → Int) (f : Nat → Int) (v : Nat) : Prop := (W u v = 1000000 ∧ f v = -1) ∨ (W u v ≠ 1000000 ∧ f v = W u v)
def re_I (n m u : Nat) (s t : Nat → Nat) (r : Nat → Int) (W : Nat → Nat → Int) (b : Int) (i : Nat) (f0 f : Nat → Int) : Prop :=
  re_A n u W f ∧ (∀ v, v < n → 0 ≤ f0 v → 0 ≤ f v ∧ f v ≤ f0 v) ∧
  (∀ j, j < i → (s j = u → 0 ≤ f (t j) ∧ f (t j) ≤ r j) ∧ (s j ≠ u → 0 ≤ f0 (s j) → 0 ≤ f (t j) ∧ f (t j) ≤ f0 (s j) + r j)) ∧
  (∀ v, v < n → f v ≤ b + 2100 * i)
theorem re_start {n m u : Nat} {s t : Nat → Nat} {r : Nat → Int} {W : Nat → Nat → Int} {b : Int} {f : Nat → Int} (hA : re_A n u W f) (hb : ∀ v, v < n → f v ≤ b) :
    re_I n m u s t r W b 0 f f :=
  ⟨hA, fun v _ h => ⟨h, Int.le_refl _⟩, fun j hj => absurd hj (by omega), fun v hv => by have := hb v hv; omega⟩
/-- the wire's way, as the reference takes it -/
def re_w (u : Nat) (s : Nat → Nat) (f : Nat → Int) (i : Nat) : Int := if s i = u then 0 else f (s i)
theorem re_keep {n m u i : Nat} {d : Nat → Int} {s t : Nat → Nat} {r : Nat → Int} {B b : Int} {W : Nat → Nat → Int} {f0 f : Nat → Int} (hC : rb_Ci n m d s t r B) (hi : i < m)
    (hI : re_I n m u s t r W b i f0 f) (h : re_w u s f i < 0 ∨ (0 ≤ f (t i) ∧ f (t i) ≤ re_w u s f i + r i)) : re_I n m u s t r W b (i + 1) f0 f := by
  obtain ⟨s1, s2, s3, s4⟩ := hC.2.2 i hi
  obtain ⟨i1, i2, i3, i4⟩ := hI
  refine ⟨i1, i2, fun j hj => ?_, fun v hv => by have := i4 v hv; omega⟩
  by_cases e : j = i
  · rw [e]
    unfold re_w at h
    by_cases q : s i = u
    · rw [if_pos q] at h
      exact ⟨fun _ => by omega, fun z => absurd q z⟩
    · rw [if_neg q] at h
      refine ⟨fun z => absurd z q, fun _ z => ?_⟩
      have := i2 (s i) s1 z
      omega
  · exact i3 j (by omega)
theorem re_step {n m u i : Nat} {d : Nat → Int} {s t : Nat → Nat} {r : Nat → Int} {B b : Int} {W D : Nat → Nat → Int} {f0 f f' : Nat → Int} (hC : rb_Ci n m d s t r B) (hB : B ≤ 2100) (hb : 0 ≤ b)
    (hF : mw_F n m d s t r W D) (hu : u < n) (hi : i < m) (hI : re_I n m u s t r W b i f0 f) (h1 : 0 ≤ re_w u s f i) (h2 : f (t i) < 0 ∨ re_w u s f i + r i < f (t i))
    (e1 : f' (t i) = re_w u s f i + r i) (e2 : ∀ x, x < n → x ≠ t i → f' x = f x) : re_I n m u s t r W b (i + 1) f0 f' := by
  obtain ⟨s1, s2, s3, s4⟩ := hC.2.2 i hi
  obtain ⟨i1, i2, i3, i4⟩ := hI
  obtain ⟨w1, w2⟩ := hF.2.2.1 i hi
  have mono : ∀ v, v < n → 0 ≤ f v → 0 ≤ f' v ∧ f' v ≤ f v := by
    intro v hv z
    by_cases e : v = t i
    · rw [e] at z ⊢; omega
    · rw [e2 v hv e]; exact ⟨z, Int.le_refl _⟩
  refine ⟨?_, ?_, ?_, ?_⟩
  · intro v hv
    by_cases e : v = t i
    · rw [e]
      refine Or.inr ?_
      unfold re_w at h1 e1
      by_cases q : s i = u
      · rw [if_pos q] at h1 e1
        rw [q] at w1 w2
        exact ⟨w1, by omega⟩
      · rw [if_neg q] at h1 e1
        rcases i1 (s i) s1 with y | ⟨y1, y2⟩
        · omega
        · obtain ⟨c1, c2⟩ := hF.2.2.2.1 (s i) u (t i) s1 hu s2 y1 w1
          exact ⟨c1, by omega⟩
    · rw [e2 v hv e]; exact i1 v hv
  · intro v hv z
    have y := i2 v hv z
    have := mono v hv y.1
    omega
  · intro j hj
    obtain ⟨k1, k2, _, _⟩ := hC.2.2 j (by omega)
    by_cases e : j = i
    · rw [e]
      unfold re_w at e1
      by_cases q : s i = u
      · rw [if_pos q] at e1
        exact ⟨fun _ => by omega, fun z => absurd q z⟩
      · rw [if_neg q] at e1
        refine ⟨fun z => absurd z q, fun _ z => ?_⟩
        have := i2 (s i) s1 z
        omega
    · obtain ⟨j1, j2⟩ := i3 j (by omega)
      refine ⟨fun z => ?_, fun z y => ?_⟩
      · have x := j1 z
        have := mono (t j) k2 x.1
        omega
      · have x := j2 z y
        have := mono (t j) k2 x.1
        omega
  · intro v hv
    by_cases e : v = t i
    · rw [e, e1]
      unfold re_w
      by_cases q : s i = u
      · rw [if_pos q]; omega
      · rw [if_neg q]
        have := i4 (s i) s1
        omega
    · rw [e2 v hv e]
      have := i4 v hv
      omega
def re_R (n u : Nat) (W : Nat → Nat → Int) (R : Nat) (f : Nat → Int) : Prop :=
  re_A n u W f ∧ (R ≤ cn_t (re_F u W f) n ∨ ∀ v, v < n → re_F u W f v) ∧ ∀ v, v < n → f v ≤ 25200 * (R : Int)
theorem re_rnd {n m u R : Nat} {d : Nat → Int} {s t : Nat → Nat} {r : Nat → Int} {B : Int} {W D : Nat → Nat → Int} {f0 f : Nat → Int} (hC : rb_Ci n m d s t r B)
    (hF : mw_F n m d s t r W D) (hu : u < n) (h0 : re_R n u W R f0) (hI : re_I n m u s t r W (25200 * (R : Int)) m f0 f) : re_R n u W (R + 1) f := by
  obtain ⟨a0, a1, _⟩ := h0
  obtain ⟨i1, i2, i3, i4⟩ := hI
  have hT := fun v hv => (hF.1 u v hu hv).1
  have fin : ∀ v, v < n → re_F u W f0 v → re_F u W f v := by
    intro v hv h
    rcases h with ⟨h1, h2⟩ | ⟨h1, h2⟩
    · rcases i1 v hv with z | ⟨z, _⟩
      · exact Or.inl ⟨h1, z⟩
      · exact absurd h1 z
    · have t0 := hT v hv
      have z := i2 v hv (by omega)
      rcases i1 v hv with y | ⟨_, y⟩
      · omega
      · exact Or.inr ⟨h1, by omega⟩
  refine ⟨i1, ?_, fun v hv => ?_⟩
  · by_cases all : ∀ v, v < n → re_F u W f0 v
    · exact Or.inr fun v hv => fin v hv (all v hv)
    · rcases a1 with a1 | a1
      · refine Or.inl ?_
        by_cases w : ∃ b, b < n ∧ re_F u W f b ∧ ¬ re_F u W f0 b
        · obtain ⟨b, hb, x1, x2⟩ := w
          have := cn_lt b n fin hb x1 x2
          omega
        · exfalso
          have hw : ∀ b, b < n → re_F u W f b → re_F u W f0 b := fun b hb h1 => Classical.byContradiction fun z => w ⟨b, hb, h1, z⟩
          have key : ∀ g : Nat → Int, (∀ v, (re_F u W f0 v ∧ g v = W u v) ∨ (¬ re_F u W f0 v ∧ g v = W u v + 1)) → False := by
            intro g hg
            have gl : ∀ v, W u v ≤ g v ∧ g v ≤ W u v + 1 := by
              intro v
              rcases hg v with z | z
              · omega
              · omega
            have uni := hF.2.1 (fun x y w _ => x < n ∧ 0 ≤ w ∧ (x = u → W u y ≠ 1000000 ∧ g y ≤ w) ∧ (x ≠ u → W u x ≠ 1000000 → W u y ≠ 1000000 ∧ g y ≤ g x + w)) ?_ ?_
            · apply all
              intro v hv
              by_cases q : W u v = 1000000
              · rcases a0 v hv with z | z
                · exact Or.inl ⟨q, z⟩
                · exact absurd q z.1
              · have k := (uni u v hu hv q).2.2.1 rfl
                rcases hg v with z | z
                · exact z.1
                · omega
            · intro i hi
              obtain ⟨s1, s2, s3, s4⟩ := hC.2.2 i hi
              obtain ⟨w1, w2⟩ := hF.2.2.1 i hi
              obtain ⟨j1, j2⟩ := i3 i hi
              refine ⟨s1, s3, fun q => ?_, fun q way => ?_⟩
              · rw [q] at w1 w2
                refine ⟨w1, ?_⟩
                have x := j1 q
                rcases hg (t i) with z | z
                · omega
                · have nf : ¬ re_F u W f (t i) := fun y => z.1 (hw (t i) s2 y)
                  rcases i1 (t i) s2 with y | ⟨y1, y2⟩
                  · omega
                  · have : f (t i) ≠ W u (t i) := fun y => nf (Or.inr ⟨y1, y⟩)
                    omega
              · obtain ⟨c1, c2⟩ := hF.2.2.2.1 (s i) u (t i) s1 hu s2 way w1
                refine ⟨c1, ?_⟩
                have gs := gl (s i)
                rcases hg (t i) with z | z
                · omega
                · rcases hg (s i) with y | y
                  · have f0s : f0 (s i) = W u (s i) := by
                      rcases y.1 with x | x
                      · exact absurd x.1 way
                      · exact x.2
                    have t0 := hT (s i) s1
                    have x := j2 q (by omega)
                    have nf : ¬ re_F u W f (t i) := fun y => z.1 (hw (t i) s2 y)
                    rcases i1 (t i) s2 with v1 | ⟨v1, v2⟩
                    · omega
                    · have : f (t i) ≠ W u (t i) := fun y => nf (Or.inr ⟨v1, y⟩)
                      omega
                  · omega
            · intro x k y w1 w2 l1 l2 hx hk hy _ _ b1 b2
              obtain ⟨_, p1, p2, p3⟩ := b1
              obtain ⟨_, q1, q2, q3⟩ := b2
              refine ⟨hx, by omega, fun z => ?_, fun z way => ?_⟩
              · obtain ⟨r1, r2⟩ := p2 z
                by_cases ku : k = u
                · obtain ⟨v1, v2⟩ := q2 ku
                  exact ⟨v1, by omega⟩
                · obtain ⟨v1, v2⟩ := q3 ku r1
                  exact ⟨v1, by omega⟩
              · obtain ⟨r1, r2⟩ := p3 z way
                by_cases ku : k = u
                · obtain ⟨v1, v2⟩ := q2 ku
                  have := gl x
                  have := hT x hx
                  exact ⟨v1, by omega⟩
                · obtain ⟨v1, v2⟩ := q3 ku r1
                  exact ⟨v1, by omega⟩
          refine key (fun v => @ite Int (re_F u W f0 v) (Classical.propDecidable _) (W u v) (W u v + 1)) ?_
          intro v
          by_cases z : re_F u W f0 v
          · exact Or.inl ⟨z, if_pos z⟩
          · exact Or.inr ⟨z, if_neg z⟩
      · exact absurd a1 all
  · have := i4 v hv
    have := hC.1
    omega
theorem re_end {n u : Nat} {W : Nat → Nat → Int} {f : Nat → Int} (hn : n ≤ 5) (h : re_R n u W 6 f) : ∀ v, v < n → re_F u W f v := by
  rcases h.2.1 with z | z
  · have := cn_le (re_F u W f) n
    omega
  · exact z
end
section
theorem pk_us {f : Nat → Int32} {k : Nat} {x : Int32} : upd f k x k = x := if_pos rfl
theorem pk_un {f : Nat → Int32} {k j : Nat} {x : Int32} (h : j ≠ k) : upd f k x j = f j := if_neg h
theorem pk_sub {a b : Nat} (h : b ≤ a) : nI a - nI b = nI (a - b) := by
  obtain ⟨c, rfl⟩ : ∃ c, a = c + b := ⟨a - b, by omega⟩
  rw [← nI_add, Int32.add_sub_cancel, Nat.add_sub_cancel]
theorem pk_m1 (n : Nat) : nI (n + 1) + (-1) = nI n := by
  rw [← nI_1, Int32.add_assoc, show (1 : Int32) + (-1) = 0 from rfl, Int32.add_zero]
theorem pk_mul (a b : Nat) : nI a * nI b = nI (a * b) := (Int32.ofNat_mul a b).symm
theorem pk_div {a d : Nat} (ha : a < 2 ^ 31) (h0 : 0 < d) (hd : d < 2 ^ 31) : nI a / nI d = nI (a / d) := by
  apply Int32.toInt_inj.mp
  rw [lg_idiv_nonneg (by rw [nI_toInt ha]; omega) (by rw [nI_toInt hd]; omega), nI_toInt ha, nI_toInt hd, nI_toInt (Nat.lt_of_le_of_lt (Nat.div_le_self a d) ha)]
  first | rfl | exact (Int.natCast_ediv _ _).symm
theorem pk_rem {a d : Nat} (ha : a < 2 ^ 31) (h0 : 0 < d) (hd : d < 2 ^ 31) : nI a - nI a / nI d * nI d = nI (a % d) := by
  rw [pk_div ha h0 hd, pk_mul, pk_sub (Nat.div_mul_le_self a d)]
  exact congrArg nI (by have := Nat.div_add_mod' a d; omega)
theorem pk_ix (x : Int32) {n : Nat} (hn : n < 2 ^ 31) : x < 0 ∨ nI n ≤ x ∨ ∃ j : Nat, j < n ∧ x = nI j := by
  by_cases h : x < 0
  · exact Or.inl h
  · obtain ⟨j, hj, rfl⟩ := nI_of h
    by_cases h2 : j < n
    · exact Or.inr (Or.inr ⟨j, h2, rfl⟩)
    · exact Or.inr (Or.inl (nI_le (by omega) hj))
theorem pk_le {x y : Int32} {A B : Prop} (a b : Nat) (f : a ≤ b → A) (g : b < a → B) (hx : x = nI a := by rfl) (hy : y = nI b := by rfl) (ha : a < 2 ^ 31 := by omega) (hb : b < 2 ^ 31 := by omega) : (x ≤ y → A) ∧ (¬ x ≤ y → B) := by
  subst hx hy
  rw [nI_leI ha hb]
  exact ⟨f, fun z => g (by omega)⟩
theorem pk_lt {x y : Int32} {A B : Prop} (a b : Nat) (f : a < b → A) (g : b ≤ a → B) (hx : x = nI a := by rfl) (hy : y = nI b := by rfl) (ha : a < 2 ^ 31 := by omega) (hb : b < 2 ^ 31 := by omega) : (x < y → A) ∧ (¬ x < y → B) := by
  subst hx hy
  rw [nI_ltI ha hb]
  exact ⟨f, fun z => g (by omega)⟩
theorem pk_eq {x y : Int32} {A B : Prop} (a b : Nat) (f : a = b → A) (g : a ≠ b → B) (hx : x = nI a := by rfl) (hy : y = nI b := by rfl) (ha : a < 2 ^ 31 := by omega) (hb : b < 2 ^ 31 := by omega) : (x = y → A) ∧ (¬ x = y → B) := by
  subst hx hy
  rw [nI_eq ha hb]
  exact ⟨f, g⟩
theorem pk_in {x : Int32} (n N : Nat) (h : n < N) (hx : x = nI n := by rfl) (hN : N < 2 ^ 31 := by omega) : vp_in x N := by
  subst hx
  exact vp_in_nI h hN
theorem pk_cl {x : Int32} (n : Nat) (hx : x = nI n := by rfl) (h : n < 2 ^ 31 := by omega) : x.toNatClampNeg = n := by
  subst hx
  exact nI_clamp h
theorem pk_loop {σ : Type} (W : Nat → Nat → σ → Prop) (I : Nat → σ → Prop) (e i0 : Nat) (s : σ) (hi : i0 ≤ e) (h0 : I i0 s) (hx : ∀ n s, I e s → W (n + 1) e s)
    (hs : ∀ n i s, i < e → I i s → (∀ s', I (i + 1) s' → W n (i + 1) s') → W (n + 1) i s) : ∃ n, W n i0 s :=
  ⟨e + 1, loop_i W I e hx hs (e + 1) i0 s hi (by omega) h0⟩
def rt_I (a : Nat → Int32) : Nat → Int := fun j => (a j).toInt
def rt_N (a : Nat → Int32) : Nat → Nat := fun j => (a j).toNatClampNeg
def rt_M (a : Nat → Int32) : Nat → Nat → Int := fun u v => (a (u * 5 + v)).toInt
theorem it_bm {x : Int} (h1 : -2147483648 ≤ x) (h2 : x < 2147483648) : x.bmod (2 ^ 32) = x := by
  have e : ((2 ^ 32 : Nat) : Int) = 4294967296 := rfl
  exact Int.bmod_eq_of_le_mul_two (by rw [e]; omega) (by rw [e]; omega)
theorem it_add {x y : Int32} (h1 : -2147483648 ≤ x.toInt + y.toInt) (h2 : x.toInt + y.toInt < 2147483648) : (x + y).toInt = x.toInt + y.toInt := by
  rw [Int32.toInt_add]; exact it_bm h1 h2
theorem it_sub {x y : Int32} (h1 : -2147483648 ≤ x.toInt - y.toInt) (h2 : x.toInt - y.toInt < 2147483648) : (x - y).toInt = x.toInt - y.toInt := by
  rw [Int32.toInt_sub]; exact it_bm h1 h2
theorem it_neg {x : Int32} (h1 : -2147483648 ≤ -x.toInt) (h2 : -x.toInt < 2147483648) : (-x).toInt = -x.toInt := by
  rw [Int32.toInt_neg]; exact it_bm h1 h2
theorem it_lt {x y : Int32} : x < y ↔ x.toInt < y.toInt := Int32.lt_iff_toInt_lt
theorem it_le {x y : Int32} : x ≤ y ↔ x.toInt ≤ y.toInt := Int32.le_iff_toInt_le
theorem it_eq {x y : Int32} : x = y ↔ x.toInt = y.toInt := Int32.toInt_inj.symm
theorem it_cl (x : Int32) : x.toNatClampNeg = x.toInt.toNat := rfl
theorem it_nI {x : Int32} (h : 0 ≤ x.toInt) : x = nI x.toNatClampNeg := by
  have h1 : ¬ x < 0 := by rw [it_lt, show (0 : Int32).toInt = 0 from rfl]; omega
  obtain ⟨j, hj, e⟩ := nI_of h1
  rw [e, nI_clamp hj]
theorem it_0 : (0 : Int32).toInt = 0 := rfl
theorem it_1 : (1 : Int32).toInt = 1 := rfl
theorem it_m1 : (-1 : Int32).toInt = -1 := rfl
theorem it_M : (1000000 : Int32).toInt = 1000000 := rfl
theorem it_ui {a : Nat → Int32} {k : Nat} {x : Int32} : rt_I (upd a k x) k = x.toInt := by
  show (if k = k then x else a k).toInt = _
  rw [if_pos rfl]
theorem it_un {a : Nat → Int32} {k j : Nat} {x : Int32} (h : j ≠ k) : rt_I (upd a k x) j = rt_I a j := by
  show (if j = k then x else a j).toInt = _
  rw [if_neg h]; rfl
theorem mt_us {a : Nat → Int32} {u v : Nat} {x : Int32} : rt_M (upd a (u * 5 + v) x) u v = x.toInt := by
  show (if u * 5 + v = u * 5 + v then x else a (u * 5 + v)).toInt = _
  rw [if_pos rfl]
theorem mt_un {a : Nat → Int32} {u v u' v' : Nat} {x : Int32} (hv : v < 5) (hv' : v' < 5) (h : ¬ (u' = u ∧ v' = v)) : rt_M (upd a (u * 5 + v) x) u' v' = rt_M a u' v' := by
  show (if u' * 5 + v' = u * 5 + v then x else a (u' * 5 + v')).toInt = _
  rw [if_neg (by omega)]; rfl
/-- the circuit as the two states hold it -/
def rl_C (n m : Nat) (dl st en rg : Nat → Int32) (B : Int) : Prop :=
  rb_Ci n m (rt_I dl) (rt_N st) (rt_N en) (rt_I rg) B ∧ ∀ i, i < m → st i = nI (rt_N st i) ∧ en i = nI (rt_N en i)
/-- what measureWays leaves in the two tables -/
def rl_F (n m : Nat) (dl st en rg fw sl : Nat → Int32) : Prop := mw_F n m (rt_I dl) (rt_N st) (rt_N en) (rt_I rg) (rt_M fw) (rt_M sl)
end
section
variable {bc wc : Int32} {dl st en rg fw sl pl : Nat → Int32}
def rt_b (n : Nat) (p : Int32) : Prop := ∃ j, j < n ∧ p = nI j
theorem bk_c {n : Nat} {p : Int32} {A B C : Prop} (hn : n < 2 ^ 31) (h1 : rt_b n p → C) (h0 : ¬ rt_b n p → A) (h0' : ¬ rt_b n p → B) : (p < 0 → A) ∧ (¬ p < 0 → ((nI n ≤ p → B) ∧ (¬ nI n ≤ p → C))) := by
  refine br_c (fun h => h0 ?_) (fun h => br_c (fun h' => h0' ?_) (fun h' => h1 ?_))
  · intro ⟨j, hj, e⟩
    rw [e] at h
    exact nI_pos (by omega) h
  · intro ⟨j, hj, e⟩
    rw [e] at h'
    exact nI_ge hj hn h'
  · obtain ⟨j, hj, e⟩ := nI_of h
    rw [e] at h'
    exact ⟨j, Classical.byContradiction fun z => h' (nI_le (by omega) hj), e⟩
theorem xi_blk {post : Int32 → Prop} {n : Nat} {p : Int32} (hn : n ≤ 5) (h1 : rt_b n p → post 1) (h0 : ¬ rt_b n p → post 0) :
    wpX_isBlock post (nI n, wc, dl, st, en, rg, fw, sl, pl) p := bk_c (by omega) h1 h0 h0
theorem xi_wir {post : Int32 → Prop} {m : Nat} {p : Int32} (hm : m ≤ 12) (h1 : rt_b m p → post 1) (h0 : ¬ rt_b m p → post 0) :
    wpX_isWire post (bc, nI m, dl, st, en, rg, fw, sl, pl) p := bk_c (by omega) h1 h0 h0
theorem xp_pr {post : Int32 → Prop} (u v : Nat) (h : post (nI (u * 5 + v))) : wpX_pair post (nI u) (nI v) := by
  have e : nI u * 5 + nI v = nI (u * 5 + v) := by
    show nI u * nI 5 + nI v = _
    rw [pk_mul, nI_add]
  unfold wpX_pair
  rw [e]
  exact h
theorem xo_65 {post : SX → Prop} {w l : Int32} {k : Nat} (hk : k < 25) (h : post (bc, wc, dl, st, en, rg, upd fw k w, upd sl k l, pl)) :
    wX_offerWay_65 post w l (nI k) bc wc dl st en rg fw sl pl :=
  ⟨vp_in_nI hk (by omega), nm_r (by rw [nI_clamp (by omega)]) ⟨vp_in_nI hk (by omega), nm_r (by rw [nI_clamp (by omega)]) h⟩⟩
theorem xo_ff {post : SX → Prop} (u v : Nat) (hu : u < 5) (hv : v < 5) (w l : Int32)
    (h : ∀ fw' sl' : Nat → Int32, mw_Of 5 u v w.toInt l.toInt (rt_M fw) (rt_M sl) (rt_M fw') (rt_M sl') → post (bc, wc, dl, st, en, rg, fw', sl', pl)) :
    wpX_offerWay post (bc, wc, dl, st, en, rg, fw, sl, pl) (nI u) (nI v) w l := by
  have hk : u * 5 + v < 25 := by omega
  have ec : (nI (u * 5 + v)).toNatClampNeg = u * 5 + v := nI_clamp (by omega)
  have hin : vp_in (nI (u * 5 + v)) 25 := vp_in_nI hk (by omega)
  have same : ¬ (w.toInt < (fw (u * 5 + v)).toInt ∨ (w.toInt = (fw (u * 5 + v)).toInt ∧ (sl (u * 5 + v)).toInt < l.toInt)) → post (bc, wc, dl, st, en, rg, fw, sl, pl) :=
    fun z => h fw sl ⟨fun _ _ _ _ _ => ⟨rfl, rfl⟩, Or.inl ⟨rfl, rfl, z⟩⟩
  have put : (w.toInt < (fw (u * 5 + v)).toInt ∨ (w.toInt = (fw (u * 5 + v)).toInt ∧ (sl (u * 5 + v)).toInt < l.toInt)) →
      post (bc, wc, dl, st, en, rg, upd fw (u * 5 + v) w, upd sl (u * 5 + v) l, pl) :=
    fun z => h _ _ ⟨fun a x _ hx q => ⟨mt_un hv hx q, mt_un hv hx q⟩, Or.inr ⟨z, mt_us, mt_us⟩⟩
  unfold wpX_offerWay
  refine xp_pr u v ?_
  rw [ec]
  refine ⟨hin, ?_⟩
  by_cases c1 : fw (u * 5 + v) ≤ w
  · refine br_t c1 ?_
    unfold wX_offerWay_23
    rw [ec]
    refine ⟨hin, ?_⟩
    by_cases c2 : w = fw (u * 5 + v)
    · refine br_t c2 ⟨hin, ?_⟩
      by_cases c3 : l ≤ sl (u * 5 + v)
      · refine br_t c3 (br_t rfl (br_t rfl (same ?_)))
        rw [it_le] at c1 c3
        rw [it_eq] at c2
        omega
      · refine br_f c3 (br_t rfl (br_f (by decide) (xo_65 hk (put ?_))))
        rw [it_le] at c1 c3
        rw [it_eq] at c2
        omega
    · refine br_f c2 (br_t rfl (br_t rfl (same ?_)))
      rw [it_le] at c1
      rw [it_eq] at c2
      omega
  · refine br_f c1 ?_
    unfold wX_offerWay_23
    rw [ec]
    refine ⟨hin, ?_⟩
    have c1' := c1
    rw [it_le] at c1'
    by_cases c2 : w = fw (u * 5 + v)
    · rw [it_eq] at c2
      omega
    · exact br_f c2 (br_f (by decide) (xo_65 hk (put (by omega))))
theorem of_le {n u v : Nat} {w l : Int} {W D W' D' : Nat → Nat → Int} (hn : n ≤ 5) (h : mw_Of 5 u v w l W D W' D') : mw_Of n u v w l W D W' D' :=
  ⟨fun a x ha hx => h.1 a x (by omega) (by omega), h.2⟩
theorem xj_in {post : SX → Prop} {J2 : Int32 → Int32 → Int32 → (Nat → Int32) → (Nat → Int32) → (Nat → Int32) → (Nat → Int32) → (Nat → Int32) → (Nat → Int32) → (Nat → Int32) → Prop}
    {n m k u : Nat} {s t : Nat → Nat} {r : Nat → Int} {b e : Int} {W0 D0 : Nat → Nat → Int}
    (hn : n ≤ 5) (hk : k < n) (hu : u < n) (hb : 0 ≤ b ∧ 4 * b < 1000000) (he : 0 ≤ e ∧ e ≤ 23328)
    (hd : ∀ x, x < n → 0 ≤ rt_I dl x ∧ rt_I dl x ≤ 9) (h0 : mw_B n (rt_I dl) b e W0 D0)
    (hI : mw_In n m (rt_I dl) s t r k u 0 e W0 D0 (rt_M fw) (rt_M sl))
    (hJ : ∀ fw' sl' : Nat → Int32, mw_In n m (rt_I dl) s t r k u n e W0 D0 (rt_M fw') (rt_M sl') → J2 (nI (u + 1)) (nI n) wc dl st en rg fw' sl' pl) :
    ∃ f, wX_joinWaysAt_12 post J2 (nI k) (nI u) f 0 (nI n) wc dl st en rg fw sl pl := by
  refine loop_0 (fun f i (q : (Nat → Int32) × (Nat → Int32)) => wX_joinWaysAt_12 post J2 (nI k) (nI u) f (nI i) (nI n) wc dl st en rg q.1 q.2 pl)
    (fun i q => mw_In n m (rt_I dl) s t r k u i e W0 D0 (rt_M q.1) (rt_M q.2)) n (fw, sl) hI ?_ ?_
  · intro f q hq
    refine br_t (nI_le (Nat.le_refl _) (by omega)) (nm_r (nI_1 u) (hJ q.1 q.2 hq))
  · intro f i q hi hq next
    obtain ⟨fw, sl⟩ := q
    have hq : mw_In n m (rt_I dl) s t r k u i e W0 D0 (rt_M fw) (rt_M sl) := hq
    have next : ∀ fw' sl' : Nat → Int32, mw_In n m (rt_I dl) s t r k u (i + 1) e W0 D0 (rt_M fw') (rt_M sl') →
      wX_joinWaysAt_12 post J2 (nI k) (nI u) f (nI (i + 1)) (nI n) wc dl st en rg fw' sl' pl := fun fw' sl' h => next (fw', sl') h
    have a1 : u * 5 + k < 25 := by omega
    have a2 : k * 5 + i < 25 := by omega
    have e1 : (nI (u * 5 + k)).toNatClampNeg = u * 5 + k := nI_clamp (by omega)
    have e2 : (nI (k * 5 + i)).toNatClampNeg = k * 5 + i := nI_clamp (by omega)
    have e3 : (nI k).toNatClampNeg = k := nI_clamp (by omega)
    have v1 : vp_in (nI (u * 5 + k)) 25 := vp_in_nI a1 (by omega)
    have v2 : vp_in (nI (k * 5 + i)) 25 := vp_in_nI a2 (by omega)
    have v3 : vp_in (nI k) 5 := vp_in_nI (by omega) (by omega)
    refine br_f (nI_ge hi (by omega)) (xp_pr u k (xp_pr k i ?_))
    dsimp only
    rw [e1, e2, e3]
    refine ⟨v1, ?_⟩
    have lk := mw_skip (b := b) hk hu hi he hd h0 hq
    by_cases c1 : fw (u * 5 + k) = 1000000
    · refine br_t c1 (nm_r (nI_1 i) (next fw sl (lk ?_)))
      intro z
      apply z.1
      show (fw (u * 5 + k)).toInt = 1000000
      rw [c1]; rfl
    · refine br_f c1 ⟨v2, ?_⟩
      by_cases c2 : fw (k * 5 + i) = 1000000
      · refine br_t c2 (nm_r (nI_1 i) (next fw sl (lk ?_)))
        intro z
        apply z.2
        show (fw (k * 5 + i)).toInt = 1000000
        rw [c2]; rfl
      · refine br_f c2 ⟨v1, v2, ?_⟩
        have q1 : rt_M fw u k ≠ 1000000 := fun z => c1 (by rw [it_eq]; exact z)
        have q2 : rt_M fw k i ≠ 1000000 := fun z => c2 (by rw [it_eq]; exact z)
        have bW := mw_bW hk hb.1 h0 hq.1
        have b1 := bW u k hu hk q1
        have b2 := bW k i hk hi q2
        obtain ⟨l1, _, j1⟩ := hq.2.2.1 u k hu hk
        obtain ⟨l2, _, j2⟩ := hq.2.2.1 k i hk hi
        obtain ⟨x1, y1, z1, _⟩ := j1 q1
        obtain ⟨x2, y2, z2, _⟩ := j2 q2
        have g1 := mw_e6 k e he.1 u k
        have g2 := mw_e6 k e he.1 k i
        have d1 := hd u hu
        have d2 := hd k hk
        have s1 : (fw (u * 5 + k) + fw (k * 5 + i)).toInt = rt_M fw u k + rt_M fw k i := it_add (by show _ ≤ rt_M fw u k + rt_M fw k i; omega) (by show rt_M fw u k + rt_M fw k i < _; omega)
        have s2 : (sl (u * 5 + k) + sl (k * 5 + i)).toInt = rt_M sl u k + rt_M sl k i := it_add (by show _ ≤ rt_M sl u k + rt_M sl k i; omega) (by show rt_M sl u k + rt_M sl k i < _; omega)
        have s3 : (sl (u * 5 + k) + sl (k * 5 + i) - dl k).toInt = rt_M sl u k + rt_M sl k i - rt_I dl k := by
          have := it_sub (x := sl (u * 5 + k) + sl (k * 5 + i)) (y := dl k) (by rw [s2]; show _ ≤ rt_M sl u k + rt_M sl k i - rt_I dl k; omega) (by rw [s2]; show rt_M sl u k + rt_M sl k i - rt_I dl k < _; omega)
          rw [this, s2]; rfl
        refine nm_e ⟨v1, v2, v3, nm_e (xo_ff u i (by omega) (by omega) _ _ ?_)⟩
        intro fw' sl' hO
        rw [s1, s3] at hO
        refine nm_r (nI_1 i) (next fw' sl' ?_)
        exact mw_step hk hu hi hb he hd h0 hq q1 q2 (of_le hn hO)
theorem xj_at {post : SX → Prop} {n m k : Nat} {s t : Nat → Nat} {r : Nat → Int} {b e : Int}
    (hn : n ≤ 5) (hk : k < n) (hb : 0 ≤ b ∧ 4 * b < 1000000) (he : 0 ≤ e ∧ e ≤ 23328)
    (hd : ∀ x, x < n → 0 ≤ rt_I dl x ∧ rt_I dl x ≤ 9) (h0 : mw_B n (rt_I dl) b e (rt_M fw) (rt_M sl)) (hU : mw_U n m (rt_I dl) s t r (rt_M fw) (rt_M sl))
    (h : ∀ fw' sl' : Nat → Int32, mw_In n m (rt_I dl) s t r k n 0 e (rt_M fw) (rt_M sl) (rt_M fw') (rt_M sl') → post (nI n, wc, dl, st, en, rg, fw', sl', pl)) :
    wpX_joinWaysAt post (nI n, wc, dl, st, en, rg, fw, sl, pl) (nI k) := by
  refine loop_0 (fun f i (q : (Nat → Int32) × (Nat → Int32)) => wX_joinWaysAt_2 post (nI k) f (nI i) (nI n) wc dl st en rg q.1 q.2 pl)
    (fun i q => mw_In n m (rt_I dl) s t r k i 0 e (rt_M fw) (rt_M sl) (rt_M q.1) (rt_M q.2)) n (fw, sl) (mw_enter he.1 h0 hU) ?_ ?_
  · intro f q hq
    exact br_t (nI_le (Nat.le_refl _) (by omega)) (h q.1 q.2 hq)
  · intro f i q hi hq next
    refine br_f (nI_ge hi (by omega)) (xj_in hn hk hi hb he hd h0 hq ?_)
    intro fw' sl' hr
    exact next (fw', sl') (mw_row hr)
theorem xm_86 {post : SX → Prop} {n m : Nat} {s t : Nat → Nat} {r : Nat → Int} {B : Int} (hc : rb_Ci n m (rt_I dl) s t r B) (hB0 : 0 ≤ B) (hB : B ≤ 8000)
    (h0 : mw_Sg n m (rt_I dl) s t r 0 B 18 (rt_M fw) (rt_M sl))
    (h : ∀ fw' sl' : Nat → Int32, mw_F n m (rt_I dl) s t r (rt_M fw') (rt_M sl') → post (nI n, wc, dl, st, en, rg, fw', sl', pl)) :
    ∃ f, wX_measureWays_86 post f 0 (nI n) wc dl st en rg fw sl pl := by
  have hn : n ≤ 5 := hc.1.2.1
  refine loop_0 (fun f i (q : (Nat → Int32) × (Nat → Int32)) => wX_measureWays_86 post f (nI i) (nI n) wc dl st en rg q.1 q.2 pl)
    (fun i q => mw_Sg n m (rt_I dl) s t r i (mw_b B i) (mw_g i) (rt_M q.1) (rt_M q.2)) n (fw, sl) h0 ?_ ?_
  · intro f q hq
    exact br_t (nI_le (Nat.le_refl _) (by omega)) (h q.1 q.2 (mw_done hn hB0 hB hq))
  · intro f i q hi hq next
    obtain ⟨b1, b2, b3, b4, b5⟩ := mw_bg hB0 hB i (by omega)
    obtain ⟨b6, b7⟩ := b5 (by omega)
    have hq : mw_Sg n m (rt_I dl) s t r i (mw_b B i) (mw_g i) (rt_M q.1) (rt_M q.2) := hq
    refine br_f (nI_ge hi (by omega)) (xj_at (b := mw_b B i) (e := mw_g i) hn hi ⟨b1, b6⟩ ⟨b3, b7⟩ hc.2.1 hq.1 hq.2.1 ?_)
    intro fw' sl' hr
    refine nm_r (nI_1 i) (next (fw', sl') ?_)
    exact mw_stage hc hi b1 ⟨b3, b7⟩ hq hr
theorem xm_31 {post : SX → Prop} {n m : Nat} {B : Int} (hc : rl_C n m dl st en rg B) (hB0 : 0 ≤ B) (hB : B ≤ 8000)
    (h0 : ∀ u v, u < n → v < n → rt_M fw u v = 1000000)
    (h : ∀ fw' sl' : Nat → Int32, rl_F n m dl st en rg fw' sl' → post (nI n, nI m, dl, st, en, rg, fw', sl', pl)) :
    ∃ f, wX_measureWays_31 post f 0 (nI n) (nI m) dl st en rg fw sl pl := by
  obtain ⟨hc, hix⟩ := hc
  have hn : n ≤ 5 := hc.1.2.1
  have hm : m ≤ 12 := hc.1.2.2
  refine loop_0 (fun f i (q : (Nat → Int32) × (Nat → Int32)) => wX_measureWays_31 post f (nI i) (nI n) (nI m) dl st en rg q.1 q.2 pl)
    (fun i q => mw_Wr n m (rt_I dl) (rt_N st) (rt_N en) (rt_I rg) B i (rt_M q.1) (rt_M q.2)) m (fw, sl) (mw_wire0 h0) ?_ ?_
  · intro f q hq
    exact br_t (nI_le (Nat.le_refl _) (by omega)) (xm_86 hc hB0 hB (mw_start hq) h)
  · intro f i q hi hq next
    obtain ⟨e1, e2⟩ := hix i hi
    obtain ⟨s1, s2, s3, s4⟩ := hc.2.2 i hi
    have v1 : vp_in (nI i) 12 := vp_in_nI (by omega) (by omega)
    have c1 : (nI i).toNatClampNeg = i := nI_clamp (by omega)
    have d1 := hc.2.1 (rt_N st i) s1
    have d2 := hc.2.1 (rt_N en i) s2
    refine br_f (nI_ge hi (by omega)) ⟨v1, nm_r (e' := nI (rt_N st i)) (by rw [c1]; exact e1) ⟨v1, nm_r (e' := nI (rt_N en i)) (by rw [c1]; exact e2) ⟨v1, vp_in_nI (by omega) (by omega), vp_in_nI (by omega) (by omega), ?_⟩⟩⟩
    refine xo_ff (rt_N st i) (rt_N en i) (by omega) (by omega) _ _ ?_
    intro fw' sl' hO
    rw [c1, nI_clamp (n := rt_N st i) (by omega), nI_clamp (n := rt_N en i) (by omega)] at hO
    have a1 : (dl (rt_N st i) + dl (rt_N en i)).toInt = rt_I dl (rt_N st i) + rt_I dl (rt_N en i) := it_add (by show _ ≤ rt_I dl (rt_N st i) + rt_I dl (rt_N en i); omega) (by show rt_I dl (rt_N st i) + rt_I dl (rt_N en i) < _; omega)
    rw [a1] at hO
    refine nm_r (nI_1 i) (next (fw', sl') ?_)
    exact mw_wire hc hi (by omega) hq (of_le hn hO)
theorem xm_ways {post : SX → Prop} {n m : Nat} {B : Int} (hc : rl_C n m dl st en rg B) (hB0 : 0 ≤ B) (hB : B ≤ 8000)
    (h : ∀ fw' sl' : Nat → Int32, rl_F n m dl st en rg fw' sl' → post (nI n, nI m, dl, st, en, rg, fw', sl', pl)) :
    wpX_measureWays post (nI n, nI m, dl, st, en, rg, fw, sl, pl) := by
  have hn : n ≤ 5 := hc.1.1.2.1
  refine loop_0 (fun f i (q : (Nat → Int32) × (Nat → Int32)) => wX_measureWays_2 post (nI n) (nI m) f (nI i) dl st en rg q.1 q.2 pl)
    (fun i q => ∀ j, j < i → (q.1 j).toInt = 1000000) 25 (fw, sl) (fun j hj => absurd hj (by omega)) ?_ ?_
  · intro f q hq
    refine br_t (nI_le (a := 25) (b := 25) (Nat.le_refl _) (by decide)) (xm_31 hc hB0 hB ?_ h)
    intro u v hu hv
    exact hq (u * 5 + v) (by omega)
  · intro f i q hi hq next
    have v1 : vp_in (nI i) 25 := vp_in_nI (by omega) (by omega)
    have c1 : (nI i).toNatClampNeg = i := nI_clamp (by omega)
    refine br_f (nI_ge (b := 25) hi (by decide)) ⟨v1, nm_r (e' := upd q.1 i 1000000) (by rw [c1]) ⟨v1, nm_e (nm_r (nI_1 i) (next (_, _) ?_))⟩⟩
    intro j hj
    show (upd q.1 i 1000000 j).toInt = 1000000
    by_cases e : j = i
    · rw [e, pk_us]; rfl
    · rw [pk_un e]
      exact hq j (by omega)
end
section
variable {bc wc : Int32} {dl st en rg fw sl pl : Nat → Int32}
theorem xn_b {z : Int32} (h : z = 0 ∨ z = 1) : narrow .boolean (.int z) = .int z := by
  rcases h with e | e
  · subst e; exact rfl
  · subst e; exact rfl
theorem xe_cir {post : Int32 → Prop} {n : Nat} (hn : n ≤ 5) (h1 : mw_so n (rt_M fw) → post 1) (h0 : ¬ mw_so n (rt_M fw) → post 0) :
    wpX_everyCircleHasRegister post (nI n, wc, dl, st, en, rg, fw, sl, pl) := by
  refine loop_0 (fun f i (_ : Unit) => wX_everyCircleHasRegister_2 post (nI n) wc dl st en rg fw sl pl f (nI i))
    (fun i _ => ∀ x, x < i → rt_M fw x x ≠ 0) n () (fun x hx => absurd hx (by omega)) ?_ ?_
  · intro f q hq
    exact br_t (nI_le (Nat.le_refl _) (by omega)) (h1 hq)
  · intro f i q hi hq next
    have e1 : (nI (i * 5 + i)).toNatClampNeg = i * 5 + i := nI_clamp (by omega)
    refine br_f (nI_ge hi (by omega)) (xp_pr i i ⟨vp_in_nI (by omega) (by omega), ?_⟩)
    rw [e1]
    by_cases c : fw (i * 5 + i) = 0
    · refine br_t c (h0 fun z => z i hi ?_)
      show (fw (i * 5 + i)).toInt = 0
      rw [c]; rfl
    · refine br_f c (nm_r (nI_1 i) (next () ?_))
      intro x hx z
      by_cases e : x = i
      · rw [e] at z
        exact c (it_eq.mpr z)
      · exact hq x (by omega) z
/-- the longest run so far -/
def xl_I (n : Nat) (W D : Nat → Nat → Int) (d : Nat → Int) (a : Nat) (P : Nat → Nat → Prop) (y : Int) : Prop :=
  0 ≤ y ∧ (∀ u, u < a → d u ≤ y) ∧ (∀ u v, u < n → v < n → P u v → W u v = 0 → D u v ≤ y) ∧
  (y = 0 ∨ (∃ u, u < n ∧ d u = y) ∨ ∃ u v, u < n ∧ v < n ∧ W u v = 0 ∧ D u v = y)
theorem xl_val {n m : Nat} {d : Nat → Int} {s t : Nat → Nat} {r : Nat → Int} {B : Int} {W D : Nat → Nat → Int} {y : Int} (hK : rb_K n m d s t r B W D)
    (h : xl_I n W D d n (fw_P n 0) y) : lo_V n W D d (fun _ => 0) y := by
  obtain ⟨h1, h2, h3, h4⟩ := h
  have hn := hK.1.1
  have hd := hK.1.2.1
  have up : ∀ p, bf_ok n W D d p (fun _ => 0) → y ≤ p := by
    intro p ok
    rcases h4 with q | ⟨u, hu, q⟩ | ⟨u, v, hu, hv, q1, q2⟩
    · have := ok.1 0 (by omega)
      have := hd 0 (by omega)
      omega
    · have := ok.1 u hu
      omega
    · apply Classical.byContradiction
      intro z
      have ne : u ≠ v := fun e => hK.2.2 u hu (by rw [← e] at q1; exact q1)
      have k : (0 : Int) ≤ 0 + bf_c W D p u v := ok.2 u v ⟨hu, hv, ne, by omega⟩
      rw [bf_c1 (by omega)] at k
      omega
  refine ⟨h1, up 45 (lo_45 hK), fun p => ⟨up p, fun hy => ⟨fun v hv => ?_, ?_⟩⟩⟩
  · have := h2 v hv
    omega
  · intro u v en
    obtain ⟨hu, hv, ne, way⟩ := en
    show (0 : Int) ≤ 0 + bf_c W D p u v
    have w0 := (hK.2.1.1 u v hu hv).1
    by_cases c : p < D u v
    · rw [bf_c1 c]
      by_cases z : W u v = 0
      · have := h3 u v hu hv (Or.inl hu) z
        omega
      · omega
    · rw [bf_c0 c]; omega
theorem xl_run {post : Int32 → Prop} {n : Nat} (hn : n ≤ 5)
    (h : ∀ y : Int32, xl_I n (rt_M fw) (rt_M sl) (rt_I dl) n (fw_P n 0) y.toInt → post y) : wpX_longestRun post (nI n, wc, dl, st, en, rg, fw, sl, pl) := by
  refine loop_0 (fun f i (q : Int32) => wX_longestRun_4 post (nI n) wc dl st en rg fw sl pl f q (nI i))
    (fun i q => xl_I n (rt_M fw) (rt_M sl) (rt_I dl) i (fw_P i 0) q.toInt) n 0 ?_ ?_ ?_
  · refine ⟨Int.le_refl 0, fun u hu => absurd hu (by omega), fun u v _ _ z => ?_, Or.inl rfl⟩
    unfold fw_P at z
    omega
  · intro f q hq
    exact br_t (nI_le (Nat.le_refl _) (by omega)) (h q hq)
  · intro f i q hi hq next
    have c0 : (nI i).toNatClampNeg = i := nI_clamp (by omega)
    have inner : ∀ y : Int32, xl_I n (rt_M fw) (rt_M sl) (rt_I dl) (i + 1) (fw_P i 0) y.toInt →
        ∃ g, wX_longestRun_31 post (wX_longestRun_4 post (nI n) wc dl st en rg fw sl pl f) (nI i) (nI n) wc dl st en rg fw sl pl g y 0 := by
      intro y hy
      refine loop_0 (fun g v (y : Int32) => wX_longestRun_31 post (wX_longestRun_4 post (nI n) wc dl st en rg fw sl pl f) (nI i) (nI n) wc dl st en rg fw sl pl g y (nI v))
        (fun v y => xl_I n (rt_M fw) (rt_M sl) (rt_I dl) (i + 1) (fw_P i v) y.toInt) n y hy ?_ ?_
      · intro g y hy
        refine br_t (nI_le (Nat.le_refl _) (by omega)) (nm_r (nI_1 i) (next y ?_))
        obtain ⟨h1, h2, h3, h4⟩ := hy
        refine ⟨h1, h2, fun u v hu hv z => h3 u v hu hv ?_, h4⟩
        unfold fw_P at z ⊢
        omega
      · intro g v y hv hy nx
        have e1 : (nI (i * 5 + v)).toNatClampNeg = i * 5 + v := nI_clamp (by omega)
        have vi : vp_in (nI (i * 5 + v)) 25 := vp_in_nI (by omega) (by omega)
        obtain ⟨h1, h2, h3, h4⟩ := hy
        have keep : (rt_M fw i v = 0 → rt_M sl i v ≤ y.toInt) → xl_I n (rt_M fw) (rt_M sl) (rt_I dl) (i + 1) (fw_P i (v + 1)) y.toInt := by
          intro k
          refine ⟨h1, h2, fun a b ha hb z w => ?_, h4⟩
          rcases (fw_P1 i v a b).mp z with q | ⟨q, q'⟩
          · exact h3 a b ha hb q w
          · rw [q, q'] at w ⊢; exact k w
        refine br_f (nI_ge hv (by omega)) (xp_pr i v ⟨vi, ?_⟩)
        rw [e1]
        by_cases c : fw (i * 5 + v) = 0
        · refine br_t c ⟨vi, ?_⟩
          have c' : rt_M fw i v = 0 := it_eq.mp c
          by_cases c2 : sl (i * 5 + v) ≤ y
          · exact br_t c2 (nm_r (nI_1 v) (nx y (keep fun _ => it_le.mp c2)))
          · refine br_f c2 ⟨vi, nm_e (nm_r (nI_1 v) (nx _ ?_))⟩
            have c3 : ¬ rt_M sl i v ≤ y.toInt := fun z => c2 (it_le.mpr z)
            show xl_I n (rt_M fw) (rt_M sl) (rt_I dl) (i + 1) (fw_P i (v + 1)) (rt_M sl i v)
            refine ⟨by omega, fun u hu => by have := h2 u hu; omega, fun a b ha hb z w => ?_, Or.inr (Or.inr ⟨i, v, hi, hv, c', rfl⟩)⟩
            rcases (fw_P1 i v a b).mp z with q | ⟨q, q'⟩
            · have := h3 a b ha hb q w
              omega
            · rw [q, q']; exact Int.le_refl _
        · exact br_f c (nm_r (nI_1 v) (nx y (keep fun z => absurd (it_eq.mpr (show (fw (i * 5 + v)).toInt = (0 : Int32).toInt from z)) c)))
    obtain ⟨h1, h2, h3, h4⟩ := hq
    refine br_f (nI_ge hi (by omega)) ⟨vp_in_nI (by omega) (by omega), ?_⟩
    rw [c0]
    by_cases c : dl i ≤ q
    · refine br_t c (inner q ⟨h1, fun u hu => ?_, h3, h4⟩)
      by_cases e : u = i
      · rw [e]; exact it_le.mp c
      · exact h2 u (by omega)
    · have c' : ¬ rt_I dl i ≤ q.toInt := fun z => c (it_le.mpr z)
      refine br_f c ⟨vp_in_nI (by omega) (by omega), nm_e (inner _ ?_)⟩
      show xl_I n (rt_M fw) (rt_M sl) (rt_I dl) (i + 1) (fw_P i 0) (rt_I dl i)
      refine ⟨by omega, fun u hu => ?_, fun u v hu hv z w => by have := h3 u v hu hv z w; omega, Or.inr (Or.inl ⟨i, hi, rfl⟩)⟩
      by_cases e : u = i
      · rw [e]; exact Int.le_refl _
      · have := h2 u (by omega)
        omega
theorem xw_66 {post : Int32 → SX → Prop} {J4 J15 : Int32 → Int32 → (Nat → Int32) → (Nat → Int32) → (Nat → Int32) → (Nat → Int32) → (Nat → Int32) → (Nat → Int32) → (Nat → Int32) → Prop}
    {x1 x2 z0 : Int32} {n u v : Nat} {p β : Int} {a0 : Nat → Int} (hn : n ≤ 5) (hW : bf_W n (rt_M fw)) (en' : bf_en n (rt_M fw) u v) (hw : rt_M fw u v ≤ 256000) (hβ : -1000 ≤ β)
    (ha0 : bf_0 n a0) (hz : z0.toInt = if p < rt_M sl u v then 1 else 0) (hx2 : x2 = 0 ∨ x2 = 1)
    (hI : bf_In n (rt_M fw) (rt_M sl) p u v β a0 (rt_I pl) (x2 = 1))
    (hJ : ∀ (fl : Int32) (pl' : Nat → Int32), (fl = 0 ∨ fl = 1) → bf_In n (rt_M fw) (rt_M sl) p u (v + 1) β a0 (rt_I pl') (fl = 1) → J15 fl (nI (v + 1)) dl st en rg fw sl pl') :
    wX_lowerLags_66 post J4 J15 x1 x2 (nI u) (nI v) (nI (u * 5 + v)) z0 bc wc dl st en rg fw sl pl := by
  obtain ⟨hu, hv, ne, way⟩ := en'
  have en' : bf_en n (rt_M fw) u v := ⟨hu, hv, ne, way⟩
  have cu : (nI u).toNatClampNeg = u := nI_clamp (by omega)
  have cv : (nI v).toNatClampNeg = v := nI_clamp (by omega)
  have cp : (nI (u * 5 + v)).toNatClampNeg = u * 5 + v := nI_clamp (by omega)
  have vu : vp_in (nI u) 5 := vp_in_nI (by omega) (by omega)
  have vv : vp_in (nI v) 5 := vp_in_nI (by omega) (by omega)
  have w0 := hW u v hu hv
  have l1 := hI.1 v hv
  have l2 := ha0 v hv
  have l3 := hI.2.2.2.2.2 v hv
  have zb : 0 ≤ z0.toInt ∧ z0.toInt ≤ 1 := by
    rw [hz]
    by_cases c : p < rt_M sl u v
    · rw [if_pos c]; omega
    · rw [if_neg c]; omega
  have s1 : (pl v + fw (u * 5 + v)).toInt = rt_I pl v + rt_M fw u v := it_add (by show _ ≤ rt_I pl v + rt_M fw u v; omega) (by show rt_I pl v + rt_M fw u v < _; omega)
  have s2 : (pl v + fw (u * 5 + v) - z0).toInt = rt_I pl v + bf_c (rt_M fw) (rt_M sl) p u v := by
    have := it_sub (x := pl v + fw (u * 5 + v)) (y := z0) (by rw [s1]; omega) (by rw [s1]; omega)
    rw [this, s1, hz]
    unfold bf_c
    omega
  refine ⟨vv, vp_in_nI (by omega) (by omega), nm_r (e' := pl v + fw (u * 5 + v) - z0) (by rw [cv, cp]) ⟨vu, ?_⟩⟩
  rw [cu]
  by_cases c : pl u ≤ pl v + fw (u * 5 + v) - z0
  · refine br_t c (nm_r (nI_1 v) (hJ x2 pl hx2 (bf_keep hI fun _ => ?_)))
    rw [it_le, s2] at c
    exact c
  · refine br_f c ⟨vu, nm_e (nm_r (nI_1 v) (hJ 1 _ (Or.inr rfl) ?_))⟩
    rw [it_le, s2] at c
    have c' : ¬ rt_I pl u ≤ rt_I pl v + bf_c (rt_M fw) (rt_M sl) p u v := c
    refine bf_low hW hI en' (by omega) (by rw [it_ui]; exact s2) (fun x _ hx => it_un hx) rfl
theorem xw_15 {post : Int32 → SX → Prop} {J4 : Int32 → Int32 → (Nat → Int32) → (Nat → Int32) → (Nat → Int32) → (Nat → Int32) → (Nat → Int32) → (Nat → Int32) → (Nat → Int32) → Prop}
    {x1 x2 : Int32} {n u : Nat} {β : Int} {a0 : Nat → Int} (hn : n ≤ 5) (hW : ∀ a b, a < n → b < n → 0 ≤ rt_M fw a b ∧ (rt_M fw a b ≠ 1000000 → rt_M fw a b ≤ 256000)) (hu : u < n) (hβ : -1000 ≤ β)
    (ha0 : bf_0 n a0) (hx2 : x2 = 0 ∨ x2 = 1)
    (hI : bf_In n (rt_M fw) (rt_M sl) x1.toInt u 0 β a0 (rt_I pl) (x2 = 1))
    (hJ : ∀ (fl : Int32) (pl' : Nat → Int32), (fl = 0 ∨ fl = 1) → bf_In n (rt_M fw) (rt_M sl) x1.toInt u n β a0 (rt_I pl') (fl = 1) → J4 fl (nI (u + 1)) dl st en rg fw sl pl') :
    ∃ f, wX_lowerLags_15 post J4 x1 (nI u) (nI n) wc f x2 0 dl st en rg fw sl pl := by
  refine loop_0 (fun f v (q : Int32 × (Nat → Int32)) => wX_lowerLags_15 post J4 x1 (nI u) (nI n) wc f q.1 (nI v) dl st en rg fw sl q.2)
    (fun v q => (q.1 = 0 ∨ q.1 = 1) ∧ bf_In n (rt_M fw) (rt_M sl) x1.toInt u v β a0 (rt_I q.2) (q.1 = 1)) n (x2, pl) ⟨hx2, hI⟩ ?_ ?_
  · intro f q hq
    exact br_t (nI_le (Nat.le_refl _) (by omega)) (nm_r (nI_1 u) (hJ q.1 q.2 hq.1 hq.2))
  · intro f v q hv hq next
    obtain ⟨fl, pl⟩ := q
    obtain ⟨h1, h2⟩ := hq
    have h1 : fl = 0 ∨ fl = 1 := h1
    have h2 : bf_In n (rt_M fw) (rt_M sl) x1.toInt u v β a0 (rt_I pl) (fl = 1) := h2
    have cp : (nI (u * 5 + v)).toNatClampNeg = u * 5 + v := nI_clamp (by omega)
    have vp : vp_in (nI (u * 5 + v)) 25 := vp_in_nI (by omega) (by omega)
    have nx : ∀ (fl : Int32) (pl' : Nat → Int32), (fl = 0 ∨ fl = 1) → bf_In n (rt_M fw) (rt_M sl) x1.toInt u (v + 1) β a0 (rt_I pl') (fl = 1) →
      wX_lowerLags_15 post J4 x1 (nI u) (nI n) wc f fl (nI (v + 1)) dl st en rg fw sl pl' := fun fl pl' a b => next (fl, pl') ⟨a, b⟩
    refine br_f (nI_ge hv (by omega)) (xp_pr u v ?_)
    dsimp only
    rw [cp]
    by_cases c : u = v
    · refine br_t (by rw [c]) (nm_r (nI_1 v) (nx fl pl h1 (bf_keep h2 fun en' => absurd c en'.2.2.1)))
    · refine br_f (fun z => c ((nI_eq (by omega) (by omega)).mp z)) ⟨vp, ?_⟩
      by_cases c2 : fw (u * 5 + v) = 1000000
      · refine br_t c2 (nm_r (nI_1 v) (nx fl pl h1 (bf_keep h2 fun en' => absurd ?_ en'.2.2.2)))
        show (fw (u * 5 + v)).toInt = 1000000
        rw [c2]; rfl
      · have way : rt_M fw u v ≠ 1000000 := fun z => c2 (it_eq.mpr z)
        refine br_f c2 ⟨vp, ?_⟩
        by_cases c3 : sl (u * 5 + v) ≤ x1
        · refine br_t c3 (xw_66 hn (fun a b ha hb => (hW a b ha hb).1) ⟨hu, hv, c, way⟩ ((hW u v hu hv).2 way) hβ ha0 ?_ h1 h2 nx)
          have c4 : ¬ x1.toInt < rt_M sl u v := by have : rt_M sl u v ≤ x1.toInt := it_le.mp c3; omega
          rw [if_neg c4]; rfl
        · refine br_f c3 (xw_66 hn (fun a b ha hb => (hW a b ha hb).1) ⟨hu, hv, c, way⟩ ((hW u v hu hv).2 way) hβ ha0 ?_ h1 h2 nx)
          have c4 : x1.toInt < rt_M sl u v := by have : ¬ rt_M sl u v ≤ x1.toInt := fun z => c3 (it_le.mpr z); omega
          rw [if_pos c4]; rfl
theorem xw_pass {post : Int32 → SX → Prop} {x1 : Int32} {n : Nat} {β : Int} (hn : n ≤ 5) (hW : ∀ a b, a < n → b < n → 0 ≤ rt_M fw a b ∧ (rt_M fw a b ≠ 1000000 → rt_M fw a b ≤ 256000)) (hβ : -1000 ≤ β)
    (ha0 : bf_0 n (rt_I pl)) (hb : ∀ v, v < n → β ≤ rt_I pl v)
    (h : ∀ (fl : Int32) (pl' : Nat → Int32), (fl = 0 ∨ fl = 1) → bf_Ps n (rt_M fw) (rt_M sl) x1.toInt (rt_I pl) (rt_I pl') (fl = 1) → (∀ v, v < n → β - 30 ≤ rt_I pl' v) → post fl (nI n, wc, dl, st, en, rg, fw, sl, pl')) :
    wpX_lowerLags post (nI n, wc, dl, st, en, rg, fw, sl, pl) x1 := by
  refine loop_0 (fun f u (q : Int32 × (Nat → Int32)) => wX_lowerLags_4 post x1 (nI n) wc f q.1 (nI u) dl st en rg fw sl q.2)
    (fun u q => (q.1 = 0 ∨ q.1 = 1) ∧ bf_In n (rt_M fw) (rt_M sl) x1.toInt u 0 β (rt_I pl) (rt_I q.2) (q.1 = 1)) n (0, pl) ⟨Or.inl rfl, bf_start (by show ¬ (0 : Int32) = 1; decide) hb⟩ ?_ ?_
  · intro f q hq
    obtain ⟨fl, pl'⟩ := q
    obtain ⟨h1, h2⟩ := hq
    have h1 : fl = 0 ∨ fl = 1 := h1
    have h2 : bf_In n (rt_M fw) (rt_M sl) x1.toInt n 0 β (rt_I pl) (rt_I pl') (fl = 1) := h2
    refine br_t (nI_le (Nat.le_refl _) (by omega)) ⟨xn_b h1, h fl pl' h1 (bf_end h2) fun v hv => ?_⟩
    have := h2.2.2.2.2.2 v hv
    omega
  · intro f u q hu hq next
    refine br_f (nI_ge hu (by omega)) (xw_15 hn hW hu hβ ha0 hq.1 hq.2 ?_)
    intro fl pl' a b
    exact next (fl, pl') ⟨a, bf_row hn b⟩
theorem xw_for {post : Int32 → SX → Prop} {x1 : Int32} {n : Nat} (hn : n ≤ 5) (hW : ∀ a b, a < n → b < n → 0 ≤ rt_M fw a b ∧ (rt_M fw a b ≠ 1000000 → rt_M fw a b ≤ 256000))
    (h1 : ∀ pl' : Nat → Int32, (∀ v, v < n → rt_I dl v ≤ x1.toInt) → bf_Gr n (rt_M fw) (rt_M sl) x1.toInt (rt_I pl') → post 1 (nI n, wc, dl, st, en, rg, fw, sl, pl'))
    (h0 : ∀ pl' : Nat → Int32, (∀ L, bf_0 n L → ¬ bf_ok n (rt_M fw) (rt_M sl) (rt_I dl) x1.toInt L) → post 0 (nI n, wc, dl, st, en, rg, fw, sl, pl')) :
    wpX_planFor post (nI n, wc, dl, st, en, rg, fw, sl, pl) x1 := by
  have rounds : ∀ pl : Nat → Int32, (∀ v, v < n → rt_I pl v = 0) → (∀ v, v < n → rt_I dl v ≤ x1.toInt) → ∃ f, wX_planFor_37 post x1 f 0 (nI n) wc dl st en rg fw sl pl := by
    intro pl hz hd
    refine loop_0 (fun f i (q : Nat → Int32) => wX_planFor_37 post x1 f (nI i) (nI n) wc dl st en rg fw sl q)
      (fun i q => bf_R n (rt_M fw) (rt_M sl) x1.toInt i (rt_I q) ∧ ∀ v, v < n → -(30 * (i : Int)) ≤ rt_I q v) n pl ⟨bf_R0 hz, fun v hv => by have := hz v hv; omega⟩ ?_ ?_
    · intro f q hq
      obtain ⟨g1, g2⟩ := hq
      refine br_t (nI_le (Nat.le_refl _) (by omega)) (xw_pass (β := -(30 * (n : Int))) hn hW (by omega) g1.1 g2 ?_)
      intro fl pl' a b _
      obtain ⟨k1, k2⟩ := bf_fin g1 b
      rcases a with e | e
      · refine br_t e (h1 pl' hd (k1 (by rw [e]; decide)))
      · refine br_f (by rw [e]; decide) (h0 pl' fun L l0 ok => k2 e L ok.2 l0)
    · intro f i q hi hq next
      obtain ⟨g1, g2⟩ := hq
      refine br_f (nI_ge hi (by omega)) (xw_pass (β := -(30 * (i : Int))) hn hW (by omega) g1.1 g2 ?_)
      intro fl pl' a b c
      refine nm_r (nI_1 i) (next pl' ⟨bf_Rs g1 b, fun v hv => ?_⟩)
      have := c v hv
      omega
  refine loop_0 (fun f i (q : Nat → Int32) => wX_planFor_2 post x1 (nI n) wc f (nI i) dl st en rg fw sl q)
    (fun i q => (∀ v, v < i → rt_I q v = 0) ∧ ∀ v, v < i → rt_I dl v ≤ x1.toInt) n pl ⟨fun v hv => absurd hv (by omega), fun v hv => absurd hv (by omega)⟩ ?_ ?_
  · intro f q hq
    exact br_t (nI_le (Nat.le_refl _) (by omega)) (rounds q hq.1 hq.2)
  · intro f i q hi hq next
    have ci : (nI i).toNatClampNeg = i := nI_clamp (by omega)
    have vi : vp_in (nI i) 5 := vp_in_nI (by omega) (by omega)
    refine br_f (nI_ge hi (by omega)) ⟨vi, nm_r (e' := upd q i 0) (by rw [ci]) ⟨vi, ?_⟩⟩
    rw [ci]
    by_cases c : dl i ≤ x1
    · refine br_t c (nm_r (nI_1 i) (next _ ⟨fun v hv => ?_, fun v hv => ?_⟩))
      · by_cases e : v = i
        · rw [e, it_ui]; rfl
        · rw [it_un e]; exact hq.1 v (by omega)
      · by_cases e : v = i
        · rw [e]; exact it_le.mp c
        · exact hq.2 v (by omega)
    · refine br_f c (h0 _ fun L _ ok => c (it_le.mpr (ok.1 i hi)))
theorem xw_prop {post : Int32 → SX → Prop} {n m : Nat} {s t : Nat → Nat} {r : Nat → Int} {B : Int} (hK : rb_K n m (rt_I dl) s t r B (rt_M fw) (rt_M sl))
    (h : ∀ (y : Int32) (pl' : Nat → Int32), se_l n (rt_M fw) (rt_M sl) (rt_I dl) y.toInt (rt_I pl') → post y (nI n, wc, dl, st, en, rg, fw, sl, pl')) :
    wpX_proposePlan post (nI n, wc, dl, st, en, rg, fw, sl, pl) := by
  have hn1 : 1 ≤ n := hK.1.1.1
  have hn : n ≤ 5 := hK.1.1.2.1
  have hd := hK.1.2.1
  have hW : ∀ a b, a < n → b < n → 0 ≤ rt_M fw a b ∧ (rt_M fw a b ≠ 1000000 → rt_M fw a b ≤ 256000) := fun a b ha hb => ⟨(hK.2.1.1 a b ha hb).1, fun q => ((hK.2.1.1 a b ha hb).2.2 q).1⟩
  have hW0 : bf_W n (rt_M fw) := rb_W hK.2.1
  have sea : ∀ (i : Nat) (pl' : Nat → Int32), (∀ j : Nat, j < i → ∀ L, bf_0 n L → ¬ bf_ok n (rt_M fw) (rt_M sl) (rt_I dl) (j : Int) L) → (∀ v, v < n → rt_I dl v ≤ (i : Int)) →
      bf_Gr n (rt_M fw) (rt_M sl) (i : Int) (rt_I pl') → se_l n (rt_M fw) (rt_M sl) (rt_I dl) (i : Int) (rt_I pl') := by
    intro i pl' no hdi hG
    refine se_of hn hW0 hdi hG ?_
    intro L q l0 ok
    apply Classical.byContradiction
    intro z
    have a1 := ok.1 0 (by omega)
    have a2 := hd 0 (by omega)
    have eq : ((q.toNat : Nat) : Int) = q := by omega
    exact no q.toNat (by omega) L l0 (by rw [eq]; exact ok)
  refine loop_0 (fun f i (q : Nat → Int32) => wX_proposePlan_2 post f (nI i) (nI n) wc dl st en rg fw sl q)
    (fun i q => ∀ j : Nat, j < i → ∀ L, bf_0 n L → ¬ bf_ok n (rt_M fw) (rt_M sl) (rt_I dl) (j : Int) L) 45 pl (fun j hj => absurd hj (by omega)) ?_ ?_
  · intro f q hq
    refine br_t (nI_le (a := 45) (b := 45) (Nat.le_refl _) (by decide)) (xw_for hn hW ?_ ?_)
    · intro pl' a b
      exact h 45 pl' (sea 45 pl' hq a b)
    · intro pl' no
      exact absurd (lo_45 hK) (no (fun _ => 0) (fun _ _ => Int.le_refl 0))
  · intro f i q hi hq next
    have ti : (nI i).toInt = (i : Int) := nI_toInt (by omega)
    refine br_f (nI_ge (b := 45) hi (by decide)) (xw_for hn hW ?_ ?_)
    · intro pl' a b
      rw [ti] at a b
      refine br_f (by decide) (h (nI i) pl' ?_)
      rw [ti]
      exact sea i pl' hq a b
    · intro pl' no
      rw [ti] at no
      refine br_t rfl (nm_r (nI_1 i) (next pl' ?_))
      intro j hj
      by_cases e : j = i
      · rw [e]; exact no
      · exact hq j (by omega)
end
section
variable {fn fm kn bp : Int32} {dl st en rg la le pn re : Nat → Int32}
theorem yi_blk {post : Int32 → Prop} {n : Nat} {p : Int32} (hn : n ≤ 5) (h1 : rt_b n p → post 1) (h0 : ¬ rt_b n p → post 0) :
    wpY_isBlock post (nI n, fm, kn, bp, dl, st, en, rg, la, le, pn, re) p := bk_c (by omega) h1 h0 h0
theorem yx_en {n m i : Nat} {B : Int} (hc : rl_C n m dl st en rg B) (hi : i < m) {N : Nat} (hN : 5 ≤ N) (hN' : N ≤ 25) : vp_in (en i) N ∧ vp_in (st i) N := by
  obtain ⟨e1, e2⟩ := hc.2 i hi
  obtain ⟨s1, s2, _, _⟩ := hc.1.2.2 i hi
  have hn := hc.1.1
  rw [e1, e2]
  exact ⟨vp_in_nI (by omega) (by omega), vp_in_nI (by omega) (by omega)⟩
def yl_b (n : Nat) (la : Nat → Int32) : Prop := ∀ v, v < n → -100 ≤ rt_I la v ∧ rt_I la v ≤ 100
theorem yu_un {post : Int32 → Prop} {n m i : Nat} {B : Int} (hc : rl_C n m dl st en rg B) (hB : B ≤ 8000) (hi : i < m) (hl : yl_b n la)
    (h : ∀ y : Int32, y.toInt = rt_I rg i + rt_I la (rt_N en i) - rt_I la (rt_N st i) → post y) :
    wpY_under post (fn, fm, kn, bp, dl, st, en, rg, la, le, pn, re) (nI i) := by
  have hm := hc.1.1.2.2
  have c1 : (nI i).toNatClampNeg = i := nI_clamp (by omega)
  have v1 : vp_in (nI i) 12 := vp_in_nI (by omega) (by omega)
  obtain ⟨x1, x2⟩ := yx_en hc hi (Nat.le_refl 5) (by omega)
  obtain ⟨s1, s2, s3, s4⟩ := hc.1.2.2 i hi
  have b1 := hl (rt_N en i) s2
  have b2 := hl (rt_N st i) s1
  refine ⟨v1, v1, by rw [c1]; exact x1, v1, by rw [c1]; exact x2, h _ ?_⟩
  rw [c1]
  show (rg i + la (rt_N en i) - la (rt_N st i)).toInt = rt_I rg i + rt_I la (rt_N en i) - rt_I la (rt_N st i)
  have a1 : (rg i + la (rt_N en i)).toInt = rt_I rg i + rt_I la (rt_N en i) :=
    it_add (by show _ ≤ rt_I rg i + rt_I la (rt_N en i); omega) (by show rt_I rg i + rt_I la (rt_N en i) < _; omega)
  have a2 := it_sub (x := rg i + la (rt_N en i)) (y := la (rt_N st i)) (by rw [a1]; show _ ≤ rt_I rg i + rt_I la (rt_N en i) - rt_I la (rt_N st i); omega)
    (by rw [a1]; show rt_I rg i + rt_I la (rt_N en i) - rt_I la (rt_N st i) < _; omega)
  rw [a2, a1]; rfl
theorem yl_leg {post : Int32 → Prop} {n m : Nat} {B : Int} (hc : rl_C n m dl st en rg B) (hB : B ≤ 8000) (hl : yl_b n la)
    (h1 : lo_g m (rt_N st) (rt_N en) (rt_I rg) (rt_I la) → post 1) (h0 : ¬ lo_g m (rt_N st) (rt_N en) (rt_I rg) (rt_I la) → post 0) :
    wpY_legal post (nI n, nI m, kn, bp, dl, st, en, rg, la, le, pn, re) := by
  have hm := hc.1.1.2.2
  refine loop_0 (fun f i (_ : Unit) => wY_legal_2 post (nI n) (nI m) kn bp dl st en rg la le pn re f (nI i))
    (fun i _ => ∀ j, j < i → 0 ≤ rt_I rg j + rt_I la (rt_N en j) - rt_I la (rt_N st j)) m () (fun x hx => absurd hx (by omega)) ?_ ?_
  · intro f q hq
    exact br_t (nI_le (Nat.le_refl _) (by omega)) (h1 hq)
  · intro f i q hi hq next
    refine br_f (nI_ge hi (by omega)) (yu_un hc hB hi hl ?_)
    intro y ey
    by_cases c : (0 : Int32) ≤ y
    · refine br_t c (nm_r (nI_1 i) (next () fun j hj => ?_))
      by_cases e : j = i
      · rw [it_le, ey, it_0] at c
        rw [e]; exact c
      · exact hq j (by omega)
    · refine br_f c (h0 fun z => c ?_)
      rw [it_le, ey, it_0]
      exact z i hi
theorem yl_max {post : Int32 → SY → Prop} {n : Nat} (hn : n ≤ 5)
    (h : ∀ y : Int32, (∀ v, v < n → rt_I le v ≤ y.toInt) → (y.toInt = 0 ∨ ∃ v, v < n ∧ rt_I le v = y.toInt) → post y (nI n, fm, kn, bp, dl, st, en, rg, la, le, pn, re)) :
    ∃ f, wY_longest_120 post (nI n) fm kn bp dl st en rg la le pn re f 0 0 := by
  refine loop_0 (fun f i (y : Int32) => wY_longest_120 post (nI n) fm kn bp dl st en rg la le pn re f y (nI i))
    (fun i y => (∀ v, v < i → rt_I le v ≤ y.toInt) ∧ (y.toInt = 0 ∨ ∃ v, v < n ∧ rt_I le v = y.toInt)) n 0 ⟨fun v hv => absurd hv (by omega), Or.inl rfl⟩ ?_ ?_
  · intro f y hy
    exact br_t (nI_le (Nat.le_refl _) (by omega)) (h y hy.1 hy.2)
  · intro f i y hi hy next
    have c1 : (nI i).toNatClampNeg = i := nI_clamp (by omega)
    have v1 : vp_in (nI i) 5 := vp_in_nI (by omega) (by omega)
    refine br_f (nI_ge hi (by omega)) ⟨v1, ?_⟩
    rw [c1]
    by_cases c : le i ≤ y
    · refine br_t c (nm_r (nI_1 i) (next y ⟨fun v hv => ?_, hy.2⟩))
      by_cases e : v = i
      · rw [e]; exact it_le.mp c
      · exact hy.1 v (by omega)
    · have c' : ¬ rt_I le i ≤ y.toInt := fun z => c (it_le.mpr z)
      refine br_f c ⟨v1, nm_e (nm_r (nI_1 i) (next _ ⟨fun v hv => ?_, Or.inr ⟨i, hi, rfl⟩⟩))⟩
      show rt_I le v ≤ rt_I le i
      by_cases e : v = i
      · rw [e]; exact Int.le_refl _
      · have := hy.1 v (by omega)
        omega
theorem yl_37 {post : Int32 → SY → Prop} {J : Int32 → (Nat → Int32) → (Nat → Int32) → (Nat → Int32) → (Nat → Int32) → (Nat → Int32) → (Nat → Int32) → (Nat → Int32) → (Nat → Int32) → Prop}
    {n m R : Nat} {B : Int} {W D : Nat → Nat → Int} (hc : rl_C n m dl st en rg B) (hB : B ≤ 8000) (hl : yl_b n la)
    (hK : rb_K n m (rt_I dl) (rt_N st) (rt_N en) (rt_I rg) B W D) (hg : lo_g m (rt_N st) (rt_N en) (rt_I rg) (rt_I la))
    (hI : lo_I n m (rt_I dl) (rt_N st) (rt_N en) (rt_I rg) W D (rt_I la) R 0 (rt_I le))
    (hJ : ∀ le' : Nat → Int32, lo_I n m (rt_I dl) (rt_N st) (rt_N en) (rt_I rg) W D (rt_I la) R m (rt_I le') → J (nI (R + 1)) dl st en rg la le' pn re) :
    ∃ f, wY_longest_37 post J (nI R) (nI n) (nI m) kn bp f 0 dl st en rg la le pn re := by
  have hn := hc.1.1.2.1
  have hm := hc.1.1.2.2
  refine loop_0 (fun f i (q : Nat → Int32) => wY_longest_37 post J (nI R) (nI n) (nI m) kn bp f (nI i) dl st en rg la q pn re)
    (fun i q => lo_I n m (rt_I dl) (rt_N st) (rt_N en) (rt_I rg) W D (rt_I la) R i (rt_I q)) m le hI ?_ ?_
  · intro f q hq
    exact br_t (nI_le (Nat.le_refl _) (by omega)) (nm_r (nI_1 R) (hJ q hq))
  · intro f i q hi hq next
    have c1 : (nI i).toNatClampNeg = i := nI_clamp (by omega)
    have v1 : vp_in (nI i) 12 := vp_in_nI (by omega) (by omega)
    obtain ⟨x1, x2⟩ := yx_en hc hi (Nat.le_refl 5) (by omega)
    obtain ⟨s1, s2, s3, s4⟩ := hc.1.2.2 i hi
    have d2 := hc.1.2.1 (rt_N en i) s2
    have d1 := hc.1.2.1 (rt_N st i) s1
    obtain ⟨g1, g2, _⟩ := hq.1 (rt_N st i) s1
    have g3 := lo_hn (W := W) (L := rt_I la) s1
    have a1 : (q (rt_N st i) + dl (rt_N en i)).toInt = rt_I q (rt_N st i) + rt_I dl (rt_N en i) :=
      it_add (by show _ ≤ rt_I q (rt_N st i) + rt_I dl (rt_N en i); omega) (by show rt_I q (rt_N st i) + rt_I dl (rt_N en i) < _; omega)
    refine br_f (nI_ge hi (by omega)) ⟨v1, by rw [c1]; exact x2, v1, by rw [c1]; exact x1, ?_⟩
    refine nm_r (e' := q (rt_N st i) + dl (rt_N en i)) (by rw [c1]; rfl) (yu_un hc hB hi hl ?_)
    intro y ey
    by_cases c : y = 0
    · refine br_t c ⟨v1, by rw [c1]; exact x1, ?_⟩
      rw [c1]
      have z : rt_I rg i + rt_I la (rt_N en i) - rt_I la (rt_N st i) = 0 := by rw [← ey, c]; rfl
      by_cases c2 : q (rt_N st i) + dl (rt_N en i) ≤ q (rt_N en i)
      · refine br_t c2 (nm_r (nI_1 i) (next q (lo_keep hq fun _ => ?_)))
        rw [it_le, a1] at c2
        exact c2
      · refine br_f c2 ⟨v1, x1, nm_e (nm_r (nI_1 i) (next _ ?_))⟩
        rw [it_le, a1] at c2
        have c3 : ¬ rt_I q (rt_N st i) + rt_I dl (rt_N en i) ≤ rt_I q (rt_N en i) := c2
        exact lo_step hK hg hi hq z (by omega) (by show rt_I (upd q (rt_N en i) _) (rt_N en i) = _; rw [it_ui]; exact a1) (fun x _ hx => it_un hx)
    · refine br_f c (nm_r (nI_1 i) (next q (lo_keep hq fun z => ?_)))
      exact absurd (it_eq.mpr (show y.toInt = (0 : Int32).toInt by rw [ey, z]; rfl)) c
theorem yl_long {post : Int32 → SY → Prop} {n m : Nat} {B : Int} {W D : Nat → Nat → Int} (hc : rl_C n m dl st en rg B) (hB : B ≤ 8000) (hl : yl_b n la)
    (hK : rb_K n m (rt_I dl) (rt_N st) (rt_N en) (rt_I rg) B W D) (hg : lo_g m (rt_N st) (rt_N en) (rt_I rg) (rt_I la))
    (h : ∀ (y : Int32) (le' : Nat → Int32), lo_V n W D (rt_I dl) (rt_I la) y.toInt → post y (nI n, nI m, kn, bp, dl, st, en, rg, la, le', pn, re)) :
    wpY_longest post (nI n, nI m, kn, bp, dl, st, en, rg, la, le, pn, re) := by
  have hn := hc.1.1.2.1
  have rounds : ∀ le : Nat → Int32, (∀ v, v < n → rt_I le v = rt_I dl v) → ∃ f, wY_longest_30 post (nI n) (nI m) kn bp f 0 dl st en rg la le pn re := by
    intro le h0
    refine loop_0 (fun f i (q : Nat → Int32) => wY_longest_30 post (nI n) (nI m) kn bp f (nI i) dl st en rg la q pn re)
      (fun i q => lo_I n m (rt_I dl) (rt_N st) (rt_N en) (rt_I rg) W D (rt_I la) i 0 (rt_I q)) 5 le (lo_I0 hc.1.2.1 h0) ?_ ?_
    · intro f q hq
      refine br_t (nI_le (a := 5) (b := 5) (Nat.le_refl _) (by decide)) (yl_max hn ?_)
      intro y y1 y2
      exact h y q (lo_val hK hg hq y1 y2)
    · intro f i q hi hq next
      refine br_f (nI_ge (b := 5) hi (by decide)) (yl_37 hc hB hl hK hg hq ?_)
      intro le' hr
      exact next le' (lo_rnd hr)
  refine loop_0 (fun f i (q : Nat → Int32) => wY_longest_2 post (nI n) (nI m) kn bp f (nI i) dl st en rg la q pn re)
    (fun i q => ∀ v, v < i → rt_I q v = rt_I dl v) n le (fun v hv => absurd hv (by omega)) ?_ ?_
  · intro f q hq
    exact br_t (nI_le (Nat.le_refl _) (by omega)) (rounds q hq)
  · intro f i q hi hq next
    have c1 : (nI i).toNatClampNeg = i := nI_clamp (by omega)
    have v1 : vp_in (nI i) 5 := vp_in_nI (by omega) (by omega)
    refine br_f (nI_ge hi (by omega)) ⟨v1, v1, nm_r (e' := upd q i (dl i)) (by rw [c1]) (nm_r (nI_1 i) (next _ fun v hv => ?_))⟩
    by_cases e : v = i
    · rw [e, it_ui]; rfl
    · rw [it_un e]; exact hq v (by omega)
theorem yn_no {post : SY → Prop} (h : ∀ la' : Nat → Int32, (∀ v, v < 5 → rt_I la' v = 0) → post (fn, fm, kn, bp, dl, st, en, rg, la', le, pn, re)) :
    wpY_noLags post (fn, fm, kn, bp, dl, st, en, rg, la, le, pn, re) := by
  refine loop_0 (fun f i (q : Nat → Int32) => wY_noLags_2 post fn fm kn bp f (nI i) dl st en rg q le pn re)
    (fun i q => ∀ v, v < i → rt_I q v = 0) 5 la (fun v hv => absurd hv (by omega)) ?_ ?_
  · intro f q hq
    exact br_t (nI_le (a := 5) (b := 5) (Nat.le_refl _) (by decide)) (h q hq)
  · intro f i q hi hq next
    have c1 : (nI i).toNatClampNeg = i := nI_clamp (by omega)
    refine br_f (nI_ge (b := 5) hi (by decide)) ⟨vp_in_nI (by omega) (by omega), nm_r (e' := upd q i 0) (by rw [c1]) (nm_r (nI_1 i) (next _ fun v hv => ?_))⟩
    by_cases e : v = i
    · rw [e, it_ui]; rfl
    · rw [it_un e]; exact hq v (by omega)
theorem ys_37 {post : Int32 → SY → Prop} {J : Int32 → (Nat → Int32) → (Nat → Int32) → (Nat → Int32) → (Nat → Int32) → (Nat → Int32) → (Nat → Int32) → (Nat → Int32) → (Nat → Int32) → Prop}
    {n m R : Nat} {B : Int} {W D : Nat → Nat → Int} (hR : R < 6) (hc : rl_C n m dl st en rg B) (hF : mw_F n m (rt_I dl) (rt_N st) (rt_N en) (rt_I rg) W D)
    (hI : so_I n m (rt_N st) (rt_N en) (rt_I rg) W R 0 (rt_I le))
    (hJ : ∀ le' : Nat → Int32, so_I n m (rt_N st) (rt_N en) (rt_I rg) W R m (rt_I le') → J (nI (R + 1)) dl st en rg la le' pn re) :
    ∃ f, wY_sound_37 post J (nI R) (nI n) (nI m) kn bp f 0 dl st en rg la le pn re := by
  have hn := hc.1.1.2.1
  have hm := hc.1.1.2.2
  refine loop_0 (fun f i (q : Nat → Int32) => wY_sound_37 post J (nI R) (nI n) (nI m) kn bp f (nI i) dl st en rg la q pn re)
    (fun i q => so_I n m (rt_N st) (rt_N en) (rt_I rg) W R i (rt_I q)) m le hI ?_ ?_
  · intro f q hq
    exact br_t (nI_le (Nat.le_refl _) (by omega)) (nm_r (nI_1 R) (hJ q hq))
  · intro f i q hi hq next
    have c1 : (nI i).toNatClampNeg = i := nI_clamp (by omega)
    have v1 : vp_in (nI i) 12 := vp_in_nI (by omega) (by omega)
    obtain ⟨x1, x2⟩ := yx_en hc hi (Nat.le_refl 5) (by omega)
    obtain ⟨s1, s2, s3, s4⟩ := hc.1.2.2 i hi
    obtain ⟨g1, g2, _⟩ := hq.1 (rt_N st i) s1
    refine br_f (nI_ge hi (by omega)) ⟨v1, ?_⟩
    rw [c1]
    by_cases c : rg i = 0
    · have z : rt_I rg i = 0 := it_eq.mp c
      refine br_t c ⟨v1, x1, v1, x2, ?_⟩
      by_cases c2 : q (rt_N st i) < q (rt_N en i)
      · refine br_t c2 (nm_r (nI_1 i) (next q (so_keep hq fun _ => ?_)))
        have : rt_I q (rt_N st i) < rt_I q (rt_N en i) := it_lt.mp c2
        omega
      · refine br_f c2 ⟨v1, v1, x2, x1, nm_e (nm_r (nI_1 i) (next _ ?_))⟩
        have c3 : ¬ rt_I q (rt_N st i) < rt_I q (rt_N en i) := fun y => c2 (it_lt.mpr y)
        have a1 : (q (rt_N st i) + 1).toInt = rt_I q (rt_N st i) + 1 := it_add (by rw [it_1]; show _ ≤ rt_I q (rt_N st i) + 1; omega) (by rw [it_1]; show rt_I q (rt_N st i) + 1 < _; omega)
        exact so_step hc.1 hF hi hq z (by omega) (by show rt_I (upd q (rt_N en i) _) (rt_N en i) = _; rw [it_ui]; exact a1) (fun x _ hx => it_un hx)
    · refine br_f c (nm_r (nI_1 i) (next q (so_keep hq fun z => ?_)))
      exact absurd (it_eq.mpr (show (rg i).toInt = (0 : Int32).toInt from z)) c
theorem ys_so {post : Int32 → SY → Prop} {n m : Nat} {B : Int} {W D : Nat → Nat → Int} (hc : rl_C n m dl st en rg B) (hF : mw_F n m (rt_I dl) (rt_N st) (rt_N en) (rt_I rg) W D)
    (h1 : ∀ la' le' : Nat → Int32, (∀ v, v < 5 → rt_I la' v = 0) → mw_so n W → post 1 (nI n, nI m, kn, bp, dl, st, en, rg, la', le', pn, re))
    (h0 : ∀ la' le' : Nat → Int32, ¬ mw_so n W → post 0 (nI n, nI m, kn, bp, dl, st, en, rg, la', le', pn, re)) :
    wpY_sound post (nI n, nI m, kn, bp, dl, st, en, rg, la, le, pn, re) := by
  have hn := hc.1.1.2.1
  have hm := hc.1.1.2.2
  unfold wpY_sound
  refine yn_no ?_
  intro la' hla
  have last : ∀ le : Nat → Int32, so_I n m (rt_N st) (rt_N en) (rt_I rg) W 6 0 (rt_I le) → ∃ f, wY_sound_117 post (nI n) (nI m) kn bp dl st en rg la' le pn re f 0 := by
    intro le hle
    have iff := so_end hc.1 hF hle
    refine loop_0 (fun f i (_ : Unit) => wY_sound_117 post (nI n) (nI m) kn bp dl st en rg la' le pn re f (nI i))
      (fun i _ => ∀ v, v < i → rt_I le v < n) n () (fun v hv => absurd hv (by omega)) ?_ ?_
    · intro f q hq
      exact br_t (nI_le (Nat.le_refl _) (by omega)) (h1 la' le hla (iff.mpr hq))
    · intro f i q hi hq next
      have c1 : (nI i).toNatClampNeg = i := nI_clamp (by omega)
      have tn : (nI n).toInt = (n : Int) := nI_toInt (by omega)
      refine br_f (nI_ge hi (by omega)) ⟨vp_in_nI (by omega) (by omega), ?_⟩
      rw [c1]
      by_cases c : le i < nI n
      · refine br_t c (nm_r (nI_1 i) (next () fun v hv => ?_))
        by_cases e : v = i
        · rw [it_lt, tn] at c
          rw [e]; exact c
        · exact hq v (by omega)
      · refine br_f c (h0 la' le fun so => c ?_)
        rw [it_lt, tn]
        exact iff.mp so i hi
  have rounds : ∀ le : Nat → Int32, (∀ v, v < n → rt_I le v = 0) → ∃ f, wY_sound_29 post (nI n) (nI m) kn bp f 0 dl st en rg la' le pn re := by
    intro le hle
    refine loop_0 (fun f i (q : Nat → Int32) => wY_sound_29 post (nI n) (nI m) kn bp f (nI i) dl st en rg la' q pn re)
      (fun i q => so_I n m (rt_N st) (rt_N en) (rt_I rg) W i 0 (rt_I q)) 6 le (so_I0 hc.1 hle) ?_ ?_
    · intro f q hq
      exact br_t (nI_le (a := 6) (b := 6) (Nat.le_refl _) (by decide)) (last q hq)
    · intro f i q hi hq next
      refine br_f (nI_ge (b := 6) hi (by decide)) (ys_37 hi hc hF hq ?_)
      intro le' hr
      exact next le' (so_rnd hm hr)
  refine loop_0 (fun f i (q : Nat → Int32) => wY_sound_6 post (nI n) (nI m) kn bp f (nI i) dl st en rg la' q pn re)
    (fun i q => ∀ v, v < i → rt_I q v = 0) n le (fun v hv => absurd hv (by omega)) ?_ ?_
  · intro f q hq
    exact br_t (nI_le (Nat.le_refl _) (by omega)) (rounds q hq)
  · intro f i q hi hq next
    have c1 : (nI i).toNatClampNeg = i := nI_clamp (by omega)
    refine br_f (nI_ge hi (by omega)) ⟨vp_in_nI (by omega) (by omega), nm_r (e' := upd q i 0) (by rw [c1]) (nm_r (nI_1 i) (next _ fun v hv => ?_))⟩
    by_cases e : v = i
    · rw [e, it_ui]; rfl
    · rw [it_un e]; exact hq v (by omega)
end
section
variable {fn fm kn bp : Int32} {dl st en rg la le pn re : Nat → Int32}
theorem yw_wr {post : SY → Prop} {n c : Nat} (hn : n ≤ 5) (hc : c < 3125)
    (h : ∀ la' : Nat → Int32, (∀ v, v < n → rt_I la' v = fi_L c v) → post (nI n, fm, kn, bp, dl, st, en, rg, la', le, pn, re)) :
    wpY_writeLags post (nI n, fm, kn, bp, dl, st, en, rg, la, le, pn, re) (nI c) := by
  refine loop_0 (fun f i (q : Int32 × (Nat → Int32)) => wY_writeLags_4 post (nI n) fm kn bp f q.1 (nI i) dl st en rg q.2 le pn re)
    (fun i q => q.1 = nI (c / 5 ^ i) ∧ ∀ v, v < i → v < n → rt_I q.2 v = fi_L c v) 5 (nI c, la) ⟨by show nI c = nI (c / 5 ^ 0); rw [Nat.pow_zero, Nat.div_one], fun v hv => absurd hv (by omega)⟩ ?_ ?_
  · intro f q hq
    exact br_t (nI_le (a := 5) (b := 5) (Nat.le_refl _) (by decide)) (h q.2 fun v hv => hq.2 v (by omega) hv)
  · intro f i q hi hq next
    obtain ⟨x, la⟩ := q
    obtain ⟨q1, q2⟩ := hq
    have q1 : x = nI (c / 5 ^ i) := q1
    have q2 : ∀ v, v < i → v < n → rt_I la v = fi_L c v := q2
    subst q1
    have c1 : (nI i).toNatClampNeg = i := nI_clamp (by omega)
    have v1 : vp_in (nI i) 5 := vp_in_nI (by omega) (by omega)
    have hb : c / 5 ^ i < 2 ^ 31 := Nat.lt_of_le_of_lt (Nat.div_le_self _ _) (by omega)
    have dv : nI (c / 5 ^ i) / 5 = nI (c / 5 ^ (i + 1)) := by
      show nI (c / 5 ^ i) / nI 5 = _
      rw [pk_div hb (by decide) (by decide), Nat.div_div_eq_div_mul, Nat.pow_succ]
    refine br_f (nI_ge (b := 5) hi (by decide)) ?_
    by_cases e : i < n
    · refine br_f (nI_ge e (by omega)) ⟨by decide, v1, nm_r (e' := upd la i (-(nI (c / 5 ^ i) - nI (c / 5 ^ i) / 5 * 5))) (by rw [c1]) ⟨by decide, nm_r dv (nm_r (nI_1 i) (next (_, _) ⟨rfl, fun v hv hvn => ?_⟩))⟩⟩
      show rt_I (upd la i _) v = fi_L c v
      by_cases ev : v = i
      · rw [ev, it_ui]
        have rm : nI (c / 5 ^ i) - nI (c / 5 ^ i) / 5 * 5 = nI (c / 5 ^ i % 5) := pk_rem (d := 5) hb (by decide) (by decide)
        have lt : c / 5 ^ i % 5 < 5 := Nat.mod_lt _ (by decide)
        have ti : (nI (c / 5 ^ i % 5)).toInt = ((c / 5 ^ i % 5 : Nat) : Int) := nI_toInt (by omega)
        rw [rm, it_neg (by rw [ti]; omega) (by rw [ti]; omega), ti]
        rfl
      · rw [it_un ev]; exact q2 v (by omega) hvn
    · refine br_t (nI_le (by omega) (by omega)) ⟨v1, nm_r (e' := upd la i 0) (by rw [c1]) ⟨by decide, nm_r dv (nm_r (nI_1 i) (next (_, _) ⟨rfl, fun v hv hvn => ?_⟩))⟩⟩
      show rt_I (upd la i _) v = fi_L c v
      have ev : v ≠ i := by omega
      rw [it_un ev]; exact q2 v (by omega) hvn
theorem yf_a {post : SY → Prop} {J : Int32 → Int32 → Int32 → Int32 → Int32 → (Nat → Int32) → (Nat → Int32) → (Nat → Int32) → (Nat → Int32) → (Nat → Int32) → (Nat → Int32) → (Nat → Int32) → (Nat → Int32) → Prop}
    {x1 x3 : Int32} {n c : Nat} (hn : n ≤ 5)
    (hJ : ∀ pn' : Nat → Int32, (∀ v, v < n → rt_I pn' v = rt_I la v) → J (nI (c + 1)) (nI n) fm kn bp dl st en rg la le pn' re) :
    ∃ f, wY_find_122 post J x1 (nI c) x3 1 (nI n) fm kn bp f 0 dl st en rg la le pn re := by
  refine loop_0 (fun f i (q : Nat → Int32) => wY_find_122 post J x1 (nI c) x3 1 (nI n) fm kn bp f (nI i) dl st en rg la le q re)
    (fun i q => ∀ v, v < i → rt_I q v = rt_I la v) n pn (fun v hv => absurd hv (by omega)) ?_ ?_
  · intro f q hq
    exact br_t (nI_le (Nat.le_refl _) (by omega)) (nm_r (nI_1 c) (hJ q hq))
  · intro f i q hi hq next
    have c1 : (nI i).toNatClampNeg = i := nI_clamp (by omega)
    have v1 : vp_in (nI i) 5 := vp_in_nI (by omega) (by omega)
    refine br_f (nI_ge hi (by omega)) (br_f (by decide) ⟨v1, v1, nm_r (e' := upd q i (la i)) (by rw [c1]) (nm_r (nI_1 i) (next _ fun v hv => ?_))⟩)
    by_cases ev : v = i
    · rw [ev, it_ui]; rfl
    · rw [it_un ev]; exact hq v (by omega)
theorem yf_b {post : SY → Prop} {J : Int32 → Int32 → Int32 → Int32 → Int32 → (Nat → Int32) → (Nat → Int32) → (Nat → Int32) → (Nat → Int32) → (Nat → Int32) → (Nat → Int32) → (Nat → Int32) → (Nat → Int32) → Prop}
    {x1 x3 : Int32} {n c : Nat} (hn : n ≤ 5)
    (hJ : ∀ pn' : Nat → Int32, (∀ v, v < n → (x3.toInt = bp.toInt ∧ rt_I pn v < rt_I la v ∧ rt_I pn' v = rt_I la v) ∨ (¬ (x3.toInt = bp.toInt ∧ rt_I pn v < rt_I la v) ∧ rt_I pn' v = rt_I pn v)) →
      J (nI (c + 1)) (nI n) fm kn bp dl st en rg la le pn' re) :
    ∃ f, wY_find_122 post J x1 (nI c) x3 0 (nI n) fm kn bp f 0 dl st en rg la le pn re := by
  refine loop_0 (fun f i (q : Nat → Int32) => wY_find_122 post J x1 (nI c) x3 0 (nI n) fm kn bp f (nI i) dl st en rg la le q re)
    (fun i q => (∀ v, v < i → (x3.toInt = bp.toInt ∧ rt_I pn v < rt_I la v ∧ rt_I q v = rt_I la v) ∨ (¬ (x3.toInt = bp.toInt ∧ rt_I pn v < rt_I la v) ∧ rt_I q v = rt_I pn v)) ∧ ∀ v, i ≤ v → q v = pn v)
    n pn ⟨fun v hv => absurd hv (by omega), fun _ _ => rfl⟩ ?_ ?_
  · intro f q hq
    exact br_t (nI_le (Nat.le_refl _) (by omega)) (nm_r (nI_1 c) (hJ q hq.1))
  · intro f i q hi hq next
    obtain ⟨q1, q2⟩ := hq
    have c1 : (nI i).toNatClampNeg = i := nI_clamp (by omega)
    have v1 : vp_in (nI i) 5 := vp_in_nI (by omega) (by omega)
    have qi : q i = pn i := q2 i (Nat.le_refl _)
    have keep : ¬ (x3.toInt = bp.toInt ∧ rt_I pn i < rt_I la i) →
        (∀ v, v < i + 1 → (x3.toInt = bp.toInt ∧ rt_I pn v < rt_I la v ∧ rt_I q v = rt_I la v) ∨ (¬ (x3.toInt = bp.toInt ∧ rt_I pn v < rt_I la v) ∧ rt_I q v = rt_I pn v)) ∧ ∀ v, i + 1 ≤ v → q v = pn v := by
      intro k
      refine ⟨fun v hv => ?_, fun v hv => q2 v (by omega)⟩
      by_cases ev : v = i
      · rw [ev]
        refine Or.inr ⟨k, ?_⟩
        show (q i).toInt = (pn i).toInt
        rw [qi]
      · exact q1 v (by omega)
    refine br_f (nI_ge hi (by omega)) (br_t rfl ?_)
    by_cases c : x3 = bp
    · refine br_t c ⟨v1, v1, ?_⟩
      rw [c1]
      by_cases c2 : la i ≤ q i
      · refine br_t c2 (nm_r (nI_1 i) (next q (keep fun z => ?_)))
        rw [qi, it_le] at c2
        have : rt_I pn i < rt_I la i := z.2
        have c3 : rt_I la i ≤ rt_I pn i := c2
        omega
      · refine br_f c2 ⟨v1, v1, nm_r (e' := upd q i (la i)) (by rw [c1]) (nm_r (nI_1 i) (next _ ⟨fun v hv => ?_, fun v hv => ?_⟩))⟩
        · by_cases ev : v = i
          · rw [ev]
            refine Or.inl ⟨by rw [c], ?_, by rw [it_ui]; rfl⟩
            rw [qi, it_le] at c2
            have c3 : ¬ rt_I la i ≤ rt_I pn i := c2
            omega
          · rw [it_un ev]; exact q1 v (by omega)
        · rw [pk_un (by omega)]; exact q2 v (by omega)
    · exact br_f c (nm_r (nI_1 i) (next q (keep fun z => c (it_eq.mpr z.1))))
theorem lo_VC {n : Nat} {W D : Nat → Nat → Int} {d L M : Nat → Int} {x : Int} (e : ∀ v, v < n → L v = M v) (h : lo_V n W D d L x) : lo_V n W D d M x := by
  obtain ⟨h1, h2, h3⟩ := h
  refine ⟨h1, h2, fun p => ⟨fun ok => (h3 p).mp ⟨ok.1, bf_feC (fun v hv => (e v hv).symm) ok.2⟩, fun hx => ?_⟩⟩
  have ok := (h3 p).mpr hx
  exact ⟨ok.1, bf_feC e ok.2⟩
theorem yf_72 {post : SY → Prop} {n m : Nat} {B : Int} {W D : Nat → Nat → Int} {x1 : Int32} (hx1 : x1 = nI (fi_all n)) (hc : rl_C n m dl st en rg B) (hB : B ≤ 8000)
    (hK : rb_K n m (rt_I dl) (rt_N st) (rt_N en) (rt_I rg) B W D)
    (h : ∀ (bp' : Int32) (la' le' pn' : Nat → Int32), se_l n W D (rt_I dl) bp'.toInt (rt_I pn') → post (nI n, nI m, 1, bp', dl, st, en, rg, la', le', pn', re)) :
    ∃ f, wY_find_72 post x1 f 0 (nI n) (nI m) kn 100 dl st en rg la le pn re := by
  subst hx1
  have hn1 := hc.1.1.1
  have hn := hc.1.1.2.1
  have hall : fi_all n ≤ 3125 := by
    have : n = 1 ∨ n = 2 ∨ n = 3 ∨ n = 4 ∨ n = 5 := by omega
    rcases this with e | e | e | e | e <;> subst e <;> decide
  refine loop_0 (fun f i (q : Int32 × (Nat → Int32) × (Nat → Int32) × (Nat → Int32)) => wY_find_72 post (nI (fi_all n)) f (nI i) (nI n) (nI m) kn q.1 dl st en rg q.2.1 q.2.2.1 q.2.2.2 re)
    (fun i q => fi_I n W D (rt_I dl) i q.1.toInt (rt_I q.2.2.2)) (fi_all n) (100, la, le, pn) (Or.inl ⟨rfl, fun a ha => absurd ha (by omega)⟩) ?_ ?_
  · intro f q hq
    obtain ⟨b, G, hs⟩ := se_have hK
    obtain ⟨e1, e2⟩ := fi_end hn1 hn hq hs
    refine br_t (nI_le (Nat.le_refl _) (by omega)) (h q.1 q.2.1 q.2.2.1 q.2.2.2 ?_)
    rw [e1]
    exact se_C (fun v hv => (e2 v hv).symm) hs
  · intro f i q hi hq next
    obtain ⟨bp, la, le, pn⟩ := q
    have hq : fi_I n W D (rt_I dl) i bp.toInt (rt_I pn) := hq
    have next : ∀ (bp' : Int32) (la' le' pn' : Nat → Int32), fi_I n W D (rt_I dl) (i + 1) bp'.toInt (rt_I pn') →
      wY_find_72 post (nI (fi_all n)) f (nI (i + 1)) (nI n) (nI m) kn bp' dl st en rg la' le' pn' re := fun bp' la' le' pn' z => next (bp', la', le', pn') z
    refine br_f (nI_ge hi (by omega)) (yw_wr hn (by omega) ?_)
    intro la' hla
    have hl : yl_b n la' := by
      intro v hv
      have := hla v hv
      unfold fi_L at this
      omega
    refine yl_leg hc hB hl (fun hg => ?_) (fun hg => ?_)
    · refine br_f (by decide) (yl_long hc hB hl hK hg ?_)
      intro y le' hy
      have hy' := lo_VC hla hy
      by_cases c : bp ≤ y
      · refine br_t c (br_t rfl (yf_b hn ?_))
        intro pn' hp
        refine next bp la' le' pn' (fi_ge hq hy' ?_ ?_)
        · rw [it_le] at c
          omega
        · intro v hv
          rw [← hla v hv]
          exact hp v hv
      · refine br_f c (br_f (by decide) (yf_a hn ?_))
        intro pn' hp
        refine next y la' le' pn' (fi_lt hq hy' ?_ ?_)
        · rw [it_le] at c
          omega
        · intro v hv
          rw [← hla v hv]
          exact hp v hv
    · refine br_t rfl (nm_r (nI_1 i) (next bp la' le pn (fi_keep hq fun p ok => hg ?_)))
      exact lo_leg hc.1 hK.2.1 (bf_feC (fun v hv => (hla v hv).symm) ok.2)
theorem yf_fi {post : SY → Prop} {n m : Nat} {B : Int} {W D : Nat → Nat → Int} (hc : rl_C n m dl st en rg B) (hB : B ≤ 8000)
    (hK : rb_K n m (rt_I dl) (rt_N st) (rt_N en) (rt_I rg) B W D) (hk : kn = 0 ∨ (kn = 1 ∧ se_l n W D (rt_I dl) bp.toInt (rt_I pn)))
    (h : ∀ (bp' : Int32) (la' le' pn' : Nat → Int32), se_l n W D (rt_I dl) bp'.toInt (rt_I pn') → post (nI n, nI m, 1, bp', dl, st, en, rg, la', le', pn', re)) :
    wpY_find post (nI n, nI m, kn, bp, dl, st, en, rg, la, le, pn, re) := by
  have hn1 := hc.1.1.1
  have hn := hc.1.1.2.1
  rcases hk with k | ⟨k, hs⟩
  · refine br_t k ?_
    refine pk_eq n 1 (fun e => ?_) (fun e1 => pk_eq n 2 (fun e => ?_) (fun e2 => pk_eq n 3 (fun e => ?_) (fun e3 => pk_eq n 4 (fun e => ?_) (fun e4 => ?_))))
    · exact yf_72 (by rw [e]; rfl) hc hB hK h
    · exact yf_72 (by rw [e]; rfl) hc hB hK h
    · exact yf_72 (by rw [e]; rfl) hc hB hK h
    · exact yf_72 (by rw [e]; rfl) hc hB hK h
    · have e : n = 5 := by omega
      exact yf_72 (by rw [e]; rfl) hc hB hK h
  · subst k
    exact br_f (by decide) (h bp la le pn hs)
end
section
variable {fn fm kn bp : Int32} {dl st en rg la le pn re : Nat → Int32}
theorem yr_85 {post : Int32 → SY → Prop} {J40 J49 : Int32 → (Nat → Int32) → (Nat → Int32) → (Nat → Int32) → (Nat → Int32) → (Nat → Int32) → (Nat → Int32) → (Nat → Int32) → (Nat → Int32) → Prop}
    {x1 x2 x3 z0 : Int32} {n m u i : Nat} {B b : Int} {W D : Nat → Nat → Int} {f0 : Nat → Int} (hc : rl_C n m dl st en rg B) (hB : B ≤ 2100) (hb : 0 ≤ b ∧ b ≤ 1000000) (hu : u < n)
    (hF : mw_F n m (rt_I dl) (rt_N st) (rt_N en) (rt_I rg) W D) (hi : i < m)
    (hI : re_I n m u (rt_N st) (rt_N en) (rt_I rg) W b i f0 (rt_I re)) (hz : z0.toInt = re_w u (rt_N st) (rt_I re) i)
    (hJ : ∀ re' : Nat → Int32, re_I n m u (rt_N st) (rt_N en) (rt_I rg) W b (i + 1) f0 (rt_I re') → J49 (nI (i + 1)) dl st en rg la le pn re') :
    wY_fewest_85 post J40 J49 x1 x2 x3 (nI i) z0 fn fm kn bp dl st en rg la le pn re := by
  have hn := hc.1.1.2.1
  have hm := hc.1.1.2.2
  have c1 : (nI i).toNatClampNeg = i := nI_clamp (by omega)
  have v1 : vp_in (nI i) 12 := vp_in_nI (by omega) (by omega)
  obtain ⟨x1', x2'⟩ := yx_en hc hi (N := 25) (by omega) (Nat.le_refl _)
  obtain ⟨s1, s2, s3, s4⟩ := hc.1.2.2 i hi
  unfold wY_fewest_85
  rw [c1]
  by_cases c : z0 < 0
  · refine br_t c (nm_r (nI_1 i) (hJ re (re_keep hc.1 hi hI (Or.inl ?_))))
    rw [it_lt, hz] at c
    exact c
  · have c' : 0 ≤ re_w u (rt_N st) (rt_I re) i := by
      rw [it_lt, hz, it_0] at c
      omega
    have zb : re_w u (rt_N st) (rt_I re) i ≤ b + 2100 * (i : Int) := by
      unfold re_w
      by_cases q : rt_N st i = u
      · rw [if_pos q]; omega
      · rw [if_neg q]; exact hI.2.2.2 (rt_N st i) s1
    have a1 : (z0 + rg i).toInt = re_w u (rt_N st) (rt_I re) i + rt_I rg i := by
      have := it_add (x := z0) (y := rg i) (by rw [hz]; show _ ≤ re_w u (rt_N st) (rt_I re) i + rt_I rg i; omega) (by rw [hz]; show re_w u (rt_N st) (rt_I re) i + rt_I rg i < _; omega)
      rw [this, hz]; rfl
    have put : (rt_I re (rt_N en i) < 0 ∨ re_w u (rt_N st) (rt_I re) i + rt_I rg i < rt_I re (rt_N en i)) →
        wY_fewest_132 post J40 J49 x1 x2 x3 (nI i) z0 fn fm kn bp dl st en rg la le pn re := by
      intro k
      refine ⟨v1, v1, by rw [c1]; exact x1', nm_r (e' := upd re (rt_N en i) (z0 + rg i)) (by rw [c1]; rfl) (nm_r (nI_1 i) (hJ _ ?_))⟩
      exact re_step hc.1 hB hb.1 hF hu hi hI c' k (by rw [it_ui]; exact a1) (fun x _ hx => it_un hx)
    refine br_f c ⟨v1, x1', ?_⟩
    by_cases c2 : re (rt_N en i) < 0
    · refine br_t c2 (put (Or.inl ?_))
      exact it_lt.mp c2
    · refine br_f c2 ⟨v1, v1, x1', ?_⟩
      have c2' : ¬ rt_I re (rt_N en i) < 0 := fun z => c2 (it_lt.mpr z)
      by_cases c3 : re (rt_N en i) ≤ z0 + rg i
      · refine br_t c3 (nm_r (nI_1 i) (hJ re (re_keep hc.1 hi hI (Or.inr ⟨by omega, ?_⟩))))
        rw [it_le, a1] at c3
        exact c3
      · refine br_f c3 (put (Or.inr ?_))
        rw [it_le, a1] at c3
        have c4 : ¬ rt_I re (rt_N en i) ≤ re_w u (rt_N st) (rt_I re) i + rt_I rg i := c3
        omega
theorem yr_49 {post : Int32 → SY → Prop} {J40 : Int32 → (Nat → Int32) → (Nat → Int32) → (Nat → Int32) → (Nat → Int32) → (Nat → Int32) → (Nat → Int32) → (Nat → Int32) → (Nat → Int32) → Prop}
    {x2 : Int32} {n m u R : Nat} {B b : Int} {W D : Nat → Nat → Int} (hc : rl_C n m dl st en rg B) (hB : B ≤ 2100) (hb : 0 ≤ b ∧ b ≤ 1000000) (hu : u < n)
    (hF : mw_F n m (rt_I dl) (rt_N st) (rt_N en) (rt_I rg) W D)
    (hI : re_I n m u (rt_N st) (rt_N en) (rt_I rg) W b 0 (rt_I re) (rt_I re))
    (hJ : ∀ re' : Nat → Int32, re_I n m u (rt_N st) (rt_N en) (rt_I rg) W b m (rt_I re) (rt_I re') → J40 (nI (R + 1)) dl st en rg la le pn re') :
    ∃ f, wY_fewest_49 post J40 (nI u) x2 (nI R) (nI n) (nI m) kn bp f 0 dl st en rg la le pn re := by
  have hn := hc.1.1.2.1
  have hm := hc.1.1.2.2
  refine loop_0 (fun f i (q : Nat → Int32) => wY_fewest_49 post J40 (nI u) x2 (nI R) (nI n) (nI m) kn bp f (nI i) dl st en rg la le pn q)
    (fun i q => re_I n m u (rt_N st) (rt_N en) (rt_I rg) W b i (rt_I re) (rt_I q)) m re hI ?_ ?_
  · intro f q hq
    exact br_t (nI_le (Nat.le_refl _) (by omega)) (nm_r (nI_1 R) (hJ q hq))
  · intro f i q hi hq next
    have c1 : (nI i).toNatClampNeg = i := nI_clamp (by omega)
    have v1 : vp_in (nI i) 12 := vp_in_nI (by omega) (by omega)
    obtain ⟨x1', x2'⟩ := yx_en hc hi (N := 25) (by omega) (Nat.le_refl _)
    obtain ⟨s1, s2, s3, s4⟩ := hc.1.2.2 i hi
    obtain ⟨e1, e2⟩ := hc.2 i hi
    refine br_f (nI_ge hi (by omega)) ⟨v1, ?_⟩
    rw [c1]
    by_cases c : rt_N st i = u
    · refine br_t (by rw [e1, c]) (yr_85 hc hB hb hu hF hi hq ?_ next)
      unfold re_w
      rw [if_pos c]; rfl
    · refine br_f (fun z => c ?_) ⟨v1, x2', yr_85 hc hB hb hu hF hi hq ?_ next⟩
      · rw [e1] at z
        exact (nI_eq (by omega) (by omega)).mp z
      · unfold re_w
        rw [if_neg c]; rfl
theorem yr_few {post : Int32 → SY → Prop} {n m u v : Nat} {B : Int} {W D : Nat → Nat → Int} (hc : rl_C n m dl st en rg B) (hB : B ≤ 2100) (hu : u < n) (hv : v < n)
    (hF : mw_F n m (rt_I dl) (rt_N st) (rt_N en) (rt_I rg) W D)
    (h0 : ∀ re' : Nat → Int32, W u v = 1000000 → post (-2) (nI n, nI m, kn, bp, dl, st, en, rg, la, le, pn, re'))
    (h1 : ∀ (y : Int32) (re' : Nat → Int32), W u v ≠ 1000000 → y.toInt = W u v → post y (nI n, nI m, kn, bp, dl, st, en, rg, la, le, pn, re')) :
    ∃ f, wY_fewest_20 post (nI u) (nI v) (nI n) (nI m) kn bp f 0 dl st en rg la le pn re := by
  have hn := hc.1.1.2.1
  have rounds : ∀ re : Nat → Int32, (∀ v, v < n → rt_I re v = -1) → ∃ f, wY_fewest_40 post (nI u) (nI v) (nI n) (nI m) kn bp f 0 dl st en rg la le pn re := by
    intro re hre
    refine loop_0 (fun f i (q : Nat → Int32) => wY_fewest_40 post (nI u) (nI v) (nI n) (nI m) kn bp f (nI i) dl st en rg la le pn q)
      (fun i q => re_R n u W i (rt_I q)) 6 re ⟨fun v hv => Or.inl (hre v hv), Or.inl (Nat.zero_le _), fun v hv => by have := hre v hv; omega⟩ ?_ ?_
    · intro f q hq
      have cv : (nI v).toNatClampNeg = v := nI_clamp (by omega)
      have vv : vp_in (nI v) 25 := vp_in_nI (by omega) (by omega)
      have w0 := (hF.1 u v hu hv).1
      refine br_t (nI_le (a := 6) (b := 6) (Nat.le_refl _) (by decide)) ⟨vv, ?_⟩
      rw [cv]
      rcases re_end hn hq v hv with ⟨e1, e2⟩ | ⟨e1, e2⟩
      · refine br_f (fun z => ?_) (h0 q e1)
        rw [it_le, it_0] at z
        have z' : 0 ≤ rt_I q v := z
        omega
      · refine br_t ?_ ⟨vv, h1 (q v) q e1 e2⟩
        rw [it_le, it_0]
        show 0 ≤ rt_I q v
        omega
    · intro f i q hi hq next
      refine br_f (nI_ge (b := 6) hi (by decide)) (yr_49 (b := 25200 * (i : Int)) hc hB ⟨by omega, by omega⟩ hu hF (re_start hq.1 hq.2.2) ?_)
      intro re' hr
      exact next re' (re_rnd hc.1 hF hu hq hr)
  refine loop_0 (fun f i (q : Nat → Int32) => wY_fewest_20 post (nI u) (nI v) (nI n) (nI m) kn bp f (nI i) dl st en rg la le pn q)
    (fun i q => ∀ v, v < i → rt_I q v = -1) 5 re (fun v hv => absurd hv (by omega)) ?_ ?_
  · intro f q hq
    exact br_t (nI_le (a := 5) (b := 5) (Nat.le_refl _) (by decide)) (rounds q fun v hv => hq v (by omega))
  · intro f i q hi hq next
    have c1 : (nI i).toNatClampNeg = i := nI_clamp (by omega)
    refine br_f (nI_ge (b := 5) hi (by decide)) ⟨vp_in_nI (by omega) (by omega), nm_r (e' := upd q i (-1)) (by rw [c1]) (nm_r (nI_1 i) (next _ fun v hv => ?_))⟩
    by_cases e : v = i
    · rw [e, it_ui]; rfl
    · rw [it_un e]; exact hq v (by omega)
end
section
variable {fn fm kn bp bc wc : Int32} {dl st en rg la le pn re fw sl pl : Nat → Int32}
theorem uq_A {n m : Nat} {d : Nat → Int} {s t : Nat → Nat} {r : Nat → Int} {W D W' D' : Nat → Nat → Int} {B : Int} (hC : rb_Ci n m d s t r B)
    (h : mw_F n m d s t r W D) (h' : mw_F n m d s t r W' D') : ∀ u v, u < n → v < n → W' u v ≠ 1000000 → W u v ≠ 1000000 ∧ W u v ≤ W' u v := by
  intro u v hu hv q
  refine h'.2.1 (fun u v w _ => W u v ≠ 1000000 ∧ W u v ≤ w) (fun i hi => h.2.2.1 i hi) ?_ u v hu hv q
  intro u k v w1 w2 l1 l2 hu hk hv _ _ a b
  obtain ⟨c1, c2⟩ := h.2.2.2.1 k u v hk hu hv a.1 b.1
  have a2 := a.2
  have b2 := b.2
  exact ⟨c1, by omega⟩
theorem uq_so {n m : Nat} {d : Nat → Int} {s t : Nat → Nat} {r : Nat → Int} {W D W' D' : Nat → Nat → Int} {B : Int} (hC : rb_Ci n m d s t r B)
    (h : mw_F n m d s t r W D) (h' : mw_F n m d s t r W' D') (so : mw_so n W) : mw_so n W' := by
  intro x hx e
  have := uq_A hC h h' x x hx hx (by omega)
  have := so x hx
  have := (h.1 x x hx hx).1
  omega
theorem uq_C {n m : Nat} {d : Nat → Int} {s t : Nat → Nat} {r : Nat → Int} {W D W' D' : Nat → Nat → Int} {B : Int} (hC : rb_Ci n m d s t r B)
    (h : mw_F n m d s t r W D) (h' : mw_F n m d s t r W' D') (so : mw_so n W) :
    ∀ u v, u < n → v < n → W' u v ≠ 1000000 → W u v ≠ 1000000 ∧ 1000000 * W u v - D u v + d u ≤ 1000000 * W' u v - D' u v + d u := by
  intro u v hu hv q
  obtain ⟨cC, cW⟩ := h.2.2.2.2 so
  refine h'.2.1 (fun u v w l => W u v ≠ 1000000 ∧ 1000000 * W u v - D u v + d u ≤ 1000000 * w - l + d u) (fun i hi => ⟨(h.2.2.1 i hi).1, ?_⟩) ?_ u v hu hv q
  · have c : 1000000 * W (s i) (t i) - D (s i) (t i) + d (s i) ≤ 1000000 * r i - d (t i) := cW i hi
    omega
  · intro u k v w1 w2 l1 l2 hu hk hv _ _ a b
    obtain ⟨c1, c2⟩ := cC k u v hk hu hv a.1 b.1
    have c2 : 1000000 * W u v - D u v + d u ≤ (1000000 * W u k - D u k + d u) + (1000000 * W k v - D k v + d k) := c2
    have a2 := a.2
    have b2 := b.2
    exact ⟨c1, by omega⟩
theorem uq_WD {n m : Nat} {d : Nat → Int} {s t : Nat → Nat} {r : Nat → Int} {W D W' D' : Nat → Nat → Int} {B : Int} (hC : rb_Ci n m d s t r B)
    (h : mw_F n m d s t r W D) (h' : mw_F n m d s t r W' D') (so : mw_so n W) :
    ∀ u v, u < n → v < n → (W u v ≠ 1000000 ↔ W' u v ≠ 1000000) ∧ (W u v ≠ 1000000 → W u v = W' u v ∧ D u v = D' u v) := by
  intro u v hu hv
  have so' := uq_so hC h h' so
  have a1 := uq_C hC h h' so u v hu hv
  have a2 := uq_C hC h' h so' u v hu hv
  refine ⟨⟨fun q => (a2 q).1, fun q => (a1 q).1⟩, fun q => ?_⟩
  have q' := (a2 q).1
  have b1 := (a1 q').2
  have b2 := (a2 q).2
  have b3 := (h.1 u v hu hv).2.2 q
  have b4 := (h'.1 u v hu hv).2.2 q'
  have b5 := hC.2.1 u hu
  omega
theorem uq_ok {n m : Nat} {d : Nat → Int} {s t : Nat → Nat} {r : Nat → Int} {W D W' D' : Nat → Nat → Int} {B : Int} (hC : rb_Ci n m d s t r B)
    (h : mw_F n m d s t r W D) (h' : mw_F n m d s t r W' D') (so : mw_so n W) {p : Int} {L : Nat → Int} (ok : bf_ok n W D d p L) : bf_ok n W' D' d p L := by
  refine ⟨ok.1, fun u v en => ?_⟩
  obtain ⟨hu, hv, ne, way⟩ := en
  obtain ⟨k1, k2⟩ := uq_WD hC h h' so u v hu hv
  have q := k1.mpr way
  obtain ⟨e1, e2⟩ := k2 q
  have := ok.2 u v ⟨hu, hv, ne, q⟩
  unfold bf_c at this ⊢
  rw [← e1, ← e2]
  exact this
theorem uq_se {n m : Nat} {d : Nat → Int} {s t : Nat → Nat} {r : Nat → Int} {W D W' D' : Nat → Nat → Int} {B : Int} (hC : rb_Ci n m d s t r B)
    (h : mw_F n m d s t r W D) (h' : mw_F n m d s t r W' D') (so : mw_so n W) {b : Int} {G : Nat → Int} (hs : se_l n W D d b G) : se_l n W' D' d b G := by
  obtain ⟨a1, a2, a3, a4⟩ := hs
  have so' := uq_so hC h h' so
  exact ⟨uq_ok hC h h' so a1, a2, fun L p l0 ok => a3 L p l0 (uq_ok hC h' h so' ok), fun L l0 ok => a4 L l0 (uq_ok hC h' h so' ok)⟩
theorem bf_mono {n : Nat} {W D : Nat → Nat → Int} {d : Nat → Int} {p q : Int} {L : Nat → Int} (hpq : p ≤ q) (ok : bf_ok n W D d p L) : bf_ok n W D d q L := by
  refine ⟨fun v hv => Int.le_trans (ok.1 v hv) hpq, fun u v en => ?_⟩
  have h := ok.2 u v en
  by_cases c : p < D u v
  · rw [bf_c1 c] at h
    have := bf_cb W D q u v
    omega
  · rw [bf_c0 c] at h
    rw [bf_c0 (by omega)]
    exact h
/-- what the reference remembers -/
def rl_K (n m : Nat) (dl st en rg : Nat → Int32) (kn bp : Int32) (pn : Nat → Int32) : Prop :=
  kn = 0 ∨ (kn = 1 ∧ ∀ W D, mw_F n m (rt_I dl) (rt_N st) (rt_N en) (rt_I rg) W D → mw_so n W → se_l n W D (rt_I dl) bp.toInt (rt_I pn))
theorem rl_K1 {n m : Nat} {B : Int} {W D : Nat → Nat → Int} (hc : rl_C n m dl st en rg B) (hF : mw_F n m (rt_I dl) (rt_N st) (rt_N en) (rt_I rg) W D) (so : mw_so n W)
    (hs : se_l n W D (rt_I dl) bp.toInt (rt_I pn)) : rl_K n m dl st en rg 1 bp pn :=
  Or.inr ⟨rfl, fun W' D' hF' _ => uq_se hc.1 hF hF' so hs⟩
theorem rl_up {n m : Nat} {B B' : Int} (hB : B ≤ B') (hc : rl_C n m dl st en rg B) : rl_C n m dl st en rg B' := by
  obtain ⟨⟨h1, h2, h3⟩, h4⟩ := hc
  refine ⟨⟨h1, h2, fun i hi => ?_⟩, h4⟩
  obtain ⟨a, b, c, e⟩ := h3 i hi
  exact ⟨a, b, c, by omega⟩
/-- both hold the same circuit; what the reference remembers is right -/
def i_Rel (k : Nat) (u : SX) (v : SY) : Prop :=
  ∃ (n m : Nat) (dl st en rg fw sl pl la le pn re : Nat → Int32) (kn bp : Int32),
    u = (nI n, nI m, dl, st, en, rg, fw, sl, pl) ∧ v = (nI n, nI m, kn, bp, dl, st, en, rg, la, le, pn, re) ∧
    rl_C n m dl st en rg ((k : Int) + 3) ∧ rl_K n m dl st en rg kn bp pn
theorem rl_mk {k n m : Nat} (hc : rl_C n m dl st en rg ((k : Int) + 3)) (hk : rl_K n m dl st en rg kn bp pn) :
    i_Rel k (nI n, nI m, dl, st, en, rg, fw, sl, pl) (nI n, nI m, kn, bp, dl, st, en, rg, la, le, pn, re) :=
  ⟨n, m, dl, st, en, rg, fw, sl, pl, la, le, pn, re, kn, bp, rfl, rfl, hc, hk⟩
theorem rl_m4 {k n m : Nat} (hc : rl_C n m dl st en rg ((k : Int) + 3)) (hk : rl_K n m dl st en rg kn bp pn) :
    i_Rel (k + 4) (nI n, nI m, dl, st, en, rg, fw, sl, pl) (nI n, nI m, kn, bp, dl, st, en, rg, la, le, pn, re) :=
  rl_mk (rl_up (by omega) hc) hk
/-- a wire taken out -/
def sh_t (a : Nat → Int32) (i j : Nat) : Nat → Int32 := fun x => if i ≤ x ∧ x < j then a (x + 1) else a x
theorem sh_0 (a : Nat → Int32) (i : Nat) : sh_t a i i = a := by
  funext x
  show (if i ≤ x ∧ x < i then a (x + 1) else a x) = a x
  rw [if_neg (by omega)]
theorem sh_s (a : Nat → Int32) {i j : Nat} (h : i ≤ j) : upd (sh_t a i j) j (sh_t a i j (j + 1)) = sh_t a i (j + 1) := by
  funext x
  show (if x = j then sh_t a i j (j + 1) else sh_t a i j x) = (if i ≤ x ∧ x < j + 1 then a (x + 1) else a x)
  have e : sh_t a i j (j + 1) = a (j + 1) := if_neg (by omega)
  by_cases c : x = j
  · rw [if_pos c, if_pos (by omega), e, c]
  · rw [if_neg c]
    show (if i ≤ x ∧ x < j then a (x + 1) else a x) = _
    by_cases c2 : i ≤ x ∧ x < j
    · rw [if_pos c2, if_pos (by omega)]
    · rw [if_neg c2, if_neg (by omega)]
theorem sh_a (a : Nat → Int32) (i j x : Nat) : sh_t a i j x = a x ∨ sh_t a i j x = a (x + 1) := by
  by_cases c : i ≤ x ∧ x < j
  · exact Or.inr (if_pos c)
  · exact Or.inl (if_neg c)
theorem sh_x (a : Nat → Int32) {i j x : Nat} (c : i ≤ x ∧ x < j) : sh_t a i j x = a (x + 1) := if_pos c
theorem sh_y (a : Nat → Int32) {i j x : Nat} (c : ¬ (i ≤ x ∧ x < j)) : sh_t a i j x = a x := if_neg c
theorem sh_C {n m i : Nat} {B : Int} (hc : rl_C n (m + 1) dl st en rg B) : rl_C n m dl (sh_t st i m) (sh_t en i m) (sh_t rg i m) B := by
  obtain ⟨⟨h1, h2, h3⟩, h4⟩ := hc
  have key : ∀ x, x < m → ∃ y, y < m + 1 ∧ sh_t st i m x = st y ∧ sh_t en i m x = en y ∧ sh_t rg i m x = rg y := by
    intro x hx
    by_cases c : i ≤ x ∧ x < m
    · exact ⟨x + 1, by omega, sh_x st c, sh_x en c, sh_x rg c⟩
    · exact ⟨x, by omega, sh_y st c, sh_y en c, sh_y rg c⟩
  refine ⟨⟨⟨h1.1, h1.2.1, by omega⟩, h2, fun x hx => ?_⟩, fun x hx => ?_⟩
  · obtain ⟨y, hy, e1, e2, e3⟩ := key x hx
    have := h3 y hy
    show (sh_t st i m x).toNatClampNeg < n ∧ (sh_t en i m x).toNatClampNeg < n ∧ 0 ≤ (sh_t rg i m x).toInt ∧ (sh_t rg i m x).toInt ≤ B
    rw [e1, e2, e3]
    exact this
  · obtain ⟨y, hy, e1, e2, e3⟩ := key x hx
    have := h4 y hy
    show sh_t st i m x = nI (sh_t st i m x).toNatClampNeg ∧ sh_t en i m x = nI (sh_t en i m x).toNatClampNeg
    rw [e1, e2]
    exact this
theorem xc_cut {post : Int32 → SX → Prop} {m i : Nat} (hm : m + 1 ≤ 12) (hi : i < m + 1)
    (h : post (nI m) (bc, nI m, dl, sh_t st i m, sh_t en i m, sh_t rg i m, fw, sl, pl)) :
    ∃ f, wX_cut_14 post bc (nI (m + 1)) f (nI (i + 1)) dl st en rg fw sl pl := by
  refine pk_loop (fun f l (q : (Nat → Int32) × (Nat → Int32) × (Nat → Int32)) => wX_cut_14 post bc (nI (m + 1)) f (nI l) dl q.1 q.2.1 q.2.2 fw sl pl)
    (fun l q => 1 ≤ l ∧ i ≤ l - 1 ∧ q = (sh_t st i (l - 1), sh_t en i (l - 1), sh_t rg i (l - 1))) (m + 1) (i + 1) (st, en, rg) (by omega)
    ⟨by omega, by omega, by show (st, en, rg) = (sh_t st i (i + 1 - 1), _, _); rw [show i + 1 - 1 = i from rfl, sh_0, sh_0, sh_0]⟩ ?_ ?_
  · intro f q hq
    obtain ⟨_, _, e⟩ := hq
    subst e
    exact br_t (nI_le (Nat.le_refl _) (by omega)) (nm_r (nI_pred m) h)
  · intro f l q hl hq next
    obtain ⟨g1, g2, e⟩ := hq
    subst e
    obtain ⟨j, rfl⟩ : ∃ j, l = j + 1 := ⟨l - 1, by omega⟩
    have ej : j + 1 - 1 = j := rfl
    rw [ej] at g2 ⊢
    have c1 : (nI (j + 1)).toNatClampNeg = j + 1 := nI_clamp (by omega)
    have c2 : (nI j).toNatClampNeg = j := nI_clamp (by omega)
    have p1 : nI (j + 1) - 1 = nI j := nI_pred j
    have v1 : vp_in (nI (j + 1)) 12 := vp_in_nI (by omega) (by omega)
    have v2 : vp_in (nI (j + 1) - 1) 12 := by rw [p1]; exact vp_in_nI (by omega) (by omega)
    refine br_f (nI_ge hl (by omega)) ⟨v1, v2, nm_r (e' := sh_t st i (j + 1)) (by rw [p1, c1, c2]; exact sh_s st g2) ⟨v1, v2, nm_r (e' := sh_t en i (j + 1)) (by rw [p1, c1, c2]; exact sh_s en g2)
      ⟨v1, v2, nm_r (e' := sh_t rg i (j + 1)) (by rw [p1, c1, c2]; exact sh_s rg g2) (nm_r (nI_1 (j + 1)) (next (_, _, _) ⟨by omega, by omega, rfl⟩))⟩⟩⟩
theorem yc_cut {post : Int32 → SY → Prop} {m i : Nat} (hm : m + 1 ≤ 12) (hi : i < m + 1)
    (h : post (nI m) (fn, nI m, 0, bp, dl, sh_t st i m, sh_t en i m, sh_t rg i m, la, le, pn, re)) :
    ∃ f, wY_cut_16 post fn (nI (m + 1)) kn bp f (nI i) dl st en rg la le pn re := by
  have pm : nI (m + 1) - 1 = nI m := nI_pred m
  refine pk_loop (fun f l (q : (Nat → Int32) × (Nat → Int32) × (Nat → Int32)) => wY_cut_16 post fn (nI (m + 1)) kn bp f (nI l) dl q.1 q.2.1 q.2.2 la le pn re)
    (fun l q => i ≤ l ∧ q = (sh_t st i l, sh_t en i l, sh_t rg i l)) m i (st, en, rg) (by omega) ⟨Nat.le_refl _, by rw [sh_0, sh_0, sh_0]⟩ ?_ ?_
  · intro f q hq
    obtain ⟨_, e⟩ := hq
    subst e
    exact br_t (by rw [pm]; exact nI_le (Nat.le_refl _) (by omega)) (nm_r pm h)
  · intro f j q hl hq next
    obtain ⟨g2, e⟩ := hq
    subst e
    have c2 : (nI j).toNatClampNeg = j := nI_clamp (by omega)
    have p1 : nI j + 1 = nI (j + 1) := nI_1 j
    have c1 : (nI (j + 1)).toNatClampNeg = j + 1 := nI_clamp (by omega)
    have v2 : vp_in (nI j) 12 := vp_in_nI (by omega) (by omega)
    have v1 : vp_in (nI j + 1) 12 := by rw [p1]; exact vp_in_nI (by omega) (by omega)
    refine br_f (by rw [pm]; exact nI_ge hl (by omega)) ⟨v1, v2, nm_r (e' := sh_t st i (j + 1)) (by rw [p1, c1, c2]; exact sh_s st g2) ⟨v1, v2, nm_r (e' := sh_t en i (j + 1)) (by rw [p1, c1, c2]; exact sh_s en g2)
      ⟨v1, v2, nm_r (e' := sh_t rg i (j + 1)) (by rw [p1, c1, c2]; exact sh_s rg g2) (nm_r p1 (next (_, _, _) ⟨by omega, rfl⟩))⟩⟩⟩
/-- a plan applied to the first i wires -/
def ap_r (pl st en rg : Nat → Int32) (i : Nat) : Nat → Int32 := fun j => if j < i then rg j + (pl (rt_N en j) - pl (rt_N st j)) else rg j
def ap_s (pl st en : Nat → Int32) : Nat → Int32
  | 0 => 0
  | i + 1 => ap_s pl st en i + (pl (rt_N en i) - pl (rt_N st i))
theorem ap_r0 (pl st en rg : Nat → Int32) : ap_r pl st en rg 0 = rg := by
  funext j
  show (if j < 0 then _ else rg j) = rg j
  rw [if_neg (by omega)]
theorem ap_rs (pl st en rg : Nat → Int32) (i : Nat) : upd (ap_r pl st en rg i) i (ap_r pl st en rg i i + (pl (rt_N en i) - pl (rt_N st i))) = ap_r pl st en rg (i + 1) := by
  funext j
  have e : ap_r pl st en rg i i = rg i := if_neg (by omega)
  show (if j = i then ap_r pl st en rg i i + (pl (rt_N en i) - pl (rt_N st i)) else ap_r pl st en rg i j) = (if j < i + 1 then rg j + (pl (rt_N en j) - pl (rt_N st j)) else rg j)
  by_cases c : j = i
  · rw [if_pos c, if_pos (by omega), e, c]
  · rw [if_neg c]
    show (if j < i then _ else rg j) = _
    by_cases c2 : j < i
    · rw [if_pos c2, if_pos (by omega)]
    · rw [if_neg c2, if_neg (by omega)]
theorem xa_app {post : Int32 → SX → Prop} {n m : Nat} {B : Int} (hc : rl_C n m dl st en rg B)
    (h : post (ap_s pl st en m) (bc, nI m, dl, st, en, ap_r pl st en rg m, fw, sl, pl)) :
    ∃ f, wX_apply_23 post bc (nI m) f 0 0 dl st en rg fw sl pl := by
  have hm := hc.1.1.2.2
  refine loop_0 (fun f i (q : Int32 × (Nat → Int32)) => wX_apply_23 post bc (nI m) f q.1 (nI i) dl st en q.2 fw sl pl)
    (fun i q => q = (ap_s pl st en i, ap_r pl st en rg i)) m (0, rg) (by rw [ap_r0]; rfl) ?_ ?_
  · intro f q hq
    subst hq
    exact br_t (nI_le (Nat.le_refl _) (by omega)) h
  · intro f i q hi hq next
    subst hq
    have c1 : (nI i).toNatClampNeg = i := nI_clamp (by omega)
    have v1 : vp_in (nI i) 12 := vp_in_nI (by omega) (by omega)
    obtain ⟨x1, x2⟩ := yx_en hc hi (Nat.le_refl 5) (by omega)
    exact br_f (nI_ge hi (by omega)) ⟨v1, by rw [c1]; exact x1, v1, by rw [c1]; exact x2, nm_r (e' := pl (rt_N en i) - pl (rt_N st i)) (by rw [c1]; rfl)
      ⟨v1, v1, nm_r (e' := ap_r pl st en rg (i + 1)) (by rw [c1]; exact ap_rs pl st en rg i) (nm_e (nm_r (nI_1 i) (next (_, _) rfl)))⟩⟩
theorem ya_app {post : Int32 → SY → Prop} {n m : Nat} {B : Int} (hc : rl_C n m dl st en rg B) (he : ∀ v, v < n → pn v = pl v)
    (h : post (ap_s pl st en m) (fn, nI m, 0, bp, dl, st, en, ap_r pl st en rg m, la, le, pn, re)) :
    ∃ f, wY_apply_18 post fn (nI m) kn bp f 0 0 dl st en rg la le pn re := by
  have hm := hc.1.1.2.2
  refine loop_0 (fun f i (q : Int32 × (Nat → Int32)) => wY_apply_18 post fn (nI m) kn bp f q.1 (nI i) dl st en q.2 la le pn re)
    (fun i q => q = (ap_s pl st en i, ap_r pl st en rg i)) m (0, rg) (by rw [ap_r0]; rfl) ?_ ?_
  · intro f q hq
    subst hq
    exact br_t (nI_le (Nat.le_refl _) (by omega)) h
  · intro f i q hi hq next
    subst hq
    have c1 : (nI i).toNatClampNeg = i := nI_clamp (by omega)
    have v1 : vp_in (nI i) 12 := vp_in_nI (by omega) (by omega)
    obtain ⟨x1, x2⟩ := yx_en hc hi (Nat.le_refl 5) (by omega)
    obtain ⟨s1, s2, _, _⟩ := hc.1.2.2 i hi
    exact br_f (nI_ge hi (by omega)) ⟨v1, by rw [c1]; exact x1, v1, by rw [c1]; exact x2, nm_r (e' := pl (rt_N en i) - pl (rt_N st i)) (by rw [c1, ← he _ s1, ← he _ s2]; rfl)
      ⟨v1, v1, nm_r (e' := ap_r pl st en rg (i + 1)) (by rw [c1]; exact ap_rs pl st en rg i) (nm_e (nm_r (nI_1 i) (next (_, _) rfl)))⟩⟩
theorem ap_C {n m : Nat} {B b : Int} {W D : Nat → Nat → Int} (hc : rl_C n m dl st en rg B) (hB : B ≤ 8000) (hF : mw_F n m (rt_I dl) (rt_N st) (rt_N en) (rt_I rg) W D)
    (hs : se_l n W D (rt_I dl) b (rt_I pl)) : rl_C n m dl st en (ap_r pl st en rg m) (B + 4) := by
  have leg := lo_leg hc.1 hF hs.1.2
  obtain ⟨⟨h1, h2, h3⟩, h4⟩ := hc
  refine ⟨⟨h1, h2, fun i hi => ?_⟩, h4⟩
  obtain ⟨s1, s2, s3, s4⟩ := h3 i hi
  have g1 := hs.2.1 (rt_N en i) s2
  have g2 := hs.2.1 (rt_N st i) s1
  have g3 := leg i hi
  refine ⟨s1, s2, ?_⟩
  have e : ap_r pl st en rg m i = rg i + (pl (rt_N en i) - pl (rt_N st i)) := if_pos hi
  have a1 : (pl (rt_N en i) - pl (rt_N st i)).toInt = rt_I pl (rt_N en i) - rt_I pl (rt_N st i) :=
    it_sub (by show _ ≤ rt_I pl (rt_N en i) - rt_I pl (rt_N st i); omega) (by show rt_I pl (rt_N en i) - rt_I pl (rt_N st i) < _; omega)
  have a2 : (rg i + (pl (rt_N en i) - pl (rt_N st i))).toInt = rt_I rg i + (rt_I pl (rt_N en i) - rt_I pl (rt_N st i)) := by
    have := it_add (x := rg i) (y := pl (rt_N en i) - pl (rt_N st i)) (by rw [a1]; show _ ≤ rt_I rg i + (rt_I pl (rt_N en i) - rt_I pl (rt_N st i)); omega)
      (by rw [a1]; show rt_I rg i + (rt_I pl (rt_N en i) - rt_I pl (rt_N st i)) < _; omega)
    rw [this, a1]; rfl
  show 0 ≤ (ap_r pl st en rg m i).toInt ∧ (ap_r pl st en rg m i).toInt ≤ B + 4
  rw [e, a2]
  omega
end
section
theorem i_up {k : Nat} {u : SX} {v : SY} (h : i_Rel k u v) : i_Rel (k + 4) u v := by
  obtain ⟨n, m, dl, st, en, rg, fw, sl, pl, la, le, pn, re, kn, bp, rfl, rfl, hc, hk⟩ := h
  exact rl_m4 hc hk
theorem rl_ini (n : Nat) (h1 : 1 ≤ n) (h5 : n ≤ 5) : i_Rel 1 (nI n, 0, (fun _ => 0), (fun _ => 0), (fun _ => 0), (fun _ => 0), (fun _ => 0), (fun _ => 0), (fun _ => 0))
    (nI n, 0, 0, 0, (fun _ => 0), (fun _ => 0), (fun _ => 0), (fun _ => 0), (fun _ => 0), (fun _ => 0), (fun _ => 0), (fun _ => 0)) := by
  refine rl_mk (m := 0) ⟨⟨⟨h1, h5, by omega⟩, fun v _ => ?_, fun i hi => absurd hi (by omega)⟩, fun i hi => absurd hi (by omega)⟩ (Or.inl rfl)
  show 0 ≤ (0 : Int32).toInt ∧ (0 : Int32).toInt ≤ 9
  exact ⟨by decide, by decide⟩
theorem i_vc0 (k0 : Int32) : wpX_init (fun u => wpY_init (fun v => i_Rel 1 u v) k0) k0 := by
  by_cases c1 : 1 ≤ k0
  · by_cases c2 : k0 ≤ 5
    · have c3 : ¬ k0 < 0 := by
        rw [it_le, it_1] at c1
        rw [it_lt, it_0]
        omega
      obtain ⟨j, hj, rfl⟩ := nI_of c3
      have d1 : 1 ≤ j := (nI_leI (a := 1) (b := j) (by decide) hj).mp c1
      have d2 : j ≤ 5 := (nI_leI (a := j) (b := 5) hj (by decide)).mp c2
      exact br_t c1 (br_t c2 (br_t c1 (br_t c2 (rl_ini j d1 d2))))
    · exact br_t c1 (br_f c2 (br_t c1 (br_f c2 (rl_ini 5 (by omega) (by omega)))))
  · exact br_f c1 (br_f c1 (rl_ini 1 (by omega) (by omega)))
theorem dl_C {n m j : Nat} {B : Int} {dl st en rg : Nat → Int32} {x : Int32} (hc : rl_C n m dl st en rg B) (h0 : 0 ≤ x.toInt) (h9 : x.toInt ≤ 9) : rl_C n m (upd dl j x) st en rg B := by
  obtain ⟨⟨h1, h2, h3⟩, h4⟩ := hc
  refine ⟨⟨h1, fun v hv => ?_, h3⟩, h4⟩
  by_cases e : v = j
  · rw [e, it_ui]; exact ⟨h0, h9⟩
  · rw [it_un e]; exact h2 v hv
theorem i_vc_delay {k : Nat} {u : SX} {v : SY} (I : i_Rel k u v) (hk : k + 4 ≤ 2049) (v1 : Int32) (v2 : Int32) : wpX_delay (fun r u' => wpY_delay (fun r' v' => r' = r ∧ i_Rel (k + 4) u' v') v v1 v2) u v1 v2 := by
  obtain ⟨n, m, dl, st, en, rg, fw, sl, pl, la, le, pn, re, kn, bp, rfl, rfl, hc, hkn⟩ := I
  have hn := hc.1.1.2.1
  unfold wpX_delay
  refine xi_blk hn (fun b => br_f (by decide) ?_) (fun b => br_t rfl ?_)
  · by_cases c1 : v2 < 0
    · refine br_t c1 ?_
      unfold wpY_delay
      exact yi_blk hn (fun _ => br_f (by decide) (br_t c1 ⟨rfl, rl_m4 hc hkn⟩)) (fun z => absurd b z)
    · refine br_f c1 ?_
      by_cases c2 : v2 ≤ 9
      · obtain ⟨j, hj, rfl⟩ := b
        have cj : (nI j).toNatClampNeg = j := nI_clamp (by omega)
        have vj : vp_in (nI j) 5 := vp_in_nI (by omega) (by omega)
        refine br_t c2 ⟨vj, nm_r (e' := upd dl j v2) (by rw [cj]) ?_⟩
        unfold wpY_delay
        refine yi_blk hn (fun _ => br_f (by decide) (br_f c1 (br_t c2 ⟨vj, nm_r (e' := upd dl j v2) (by rw [cj]) ⟨rfl, rl_m4 (dl_C hc ?_ ?_) (Or.inl rfl)⟩⟩))) (fun z => absurd ⟨j, hj, rfl⟩ z)
        · rw [it_lt, it_0] at c1
          omega
        · exact it_le.mp c2
      · refine br_f c2 ?_
        unfold wpY_delay
        exact yi_blk hn (fun _ => br_f (by decide) (br_f c1 (br_f c2 ⟨rfl, rl_m4 hc hkn⟩))) (fun z => absurd b z)
  · unfold wpY_delay
    exact yi_blk hn (fun z => absurd z b) (fun _ => br_t rfl ⟨rfl, rl_m4 hc hkn⟩)
theorem wi_C {n m a b : Nat} {B : Int} {dl st en rg : Nat → Int32} {x : Int32} (hm : m < 12) (hc : rl_C n m dl st en rg B) (hB : 3 ≤ B) (ha : a < n) (hb : b < n) (h0 : 0 ≤ x.toInt) (h9 : x.toInt ≤ 3) :
    rl_C n (m + 1) dl (upd st m (nI a)) (upd en m (nI b)) (upd rg m x) B := by
  obtain ⟨⟨h1, h2, h3⟩, h4⟩ := hc
  refine ⟨⟨⟨h1.1, h1.2.1, by omega⟩, h2, fun i hi => ?_⟩, fun i hi => ?_⟩
  · show (upd st m (nI a) i).toNatClampNeg < n ∧ (upd en m (nI b) i).toNatClampNeg < n ∧ 0 ≤ (upd rg m x i).toInt ∧ (upd rg m x i).toInt ≤ B
    by_cases e : i = m
    · rw [e, pk_us, pk_us, pk_us, nI_clamp (by omega), nI_clamp (by omega)]
      exact ⟨ha, hb, h0, by omega⟩
    · rw [pk_un e, pk_un e, pk_un e]
      exact h3 i (by omega)
  · show upd st m (nI a) i = nI (upd st m (nI a) i).toNatClampNeg ∧ upd en m (nI b) i = nI (upd en m (nI b) i).toNatClampNeg
    by_cases e : i = m
    · rw [e, pk_us, pk_us, nI_clamp (by omega), nI_clamp (by omega)]
      exact ⟨rfl, rfl⟩
    · rw [pk_un e, pk_un e]
      exact h4 i (by omega)
theorem i_vc_wire {k : Nat} {u : SX} {v : SY} (I : i_Rel k u v) (hk : k + 4 ≤ 2049) (v1 : Int32) (v2 : Int32) (v3 : Int32) : wpX_wire (fun r u' => wpY_wire (fun r' v' => r' = r ∧ i_Rel (k + 4) u' v') v v1 v2 v3) u v1 v2 v3 := by
  obtain ⟨n, m, dl, st, en, rg, fw, sl, pl, la, le, pn, re, kn, bp, rfl, rfl, hc, hkn⟩ := I
  have hn := hc.1.1.2.1
  have hm := hc.1.1.2.2
  unfold wpX_wire
  by_cases c0 : m < 12
  · have lt : nI m < 12 := nI_lt (b := 12) c0 (by decide)
    have ne : ¬ nI m = 12 := fun z => by have := (nI_eq (a := m) (b := 12) (by omega) (by decide)).mp z; omega
    refine br_t lt (xi_blk hn (fun b1 => br_f (by decide) ?_) (fun b1 => br_t rfl ?_))
    · refine xi_blk hn (fun b2 => br_f (by decide) ?_) (fun b2 => br_t rfl ?_)
      · by_cases c1 : v3 < 0
        · refine br_t c1 ?_
          unfold wpY_wire
          exact br_f ne (yi_blk hn (fun _ => br_f (by decide) (yi_blk hn (fun _ => br_f (by decide) (br_t c1 ⟨rfl, rl_m4 hc hkn⟩)) (fun z => absurd b2 z))) (fun z => absurd b1 z))
        · refine br_f c1 ?_
          by_cases c2 : v3 ≤ 3
          · obtain ⟨a, ha, rfl⟩ := b1
            obtain ⟨b, hb, rfl⟩ := b2
            have cj : (nI m).toNatClampNeg = m := nI_clamp (by omega)
            have vj : vp_in (nI m) 12 := vp_in_nI (by omega) (by omega)
            refine br_t c2 ⟨vj, nm_r (e' := upd st m (nI a)) (by rw [cj]) ⟨vj, nm_r (e' := upd en m (nI b)) (by rw [cj]) ⟨vj, nm_r (e' := upd rg m v3) (by rw [cj]) (nm_r (nI_1 m) ?_)⟩⟩⟩
            unfold wpY_wire
            refine br_f ne (yi_blk hn (fun _ => br_f (by decide) (yi_blk hn (fun _ => br_f (by decide) (br_f c1 (br_t c2 ?_))) (fun z => absurd ⟨b, hb, rfl⟩ z))) (fun z => absurd ⟨a, ha, rfl⟩ z))
            refine ⟨vj, nm_r (e' := upd st m (nI a)) (by rw [cj]) ⟨vj, nm_r (e' := upd en m (nI b)) (by rw [cj]) ⟨vj, nm_r (e' := upd rg m v3) (by rw [cj]) (nm_r (nI_1 m) ⟨nI_pred m, rl_m4 (wi_C c0 hc (by omega) ha hb ?_ ?_) (Or.inl rfl)⟩)⟩⟩⟩
            · rw [it_lt, it_0] at c1
              omega
            · exact it_le.mp c2
          · refine br_f c2 ?_
            unfold wpY_wire
            exact br_f ne (yi_blk hn (fun _ => br_f (by decide) (yi_blk hn (fun _ => br_f (by decide) (br_f c1 (br_f c2 ⟨rfl, rl_m4 hc hkn⟩))) (fun z => absurd b2 z))) (fun z => absurd b1 z))
      · unfold wpY_wire
        exact br_f ne (yi_blk hn (fun _ => br_f (by decide) (yi_blk hn (fun z => absurd z b2) (fun _ => br_t rfl ⟨rfl, rl_m4 hc hkn⟩))) (fun z => absurd b1 z))
    · unfold wpY_wire
      exact br_f ne (yi_blk hn (fun z => absurd z b1) (fun _ => br_t rfl ⟨rfl, rl_m4 hc hkn⟩))
  · have em : m = 12 := by omega
    have nlt : ¬ nI m < 12 := nI_nlt (a := m) (b := 12) (by omega) (by omega)
    refine br_f nlt ?_
    unfold wpY_wire
    exact br_t (by rw [em]; rfl) ⟨rfl, rl_m4 hc hkn⟩
theorem i_vc_cut {k : Nat} {u : SX} {v : SY} (I : i_Rel k u v) (hk : k + 4 ≤ 2049) (v1 : Int32) : wpX_cut (fun r u' => wpY_cut (fun r' v' => r' = r ∧ i_Rel (k + 4) u' v') v v1) u v1 := by
  obtain ⟨n, m, dl, st, en, rg, fw, sl, pl, la, le, pn, re, kn, bp, rfl, rfl, hc, hkn⟩ := I
  have hm := hc.1.1.2.2
  unfold wpX_cut
  refine xi_wir hm (fun b => br_f (by decide) ?_) (fun b => br_t rfl ?_)
  · obtain ⟨i, hi, rfl⟩ := b
    obtain ⟨m, rfl⟩ : ∃ q, m = q + 1 := ⟨m - 1, by omega⟩
    refine nm_r (nI_1 i) (xc_cut hm hi ?_)
    unfold wpY_cut
    refine br_f (nI_pos (by omega)) (br_t (nI_lt hi (by omega)) (yc_cut hm hi ⟨rfl, rl_m4 (sh_C hc) (Or.inl rfl)⟩))
  · unfold wpY_cut
    by_cases c : v1 < 0
    · exact br_t c ⟨rfl, rl_m4 hc hkn⟩
    · refine br_f c (br_f (fun z => b ?_) ⟨rfl, rl_m4 hc hkn⟩)
      obtain ⟨j, hj, rfl⟩ := nI_of c
      exact ⟨j, (nI_ltI hj (by omega)).mp z, rfl⟩
theorem i_vc_sound {k : Nat} {u : SX} {v : SY} (I : i_Rel k u v) (hk : k + 4 ≤ 2049) : wpX_sound (fun r u' => wpY_sound (fun r' v' => r' = r ∧ i_Rel (k + 4) u' v') v) u := by
  obtain ⟨n, m, dl, st, en, rg, fw, sl, pl, la, le, pn, re, kn, bp, rfl, rfl, hc, hkn⟩ := I
  have hn := hc.1.1.2.1
  unfold wpX_sound
  refine xm_ways hc (by omega) (by omega) ?_
  intro fw' sl' hF
  refine xe_cir hn (fun so => ⟨xn_b (Or.inr rfl), ?_⟩) (fun so => ⟨xn_b (Or.inl rfl), ?_⟩)
  · exact ys_so hc hF (fun la' le' _ _ => ⟨rfl, rl_m4 hc hkn⟩) (fun la' le' z => absurd so z)
  · exact ys_so hc hF (fun la' le' _ z => absurd z so) (fun la' le' _ => ⟨rfl, rl_m4 hc hkn⟩)
theorem lo_uq {n : Nat} {W D : Nat → Nat → Int} {d L : Nat → Int} {x y : Int} (h : lo_V n W D d L x) (h' : lo_V n W D d L y) : x = y := by
  have a := (h'.2.2 x).mp ((h.2.2 x).mpr (Int.le_refl _))
  have b := (h.2.2 y).mp ((h'.2.2 y).mpr (Int.le_refl _))
  omega
theorem la_0 {n m : Nat} {B : Int} {dl st en rg la : Nat → Int32} (hc : rl_C n m dl st en rg B) (h : ∀ v, v < 5 → rt_I la v = 0) :
    yl_b n la ∧ lo_g m (rt_N st) (rt_N en) (rt_I rg) (rt_I la) ∧ ∀ v, v < n → rt_I la v = 0 := by
  have hn := hc.1.1.2.1
  have z : ∀ v, v < n → rt_I la v = 0 := fun v hv => h v (by omega)
  refine ⟨fun v hv => by have := z v hv; omega, fun i hi => ?_, z⟩
  obtain ⟨s1, s2, s3, _⟩ := hc.1.2.2 i hi
  rw [z _ s1, z _ s2]
  omega
theorem i_vc_period {k : Nat} {u : SX} {v : SY} (I : i_Rel k u v) (hk : k + 4 ≤ 2049) : wpX_period (fun r u' => wpY_period (fun r' v' => r' = r ∧ i_Rel (k + 4) u' v') v) u := by
  obtain ⟨n, m, dl, st, en, rg, fw, sl, pl, la, le, pn, re, kn, bp, rfl, rfl, hc, hkn⟩ := I
  have hn := hc.1.1.2.1
  unfold wpX_period
  refine xm_ways hc (by omega) (by omega) ?_
  intro fw' sl' hF
  refine xe_cir hn (fun so => br_f (by decide) ?_) (fun so => br_t rfl ?_)
  · have hK : rb_K n m (rt_I dl) (rt_N st) (rt_N en) (rt_I rg) _ (rt_M fw') (rt_M sl') := ⟨hc.1, hF, so⟩
    refine xl_run hn ?_
    intro y hy
    have vy := xl_val hK hy
    unfold wpY_period
    refine ys_so hc hF (fun la' le' hla _ => br_f (by decide) ?_) (fun la' le' z => absurd so z)
    obtain ⟨l1, l2, l3⟩ := la_0 hc hla
    refine yl_long hc (by omega) l1 hK l2 ?_
    intro y' le'' hy'
    refine ⟨it_eq.mpr (lo_uq (lo_VC l3 hy') vy), rl_m4 hc hkn⟩
  · unfold wpY_period
    exact ys_so hc hF (fun la' le' _ z => absurd z so) (fun la' le' _ => br_t rfl ⟨rfl, rl_m4 hc hkn⟩)
theorem rl_kn {n m : Nat} {dl st en rg pn : Nat → Int32} {kn bp : Int32} {W D : Nat → Nat → Int} (hk : rl_K n m dl st en rg kn bp pn)
    (hF : mw_F n m (rt_I dl) (rt_N st) (rt_N en) (rt_I rg) W D) (so : mw_so n W) : kn = 0 ∨ (kn = 1 ∧ se_l n W D (rt_I dl) bp.toInt (rt_I pn)) := by
  rcases hk with z | ⟨z, h⟩
  · exact Or.inl z
  · exact Or.inr ⟨z, h W D hF so⟩
theorem i_vc_best {k : Nat} {u : SX} {v : SY} (I : i_Rel k u v) (hk : k + 4 ≤ 2049) : wpX_best (fun r u' => wpY_best (fun r' v' => r' = r ∧ i_Rel (k + 4) u' v') v) u := by
  obtain ⟨n, m, dl, st, en, rg, fw, sl, pl, la, le, pn, re, kn, bp, rfl, rfl, hc, hkn⟩ := I
  have hn := hc.1.1.2.1
  unfold wpX_best
  refine xm_ways hc (by omega) (by omega) ?_
  intro fw' sl' hF
  refine xe_cir hn (fun so => br_f (by decide) ?_) (fun so => br_t rfl ?_)
  · have hK : rb_K n m (rt_I dl) (rt_N st) (rt_N en) (rt_I rg) _ (rt_M fw') (rt_M sl') := ⟨hc.1, hF, so⟩
    refine xw_prop hK ?_
    intro y pl' hs
    unfold wpY_best
    refine ys_so hc hF (fun la' le' _ _ => br_f (by decide) ?_) (fun la' le' z => absurd so z)
    refine yf_fi hc (by omega) hK (rl_kn hkn hF so) ?_
    intro bp' la'' le'' pn' hs'
    exact ⟨it_eq.mpr (se_uniq hs' hs).1, rl_m4 hc (rl_K1 hc hF so hs')⟩
  · unfold wpY_best
    exact ys_so hc hF (fun la' le' _ z => absurd z so) (fun la' le' _ => br_t rfl ⟨rfl, rl_m4 hc hkn⟩)
theorem i_vc_lag {k : Nat} {u : SX} {v : SY} (I : i_Rel k u v) (hk : k + 4 ≤ 2049) (v1 : Int32) : wpX_lag (fun r u' => wpY_lag (fun r' v' => r' = r ∧ i_Rel (k + 4) u' v') v v1) u v1 := by
  obtain ⟨n, m, dl, st, en, rg, fw, sl, pl, la, le, pn, re, kn, bp, rfl, rfl, hc, hkn⟩ := I
  have hn := hc.1.1.2.1
  unfold wpX_lag
  refine xi_blk hn (fun b => br_f (by decide) ?_) (fun b => br_t rfl ?_)
  · refine xm_ways hc (by omega) (by omega) ?_
    intro fw' sl' hF
    refine xe_cir hn (fun so => br_f (by decide) ?_) (fun so => br_t rfl ?_)
    · have hK : rb_K n m (rt_I dl) (rt_N st) (rt_N en) (rt_I rg) _ (rt_M fw') (rt_M sl') := ⟨hc.1, hF, so⟩
      refine xw_prop hK ?_
      intro y pl' hs
      obtain ⟨j, hj, rfl⟩ := b
      have cj : (nI j).toNatClampNeg = j := nI_clamp (by omega)
      have vj : vp_in (nI j) 5 := vp_in_nI (by omega) (by omega)
      refine ⟨vj, ?_⟩
      unfold wpY_lag
      refine yi_blk hn (fun _ => br_f (by decide) ?_) (fun z => absurd ⟨j, hj, rfl⟩ z)
      refine ys_so hc hF (fun la' le' _ _ => br_f (by decide) ?_) (fun la' le' z => absurd so z)
      refine yf_fi hc (by omega) hK (rl_kn hkn hF so) ?_
      intro bp' la'' le'' pn' hs'
      refine ⟨vj, ?_, rl_m4 hc (rl_K1 hc hF so hs')⟩
      rw [cj]
      exact it_eq.mpr ((se_uniq hs' hs).2 j hj)
    · unfold wpY_lag
      refine yi_blk hn (fun _ => br_f (by decide) ?_) (fun z => absurd b z)
      exact ys_so hc hF (fun la' le' _ z => absurd z so) (fun la' le' _ => br_t rfl ⟨rfl, rl_m4 hc hkn⟩)
  · unfold wpY_lag
    exact yi_blk hn (fun z => absurd z b) (fun _ => br_t rfl ⟨rfl, rl_m4 hc hkn⟩)
theorem i_vc_reachable {k : Nat} {u : SX} {v : SY} (I : i_Rel k u v) (hk : k + 4 ≤ 2049) (v1 : Int32) : wpX_reachable (fun r u' => wpY_reachable (fun r' v' => r' = r ∧ i_Rel (k + 4) u' v') v v1) u v1 := by
  obtain ⟨n, m, dl, st, en, rg, fw, sl, pl, la, le, pn, re, kn, bp, rfl, rfl, hc, hkn⟩ := I
  have hn := hc.1.1.2.1
  unfold wpX_reachable
  refine xm_ways hc (by omega) (by omega) ?_
  intro fw' sl' hF
  refine xe_cir hn (fun so => br_f (by decide) ?_) (fun so => br_t rfl ?_)
  · have hK : rb_K n m (rt_I dl) (rt_N st) (rt_N en) (rt_I rg) _ (rt_M fw') (rt_M sl') := ⟨hc.1, hF, so⟩
    have hW : ∀ a b, a < n → b < n → 0 ≤ rt_M fw' a b ∧ (rt_M fw' a b ≠ 1000000 → rt_M fw' a b ≤ 256000) := fun a b ha hb => ⟨(hF.1 a b ha hb).1, fun q => ((hF.1 a b ha hb).2.2 q).1⟩
    refine xw_for hn hW ?_ ?_
    · intro pl' hd hG
      refine br_f (by decide) ?_
      unfold wpY_reachable
      refine ys_so hc hF (fun la' le' _ _ => br_f (by decide) ?_) (fun la' le' z => absurd so z)
      refine yf_fi hc (by omega) hK (rl_kn hkn hF so) ?_
      intro bp' la'' le'' pn' hs'
      refine br_f (fun z => ?_) ⟨rfl, rl_m4 hc (rl_K1 hc hF so hs')⟩
      have := hs'.2.2.1 (rt_I pl') v1.toInt hG.2.1 ⟨hd, hG.1⟩
      rw [it_lt] at z
      omega
    · intro pl' no
      refine br_t rfl ?_
      unfold wpY_reachable
      refine ys_so hc hF (fun la' le' _ _ => br_f (by decide) ?_) (fun la' le' z => absurd so z)
      refine yf_fi hc (by omega) hK (rl_kn hkn hF so) ?_
      intro bp' la'' le'' pn' hs'
      refine br_t ?_ ⟨rfl, rl_m4 hc (rl_K1 hc hF so hs')⟩
      apply Classical.byContradiction
      intro z
      rw [it_lt] at z
      exact no (rt_I pn') (fun v hv => (hs'.2.1 v hv).2) (bf_mono (by omega) hs'.1)
  · unfold wpY_reachable
    exact ys_so hc hF (fun la' le' _ z => absurd z so) (fun la' le' _ => br_t rfl ⟨rfl, rl_m4 hc hkn⟩)
theorem i_vc_apply {k : Nat} {u : SX} {v : SY} (I : i_Rel k u v) (hk : k + 4 ≤ 2049) : wpX_apply (fun r u' => wpY_apply (fun r' v' => r' = r ∧ i_Rel (k + 4) u' v') v) u := by
  obtain ⟨n, m, dl, st, en, rg, fw, sl, pl, la, le, pn, re, kn, bp, rfl, rfl, hc, hkn⟩ := I
  have hn := hc.1.1.2.1
  unfold wpX_apply
  refine xm_ways hc (by omega) (by omega) ?_
  intro fw' sl' hF
  refine xe_cir hn (fun so => br_f (by decide) ?_) (fun so => br_t rfl ?_)
  · have hK : rb_K n m (rt_I dl) (rt_N st) (rt_N en) (rt_I rg) _ (rt_M fw') (rt_M sl') := ⟨hc.1, hF, so⟩
    refine xw_prop hK ?_
    intro y pl' hs
    refine xa_app hc ?_
    unfold wpY_apply
    refine ys_so hc hF (fun la' le' _ _ => br_f (by decide) ?_) (fun la' le' z => absurd so z)
    refine yf_fi hc (by omega) hK (rl_kn hkn hF so) ?_
    intro bp' la'' le'' pn' hs'
    refine ya_app (pl := pl') hc (fun v hv => it_eq.mpr ((se_uniq hs' hs).2 v hv)) ⟨rfl, rl_mk ?_ (Or.inl rfl)⟩
    exact rl_up (by omega) (ap_C hc (by omega) hF hs)
  · unfold wpY_apply
    exact ys_so hc hF (fun la' le' _ z => absurd z so) (fun la' le' _ => br_t rfl ⟨rfl, rl_m4 hc hkn⟩)
theorem i_vc_registers {k : Nat} {u : SX} {v : SY} (I : i_Rel k u v) (hk : k + 4 ≤ 2049) (v1 : Int32) : wpX_registers (fun r => wpY_registers (fun r' => r' = r ∧ i_Rel (k + 4) u v) v v1) u v1 := by
  obtain ⟨n, m, dl, st, en, rg, fw, sl, pl, la, le, pn, re, kn, bp, rfl, rfl, hc, hkn⟩ := I
  have hm := hc.1.1.2.2
  unfold wpX_registers
  refine xi_wir hm (fun b => br_f (by decide) ?_) (fun b => br_t rfl ?_)
  · obtain ⟨i, hi, rfl⟩ := b
    have vi : vp_in (nI i) 12 := vp_in_nI (by omega) (by omega)
    refine ⟨vi, bk_c (n := m) (by omega) (fun _ => ⟨vi, rfl, rl_m4 hc hkn⟩) (fun z => absurd ⟨i, hi, rfl⟩ z) (fun z => absurd ⟨i, hi, rfl⟩ z)⟩
  · exact bk_c (n := m) (by omega) (fun z => absurd z b) (fun _ => ⟨rfl, rl_m4 hc hkn⟩) (fun _ => ⟨rfl, rl_m4 hc hkn⟩)
theorem i_vc_fewest {k : Nat} {u : SX} {v : SY} (I : i_Rel k u v) (hk : k + 4 ≤ 2049) (v1 : Int32) (v2 : Int32) : wpX_fewest (fun r u' => wpY_fewest (fun r' v' => r' = r ∧ i_Rel (k + 4) u' v') v v1 v2) u v1 v2 := by
  obtain ⟨n, m, dl, st, en, rg, fw, sl, pl, la, le, pn, re, kn, bp, rfl, rfl, hc, hkn⟩ := I
  have hn := hc.1.1.2.1
  unfold wpX_fewest
  refine xi_blk hn (fun b1 => br_f (by decide) ?_) (fun b1 => br_t rfl ?_)
  · refine xi_blk hn (fun b2 => br_f (by decide) ?_) (fun b2 => br_t rfl ?_)
    · refine xm_ways hc (by omega) (by omega) ?_
      intro fw' sl' hF
      obtain ⟨a, ha, rfl⟩ := b1
      obtain ⟨b, hb, rfl⟩ := b2
      have cp : (nI (a * 5 + b)).toNatClampNeg = a * 5 + b := nI_clamp (by omega)
      refine xp_pr a b ⟨vp_in_nI (by omega) (by omega), nm_r (e' := fw' (a * 5 + b)) (by rw [cp]) ?_⟩
      have both : (rt_M fw' a b = 1000000 ∨ rt_M fw' a b ≠ 1000000) := Classical.em _
      refine br_c (fun c => ?_) (fun c => ?_)
      · have c' : rt_M fw' a b = 1000000 := it_eq.mp c
        unfold wpY_fewest
        refine yi_blk hn (fun _ => br_f (by decide) (yi_blk hn (fun _ => br_f (by decide) ?_) (fun z => absurd ⟨b, hb, rfl⟩ z))) (fun z => absurd ⟨a, ha, rfl⟩ z)
        exact yr_few hc (by omega) ha hb hF (fun re' _ => ⟨rfl, rl_m4 hc hkn⟩) (fun y re' z => absurd c' z)
      · have c' : rt_M fw' a b ≠ 1000000 := fun z => c (it_eq.mpr z)
        unfold wpY_fewest
        refine yi_blk hn (fun _ => br_f (by decide) (yi_blk hn (fun _ => br_f (by decide) ?_) (fun z => absurd ⟨b, hb, rfl⟩ z))) (fun z => absurd ⟨a, ha, rfl⟩ z)
        exact yr_few hc (by omega) ha hb hF (fun re' z => absurd z c') (fun y re' _ ey => ⟨it_eq.mpr ey, rl_m4 hc hkn⟩)
    · unfold wpY_fewest
      exact yi_blk hn (fun _ => br_f (by decide) (yi_blk hn (fun z => absurd z b2) (fun _ => br_t rfl ⟨rfl, rl_m4 hc hkn⟩))) (fun z => absurd b1 z)
  · unfold wpY_fewest
    exact yi_blk hn (fun z => absurd z b1) (fun _ => br_t rfl ⟨rfl, rl_m4 hc hkn⟩)
end
