/-- the circuit as numbers -/
def rb_Ci (n m : Nat) (d : Nat → Int) (s t : Nat → Nat) (r : Nat → Int) (B : Int) : Prop :=
  (1 ≤ n ∧ n ≤ 5 ∧ m ≤ 12) ∧ (∀ v, v < n → 0 ≤ d v ∧ d v ≤ 9) ∧ (∀ i, i < m → s i < n ∧ t i < n ∧ 0 ≤ r i ∧ r i ≤ B)
def mw_p (W : Nat → Nat → Int) : Nat → Nat → Prop := fun u v => W u v ≠ 1000000
def mw_c (d : Nat → Int) (W D : Nat → Nat → Int) : Nat → Nat → Int := fun u v => 1000000 * W u v - D u v + d u
/-- whatever holds of the wires and of joins holds of the entries -/
def mw_U (n m : Nat) (d : Nat → Int) (s t : Nat → Nat) (r : Nat → Int) (W D : Nat → Nat → Int) : Prop :=
  ∀ Q : Nat → Nat → Int → Int → Prop, (∀ i, i < m → Q (s i) (t i) (r i) (d (s i) + d (t i))) →
    (∀ u k v w1 w2 l1 l2, u < n → k < n → v < n → 0 ≤ w1 → 0 ≤ w2 → Q u k w1 l1 → Q k v w2 l2 → Q u v (w1 + w2) (l1 + l2 - d k)) →
    ∀ u v, u < n → v < n → W u v ≠ 1000000 → Q u v (W u v) (D u v)
def mw_B (n : Nat) (d : Nat → Int) (b e : Int) (W D : Nat → Nat → Int) : Prop :=
  ∀ u v, u < n → v < n → 0 ≤ W u v ∧ W u v ≤ 1000000 ∧ (W u v ≠ 1000000 → W u v ≤ b ∧ d u ≤ D u v ∧ d v ≤ D u v ∧ D u v ≤ e)
def mw_so (n : Nat) (W : Nat → Nat → Int) : Prop := ∀ x, x < n → W x x ≠ 0
def mw_Sg (n m : Nat) (d : Nat → Int) (s t : Nat → Nat) (r : Nat → Int) (k : Nat) (b e : Int) (W D : Nat → Nat → Int) : Prop :=
  mw_B n d b e W D ∧ mw_U n m d s t r W D ∧ (∀ i, i < m → W (s i) (t i) ≠ 1000000 ∧ W (s i) (t i) ≤ r i) ∧ fw_C n k (mw_p W) W ∧
  (mw_so n W → fw_C n k (mw_p W) (mw_c d W D) ∧ ∀ i, i < m → mw_c d W D (s i) (t i) ≤ 1000000 * r i - d (t i))
def fw_P (u0 v0 : Nat) : Nat → Nat → Prop := fun u v => u < u0 ∨ (u = u0 ∧ v < v0)
theorem fw_P1 (u v a b : Nat) : fw_P u (v + 1) a b ↔ (fw_P u v a b ∨ (a = u ∧ b = v)) := by
  unfold fw_P
  constructor
  · intro h; omega
  · intro h; omega
theorem fw_Sc {n k : Nat} {P P' p0 p : Nat → Nat → Prop} {c0 c : Nat → Nat → Int} (h : ∀ a b, a < n → b < n → (P' a b ↔ P a b))
    (hS : fw_S n k P p0 c0 p c) : fw_S n k P' p0 c0 p c := by
  intro u v hu hv
  obtain ⟨s1, s2, s3, s4⟩ := hS u v hu hv
  exact ⟨fun z => s1 (fun y => z ((h u v hu hv).mpr y)), s2, fun z => s3 ((h u v hu hv).mp z), s4⟩
def mw_e (k : Nat) (e : Int) (u v : Nat) : Int := if u = k then (if v = k then 2 * e else 3 * e) else (if v = k then 3 * e else 6 * e)
theorem mw_e1 (k : Nat) (e : Int) : mw_e k e k k = 2 * e := by unfold mw_e; rw [if_pos rfl, if_pos rfl]
theorem mw_e2 {k u : Nat} (e : Int) (h : u ≠ k) : mw_e k e u k = 3 * e := by unfold mw_e; rw [if_neg h, if_pos rfl]
theorem mw_e3 {k v : Nat} (e : Int) (h : v ≠ k) : mw_e k e k v = 3 * e := by unfold mw_e; rw [if_pos rfl, if_neg h]
theorem mw_e4 {k u v : Nat} (e : Int) (h : u ≠ k) (h' : v ≠ k) : mw_e k e u v = 6 * e := by unfold mw_e; rw [if_neg h, if_neg h']
theorem mw_e6 (k : Nat) (e : Int) (he : 0 ≤ e) (u v : Nat) : mw_e k e u v ≤ 6 * e := by
  unfold mw_e
  by_cases h : u = k
  · rw [if_pos h]
    by_cases h' : v = k
    · rw [if_pos h']; omega
    · rw [if_neg h']; omega
  · rw [if_neg h]
    by_cases h' : v = k
    · rw [if_pos h']; omega
    · rw [if_neg h']; omega
theorem mw_e0 (k : Nat) (e : Int) (he : 0 ≤ e) (u v : Nat) : e ≤ mw_e k e u v := by
  unfold mw_e
  by_cases h : u = k
  · rw [if_pos h]
    by_cases h' : v = k
    · rw [if_pos h']; omega
    · rw [if_neg h']; omega
  · rw [if_neg h]
    by_cases h' : v = k
    · rw [if_pos h']; omega
    · rw [if_neg h']; omega
def mw_In (n m : Nat) (d : Nat → Int) (s t : Nat → Nat) (r : Nat → Int) (k u0 v0 : Nat) (e : Int) (W0 D0 W D : Nat → Nat → Int) : Prop :=
  fw_S n k (fw_P u0 v0) (mw_p W0) W0 (mw_p W) W ∧
  (W0 k k ≠ 0 → fw_S n k (fw_P u0 v0) (mw_p W0) (mw_c d W0 D0) (mw_p W) (mw_c d W D)) ∧
  (∀ u v, u < n → v < n → 0 ≤ W u v ∧ W u v ≤ 1000000 ∧ (W u v ≠ 1000000 → d u ≤ D u v ∧ d v ≤ D u v ∧ D u v ≤ mw_e k e u v ∧ (¬ fw_P u0 v0 u v → D u v ≤ e))) ∧
  mw_U n m d s t r W D
theorem mw_bW {n k : Nat} {P : Nat → Nat → Prop} {d : Nat → Int} {b e : Int} {W0 D0 W : Nat → Nat → Int} (hk : k < n) (hb : 0 ≤ b)
    (h0 : mw_B n d b e W0 D0) (i1 : fw_S n k P (mw_p W0) W0 (mw_p W) W) : ∀ a x, a < n → x < n → W a x ≠ 1000000 → W a x ≤ 2 * b := by
  intro a x ha hx q
  rcases (i1 a x ha hx).2.2.2 q with ⟨z, ez⟩ | ⟨z, z', ez⟩
  · have := ((h0 a x ha hx).2.2 z).1
    omega
  · have := ((h0 a k ha hk).2.2 z).1
    have := ((h0 k x hk hx).2.2 z').1
    omega
theorem mw_h0c {n k : Nat} {d : Nat → Int} {b e : Int} {W0 D0 : Nat → Nat → Int} (hk : k < n) (he : 0 ≤ e ∧ e ≤ 23328)
    (hd : ∀ x, x < n → 0 ≤ d x ∧ d x ≤ 9) (h0 : mw_B n d b e W0 D0) (q : W0 k k ≠ 0) : mw_p W0 k k → 0 ≤ mw_c d W0 D0 k k := by
  intro z
  show 0 ≤ 1000000 * W0 k k - D0 k k + d k
  obtain ⟨h1, _, h3⟩ := h0 k k hk hk
  have := h3 z
  have := hd k hk
  omega
/-- what an offer at (u, v) makes of the two tables -/
def mw_Of (n u v : Nat) (w l : Int) (W D W' D' : Nat → Nat → Int) : Prop :=
  (∀ a x, a < n → x < n → ¬ (a = u ∧ x = v) → W' a x = W a x ∧ D' a x = D a x) ∧
  ((W' u v = W u v ∧ D' u v = D u v ∧ ¬ (w < W u v ∨ (w = W u v ∧ D u v < l))) ∨
   ((w < W u v ∨ (w = W u v ∧ D u v < l)) ∧ W' u v = w ∧ D' u v = l))
theorem mw_step {n m k u v : Nat} {d : Nat → Int} {s t : Nat → Nat} {r : Nat → Int} {b e : Int} {W0 D0 W D W' D' : Nat → Nat → Int}
    (hk : k < n) (hu : u < n) (hv : v < n) (hb : 0 ≤ b ∧ 4 * b < 1000000) (he : 0 ≤ e ∧ e ≤ 23328)
    (hd : ∀ x, x < n → 0 ≤ d x ∧ d x ≤ 9) (h0 : mw_B n d b e W0 D0) (hI : mw_In n m d s t r k u v e W0 D0 W D)
    (q1 : W u k ≠ 1000000) (q2 : W k v ≠ 1000000)
    (hO : mw_Of n u v (W u k + W k v) (D u k + D k v - d k) W D W' D') : mw_In n m d s t r k u (v + 1) e W0 D0 W' D' := by
  obtain ⟨i1, i2, i3, i4⟩ := hI
  obtain ⟨ho, hn⟩ := hO
  have bW := mw_bW hk hb.1 h0 i1
  obtain ⟨w1l, w1u, w1⟩ := i3 u k hu hk
  obtain ⟨w2l, w2u, w2⟩ := i3 k v hk hv
  obtain ⟨w3l, w3u, w3⟩ := i3 u v hu hv
  have b1 := bW u k hu hk q1
  have b2 := bW k v hk hv q2
  obtain ⟨x1, y1, z1, t1⟩ := w1 q1
  obtain ⟨x2, y2, z2, t2⟩ := w2 q2
  have g1 := mw_e6 k e he.1 u k
  have g2 := mw_e6 k e he.1 k v
  have g3 := mw_e6 k e he.1 u v
  have dk := hd k hk
  have du := hd u hu
  have dv := hd v hv
  have hz : ¬ fw_P u v u v := by unfold fw_P; omega
  refine ⟨fw_step hk i1 (fun _ => (h0 k k hk hk).1) (fw_P1 u v) ?_ ?_ ?_ ?_, fun q => fw_step hk (i2 q) (mw_h0c hk he hd h0 q) (fw_P1 u v) ?_ ?_ ?_ ?_, ?_, ?_⟩
  · intro a x ha hx z
    obtain ⟨e1, e2⟩ := ho a x ha hx z
    exact ⟨by show W' a x ≠ 1000000 ↔ W a x ≠ 1000000; rw [e1], e1⟩
  · intro q
    have q' : W u v ≠ 1000000 := q
    have := bW u v hu hv q'
    show W' u v ≠ 1000000 ∧ W' u v ≤ W u v
    rcases hn with ⟨e1, _, _⟩ | ⟨im, e1, _⟩
    · rw [e1]; exact ⟨q', Int.le_refl _⟩
    · rw [e1]; constructor <;> omega
  · intro _ _
    show W' u v ≠ 1000000 ∧ W' u v ≤ W u k + W k v
    rcases hn with ⟨e1, _, ni⟩ | ⟨im, e1, _⟩
    · rw [e1]; constructor <;> omega
    · rw [e1]; constructor <;> omega
  · intro q
    rcases hn with ⟨e1, _, _⟩ | ⟨_, e1, _⟩
    · exact Or.inl ⟨by show W u v ≠ 1000000; rw [← e1]; exact q, e1⟩
    · exact Or.inr ⟨q1, q2, e1⟩
  · intro a x ha hx z
    obtain ⟨e1, e2⟩ := ho a x ha hx z
    refine ⟨by show W' a x ≠ 1000000 ↔ W a x ≠ 1000000; rw [e1], ?_⟩
    show 1000000 * W' a x - D' a x + d a = 1000000 * W a x - D a x + d a
    rw [e1, e2]
  · intro z
    have z' : W u v ≠ 1000000 := z
    have := bW u v hu hv z'
    obtain ⟨x3, y3, z3, t3⟩ := w3 z'
    show W' u v ≠ 1000000 ∧ 1000000 * W' u v - D' u v + d u ≤ 1000000 * W u v - D u v + d u
    rcases hn with ⟨e1, e2, _⟩ | ⟨im, e1, e2⟩
    · rw [e1, e2]; exact ⟨z', Int.le_refl _⟩
    · rw [e1, e2]; constructor <;> omega
  · intro _ _
    show W' u v ≠ 1000000 ∧ 1000000 * W' u v - D' u v + d u ≤ (1000000 * W u k - D u k + d u) + (1000000 * W k v - D k v + d k)
    rcases hn with ⟨e1, e2, ni⟩ | ⟨im, e1, e2⟩
    · have z' : W u v ≠ 1000000 := by omega
      obtain ⟨x3, y3, z3, t3⟩ := w3 z'
      rw [e1, e2]; constructor <;> omega
    · rw [e1, e2]; constructor <;> omega
  · intro z
    rcases hn with ⟨e1, e2, _⟩ | ⟨_, e1, e2⟩
    · refine Or.inl ⟨by show W u v ≠ 1000000; rw [← e1]; exact z, ?_⟩
      show 1000000 * W' u v - D' u v + d u = 1000000 * W u v - D u v + d u
      rw [e1, e2]
    · refine Or.inr ⟨q1, q2, ?_⟩
      show 1000000 * W' u v - D' u v + d u = (1000000 * W u k - D u k + d u) + (1000000 * W k v - D k v + d k)
      rw [e1, e2]; omega
  · intro a x ha hx
    by_cases z : a = u ∧ x = v
    · obtain ⟨za, zx⟩ := z
      rw [za, zx]
      have hz1 : fw_P u (v + 1) u v := (fw_P1 u v u v).mpr (Or.inr ⟨rfl, rfl⟩)
      rcases hn with ⟨e1, e2, _⟩ | ⟨im, e1, e2⟩
      · rw [e1, e2]
        exact ⟨w3l, w3u, fun q => ⟨(w3 q).1, (w3 q).2.1, (w3 q).2.2.1, fun y => absurd hz1 y⟩⟩
      · rw [e1, e2]
        refine ⟨by omega, by omega, fun _ => ⟨by omega, by omega, ?_, fun y => absurd hz1 y⟩⟩
        by_cases c1 : u = k
        · subst c1
          by_cases c2 : v = u
          · subst c2
            have := t1 hz
            rw [mw_e1]; omega
          · have := t2 hz
            rw [mw_e1] at z1
            rw [mw_e3 e c2]; omega
        · by_cases c2 : v = k
          · subst c2
            have := t1 hz
            rw [mw_e1] at z2
            rw [mw_e2 e c1]; omega
          · rw [mw_e2 e c1] at z1
            rw [mw_e3 e c2] at z2
            rw [mw_e4 e c1 c2]; omega
    · obtain ⟨e1, e2⟩ := ho a x ha hx z
      rw [e1, e2]
      obtain ⟨j1, j2, j3⟩ := i3 a x ha hx
      refine ⟨j1, j2, fun q => ⟨(j3 q).1, (j3 q).2.1, (j3 q).2.2.1, fun y => (j3 q).2.2.2 (fun y' => y ((fw_P1 u v a x).mpr (Or.inl y')))⟩⟩
  · intro Q hw hj a x ha hx q
    by_cases z : a = u ∧ x = v
    · obtain ⟨za, zx⟩ := z
      rw [za, zx] at q ⊢
      rcases hn with ⟨e1, e2, _⟩ | ⟨im, e1, e2⟩
      · rw [e1] at q
        rw [e1, e2]
        exact i4 Q hw hj u v hu hv q
      · rw [e1, e2]
        exact hj u k v _ _ _ _ hu hk hv w1l w2l (i4 Q hw hj u k hu hk q1) (i4 Q hw hj k v hk hv q2)
    · obtain ⟨e1, e2⟩ := ho a x ha hx z
      rw [e1] at q
      rw [e1, e2]
      exact i4 Q hw hj a x ha hx q
/-- a pair without a way over k -/
theorem mw_skip {n m k u v : Nat} {d : Nat → Int} {s t : Nat → Nat} {r : Nat → Int} {b e : Int} {W0 D0 W D : Nat → Nat → Int}
    (hk : k < n) (hu : u < n) (hv : v < n) (he : 0 ≤ e ∧ e ≤ 23328)
    (hd : ∀ x, x < n → 0 ≤ d x ∧ d x ≤ 9) (h0 : mw_B n d b e W0 D0) (hI : mw_In n m d s t r k u v e W0 D0 W D)
    (hq : ¬ (W u k ≠ 1000000 ∧ W k v ≠ 1000000)) : mw_In n m d s t r k u (v + 1) e W0 D0 W D := by
  obtain ⟨i1, i2, i3, i4⟩ := hI
  refine ⟨fw_step hk i1 (fun _ => (h0 k k hk hk).1) (fw_P1 u v) (fun _ _ _ _ _ => ⟨Iff.rfl, rfl⟩) (fun q => ⟨q, Int.le_refl _⟩) (fun a x => absurd ⟨a, x⟩ hq) (fun q => Or.inl ⟨q, rfl⟩),
    fun q => fw_step hk (i2 q) (mw_h0c hk he hd h0 q) (fw_P1 u v) (fun _ _ _ _ _ => ⟨Iff.rfl, rfl⟩) (fun q => ⟨q, Int.le_refl _⟩) (fun a x => absurd ⟨a, x⟩ hq) (fun q => Or.inl ⟨q, rfl⟩), ?_, i4⟩
  intro a x ha hx
  obtain ⟨j1, j2, j3⟩ := i3 a x ha hx
  exact ⟨j1, j2, fun q => ⟨(j3 q).1, (j3 q).2.1, (j3 q).2.2.1, fun y => (j3 q).2.2.2 (fun y' => y ((fw_P1 u v a x).mpr (Or.inl y')))⟩⟩
theorem mw_row {n m k u : Nat} {d : Nat → Int} {s t : Nat → Nat} {r : Nat → Int} {e : Int} {W0 D0 W D : Nat → Nat → Int}
    (hI : mw_In n m d s t r k u n e W0 D0 W D) : mw_In n m d s t r k (u + 1) 0 e W0 D0 W D := by
  obtain ⟨i1, i2, i3, i4⟩ := hI
  have hP : ∀ a x, a < n → x < n → (fw_P (u + 1) 0 a x ↔ fw_P u n a x) := by
    intro a x ha hx
    unfold fw_P
    constructor
    · intro h; omega
    · intro h; omega
  refine ⟨fw_Sc hP i1, fun q => fw_Sc hP (i2 q), ?_, i4⟩
  intro a x ha hx
  obtain ⟨j1, j2, j3⟩ := i3 a x ha hx
  exact ⟨j1, j2, fun q => ⟨(j3 q).1, (j3 q).2.1, (j3 q).2.2.1, fun y => (j3 q).2.2.2 (fun y' => y ((hP a x ha hx).mpr y'))⟩⟩
theorem mw_enter {n m k : Nat} {d : Nat → Int} {s t : Nat → Nat} {r : Nat → Int} {b e : Int} {W D : Nat → Nat → Int} (he : 0 ≤ e)
    (h0 : mw_B n d b e W D) (hU : mw_U n m d s t r W D) : mw_In n m d s t r k 0 0 e W D W D := by
  have hP : ∀ a x, ¬ fw_P 0 0 a x := by intro a x; unfold fw_P; omega
  refine ⟨fw_start hP, fun _ => fw_start hP, ?_, hU⟩
  intro a x ha hx
  obtain ⟨j1, j2, j3⟩ := h0 a x ha hx
  have := mw_e0 k e he a x
  exact ⟨j1, j2, fun q => ⟨(j3 q).2.1, (j3 q).2.2.1, Int.le_trans (j3 q).2.2.2 this, fun _ => (j3 q).2.2.2⟩⟩
theorem mw_stage {n m k : Nat} {d : Nat → Int} {s t : Nat → Nat} {r : Nat → Int} {b e B : Int} {W0 D0 W D : Nat → Nat → Int}
    (hc : rb_Ci n m d s t r B) (hk : k < n) (hb : 0 ≤ b) (he : 0 ≤ e ∧ e ≤ 23328) (h0 : mw_Sg n m d s t r k b e W0 D0)
    (hI : mw_In n m d s t r k n 0 e W0 D0 W D) : mw_Sg n m d s t r (k + 1) (2 * b) (6 * e) W D := by
  obtain ⟨_, hd, hs⟩ := hc
  obtain ⟨hB, hU, hw, hC, hso⟩ := h0
  obtain ⟨i1, i2, i3, i4⟩ := hI
  have hP : ∀ u v, u < n → v < n → fw_P n 0 u v := fun u v hu _ => Or.inl hu
  have bW := mw_bW hk hb hB i1
  refine ⟨?_, i4, ?_, fw_close hk hC i1 hP (fun _ => (hB k k hk hk).1), ?_⟩
  · intro u v hu hv
    obtain ⟨j1, j2, j3⟩ := i3 u v hu hv
    have := mw_e6 k e he.1 u v
    exact ⟨j1, j2, fun q => ⟨bW u v hu hv q, (j3 q).1, (j3 q).2.1, Int.le_trans (j3 q).2.2.1 this⟩⟩
  · intro i hi
    obtain ⟨s1, s2, _⟩ := hs i hi
    obtain ⟨q1, q2⟩ := hw i hi
    obtain ⟨q3, q4⟩ := (i1 (s i) (t i) s1 s2).2.1 q1
    exact ⟨q3, by omega⟩
  · intro q
    have so0 : mw_so n W0 := by
      intro x hx z
      obtain ⟨_, l⟩ := (i1 x x hx hx).2.1 (by show W0 x x ≠ 1000000; omega)
      have := q x hx
      have := (i3 x x hx hx).1
      omega
    obtain ⟨c1, c2⟩ := hso so0
    have j := i2 (so0 k hk)
    refine ⟨fw_close hk c1 j hP (mw_h0c hk he hd hB (so0 k hk)), ?_⟩
    intro i hi
    obtain ⟨s1, s2, _⟩ := hs i hi
    exact Int.le_trans ((j (s i) (t i) s1 s2).2.1 (hw i hi).1).2 (c2 i hi)
/-- the wires offered one by one -/
def mw_Wr (n m : Nat) (d : Nat → Int) (s t : Nat → Nat) (r : Nat → Int) (B : Int) (i : Nat) (W D : Nat → Nat → Int) : Prop :=
  mw_B n d B 18 W D ∧ mw_U n m d s t r W D ∧
  (∀ j, j < i → W (s j) (t j) ≠ 1000000 ∧ W (s j) (t j) ≤ r j ∧ mw_c d W D (s j) (t j) ≤ 1000000 * r j - d (t j))
theorem mw_wire {n m i : Nat} {d : Nat → Int} {s t : Nat → Nat} {r : Nat → Int} {B : Int} {W D W' D' : Nat → Nat → Int}
    (hc : rb_Ci n m d s t r B) (hi : i < m) (hB : B < 1000000) (hI : mw_Wr n m d s t r B i W D)
    (hO : mw_Of n (s i) (t i) (r i) (d (s i) + d (t i)) W D W' D') : mw_Wr n m d s t r B (i + 1) W' D' := by
  obtain ⟨_, hd, hs⟩ := hc
  obtain ⟨hs1, hs2, hs3, hs4⟩ := hs i hi
  obtain ⟨iB, iU, iW⟩ := hI
  obtain ⟨ho, hn⟩ := hO
  have d1 := hd (s i) hs1
  have d2 := hd (t i) hs2
  obtain ⟨w1, w2, w3⟩ := iB (s i) (t i) hs1 hs2
  refine ⟨?_, ?_, ?_⟩
  · intro a x ha hx
    by_cases z : a = s i ∧ x = t i
    · obtain ⟨za, zx⟩ := z
      rw [za, zx]
      rcases hn with ⟨e1, e2, _⟩ | ⟨im, e1, e2⟩
      · rw [e1, e2]; exact ⟨w1, w2, w3⟩
      · rw [e1, e2]; exact ⟨by omega, by omega, fun _ => ⟨by omega, by omega, by omega, by omega⟩⟩
    · obtain ⟨e1, e2⟩ := ho a x ha hx z
      rw [e1, e2]; exact iB a x ha hx
  · intro Q hw hj a x ha hx q
    by_cases z : a = s i ∧ x = t i
    · obtain ⟨za, zx⟩ := z
      rw [za, zx] at q ⊢
      rcases hn with ⟨e1, e2, _⟩ | ⟨im, e1, e2⟩
      · rw [e1] at q
        rw [e1, e2]
        exact iU Q hw hj (s i) (t i) hs1 hs2 q
      · rw [e1, e2]
        exact hw i hi
    · obtain ⟨e1, e2⟩ := ho a x ha hx z
      rw [e1] at q
      rw [e1, e2]
      exact iU Q hw hj a x ha hx q
  · intro j hj
    show W' (s j) (t j) ≠ 1000000 ∧ W' (s j) (t j) ≤ r j ∧ 1000000 * W' (s j) (t j) - D' (s j) (t j) + d (s j) ≤ 1000000 * r j - d (t j)
    have hold : j < i → W (s j) (t j) ≠ 1000000 ∧ W (s j) (t j) ≤ r j ∧ 1000000 * W (s j) (t j) - D (s j) (t j) + d (s j) ≤ 1000000 * r j - d (t j) := iW j
    obtain ⟨hj1, hj2, _, _⟩ := hs j (by omega)
    by_cases z : s j = s i ∧ t j = t i
    · obtain ⟨za, zx⟩ := z
      have hr : j < i ∨ j = i := by omega
      rcases hn with ⟨e1, e2, ni⟩ | ⟨im, e1, e2⟩
      · rcases hr with h | h
        · have := hold h
          rw [za, zx] at this ⊢
          rw [e1, e2]; exact this
        · subst h
          rw [e1, e2]
          have z' : W (s j) (t j) ≠ 1000000 := by omega
          have := w3 z'
          refine ⟨z', by omega, by omega⟩
      · rcases hr with h | h
        · have h1 := hold h
          rw [za, zx] at h1 ⊢
          have := w3 h1.1
          rw [e1, e2]
          refine ⟨by omega, by omega, by omega⟩
        · subst h
          rw [e1, e2]
          refine ⟨by omega, by omega, by omega⟩
    · obtain ⟨e1, e2⟩ := ho (s j) (t j) hj1 hj2 z
      have hr : j < i := by
        have : j ≠ i := fun h => z (by rw [h]; exact ⟨rfl, rfl⟩)
        omega
      rw [e1, e2]
      exact hold hr
theorem mw_wire0 {n m : Nat} {d : Nat → Int} {s t : Nat → Nat} {r : Nat → Int} {B : Int} {W D : Nat → Nat → Int}
    (h : ∀ u v, u < n → v < n → W u v = 1000000) : mw_Wr n m d s t r B 0 W D := by
  refine ⟨?_, ?_, fun j hj => absurd hj (by omega)⟩
  · intro u v hu hv
    have := h u v hu hv
    exact ⟨by omega, by omega, fun z => absurd this z⟩
  · intro Q _ _ u v hu hv z
    exact absurd (h u v hu hv) z
theorem mw_start {n m : Nat} {d : Nat → Int} {s t : Nat → Nat} {r : Nat → Int} {B : Int} {W D : Nat → Nat → Int}
    (h : mw_Wr n m d s t r B m W D) : mw_Sg n m d s t r 0 B 18 W D := by
  obtain ⟨h1, h2, h3⟩ := h
  exact ⟨h1, h2, fun i hi => ⟨(h3 i hi).1, (h3 i hi).2.1⟩, fun x _ _ hx => absurd hx (by omega), fun _ => ⟨fun x _ _ hx => absurd hx (by omega), fun i hi => (h3 i hi).2.2⟩⟩
/-- bounds by stage -/
def mw_b (B : Int) : Nat → Int
  | 0 => B
  | k + 1 => 2 * mw_b B k
def mw_g : Nat → Int
  | 0 => 18
  | k + 1 => 6 * mw_g k
theorem mw_bg {B : Int} (h0 : 0 ≤ B) (h1 : B ≤ 8000) : ∀ k, k ≤ 5 → 0 ≤ mw_b B k ∧ mw_b B k ≤ 256000 ∧ 0 ≤ mw_g k ∧ mw_g k ≤ 139968 ∧ (k < 5 → 4 * mw_b B k < 1000000 ∧ mw_g k ≤ 23328) := by
  intro k hk
  have : k = 0 ∨ k = 1 ∨ k = 2 ∨ k = 3 ∨ k = 4 ∨ k = 5 := by omega
  rcases this with h | h | h | h | h | h <;> subst h <;> simp only [mw_b, mw_g] <;> omega
/-- what measureWays leaves -/
def mw_F (n m : Nat) (d : Nat → Int) (s t : Nat → Nat) (r : Nat → Int) (W D : Nat → Nat → Int) : Prop :=
  mw_Sg n m d s t r n 256000 139968 W D
theorem mw_done {n m : Nat} {d : Nat → Int} {s t : Nat → Nat} {r : Nat → Int} {B : Int} {W D : Nat → Nat → Int} (hn : n ≤ 5) (h0 : 0 ≤ B) (h1 : B ≤ 8000)
    (h : mw_Sg n m d s t r n (mw_b B n) (mw_g n) W D) : mw_F n m d s t r W D := by
  obtain ⟨hB, hr⟩ := h
  obtain ⟨_, b2, _, b4, _⟩ := mw_bg h0 h1 n hn
  refine ⟨?_, hr⟩
  intro u v hu hv
  obtain ⟨j1, j2, j3⟩ := hB u v hu hv
  exact ⟨j1, j2, fun q => ⟨Int.le_trans (j3 q).1 b2, (j3 q).2.1, (j3 q).2.2.1, Int.le_trans (j3 q).2.2.2 b4⟩⟩
