/-- the plan of a code -/
def fi_L (c v : Nat) : Int := -(((c / 5 ^ v) % 5 : Nat) : Int)
theorem fi_L0 (c n : Nat) : bf_0 n (fi_L c) := by
  intro v _
  unfold fi_L
  omega
def fi_I (n : Nat) (W D : Nat → Nat → Int) (d : Nat → Int) (c : Nat) (best : Int) (plan : Nat → Int) : Prop :=
  (best = 100 ∧ ∀ a, a < c → ∀ p, ¬ bf_ok n W D d p (fi_L a)) ∨
  (best < 100 ∧ (∃ a, a < c ∧ bf_ok n W D d best (fi_L a)) ∧ (∀ a, a < c → ∀ p, bf_ok n W D d p (fi_L a) → best ≤ p) ∧
    ∀ v, v < n → (∃ a, a < c ∧ bf_ok n W D d best (fi_L a) ∧ fi_L a v = plan v) ∧ (∀ a, a < c → bf_ok n W D d best (fi_L a) → fi_L a v ≤ plan v))
theorem fi_keep {n c : Nat} {W D : Nat → Nat → Int} {d : Nat → Int} {best : Int} {plan : Nat → Int} (h : fi_I n W D d c best plan)
    (no : ∀ p, ¬ bf_ok n W D d p (fi_L c)) : fi_I n W D d (c + 1) best plan := by
  rcases h with ⟨e, h⟩ | ⟨h1, ⟨a, ha, ok⟩, h3, h4⟩
  · refine Or.inl ⟨e, fun a ha p => ?_⟩
    by_cases z : a = c
    · rw [z]; exact no p
    · exact h a (by omega) p
  · refine Or.inr ⟨h1, ⟨a, by omega, ok⟩, fun a ha p q => ?_, fun v hv => ⟨?_, fun a ha q => ?_⟩⟩
    · by_cases z : a = c
      · rw [z] at q; exact absurd q (no p)
      · exact h3 a (by omega) p q
    · obtain ⟨x, hx, y⟩ := (h4 v hv).1
      exact ⟨x, by omega, y⟩
    · by_cases z : a = c
      · rw [z] at q; exact absurd q (no _)
      · exact (h4 v hv).2 a (by omega) q
theorem fi_lt {n c : Nat} {W D : Nat → Nat → Int} {d : Nat → Int} {best x : Int} {plan plan' : Nat → Int} (h : fi_I n W D d c best plan)
    (hx : lo_V n W D d (fi_L c) x) (hlt : x < best) (hp : ∀ v, v < n → plan' v = fi_L c v) : fi_I n W D d (c + 1) x plan' := by
  have ok : bf_ok n W D d x (fi_L c) := (hx.2.2 x).mpr (Int.le_refl _)
  have old : ∀ a, a < c → ∀ p, bf_ok n W D d p (fi_L a) → x < p := by
    intro a ha p q
    rcases h with ⟨_, h⟩ | ⟨_, _, h3, _⟩
    · exact absurd q (h a ha p)
    · have := h3 a ha p q
      omega
  refine Or.inr ⟨by have := hx.2.1; omega, ⟨c, by omega, ok⟩, fun a ha p q => ?_, fun v hv => ⟨⟨c, by omega, ok, (hp v hv).symm⟩, fun a ha q => ?_⟩⟩
  · by_cases z : a = c
    · rw [z] at q; exact (hx.2.2 p).mp q
    · have := old a (by omega) p q
      omega
  · by_cases z : a = c
    · rw [z, hp v hv]; exact Int.le_refl _
    · have := old a (by omega) x q
      omega
theorem fi_ge {n c : Nat} {W D : Nat → Nat → Int} {d : Nat → Int} {best x : Int} {plan plan' : Nat → Int} (h : fi_I n W D d c best plan)
    (hx : lo_V n W D d (fi_L c) x) (hge : ¬ x < best) (hp : ∀ v, v < n → (x = best ∧ plan v < fi_L c v ∧ plan' v = fi_L c v) ∨ (¬ (x = best ∧ plan v < fi_L c v) ∧ plan' v = plan v)) :
    fi_I n W D d (c + 1) best plan' := by
  have := hx.2.1
  rcases h with ⟨e, h⟩ | ⟨h1, ⟨a, ha, ok⟩, h3, h4⟩
  · omega
  · refine Or.inr ⟨h1, ⟨a, by omega, ok⟩, fun a ha p q => ?_, fun v hv => ⟨?_, fun a ha q => ?_⟩⟩
    · by_cases z : a = c
      · rw [z] at q
        have := (hx.2.2 p).mp q
        omega
      · exact h3 a (by omega) p q
    · rcases hp v hv with ⟨q1, q2, q3⟩ | ⟨q1, q3⟩
      · exact ⟨c, by omega, (hx.2.2 best).mpr (by omega), q3.symm⟩
      · obtain ⟨y, hy, y1, y2⟩ := (h4 v hv).1
        exact ⟨y, by omega, y1, by rw [y2, q3]⟩
    · by_cases z : a = c
      · rw [z] at q ⊢
        have := (hx.2.2 best).mp q
        rcases hp v hv with ⟨q1, q2, q3⟩ | ⟨q1, q3⟩
        · rw [q3]; exact Int.le_refl _
        · omega
      · have := (h4 v hv).2 a (by omega) q
        rcases hp v hv with ⟨q1, q2, q3⟩ | ⟨q1, q3⟩
        · omega
        · omega
def fi_all (n : Nat) : Nat := if n = 1 then 5 else if n = 2 then 25 else if n = 3 then 125 else if n = 4 then 625 else 3125
theorem fi_code (n : Nat) (h1 : 1 ≤ n) (h5 : n ≤ 5) (G : Nat → Int) (h : ∀ v, v < n → -4 ≤ G v ∧ G v ≤ 0) : ∃ c, c < fi_all n ∧ ∀ v, v < n → fi_L c v = G v := by
  have one : ∀ v, ∃ x : Nat, x ≤ 4 ∧ (v < n → (x : Int) = -(G v)) ∧ (¬ v < n → x = 0) := by
    intro v
    by_cases hv : v < n
    · have := h v hv
      exact ⟨(-(G v)).toNat, by omega, fun _ => by omega, fun z => absurd hv z⟩
    · exact ⟨0, by omega, fun z => absurd z hv, fun _ => rfl⟩
  obtain ⟨x0, a0, b0, c0⟩ := one 0
  obtain ⟨x1, a1, b1, c1⟩ := one 1
  obtain ⟨x2, a2, b2, c2⟩ := one 2
  obtain ⟨x3, a3, b3, c3⟩ := one 3
  obtain ⟨x4, a4, b4, c4⟩ := one 4
  refine ⟨x0 + 5 * x1 + 25 * x2 + 125 * x3 + 625 * x4, ?_, ?_⟩
  · have : n = 1 ∨ n = 2 ∨ n = 3 ∨ n = 4 ∨ n = 5 := by omega
    rcases this with e | e | e | e | e <;> subst e <;> simp only [fi_all] <;> simp <;> omega
  · intro v hv
    have : v = 0 ∨ v = 1 ∨ v = 2 ∨ v = 3 ∨ v = 4 := by omega
    rcases this with e | e | e | e | e
    · subst e
      have := b0 hv
      have q : (x0 + 5 * x1 + 25 * x2 + 125 * x3 + 625 * x4) / 5 ^ 0 % 5 = x0 := by rw [Nat.pow_zero, Nat.div_one]; omega
      unfold fi_L
      rw [q]; omega
    · subst e
      have := b1 hv
      have q : (x0 + 5 * x1 + 25 * x2 + 125 * x3 + 625 * x4) / 5 ^ 1 % 5 = x1 := by rw [show 5 ^ 1 = 5 from rfl]; omega
      unfold fi_L
      rw [q]; omega
    · subst e
      have := b2 hv
      have q : (x0 + 5 * x1 + 25 * x2 + 125 * x3 + 625 * x4) / 5 ^ 2 % 5 = x2 := by rw [show 5 ^ 2 = 25 from rfl]; omega
      unfold fi_L
      rw [q]; omega
    · subst e
      have := b3 hv
      have q : (x0 + 5 * x1 + 25 * x2 + 125 * x3 + 625 * x4) / 5 ^ 3 % 5 = x3 := by rw [show 5 ^ 3 = 125 from rfl]; omega
      unfold fi_L
      rw [q]; omega
    · subst e
      have := b4 hv
      have q : (x0 + 5 * x1 + 25 * x2 + 125 * x3 + 625 * x4) / 5 ^ 4 % 5 = x4 := by rw [show 5 ^ 4 = 625 from rfl]; omega
      unfold fi_L
      rw [q]; omega
theorem fi_end {n : Nat} {W D : Nat → Nat → Int} {d : Nat → Int} {best B : Int} {plan G : Nat → Int} (h1 : 1 ≤ n) (h5 : n ≤ 5) (h : fi_I n W D d (fi_all n) best plan)
    (hs : se_l n W D d B G) : best = B ∧ ∀ v, v < n → plan v = G v := by
  obtain ⟨c, hc, ec⟩ := fi_code n h1 h5 G hs.2.1
  have okc : bf_ok n W D d B (fi_L c) := ⟨hs.1.1, bf_feC (fun v hv => (ec v hv).symm) hs.1.2⟩
  rcases h with ⟨_, no⟩ | ⟨_, ⟨a, ha, ok⟩, h3, h4⟩
  · exact absurd okc (no c hc B)
  · have e1 := h3 c hc B okc
    have e2 := hs.2.2.1 (fi_L a) best (fi_L0 a n) ok
    have e : best = B := by omega
    refine ⟨e, fun v hv => ?_⟩
    subst e
    obtain ⟨⟨x, hx, x1, x2⟩, y⟩ := h4 v hv
    have z1 := y c hc okc
    have z2 := hs.2.2.2 (fi_L x) (fi_L0 x n) x1 v hv
    rw [ec v hv] at z1
    omega
/-- the reference's search of the fewest registers from u -/
def re_A (n u : Nat) (W : Nat → Nat → Int) (f : Nat → Int) : Prop := ∀ v, v < n → f v = -1 ∨ (W u v ≠ 1000000 ∧ W u v ≤ f v)
def re_F (u : Nat) (W : Nat → Nat → Int) (f : Nat → Int) (v : Nat) : Prop := (W u v = 1000000 ∧ f v = -1) ∨ (W u v ≠ 1000000 ∧ f v = W u v)
def re_I (n m u : Nat) (s t : Nat → Nat) (r : Nat → Int) (W : Nat → Nat → Int) (b : Int) (i : Nat) (f0 f : Nat → Int) : Prop :=
  re_A n u W f ∧ (∀ v, v < n → 0 ≤ f0 v → 0 ≤ f v ∧ f v ≤ f0 v) ∧
  (∀ j, j < i → (s j = u → 0 ≤ f (t j) ∧ f (t j) ≤ r j) ∧ (s j ≠ u → 0 ≤ f0 (s j) → 0 ≤ f (t j) ∧ f (t j) ≤ f0 (s j) + r j)) ∧
  (∀ v, v < n → f v ≤ b + 2100 * i)
theorem re_start {n m u : Nat} {s t : Nat → Nat} {r : Nat → Int} {W : Nat → Nat → Int} {b : Int} {f : Nat → Int} (hA : re_A n u W f) (hb : ∀ v, v < n → f v ≤ b) :
    re_I n m u s t r W b 0 f f :=
  ⟨hA, fun v _ h => ⟨h, Int.le_refl _⟩, fun j hj => absurd hj (by omega), fun v hv => by have := hb v hv; omega⟩
/-- the wire's way, as the reference takes it -/
def re_w (u : Nat) (s : Nat → Nat) (f : Nat → Int) (i : Nat) : Int := if s i = u then 0 else f (s i)
theorem re_keep {n m u i : Nat} {d : Nat → Int} {s t : Nat → Nat} {r : Nat → Int} {B b : Int} {W : Nat → Nat → Int} {f0 f : Nat → Int} (hC : rb_Ci n m d s t r B) (hi : i < m)
    (hI : re_I n m u s t r W b i f0 f) (h : re_w u s f i < 0 ∨ (0 ≤ f (t i) ∧ f (t i) ≤ re_w u s f i + r i)) : re_I n m u s t r W b (i + 1) f0 f := by
  obtain ⟨s1, s2, s3, s4⟩ := hC.2.2 i hi
  obtain ⟨i1, i2, i3, i4⟩ := hI
  refine ⟨i1, i2, fun j hj => ?_, fun v hv => by have := i4 v hv; omega⟩
  by_cases e : j = i
  · rw [e]
    unfold re_w at h
    by_cases q : s i = u
    · rw [if_pos q] at h
      exact ⟨fun _ => by omega, fun z => absurd q z⟩
    · rw [if_neg q] at h
      refine ⟨fun z => absurd z q, fun _ z => ?_⟩
      have := i2 (s i) s1 z
      omega
  · exact i3 j (by omega)
theorem re_step {n m u i : Nat} {d : Nat → Int} {s t : Nat → Nat} {r : Nat → Int} {B b : Int} {W D : Nat → Nat → Int} {f0 f f' : Nat → Int} (hC : rb_Ci n m d s t r B) (hB : B ≤ 2100) (hb : 0 ≤ b)
    (hF : mw_F n m d s t r W D) (hu : u < n) (hi : i < m) (hI : re_I n m u s t r W b i f0 f) (h1 : 0 ≤ re_w u s f i) (h2 : f (t i) < 0 ∨ re_w u s f i + r i < f (t i))
    (e1 : f' (t i) = re_w u s f i + r i) (e2 : ∀ x, x < n → x ≠ t i → f' x = f x) : re_I n m u s t r W b (i + 1) f0 f' := by
  obtain ⟨s1, s2, s3, s4⟩ := hC.2.2 i hi
  obtain ⟨i1, i2, i3, i4⟩ := hI
  obtain ⟨w1, w2⟩ := hF.2.2.1 i hi
  have mono : ∀ v, v < n → 0 ≤ f v → 0 ≤ f' v ∧ f' v ≤ f v := by
    intro v hv z
    by_cases e : v = t i
    · rw [e] at z ⊢; omega
    · rw [e2 v hv e]; exact ⟨z, Int.le_refl _⟩
  refine ⟨?_, ?_, ?_, ?_⟩
  · intro v hv
    by_cases e : v = t i
    · rw [e]
      refine Or.inr ?_
      unfold re_w at h1 e1
      by_cases q : s i = u
      · rw [if_pos q] at h1 e1
        rw [q] at w1 w2
        exact ⟨w1, by omega⟩
      · rw [if_neg q] at h1 e1
        rcases i1 (s i) s1 with y | ⟨y1, y2⟩
        · omega
        · obtain ⟨c1, c2⟩ := hF.2.2.2.1 (s i) u (t i) s1 hu s2 y1 w1
          exact ⟨c1, by omega⟩
    · rw [e2 v hv e]; exact i1 v hv
  · intro v hv z
    have y := i2 v hv z
    have := mono v hv y.1
    omega
  · intro j hj
    obtain ⟨k1, k2, _, _⟩ := hC.2.2 j (by omega)
    by_cases e : j = i
    · rw [e]
      unfold re_w at e1
      by_cases q : s i = u
      · rw [if_pos q] at e1
        exact ⟨fun _ => by omega, fun z => absurd q z⟩
      · rw [if_neg q] at e1
        refine ⟨fun z => absurd z q, fun _ z => ?_⟩
        have := i2 (s i) s1 z
        omega
    · obtain ⟨j1, j2⟩ := i3 j (by omega)
      refine ⟨fun z => ?_, fun z y => ?_⟩
      · have x := j1 z
        have := mono (t j) k2 x.1
        omega
      · have x := j2 z y
        have := mono (t j) k2 x.1
        omega
  · intro v hv
    by_cases e : v = t i
    · rw [e, e1]
      unfold re_w
      by_cases q : s i = u
      · rw [if_pos q]; omega
      · rw [if_neg q]
        have := i4 (s i) s1
        omega
    · rw [e2 v hv e]
      have := i4 v hv
      omega
def re_R (n u : Nat) (W : Nat → Nat → Int) (R : Nat) (f : Nat → Int) : Prop :=
  re_A n u W f ∧ (R ≤ cn_t (re_F u W f) n ∨ ∀ v, v < n → re_F u W f v) ∧ ∀ v, v < n → f v ≤ 25200 * (R : Int)
theorem re_rnd {n m u R : Nat} {d : Nat → Int} {s t : Nat → Nat} {r : Nat → Int} {B : Int} {W D : Nat → Nat → Int} {f0 f : Nat → Int} (hC : rb_Ci n m d s t r B)
    (hF : mw_F n m d s t r W D) (hu : u < n) (h0 : re_R n u W R f0) (hI : re_I n m u s t r W (25200 * (R : Int)) m f0 f) : re_R n u W (R + 1) f := by
  obtain ⟨a0, a1, _⟩ := h0
  obtain ⟨i1, i2, i3, i4⟩ := hI
  have hT := fun v hv => (hF.1 u v hu hv).1
  have fin : ∀ v, v < n → re_F u W f0 v → re_F u W f v := by
    intro v hv h
    rcases h with ⟨h1, h2⟩ | ⟨h1, h2⟩
    · rcases i1 v hv with z | ⟨z, _⟩
      · exact Or.inl ⟨h1, z⟩
      · exact absurd h1 z
    · have t0 := hT v hv
      have z := i2 v hv (by omega)
      rcases i1 v hv with y | ⟨_, y⟩
      · omega
      · exact Or.inr ⟨h1, by omega⟩
  refine ⟨i1, ?_, fun v hv => ?_⟩
  · by_cases all : ∀ v, v < n → re_F u W f0 v
    · exact Or.inr fun v hv => fin v hv (all v hv)
    · rcases a1 with a1 | a1
      · refine Or.inl ?_
        by_cases w : ∃ b, b < n ∧ re_F u W f b ∧ ¬ re_F u W f0 b
        · obtain ⟨b, hb, x1, x2⟩ := w
          have := cn_lt b n fin hb x1 x2
          omega
        · exfalso
          have hw : ∀ b, b < n → re_F u W f b → re_F u W f0 b := fun b hb h1 => Classical.byContradiction fun z => w ⟨b, hb, h1, z⟩
          have key : ∀ g : Nat → Int, (∀ v, (re_F u W f0 v ∧ g v = W u v) ∨ (¬ re_F u W f0 v ∧ g v = W u v + 1)) → False := by
            intro g hg
            have gl : ∀ v, W u v ≤ g v ∧ g v ≤ W u v + 1 := by
              intro v
              rcases hg v with z | z
              · omega
              · omega
            have uni := hF.2.1 (fun x y w _ => x < n ∧ 0 ≤ w ∧ (x = u → W u y ≠ 1000000 ∧ g y ≤ w) ∧ (x ≠ u → W u x ≠ 1000000 → W u y ≠ 1000000 ∧ g y ≤ g x + w)) ?_ ?_
            · apply all
              intro v hv
              by_cases q : W u v = 1000000
              · rcases a0 v hv with z | z
                · exact Or.inl ⟨q, z⟩
                · exact absurd q z.1
              · have k := (uni u v hu hv q).2.2.1 rfl
                rcases hg v with z | z
                · exact z.1
                · omega
            · intro i hi
              obtain ⟨s1, s2, s3, s4⟩ := hC.2.2 i hi
              obtain ⟨w1, w2⟩ := hF.2.2.1 i hi
              obtain ⟨j1, j2⟩ := i3 i hi
              refine ⟨s1, s3, fun q => ?_, fun q way => ?_⟩
              · rw [q] at w1 w2
                refine ⟨w1, ?_⟩
                have x := j1 q
                rcases hg (t i) with z | z
                · omega
                · have nf : ¬ re_F u W f (t i) := fun y => z.1 (hw (t i) s2 y)
                  rcases i1 (t i) s2 with y | ⟨y1, y2⟩
                  · omega
                  · have : f (t i) ≠ W u (t i) := fun y => nf (Or.inr ⟨y1, y⟩)
                    omega
              · obtain ⟨c1, c2⟩ := hF.2.2.2.1 (s i) u (t i) s1 hu s2 way w1
                refine ⟨c1, ?_⟩
                have gs := gl (s i)
                rcases hg (t i) with z | z
                · omega
                · rcases hg (s i) with y | y
                  · have f0s : f0 (s i) = W u (s i) := by
                      rcases y.1 with x | x
                      · exact absurd x.1 way
                      · exact x.2
                    have t0 := hT (s i) s1
                    have x := j2 q (by omega)
                    have nf : ¬ re_F u W f (t i) := fun y => z.1 (hw (t i) s2 y)
                    rcases i1 (t i) s2 with v1 | ⟨v1, v2⟩
                    · omega
                    · have : f (t i) ≠ W u (t i) := fun y => nf (Or.inr ⟨v1, y⟩)
                      omega
                  · omega
            · intro x k y w1 w2 l1 l2 hx hk hy _ _ b1 b2
              obtain ⟨_, p1, p2, p3⟩ := b1
              obtain ⟨_, q1, q2, q3⟩ := b2
              refine ⟨hx, by omega, fun z => ?_, fun z way => ?_⟩
              · obtain ⟨r1, r2⟩ := p2 z
                by_cases ku : k = u
                · obtain ⟨v1, v2⟩ := q2 ku
                  exact ⟨v1, by omega⟩
                · obtain ⟨v1, v2⟩ := q3 ku r1
                  exact ⟨v1, by omega⟩
              · obtain ⟨r1, r2⟩ := p3 z way
                by_cases ku : k = u
                · obtain ⟨v1, v2⟩ := q2 ku
                  have := gl x
                  have := hT x hx
                  exact ⟨v1, by omega⟩
                · obtain ⟨v1, v2⟩ := q3 ku r1
                  exact ⟨v1, by omega⟩
          refine key (fun v => @ite Int (re_F u W f0 v) (Classical.propDecidable _) (W u v) (W u v + 1)) ?_
          intro v
          by_cases z : re_F u W f0 v
          · exact Or.inl ⟨z, if_pos z⟩
          · exact Or.inr ⟨z, if_neg z⟩
      · exact absurd a1 all
  · have := i4 v hv
    have := hC.1
    omega
theorem re_end {n u : Nat} {W : Nat → Nat → Int} {f : Nat → Int} (hn : n ≤ 5) (h : re_R n u W 6 f) : ∀ v, v < n → re_F u W f v := by
  rcases h.2.1 with z | z
  · have := cn_le (re_F u W f) n
    omega
  · exact z
