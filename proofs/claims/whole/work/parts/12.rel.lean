variable {fn fm kn bp bc wc : Int32} {dl st en rg la le pn re fw sl pl : Nat → Int32}
theorem uq_A {n m : Nat} {d : Nat → Int} {s t : Nat → Nat} {r : Nat → Int} {W D W' D' : Nat → Nat → Int} {B : Int} (hC : rb_Ci n m d s t r B)
    (h : mw_F n m d s t r W D) (h' : mw_F n m d s t r W' D') : ∀ u v, u < n → v < n → W' u v ≠ 1000000 → W u v ≠ 1000000 ∧ W u v ≤ W' u v := by
  intro u v hu hv q
  refine h'.2.1 (fun u v w _ => W u v ≠ 1000000 ∧ W u v ≤ w) (fun i hi => h.2.2.1 i hi) ?_ u v hu hv q
  intro u k v w1 w2 l1 l2 hu hk hv _ _ a b
  obtain ⟨c1, c2⟩ := h.2.2.2.1 k u v hk hu hv a.1 b.1
  have a2 := a.2
  have b2 := b.2
  exact ⟨c1, by omega⟩
theorem uq_so {n m : Nat} {d : Nat → Int} {s t : Nat → Nat} {r : Nat → Int} {W D W' D' : Nat → Nat → Int} {B : Int} (hC : rb_Ci n m d s t r B)
    (h : mw_F n m d s t r W D) (h' : mw_F n m d s t r W' D') (so : mw_so n W) : mw_so n W' := by
  intro x hx e
  have := uq_A hC h h' x x hx hx (by omega)
  have := so x hx
  have := (h.1 x x hx hx).1
  omega
theorem uq_C {n m : Nat} {d : Nat → Int} {s t : Nat → Nat} {r : Nat → Int} {W D W' D' : Nat → Nat → Int} {B : Int} (hC : rb_Ci n m d s t r B)
    (h : mw_F n m d s t r W D) (h' : mw_F n m d s t r W' D') (so : mw_so n W) :
    ∀ u v, u < n → v < n → W' u v ≠ 1000000 → W u v ≠ 1000000 ∧ 1000000 * W u v - D u v + d u ≤ 1000000 * W' u v - D' u v + d u := by
  intro u v hu hv q
  obtain ⟨cC, cW⟩ := h.2.2.2.2 so
  refine h'.2.1 (fun u v w l => W u v ≠ 1000000 ∧ 1000000 * W u v - D u v + d u ≤ 1000000 * w - l + d u) (fun i hi => ⟨(h.2.2.1 i hi).1, ?_⟩) ?_ u v hu hv q
  · have c : 1000000 * W (s i) (t i) - D (s i) (t i) + d (s i) ≤ 1000000 * r i - d (t i) := cW i hi
    omega
  · intro u k v w1 w2 l1 l2 hu hk hv _ _ a b
    obtain ⟨c1, c2⟩ := cC k u v hk hu hv a.1 b.1
    have c2 : 1000000 * W u v - D u v + d u ≤ (1000000 * W u k - D u k + d u) + (1000000 * W k v - D k v + d k) := c2
    have a2 := a.2
    have b2 := b.2
    exact ⟨c1, by omega⟩
theorem uq_WD {n m : Nat} {d : Nat → Int} {s t : Nat → Nat} {r : Nat → Int} {W D W' D' : Nat → Nat → Int} {B : Int} (hC : rb_Ci n m d s t r B)
    (h : mw_F n m d s t r W D) (h' : mw_F n m d s t r W' D') (so : mw_so n W) :
    ∀ u v, u < n → v < n → (W u v ≠ 1000000 ↔ W' u v ≠ 1000000) ∧ (W u v ≠ 1000000 → W u v = W' u v ∧ D u v = D' u v) := by
  intro u v hu hv
  have so' := uq_so hC h h' so
  have a1 := uq_C hC h h' so u v hu hv
  have a2 := uq_C hC h' h so' u v hu hv
  refine ⟨⟨fun q => (a2 q).1, fun q => (a1 q).1⟩, fun q => ?_⟩
  have q' := (a2 q).1
  have b1 := (a1 q').2
  have b2 := (a2 q).2
  have b3 := (h.1 u v hu hv).2.2 q
  have b4 := (h'.1 u v hu hv).2.2 q'
  have b5 := hC.2.1 u hu
  omega
theorem uq_ok {n m : Nat} {d : Nat → Int} {s t : Nat → Nat} {r : Nat → Int} {W D W' D' : Nat → Nat → Int} {B : Int} (hC : rb_Ci n m d s t r B)
    (h : mw_F n m d s t r W D) (h' : mw_F n m d s t r W' D') (so : mw_so n W) {p : Int} {L : Nat → Int} (ok : bf_ok n W D d p L) : bf_ok n W' D' d p L := by
  refine ⟨ok.1, fun u v en => ?_⟩
  obtain ⟨hu, hv, ne, way⟩ := en
  obtain ⟨k1, k2⟩ := uq_WD hC h h' so u v hu hv
  have q := k1.mpr way
  obtain ⟨e1, e2⟩ := k2 q
  have := ok.2 u v ⟨hu, hv, ne, q⟩
  unfold bf_c at this ⊢
  rw [← e1, ← e2]
  exact this
theorem uq_se {n m : Nat} {d : Nat → Int} {s t : Nat → Nat} {r : Nat → Int} {W D W' D' : Nat → Nat → Int} {B : Int} (hC : rb_Ci n m d s t r B)
    (h : mw_F n m d s t r W D) (h' : mw_F n m d s t r W' D') (so : mw_so n W) {b : Int} {G : Nat → Int} (hs : se_l n W D d b G) : se_l n W' D' d b G := by
  obtain ⟨a1, a2, a3, a4⟩ := hs
  have so' := uq_so hC h h' so
  exact ⟨uq_ok hC h h' so a1, a2, fun L p l0 ok => a3 L p l0 (uq_ok hC h' h so' ok), fun L l0 ok => a4 L l0 (uq_ok hC h' h so' ok)⟩
theorem bf_mono {n : Nat} {W D : Nat → Nat → Int} {d : Nat → Int} {p q : Int} {L : Nat → Int} (hpq : p ≤ q) (ok : bf_ok n W D d p L) : bf_ok n W D d q L := by
  refine ⟨fun v hv => Int.le_trans (ok.1 v hv) hpq, fun u v en => ?_⟩
  have h := ok.2 u v en
  by_cases c : p < D u v
  · rw [bf_c1 c] at h
    have := bf_cb W D q u v
    omega
  · rw [bf_c0 c] at h
    rw [bf_c0 (by omega)]
    exact h
/-- what the reference remembers -/
def rl_K (n m : Nat) (dl st en rg : Nat → Int32) (kn bp : Int32) (pn : Nat → Int32) : Prop :=
  kn = 0 ∨ (kn = 1 ∧ ∀ W D, mw_F n m (rt_I dl) (rt_N st) (rt_N en) (rt_I rg) W D → mw_so n W → se_l n W D (rt_I dl) bp.toInt (rt_I pn))
theorem rl_K1 {n m : Nat} {B : Int} {W D : Nat → Nat → Int} (hc : rl_C n m dl st en rg B) (hF : mw_F n m (rt_I dl) (rt_N st) (rt_N en) (rt_I rg) W D) (so : mw_so n W)
    (hs : se_l n W D (rt_I dl) bp.toInt (rt_I pn)) : rl_K n m dl st en rg 1 bp pn :=
  Or.inr ⟨rfl, fun W' D' hF' _ => uq_se hc.1 hF hF' so hs⟩
theorem rl_up {n m : Nat} {B B' : Int} (hB : B ≤ B') (hc : rl_C n m dl st en rg B) : rl_C n m dl st en rg B' := by
  obtain ⟨⟨h1, h2, h3⟩, h4⟩ := hc
  refine ⟨⟨h1, h2, fun i hi => ?_⟩, h4⟩
  obtain ⟨a, b, c, e⟩ := h3 i hi
  exact ⟨a, b, c, by omega⟩
/-- both hold the same circuit; what the reference remembers is right -/
def i_Rel (k : Nat) (u : SX) (v : SY) : Prop :=
  ∃ (n m : Nat) (dl st en rg fw sl pl la le pn re : Nat → Int32) (kn bp : Int32),
    u = (nI n, nI m, dl, st, en, rg, fw, sl, pl) ∧ v = (nI n, nI m, kn, bp, dl, st, en, rg, la, le, pn, re) ∧
    rl_C n m dl st en rg ((k : Int) + 3) ∧ rl_K n m dl st en rg kn bp pn
theorem rl_mk {k n m : Nat} (hc : rl_C n m dl st en rg ((k : Int) + 3)) (hk : rl_K n m dl st en rg kn bp pn) :
    i_Rel k (nI n, nI m, dl, st, en, rg, fw, sl, pl) (nI n, nI m, kn, bp, dl, st, en, rg, la, le, pn, re) :=
  ⟨n, m, dl, st, en, rg, fw, sl, pl, la, le, pn, re, kn, bp, rfl, rfl, hc, hk⟩
theorem rl_m4 {k n m : Nat} (hc : rl_C n m dl st en rg ((k : Int) + 3)) (hk : rl_K n m dl st en rg kn bp pn) :
    i_Rel (k + 4) (nI n, nI m, dl, st, en, rg, fw, sl, pl) (nI n, nI m, kn, bp, dl, st, en, rg, la, le, pn, re) :=
  rl_mk (rl_up (by omega) hc) hk
/-- a wire taken out -/
def sh_t (a : Nat → Int32) (i j : Nat) : Nat → Int32 := fun x => if i ≤ x ∧ x < j then a (x + 1) else a x
theorem sh_0 (a : Nat → Int32) (i : Nat) : sh_t a i i = a := by
  funext x
  show (if i ≤ x ∧ x < i then a (x + 1) else a x) = a x
  rw [if_neg (by omega)]
theorem sh_s (a : Nat → Int32) {i j : Nat} (h : i ≤ j) : upd (sh_t a i j) j (sh_t a i j (j + 1)) = sh_t a i (j + 1) := by
  funext x
  show (if x = j then sh_t a i j (j + 1) else sh_t a i j x) = (if i ≤ x ∧ x < j + 1 then a (x + 1) else a x)
  have e : sh_t a i j (j + 1) = a (j + 1) := if_neg (by omega)
  by_cases c : x = j
  · rw [if_pos c, if_pos (by omega), e, c]
  · rw [if_neg c]
    show (if i ≤ x ∧ x < j then a (x + 1) else a x) = _
    by_cases c2 : i ≤ x ∧ x < j
    · rw [if_pos c2, if_pos (by omega)]
    · rw [if_neg c2, if_neg (by omega)]
theorem sh_a (a : Nat → Int32) (i j x : Nat) : sh_t a i j x = a x ∨ sh_t a i j x = a (x + 1) := by
  by_cases c : i ≤ x ∧ x < j
  · exact Or.inr (if_pos c)
  · exact Or.inl (if_neg c)
theorem sh_x (a : Nat → Int32) {i j x : Nat} (c : i ≤ x ∧ x < j) : sh_t a i j x = a (x + 1) := if_pos c
theorem sh_y (a : Nat → Int32) {i j x : Nat} (c : ¬ (i ≤ x ∧ x < j)) : sh_t a i j x = a x := if_neg c
theorem sh_C {n m i : Nat} {B : Int} (hc : rl_C n (m + 1) dl st en rg B) : rl_C n m dl (sh_t st i m) (sh_t en i m) (sh_t rg i m) B := by
  obtain ⟨⟨h1, h2, h3⟩, h4⟩ := hc
  have key : ∀ x, x < m → ∃ y, y < m + 1 ∧ sh_t st i m x = st y ∧ sh_t en i m x = en y ∧ sh_t rg i m x = rg y := by
    intro x hx
    by_cases c : i ≤ x ∧ x < m
    · exact ⟨x + 1, by omega, sh_x st c, sh_x en c, sh_x rg c⟩
    · exact ⟨x, by omega, sh_y st c, sh_y en c, sh_y rg c⟩
  refine ⟨⟨⟨h1.1, h1.2.1, by omega⟩, h2, fun x hx => ?_⟩, fun x hx => ?_⟩
  · obtain ⟨y, hy, e1, e2, e3⟩ := key x hx
    have := h3 y hy
    show (sh_t st i m x).toNatClampNeg < n ∧ (sh_t en i m x).toNatClampNeg < n ∧ 0 ≤ (sh_t rg i m x).toInt ∧ (sh_t rg i m x).toInt ≤ B
    rw [e1, e2, e3]
    exact this
  · obtain ⟨y, hy, e1, e2, e3⟩ := key x hx
    have := h4 y hy
    show sh_t st i m x = nI (sh_t st i m x).toNatClampNeg ∧ sh_t en i m x = nI (sh_t en i m x).toNatClampNeg
    rw [e1, e2]
    exact this
theorem xc_cut {post : Int32 → SX → Prop} {m i : Nat} (hm : m + 1 ≤ 12) (hi : i < m + 1)
    (h : post (nI m) (bc, nI m, dl, sh_t st i m, sh_t en i m, sh_t rg i m, fw, sl, pl)) :
    ∃ f, wX_cut_14 post bc (nI (m + 1)) f (nI (i + 1)) dl st en rg fw sl pl := by
  refine pk_loop (fun f l (q : (Nat → Int32) × (Nat → Int32) × (Nat → Int32)) => wX_cut_14 post bc (nI (m + 1)) f (nI l) dl q.1 q.2.1 q.2.2 fw sl pl)
    (fun l q => 1 ≤ l ∧ i ≤ l - 1 ∧ q = (sh_t st i (l - 1), sh_t en i (l - 1), sh_t rg i (l - 1))) (m + 1) (i + 1) (st, en, rg) (by omega)
    ⟨by omega, by omega, by show (st, en, rg) = (sh_t st i (i + 1 - 1), _, _); rw [show i + 1 - 1 = i from rfl, sh_0, sh_0, sh_0]⟩ ?_ ?_
  · intro f q hq
    obtain ⟨_, _, e⟩ := hq
    subst e
    exact br_t (nI_le (Nat.le_refl _) (by omega)) (nm_r (nI_pred m) h)
  · intro f l q hl hq next
    obtain ⟨g1, g2, e⟩ := hq
    subst e
    obtain ⟨j, rfl⟩ : ∃ j, l = j + 1 := ⟨l - 1, by omega⟩
    have ej : j + 1 - 1 = j := rfl
    rw [ej] at g2 ⊢
    have c1 : (nI (j + 1)).toNatClampNeg = j + 1 := nI_clamp (by omega)
    have c2 : (nI j).toNatClampNeg = j := nI_clamp (by omega)
    have p1 : nI (j + 1) - 1 = nI j := nI_pred j
    have v1 : vp_in (nI (j + 1)) 12 := vp_in_nI (by omega) (by omega)
    have v2 : vp_in (nI (j + 1) - 1) 12 := by rw [p1]; exact vp_in_nI (by omega) (by omega)
    refine br_f (nI_ge hl (by omega)) ⟨v1, v2, nm_r (e' := sh_t st i (j + 1)) (by rw [p1, c1, c2]; exact sh_s st g2) ⟨v1, v2, nm_r (e' := sh_t en i (j + 1)) (by rw [p1, c1, c2]; exact sh_s en g2)
      ⟨v1, v2, nm_r (e' := sh_t rg i (j + 1)) (by rw [p1, c1, c2]; exact sh_s rg g2) (nm_r (nI_1 (j + 1)) (next (_, _, _) ⟨by omega, by omega, rfl⟩))⟩⟩⟩
theorem yc_cut {post : Int32 → SY → Prop} {m i : Nat} (hm : m + 1 ≤ 12) (hi : i < m + 1)
    (h : post (nI m) (fn, nI m, 0, bp, dl, sh_t st i m, sh_t en i m, sh_t rg i m, la, le, pn, re)) :
    ∃ f, wY_cut_16 post fn (nI (m + 1)) kn bp f (nI i) dl st en rg la le pn re := by
  have pm : nI (m + 1) - 1 = nI m := nI_pred m
  refine pk_loop (fun f l (q : (Nat → Int32) × (Nat → Int32) × (Nat → Int32)) => wY_cut_16 post fn (nI (m + 1)) kn bp f (nI l) dl q.1 q.2.1 q.2.2 la le pn re)
    (fun l q => i ≤ l ∧ q = (sh_t st i l, sh_t en i l, sh_t rg i l)) m i (st, en, rg) (by omega) ⟨Nat.le_refl _, by rw [sh_0, sh_0, sh_0]⟩ ?_ ?_
  · intro f q hq
    obtain ⟨_, e⟩ := hq
    subst e
    exact br_t (by rw [pm]; exact nI_le (Nat.le_refl _) (by omega)) (nm_r pm h)
  · intro f j q hl hq next
    obtain ⟨g2, e⟩ := hq
    subst e
    have c2 : (nI j).toNatClampNeg = j := nI_clamp (by omega)
    have p1 : nI j + 1 = nI (j + 1) := nI_1 j
    have c1 : (nI (j + 1)).toNatClampNeg = j + 1 := nI_clamp (by omega)
    have v2 : vp_in (nI j) 12 := vp_in_nI (by omega) (by omega)
    have v1 : vp_in (nI j + 1) 12 := by rw [p1]; exact vp_in_nI (by omega) (by omega)
    refine br_f (by rw [pm]; exact nI_ge hl (by omega)) ⟨v1, v2, nm_r (e' := sh_t st i (j + 1)) (by rw [p1, c1, c2]; exact sh_s st g2) ⟨v1, v2, nm_r (e' := sh_t en i (j + 1)) (by rw [p1, c1, c2]; exact sh_s en g2)
      ⟨v1, v2, nm_r (e' := sh_t rg i (j + 1)) (by rw [p1, c1, c2]; exact sh_s rg g2) (nm_r p1 (next (_, _, _) ⟨by omega, rfl⟩))⟩⟩⟩
/-- a plan applied to the first i wires -/
def ap_r (pl st en rg : Nat → Int32) (i : Nat) : Nat → Int32 := fun j => if j < i then rg j + (pl (rt_N en j) - pl (rt_N st j)) else rg j
def ap_s (pl st en : Nat → Int32) : Nat → Int32
  | 0 => 0
  | i + 1 => ap_s pl st en i + (pl (rt_N en i) - pl (rt_N st i))
theorem ap_r0 (pl st en rg : Nat → Int32) : ap_r pl st en rg 0 = rg := by
  funext j
  show (if j < 0 then _ else rg j) = rg j
  rw [if_neg (by omega)]
theorem ap_rs (pl st en rg : Nat → Int32) (i : Nat) : upd (ap_r pl st en rg i) i (ap_r pl st en rg i i + (pl (rt_N en i) - pl (rt_N st i))) = ap_r pl st en rg (i + 1) := by
  funext j
  have e : ap_r pl st en rg i i = rg i := if_neg (by omega)
  show (if j = i then ap_r pl st en rg i i + (pl (rt_N en i) - pl (rt_N st i)) else ap_r pl st en rg i j) = (if j < i + 1 then rg j + (pl (rt_N en j) - pl (rt_N st j)) else rg j)
  by_cases c : j = i
  · rw [if_pos c, if_pos (by omega), e, c]
  · rw [if_neg c]
    show (if j < i then _ else rg j) = _
    by_cases c2 : j < i
    · rw [if_pos c2, if_pos (by omega)]
    · rw [if_neg c2, if_neg (by omega)]
theorem xa_app {post : Int32 → SX → Prop} {n m : Nat} {B : Int} (hc : rl_C n m dl st en rg B)
    (h : post (ap_s pl st en m) (bc, nI m, dl, st, en, ap_r pl st en rg m, fw, sl, pl)) :
    ∃ f, wX_apply_23 post bc (nI m) f 0 0 dl st en rg fw sl pl := by
  have hm := hc.1.1.2.2
  refine loop_0 (fun f i (q : Int32 × (Nat → Int32)) => wX_apply_23 post bc (nI m) f q.1 (nI i) dl st en q.2 fw sl pl)
    (fun i q => q = (ap_s pl st en i, ap_r pl st en rg i)) m (0, rg) (by rw [ap_r0]; rfl) ?_ ?_
  · intro f q hq
    subst hq
    exact br_t (nI_le (Nat.le_refl _) (by omega)) h
  · intro f i q hi hq next
    subst hq
    have c1 : (nI i).toNatClampNeg = i := nI_clamp (by omega)
    have v1 : vp_in (nI i) 12 := vp_in_nI (by omega) (by omega)
    obtain ⟨x1, x2⟩ := yx_en hc hi (Nat.le_refl 5) (by omega)
    exact br_f (nI_ge hi (by omega)) ⟨v1, by rw [c1]; exact x1, v1, by rw [c1]; exact x2, nm_r (e' := pl (rt_N en i) - pl (rt_N st i)) (by rw [c1]; rfl)
      ⟨v1, v1, nm_r (e' := ap_r pl st en rg (i + 1)) (by rw [c1]; exact ap_rs pl st en rg i) (nm_e (nm_r (nI_1 i) (next (_, _) rfl)))⟩⟩
theorem ya_app {post : Int32 → SY → Prop} {n m : Nat} {B : Int} (hc : rl_C n m dl st en rg B) (he : ∀ v, v < n → pn v = pl v)
    (h : post (ap_s pl st en m) (fn, nI m, 0, bp, dl, st, en, ap_r pl st en rg m, la, le, pn, re)) :
    ∃ f, wY_apply_18 post fn (nI m) kn bp f 0 0 dl st en rg la le pn re := by
  have hm := hc.1.1.2.2
  refine loop_0 (fun f i (q : Int32 × (Nat → Int32)) => wY_apply_18 post fn (nI m) kn bp f q.1 (nI i) dl st en q.2 la le pn re)
    (fun i q => q = (ap_s pl st en i, ap_r pl st en rg i)) m (0, rg) (by rw [ap_r0]; rfl) ?_ ?_
  · intro f q hq
    subst hq
    exact br_t (nI_le (Nat.le_refl _) (by omega)) h
  · intro f i q hi hq next
    subst hq
    have c1 : (nI i).toNatClampNeg = i := nI_clamp (by omega)
    have v1 : vp_in (nI i) 12 := vp_in_nI (by omega) (by omega)
    obtain ⟨x1, x2⟩ := yx_en hc hi (Nat.le_refl 5) (by omega)
    obtain ⟨s1, s2, _, _⟩ := hc.1.2.2 i hi
    exact br_f (nI_ge hi (by omega)) ⟨v1, by rw [c1]; exact x1, v1, by rw [c1]; exact x2, nm_r (e' := pl (rt_N en i) - pl (rt_N st i)) (by rw [c1, ← he _ s1, ← he _ s2]; rfl)
      ⟨v1, v1, nm_r (e' := ap_r pl st en rg (i + 1)) (by rw [c1]; exact ap_rs pl st en rg i) (nm_e (nm_r (nI_1 i) (next (_, _) rfl)))⟩⟩
theorem ap_C {n m : Nat} {B b : Int} {W D : Nat → Nat → Int} (hc : rl_C n m dl st en rg B) (hB : B ≤ 8000) (hF : mw_F n m (rt_I dl) (rt_N st) (rt_N en) (rt_I rg) W D)
    (hs : se_l n W D (rt_I dl) b (rt_I pl)) : rl_C n m dl st en (ap_r pl st en rg m) (B + 4) := by
  have leg := lo_leg hc.1 hF hs.1.2
  obtain ⟨⟨h1, h2, h3⟩, h4⟩ := hc
  refine ⟨⟨h1, h2, fun i hi => ?_⟩, h4⟩
  obtain ⟨s1, s2, s3, s4⟩ := h3 i hi
  have g1 := hs.2.1 (rt_N en i) s2
  have g2 := hs.2.1 (rt_N st i) s1
  have g3 := leg i hi
  refine ⟨s1, s2, ?_⟩
  have e : ap_r pl st en rg m i = rg i + (pl (rt_N en i) - pl (rt_N st i)) := if_pos hi
  have a1 : (pl (rt_N en i) - pl (rt_N st i)).toInt = rt_I pl (rt_N en i) - rt_I pl (rt_N st i) :=
    it_sub (by show _ ≤ rt_I pl (rt_N en i) - rt_I pl (rt_N st i); omega) (by show rt_I pl (rt_N en i) - rt_I pl (rt_N st i) < _; omega)
  have a2 : (rg i + (pl (rt_N en i) - pl (rt_N st i))).toInt = rt_I rg i + (rt_I pl (rt_N en i) - rt_I pl (rt_N st i)) := by
    have := it_add (x := rg i) (y := pl (rt_N en i) - pl (rt_N st i)) (by rw [a1]; show _ ≤ rt_I rg i + (rt_I pl (rt_N en i) - rt_I pl (rt_N st i)); omega)
      (by rw [a1]; show rt_I rg i + (rt_I pl (rt_N en i) - rt_I pl (rt_N st i)) < _; omega)
    rw [this, a1]; rfl
  show 0 ≤ (ap_r pl st en rg m i).toInt ∧ (ap_r pl st en rg m i).toInt ≤ B + 4
  rw [e, a2]
  omega
