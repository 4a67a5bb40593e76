variable {bc wc : Int32} {dl st en rg fw sl pl : Nat → Int32}
def rt_b (n : Nat) (p : Int32) : Prop := ∃ j, j < n ∧ p = nI j
theorem bk_c {n : Nat} {p : Int32} {A B C : Prop} (hn : n < 2 ^ 31) (h1 : rt_b n p → C) (h0 : ¬ rt_b n p → A) (h0' : ¬ rt_b n p → B) : (p < 0 → A) ∧ (¬ p < 0 → ((nI n ≤ p → B) ∧ (¬ nI n ≤ p → C))) := by
  refine br_c (fun h => h0 ?_) (fun h => br_c (fun h' => h0' ?_) (fun h' => h1 ?_))
  · intro ⟨j, hj, e⟩
    rw [e] at h
    exact nI_pos (by omega) h
  · intro ⟨j, hj, e⟩
    rw [e] at h'
    exact nI_ge hj hn h'
  · obtain ⟨j, hj, e⟩ := nI_of h
    rw [e] at h'
    exact ⟨j, Classical.byContradiction fun z => h' (nI_le (by omega) hj), e⟩
theorem xi_blk {post : Int32 → Prop} {n : Nat} {p : Int32} (hn : n ≤ 5) (h1 : rt_b n p → post 1) (h0 : ¬ rt_b n p → post 0) :
    wpX_isBlock post (nI n, wc, dl, st, en, rg, fw, sl, pl) p := bk_c (by omega) h1 h0 h0
theorem xi_wir {post : Int32 → Prop} {m : Nat} {p : Int32} (hm : m ≤ 12) (h1 : rt_b m p → post 1) (h0 : ¬ rt_b m p → post 0) :
    wpX_isWire post (bc, nI m, dl, st, en, rg, fw, sl, pl) p := bk_c (by omega) h1 h0 h0
theorem xp_pr {post : Int32 → Prop} (u v : Nat) (h : post (nI (u * 5 + v))) : wpX_pair post (nI u) (nI v) := by
  have e : nI u * 5 + nI v = nI (u * 5 + v) := by
    show nI u * nI 5 + nI v = _
    rw [pk_mul, nI_add]
  unfold wpX_pair
  rw [e]
  exact h
theorem xo_65 {post : SX → Prop} {w l : Int32} {k : Nat} (hk : k < 25) (h : post (bc, wc, dl, st, en, rg, upd fw k w, upd sl k l, pl)) :
    wX_offerWay_65 post w l (nI k) bc wc dl st en rg fw sl pl :=
  ⟨vp_in_nI hk (by omega), nm_r (by rw [nI_clamp (by omega)]) ⟨vp_in_nI hk (by omega), nm_r (by rw [nI_clamp (by omega)]) h⟩⟩
theorem xo_ff {post : SX → Prop} (u v : Nat) (hu : u < 5) (hv : v < 5) (w l : Int32)
    (h : ∀ fw' sl' : Nat → Int32, mw_Of 5 u v w.toInt l.toInt (rt_M fw) (rt_M sl) (rt_M fw') (rt_M sl') → post (bc, wc, dl, st, en, rg, fw', sl', pl)) :
    wpX_offerWay post (bc, wc, dl, st, en, rg, fw, sl, pl) (nI u) (nI v) w l := by
  have hk : u * 5 + v < 25 := by omega
  have ec : (nI (u * 5 + v)).toNatClampNeg = u * 5 + v := nI_clamp (by omega)
  have hin : vp_in (nI (u * 5 + v)) 25 := vp_in_nI hk (by omega)
  have same : ¬ (w.toInt < (fw (u * 5 + v)).toInt ∨ (w.toInt = (fw (u * 5 + v)).toInt ∧ (sl (u * 5 + v)).toInt < l.toInt)) → post (bc, wc, dl, st, en, rg, fw, sl, pl) :=
    fun z => h fw sl ⟨fun _ _ _ _ _ => ⟨rfl, rfl⟩, Or.inl ⟨rfl, rfl, z⟩⟩
  have put : (w.toInt < (fw (u * 5 + v)).toInt ∨ (w.toInt = (fw (u * 5 + v)).toInt ∧ (sl (u * 5 + v)).toInt < l.toInt)) →
      post (bc, wc, dl, st, en, rg, upd fw (u * 5 + v) w, upd sl (u * 5 + v) l, pl) :=
    fun z => h _ _ ⟨fun a x _ hx q => ⟨mt_un hv hx q, mt_un hv hx q⟩, Or.inr ⟨z, mt_us, mt_us⟩⟩
  unfold wpX_offerWay
  refine xp_pr u v ?_
  rw [ec]
  refine ⟨hin, ?_⟩
  by_cases c1 : fw (u * 5 + v) ≤ w
  · refine br_t c1 ?_
    unfold wX_offerWay_23
    rw [ec]
    refine ⟨hin, ?_⟩
    by_cases c2 : w = fw (u * 5 + v)
    · refine br_t c2 ⟨hin, ?_⟩
      by_cases c3 : l ≤ sl (u * 5 + v)
      · refine br_t c3 (br_t rfl (br_t rfl (same ?_)))
        rw [it_le] at c1 c3
        rw [it_eq] at c2
        omega
      · refine br_f c3 (br_t rfl (br_f (by decide) (xo_65 hk (put ?_))))
        rw [it_le] at c1 c3
        rw [it_eq] at c2
        omega
    · refine br_f c2 (br_t rfl (br_t rfl (same ?_)))
      rw [it_le] at c1
      rw [it_eq] at c2
      omega
  · refine br_f c1 ?_
    unfold wX_offerWay_23
    rw [ec]
    refine ⟨hin, ?_⟩
    have c1' := c1
    rw [it_le] at c1'
    by_cases c2 : w = fw (u * 5 + v)
    · rw [it_eq] at c2
      omega
    · exact br_f c2 (br_f (by decide) (xo_65 hk (put (by omega))))
theorem of_le {n u v : Nat} {w l : Int} {W D W' D' : Nat → Nat → Int} (hn : n ≤ 5) (h : mw_Of 5 u v w l W D W' D') : mw_Of n u v w l W D W' D' :=
  ⟨fun a x ha hx => h.1 a x (by omega) (by omega), h.2⟩
theorem xj_in {post : SX → Prop} {J2 : Int32 → Int32 → Int32 → (Nat → Int32) → (Nat → Int32) → (Nat → Int32) → (Nat → Int32) → (Nat → Int32) → (Nat → Int32) → (Nat → Int32) → Prop}
    {n m k u : Nat} {s t : Nat → Nat} {r : Nat → Int} {b e : Int} {W0 D0 : Nat → Nat → Int}
    (hn : n ≤ 5) (hk : k < n) (hu : u < n) (hb : 0 ≤ b ∧ 4 * b < 1000000) (he : 0 ≤ e ∧ e ≤ 23328)
    (hd : ∀ x, x < n → 0 ≤ rt_I dl x ∧ rt_I dl x ≤ 9) (h0 : mw_B n (rt_I dl) b e W0 D0)
    (hI : mw_In n m (rt_I dl) s t r k u 0 e W0 D0 (rt_M fw) (rt_M sl))
    (hJ : ∀ fw' sl' : Nat → Int32, mw_In n m (rt_I dl) s t r k u n e W0 D0 (rt_M fw') (rt_M sl') → J2 (nI (u + 1)) (nI n) wc dl st en rg fw' sl' pl) :
    ∃ f, wX_joinWaysAt_12 post J2 (nI k) (nI u) f 0 (nI n) wc dl st en rg fw sl pl := by
  refine loop_0 (fun f i (q : (Nat → Int32) × (Nat → Int32)) => wX_joinWaysAt_12 post J2 (nI k) (nI u) f (nI i) (nI n) wc dl st en rg q.1 q.2 pl)
    (fun i q => mw_In n m (rt_I dl) s t r k u i e W0 D0 (rt_M q.1) (rt_M q.2)) n (fw, sl) hI ?_ ?_
  · intro f q hq
    refine br_t (nI_le (Nat.le_refl _) (by omega)) (nm_r (nI_1 u) (hJ q.1 q.2 hq))
  · intro f i q hi hq next
    obtain ⟨fw, sl⟩ := q
    have hq : mw_In n m (rt_I dl) s t r k u i e W0 D0 (rt_M fw) (rt_M sl) := hq
    have next : ∀ fw' sl' : Nat → Int32, mw_In n m (rt_I dl) s t r k u (i + 1) e W0 D0 (rt_M fw') (rt_M sl') →
      wX_joinWaysAt_12 post J2 (nI k) (nI u) f (nI (i + 1)) (nI n) wc dl st en rg fw' sl' pl := fun fw' sl' h => next (fw', sl') h
    have a1 : u * 5 + k < 25 := by omega
    have a2 : k * 5 + i < 25 := by omega
    have e1 : (nI (u * 5 + k)).toNatClampNeg = u * 5 + k := nI_clamp (by omega)
    have e2 : (nI (k * 5 + i)).toNatClampNeg = k * 5 + i := nI_clamp (by omega)
    have e3 : (nI k).toNatClampNeg = k := nI_clamp (by omega)
    have v1 : vp_in (nI (u * 5 + k)) 25 := vp_in_nI a1 (by omega)
    have v2 : vp_in (nI (k * 5 + i)) 25 := vp_in_nI a2 (by omega)
    have v3 : vp_in (nI k) 5 := vp_in_nI (by omega) (by omega)
    refine br_f (nI_ge hi (by omega)) (xp_pr u k (xp_pr k i ?_))
    dsimp only
    rw [e1, e2, e3]
    refine ⟨v1, ?_⟩
    have lk := mw_skip (b := b) hk hu hi he hd h0 hq
    by_cases c1 : fw (u * 5 + k) = 1000000
    · refine br_t c1 (nm_r (nI_1 i) (next fw sl (lk ?_)))
      intro z
      apply z.1
      show (fw (u * 5 + k)).toInt = 1000000
      rw [c1]; rfl
    · refine br_f c1 ⟨v2, ?_⟩
      by_cases c2 : fw (k * 5 + i) = 1000000
      · refine br_t c2 (nm_r (nI_1 i) (next fw sl (lk ?_)))
        intro z
        apply z.2
        show (fw (k * 5 + i)).toInt = 1000000
        rw [c2]; rfl
      · refine br_f c2 ⟨v1, v2, ?_⟩
        have q1 : rt_M fw u k ≠ 1000000 := fun z => c1 (by rw [it_eq]; exact z)
        have q2 : rt_M fw k i ≠ 1000000 := fun z => c2 (by rw [it_eq]; exact z)
        have bW := mw_bW hk hb.1 h0 hq.1
        have b1 := bW u k hu hk q1
        have b2 := bW k i hk hi q2
        obtain ⟨l1, _, j1⟩ := hq.2.2.1 u k hu hk
        obtain ⟨l2, _, j2⟩ := hq.2.2.1 k i hk hi
        obtain ⟨x1, y1, z1, _⟩ := j1 q1
        obtain ⟨x2, y2, z2, _⟩ := j2 q2
        have g1 := mw_e6 k e he.1 u k
        have g2 := mw_e6 k e he.1 k i
        have d1 := hd u hu
        have d2 := hd k hk
        have s1 : (fw (u * 5 + k) + fw (k * 5 + i)).toInt = rt_M fw u k + rt_M fw k i := it_add (by show _ ≤ rt_M fw u k + rt_M fw k i; omega) (by show rt_M fw u k + rt_M fw k i < _; omega)
        have s2 : (sl (u * 5 + k) + sl (k * 5 + i)).toInt = rt_M sl u k + rt_M sl k i := it_add (by show _ ≤ rt_M sl u k + rt_M sl k i; omega) (by show rt_M sl u k + rt_M sl k i < _; omega)
        have s3 : (sl (u * 5 + k) + sl (k * 5 + i) - dl k).toInt = rt_M sl u k + rt_M sl k i - rt_I dl k := by
          have := it_sub (x := sl (u * 5 + k) + sl (k * 5 + i)) (y := dl k) (by rw [s2]; show _ ≤ rt_M sl u k + rt_M sl k i - rt_I dl k; omega) (by rw [s2]; show rt_M sl u k + rt_M sl k i - rt_I dl k < _; omega)
          rw [this, s2]; rfl
        refine nm_e ⟨v1, v2, v3, nm_e (xo_ff u i (by omega) (by omega) _ _ ?_)⟩
        intro fw' sl' hO
        rw [s1, s3] at hO
        refine nm_r (nI_1 i) (next fw' sl' ?_)
        exact mw_step hk hu hi hb he hd h0 hq q1 q2 (of_le hn hO)
theorem xj_at {post : SX → Prop} {n m k : Nat} {s t : Nat → Nat} {r : Nat → Int} {b e : Int}
    (hn : n ≤ 5) (hk : k < n) (hb : 0 ≤ b ∧ 4 * b < 1000000) (he : 0 ≤ e ∧ e ≤ 23328)
    (hd : ∀ x, x < n → 0 ≤ rt_I dl x ∧ rt_I dl x ≤ 9) (h0 : mw_B n (rt_I dl) b e (rt_M fw) (rt_M sl)) (hU : mw_U n m (rt_I dl) s t r (rt_M fw) (rt_M sl))
    (h : ∀ fw' sl' : Nat → Int32, mw_In n m (rt_I dl) s t r k n 0 e (rt_M fw) (rt_M sl) (rt_M fw') (rt_M sl') → post (nI n, wc, dl, st, en, rg, fw', sl', pl)) :
    wpX_joinWaysAt post (nI n, wc, dl, st, en, rg, fw, sl, pl) (nI k) := by
  refine loop_0 (fun f i (q : (Nat → Int32) × (Nat → Int32)) => wX_joinWaysAt_2 post (nI k) f (nI i) (nI n) wc dl st en rg q.1 q.2 pl)
    (fun i q => mw_In n m (rt_I dl) s t r k i 0 e (rt_M fw) (rt_M sl) (rt_M q.1) (rt_M q.2)) n (fw, sl) (mw_enter he.1 h0 hU) ?_ ?_
  · intro f q hq
    exact br_t (nI_le (Nat.le_refl _) (by omega)) (h q.1 q.2 hq)
  · intro f i q hi hq next
    refine br_f (nI_ge hi (by omega)) (xj_in hn hk hi hb he hd h0 hq ?_)
    intro fw' sl' hr
    exact next (fw', sl') (mw_row hr)
theorem xm_86 {post : SX → Prop} {n m : Nat} {s t : Nat → Nat} {r : Nat → Int} {B : Int} (hc : rb_Ci n m (rt_I dl) s t r B) (hB0 : 0 ≤ B) (hB : B ≤ 8000)
    (h0 : mw_Sg n m (rt_I dl) s t r 0 B 18 (rt_M fw) (rt_M sl))
    (h : ∀ fw' sl' : Nat → Int32, mw_F n m (rt_I dl) s t r (rt_M fw') (rt_M sl') → post (nI n, wc, dl, st, en, rg, fw', sl', pl)) :
    ∃ f, wX_measureWays_86 post f 0 (nI n) wc dl st en rg fw sl pl := by
  have hn : n ≤ 5 := hc.1.2.1
  refine loop_0 (fun f i (q : (Nat → Int32) × (Nat → Int32)) => wX_measureWays_86 post f (nI i) (nI n) wc dl st en rg q.1 q.2 pl)
    (fun i q => mw_Sg n m (rt_I dl) s t r i (mw_b B i) (mw_g i) (rt_M q.1) (rt_M q.2)) n (fw, sl) h0 ?_ ?_
  · intro f q hq
    exact br_t (nI_le (Nat.le_refl _) (by omega)) (h q.1 q.2 (mw_done hn hB0 hB hq))
  · intro f i q hi hq next
    obtain ⟨b1, b2, b3, b4, b5⟩ := mw_bg hB0 hB i (by omega)
    obtain ⟨b6, b7⟩ := b5 (by omega)
    have hq : mw_Sg n m (rt_I dl) s t r i (mw_b B i) (mw_g i) (rt_M q.1) (rt_M q.2) := hq
    refine br_f (nI_ge hi (by omega)) (xj_at (b := mw_b B i) (e := mw_g i) hn hi ⟨b1, b6⟩ ⟨b3, b7⟩ hc.2.1 hq.1 hq.2.1 ?_)
    intro fw' sl' hr
    refine nm_r (nI_1 i) (next (fw', sl') ?_)
    exact mw_stage hc hi b1 ⟨b3, b7⟩ hq hr
theorem xm_31 {post : SX → Prop} {n m : Nat} {B : Int} (hc : rl_C n m dl st en rg B) (hB0 : 0 ≤ B) (hB : B ≤ 8000)
    (h0 : ∀ u v, u < n → v < n → rt_M fw u v = 1000000)
    (h : ∀ fw' sl' : Nat → Int32, rl_F n m dl st en rg fw' sl' → post (nI n, nI m, dl, st, en, rg, fw', sl', pl)) :
    ∃ f, wX_measureWays_31 post f 0 (nI n) (nI m) dl st en rg fw sl pl := by
  obtain ⟨hc, hix⟩ := hc
  have hn : n ≤ 5 := hc.1.2.1
  have hm : m ≤ 12 := hc.1.2.2
  refine loop_0 (fun f i (q : (Nat → Int32) × (Nat → Int32)) => wX_measureWays_31 post f (nI i) (nI n) (nI m) dl st en rg q.1 q.2 pl)
    (fun i q => mw_Wr n m (rt_I dl) (rt_N st) (rt_N en) (rt_I rg) B i (rt_M q.1) (rt_M q.2)) m (fw, sl) (mw_wire0 h0) ?_ ?_
  · intro f q hq
    exact br_t (nI_le (Nat.le_refl _) (by omega)) (xm_86 hc hB0 hB (mw_start hq) h)
  · intro f i q hi hq next
    obtain ⟨e1, e2⟩ := hix i hi
    obtain ⟨s1, s2, s3, s4⟩ := hc.2.2 i hi
    have v1 : vp_in (nI i) 12 := vp_in_nI (by omega) (by omega)
    have c1 : (nI i).toNatClampNeg = i := nI_clamp (by omega)
    have d1 := hc.2.1 (rt_N st i) s1
    have d2 := hc.2.1 (rt_N en i) s2
    refine br_f (nI_ge hi (by omega)) ⟨v1, nm_r (e' := nI (rt_N st i)) (by rw [c1]; exact e1) ⟨v1, nm_r (e' := nI (rt_N en i)) (by rw [c1]; exact e2) ⟨v1, vp_in_nI (by omega) (by omega), vp_in_nI (by omega) (by omega), ?_⟩⟩⟩
    refine xo_ff (rt_N st i) (rt_N en i) (by omega) (by omega) _ _ ?_
    intro fw' sl' hO
    rw [c1, nI_clamp (n := rt_N st i) (by omega), nI_clamp (n := rt_N en i) (by omega)] at hO
    have a1 : (dl (rt_N st i) + dl (rt_N en i)).toInt = rt_I dl (rt_N st i) + rt_I dl (rt_N en i) := it_add (by show _ ≤ rt_I dl (rt_N st i) + rt_I dl (rt_N en i); omega) (by show rt_I dl (rt_N st i) + rt_I dl (rt_N en i) < _; omega)
    rw [a1] at hO
    refine nm_r (nI_1 i) (next (fw', sl') ?_)
    exact mw_wire hc hi (by omega) hq (of_le hn hO)
theorem xm_ways {post : SX → Prop} {n m : Nat} {B : Int} (hc : rl_C n m dl st en rg B) (hB0 : 0 ≤ B) (hB : B ≤ 8000)
    (h : ∀ fw' sl' : Nat → Int32, rl_F n m dl st en rg fw' sl' → post (nI n, nI m, dl, st, en, rg, fw', sl', pl)) :
    wpX_measureWays post (nI n, nI m, dl, st, en, rg, fw, sl, pl) := by
  have hn : n ≤ 5 := hc.1.1.2.1
  refine loop_0 (fun f i (q : (Nat → Int32) × (Nat → Int32)) => wX_measureWays_2 post (nI n) (nI m) f (nI i) dl st en rg q.1 q.2 pl)
    (fun i q => ∀ j, j < i → (q.1 j).toInt = 1000000) 25 (fw, sl) (fun j hj => absurd hj (by omega)) ?_ ?_
  · intro f q hq
    refine br_t (nI_le (a := 25) (b := 25) (Nat.le_refl _) (by decide)) (xm_31 hc hB0 hB ?_ h)
    intro u v hu hv
    exact hq (u * 5 + v) (by omega)
  · intro f i q hi hq next
    have v1 : vp_in (nI i) 25 := vp_in_nI (by omega) (by omega)
    have c1 : (nI i).toNatClampNeg = i := nI_clamp (by omega)
    refine br_f (nI_ge (b := 25) hi (by decide)) ⟨v1, nm_r (e' := upd q.1 i 1000000) (by rw [c1]) ⟨v1, nm_e (nm_r (nI_1 i) (next (_, _) ?_))⟩⟩
    intro j hj
    show (upd q.1 i 1000000 j).toInt = 1000000
    by_cases e : j = i
    · rw [e, pk_us]; rfl
    · rw [pk_un e]
      exact hq j (by omega)
