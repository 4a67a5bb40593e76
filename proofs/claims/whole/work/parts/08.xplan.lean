variable {bc wc : Int32} {dl st en rg fw sl pl : Nat → Int32}
theorem xn_b {z : Int32} (h : z = 0 ∨ z = 1) : narrow .boolean (.int z) = .int z := by
  rcases h with e | e
  · subst e; exact rfl
  · subst e; exact rfl
theorem xe_cir {post : Int32 → Prop} {n : Nat} (hn : n ≤ 5) (h1 : mw_so n (rt_M fw) → post 1) (h0 : ¬ mw_so n (rt_M fw) → post 0) :
    wpX_everyCircleHasRegister post (nI n, wc, dl, st, en, rg, fw, sl, pl) := by
  refine loop_0 (fun f i (_ : Unit) => wX_everyCircleHasRegister_2 post (nI n) wc dl st en rg fw sl pl f (nI i))
    (fun i _ => ∀ x, x < i → rt_M fw x x ≠ 0) n () (fun x hx => absurd hx (by omega)) ?_ ?_
  · intro f q hq
    exact br_t (nI_le (Nat.le_refl _) (by omega)) (h1 hq)
  · intro f i q hi hq next
    have e1 : (nI (i * 5 + i)).toNatClampNeg = i * 5 + i := nI_clamp (by omega)
    refine br_f (nI_ge hi (by omega)) (xp_pr i i ⟨vp_in_nI (by omega) (by omega), ?_⟩)
    rw [e1]
    by_cases c : fw (i * 5 + i) = 0
    · refine br_t c (h0 fun z => z i hi ?_)
      show (fw (i * 5 + i)).toInt = 0
      rw [c]; rfl
    · refine br_f c (nm_r (nI_1 i) (next () ?_))
      intro x hx z
      by_cases e : x = i
      · rw [e] at z
        exact c (it_eq.mpr z)
      · exact hq x (by omega) z
/-- the longest run so far -/
def xl_I (n : Nat) (W D : Nat → Nat → Int) (d : Nat → Int) (a : Nat) (P : Nat → Nat → Prop) (y : Int) : Prop :=
  0 ≤ y ∧ (∀ u, u < a → d u ≤ y) ∧ (∀ u v, u < n → v < n → P u v → W u v = 0 → D u v ≤ y) ∧
  (y = 0 ∨ (∃ u, u < n ∧ d u = y) ∨ ∃ u v, u < n ∧ v < n ∧ W u v = 0 ∧ D u v = y)
theorem xl_val {n m : Nat} {d : Nat → Int} {s t : Nat → Nat} {r : Nat → Int} {B : Int} {W D : Nat → Nat → Int} {y : Int} (hK : rb_K n m d s t r B W D)
    (h : xl_I n W D d n (fw_P n 0) y) : lo_V n W D d (fun _ => 0) y := by
  obtain ⟨h1, h2, h3, h4⟩ := h
  have hn := hK.1.1
  have hd := hK.1.2.1
  have up : ∀ p, bf_ok n W D d p (fun _ => 0) → y ≤ p := by
    intro p ok
    rcases h4 with q | ⟨u, hu, q⟩ | ⟨u, v, hu, hv, q1, q2⟩
    · have := ok.1 0 (by omega)
      have := hd 0 (by omega)
      omega
    · have := ok.1 u hu
      omega
    · apply Classical.byContradiction
      intro z
      have ne : u ≠ v := fun e => hK.2.2 u hu (by rw [← e] at q1; exact q1)
      have k : (0 : Int) ≤ 0 + bf_c W D p u v := ok.2 u v ⟨hu, hv, ne, by omega⟩
      rw [bf_c1 (by omega)] at k
      omega
  refine ⟨h1, up 45 (lo_45 hK), fun p => ⟨up p, fun hy => ⟨fun v hv => ?_, ?_⟩⟩⟩
  · have := h2 v hv
    omega
  · intro u v en
    obtain ⟨hu, hv, ne, way⟩ := en
    show (0 : Int) ≤ 0 + bf_c W D p u v
    have w0 := (hK.2.1.1 u v hu hv).1
    by_cases c : p < D u v
    · rw [bf_c1 c]
      by_cases z : W u v = 0
      · have := h3 u v hu hv (Or.inl hu) z
        omega
      · omega
    · rw [bf_c0 c]; omega
theorem xl_run {post : Int32 → Prop} {n : Nat} (hn : n ≤ 5)
    (h : ∀ y : Int32, xl_I n (rt_M fw) (rt_M sl) (rt_I dl) n (fw_P n 0) y.toInt → post y) : wpX_longestRun post (nI n, wc, dl, st, en, rg, fw, sl, pl) := by
  refine loop_0 (fun f i (q : Int32) => wX_longestRun_4 post (nI n) wc dl st en rg fw sl pl f q (nI i))
    (fun i q => xl_I n (rt_M fw) (rt_M sl) (rt_I dl) i (fw_P i 0) q.toInt) n 0 ?_ ?_ ?_
  · refine ⟨Int.le_refl 0, fun u hu => absurd hu (by omega), fun u v _ _ z => ?_, Or.inl rfl⟩
    unfold fw_P at z
    omega
  · intro f q hq
    exact br_t (nI_le (Nat.le_refl _) (by omega)) (h q hq)
  · intro f i q hi hq next
    have c0 : (nI i).toNatClampNeg = i := nI_clamp (by omega)
    have inner : ∀ y : Int32, xl_I n (rt_M fw) (rt_M sl) (rt_I dl) (i + 1) (fw_P i 0) y.toInt →
        ∃ g, wX_longestRun_31 post (wX_longestRun_4 post (nI n) wc dl st en rg fw sl pl f) (nI i) (nI n) wc dl st en rg fw sl pl g y 0 := by
      intro y hy
      refine loop_0 (fun g v (y : Int32) => wX_longestRun_31 post (wX_longestRun_4 post (nI n) wc dl st en rg fw sl pl f) (nI i) (nI n) wc dl st en rg fw sl pl g y (nI v))
        (fun v y => xl_I n (rt_M fw) (rt_M sl) (rt_I dl) (i + 1) (fw_P i v) y.toInt) n y hy ?_ ?_
      · intro g y hy
        refine br_t (nI_le (Nat.le_refl _) (by omega)) (nm_r (nI_1 i) (next y ?_))
        obtain ⟨h1, h2, h3, h4⟩ := hy
        refine ⟨h1, h2, fun u v hu hv z => h3 u v hu hv ?_, h4⟩
        unfold fw_P at z ⊢
        omega
      · intro g v y hv hy nx
        have e1 : (nI (i * 5 + v)).toNatClampNeg = i * 5 + v := nI_clamp (by omega)
        have vi : vp_in (nI (i * 5 + v)) 25 := vp_in_nI (by omega) (by omega)
        obtain ⟨h1, h2, h3, h4⟩ := hy
        have keep : (rt_M fw i v = 0 → rt_M sl i v ≤ y.toInt) → xl_I n (rt_M fw) (rt_M sl) (rt_I dl) (i + 1) (fw_P i (v + 1)) y.toInt := by
          intro k
          refine ⟨h1, h2, fun a b ha hb z w => ?_, h4⟩
          rcases (fw_P1 i v a b).mp z with q | ⟨q, q'⟩
          · exact h3 a b ha hb q w
          · rw [q, q'] at w ⊢; exact k w
        refine br_f (nI_ge hv (by omega)) (xp_pr i v ⟨vi, ?_⟩)
        rw [e1]
        by_cases c : fw (i * 5 + v) = 0
        · refine br_t c ⟨vi, ?_⟩
          have c' : rt_M fw i v = 0 := it_eq.mp c
          by_cases c2 : sl (i * 5 + v) ≤ y
          · exact br_t c2 (nm_r (nI_1 v) (nx y (keep fun _ => it_le.mp c2)))
          · refine br_f c2 ⟨vi, nm_e (nm_r (nI_1 v) (nx _ ?_))⟩
            have c3 : ¬ rt_M sl i v ≤ y.toInt := fun z => c2 (it_le.mpr z)
            show xl_I n (rt_M fw) (rt_M sl) (rt_I dl) (i + 1) (fw_P i (v + 1)) (rt_M sl i v)
            refine ⟨by omega, fun u hu => by have := h2 u hu; omega, fun a b ha hb z w => ?_, Or.inr (Or.inr ⟨i, v, hi, hv, c', rfl⟩)⟩
            rcases (fw_P1 i v a b).mp z with q | ⟨q, q'⟩
            · have := h3 a b ha hb q w
              omega
            · rw [q, q']; exact Int.le_refl _
        · exact br_f c (nm_r (nI_1 v) (nx y (keep fun z => absurd (it_eq.mpr (show (fw (i * 5 + v)).toInt = (0 : Int32).toInt from z)) c)))
    obtain ⟨h1, h2, h3, h4⟩ := hq
    refine br_f (nI_ge hi (by omega)) ⟨vp_in_nI (by omega) (by omega), ?_⟩
    rw [c0]
    by_cases c : dl i ≤ q
    · refine br_t c (inner q ⟨h1, fun u hu => ?_, h3, h4⟩)
      by_cases e : u = i
      · rw [e]; exact it_le.mp c
      · exact h2 u (by omega)
    · have c' : ¬ rt_I dl i ≤ q.toInt := fun z => c (it_le.mpr z)
      refine br_f c ⟨vp_in_nI (by omega) (by omega), nm_e (inner _ ?_)⟩
      show xl_I n (rt_M fw) (rt_M sl) (rt_I dl) (i + 1) (fw_P i 0) (rt_I dl i)
      refine ⟨by omega, fun u hu => ?_, fun u v hu hv z w => by have := h3 u v hu hv z w; omega, Or.inr (Or.inl ⟨i, hi, rfl⟩)⟩
      by_cases e : u = i
      · rw [e]; exact Int.le_refl _
      · have := h2 u (by omega)
        omega
theorem xw_66 {post : Int32 → SX → Prop} {J4 J15 : Int32 → Int32 → (Nat → Int32) → (Nat → Int32) → (Nat → Int32) → (Nat → Int32) → (Nat → Int32) → (Nat → Int32) → (Nat → Int32) → Prop}
    {x1 x2 z0 : Int32} {n u v : Nat} {p β : Int} {a0 : Nat → Int} (hn : n ≤ 5) (hW : bf_W n (rt_M fw)) (en' : bf_en n (rt_M fw) u v) (hw : rt_M fw u v ≤ 256000) (hβ : -1000 ≤ β)
    (ha0 : bf_0 n a0) (hz : z0.toInt = if p < rt_M sl u v then 1 else 0) (hx2 : x2 = 0 ∨ x2 = 1)
    (hI : bf_In n (rt_M fw) (rt_M sl) p u v β a0 (rt_I pl) (x2 = 1))
    (hJ : ∀ (fl : Int32) (pl' : Nat → Int32), (fl = 0 ∨ fl = 1) → bf_In n (rt_M fw) (rt_M sl) p u (v + 1) β a0 (rt_I pl') (fl = 1) → J15 fl (nI (v + 1)) dl st en rg fw sl pl') :
    wX_lowerLags_66 post J4 J15 x1 x2 (nI u) (nI v) (nI (u * 5 + v)) z0 bc wc dl st en rg fw sl pl := by
  obtain ⟨hu, hv, ne, way⟩ := en'
  have en' : bf_en n (rt_M fw) u v := ⟨hu, hv, ne, way⟩
  have cu : (nI u).toNatClampNeg = u := nI_clamp (by omega)
  have cv : (nI v).toNatClampNeg = v := nI_clamp (by omega)
  have cp : (nI (u * 5 + v)).toNatClampNeg = u * 5 + v := nI_clamp (by omega)
  have vu : vp_in (nI u) 5 := vp_in_nI (by omega) (by omega)
  have vv : vp_in (nI v) 5 := vp_in_nI (by omega) (by omega)
  have w0 := hW u v hu hv
  have l1 := hI.1 v hv
  have l2 := ha0 v hv
  have l3 := hI.2.2.2.2.2 v hv
  have zb : 0 ≤ z0.toInt ∧ z0.toInt ≤ 1 := by
    rw [hz]
    by_cases c : p < rt_M sl u v
    · rw [if_pos c]; omega
    · rw [if_neg c]; omega
  have s1 : (pl v + fw (u * 5 + v)).toInt = rt_I pl v + rt_M fw u v := it_add (by show _ ≤ rt_I pl v + rt_M fw u v; omega) (by show rt_I pl v + rt_M fw u v < _; omega)
  have s2 : (pl v + fw (u * 5 + v) - z0).toInt = rt_I pl v + bf_c (rt_M fw) (rt_M sl) p u v := by
    have := it_sub (x := pl v + fw (u * 5 + v)) (y := z0) (by rw [s1]; omega) (by rw [s1]; omega)
    rw [this, s1, hz]
    unfold bf_c
    omega
  refine ⟨vv, vp_in_nI (by omega) (by omega), nm_r (e' := pl v + fw (u * 5 + v) - z0) (by rw [cv, cp]) ⟨vu, ?_⟩⟩
  rw [cu]
  by_cases c : pl u ≤ pl v + fw (u * 5 + v) - z0
  · refine br_t c (nm_r (nI_1 v) (hJ x2 pl hx2 (bf_keep hI fun _ => ?_)))
    rw [it_le, s2] at c
    exact c
  · refine br_f c ⟨vu, nm_e (nm_r (nI_1 v) (hJ 1 _ (Or.inr rfl) ?_))⟩
    rw [it_le, s2] at c
    have c' : ¬ rt_I pl u ≤ rt_I pl v + bf_c (rt_M fw) (rt_M sl) p u v := c
    refine bf_low hW hI en' (by omega) (by rw [it_ui]; exact s2) (fun x _ hx => it_un hx) rfl
theorem xw_15 {post : Int32 → SX → Prop} {J4 : Int32 → Int32 → (Nat → Int32) → (Nat → Int32) → (Nat → Int32) → (Nat → Int32) → (Nat → Int32) → (Nat → Int32) → (Nat → Int32) → Prop}
    {x1 x2 : Int32} {n u : Nat} {β : Int} {a0 : Nat → Int} (hn : n ≤ 5) (hW : ∀ a b, a < n → b < n → 0 ≤ rt_M fw a b ∧ (rt_M fw a b ≠ 1000000 → rt_M fw a b ≤ 256000)) (hu : u < n) (hβ : -1000 ≤ β)
    (ha0 : bf_0 n a0) (hx2 : x2 = 0 ∨ x2 = 1)
    (hI : bf_In n (rt_M fw) (rt_M sl) x1.toInt u 0 β a0 (rt_I pl) (x2 = 1))
    (hJ : ∀ (fl : Int32) (pl' : Nat → Int32), (fl = 0 ∨ fl = 1) → bf_In n (rt_M fw) (rt_M sl) x1.toInt u n β a0 (rt_I pl') (fl = 1) → J4 fl (nI (u + 1)) dl st en rg fw sl pl') :
    ∃ f, wX_lowerLags_15 post J4 x1 (nI u) (nI n) wc f x2 0 dl st en rg fw sl pl := by
  refine loop_0 (fun f v (q : Int32 × (Nat → Int32)) => wX_lowerLags_15 post J4 x1 (nI u) (nI n) wc f q.1 (nI v) dl st en rg fw sl q.2)
    (fun v q => (q.1 = 0 ∨ q.1 = 1) ∧ bf_In n (rt_M fw) (rt_M sl) x1.toInt u v β a0 (rt_I q.2) (q.1 = 1)) n (x2, pl) ⟨hx2, hI⟩ ?_ ?_
  · intro f q hq
    exact br_t (nI_le (Nat.le_refl _) (by omega)) (nm_r (nI_1 u) (hJ q.1 q.2 hq.1 hq.2))
  · intro f v q hv hq next
    obtain ⟨fl, pl⟩ := q
    obtain ⟨h1, h2⟩ := hq
    have h1 : fl = 0 ∨ fl = 1 := h1
    have h2 : bf_In n (rt_M fw) (rt_M sl) x1.toInt u v β a0 (rt_I pl) (fl = 1) := h2
    have cp : (nI (u * 5 + v)).toNatClampNeg = u * 5 + v := nI_clamp (by omega)
    have vp : vp_in (nI (u * 5 + v)) 25 := vp_in_nI (by omega) (by omega)
    have nx : ∀ (fl : Int32) (pl' : Nat → Int32), (fl = 0 ∨ fl = 1) → bf_In n (rt_M fw) (rt_M sl) x1.toInt u (v + 1) β a0 (rt_I pl') (fl = 1) →
      wX_lowerLags_15 post J4 x1 (nI u) (nI n) wc f fl (nI (v + 1)) dl st en rg fw sl pl' := fun fl pl' a b => next (fl, pl') ⟨a, b⟩
    refine br_f (nI_ge hv (by omega)) (xp_pr u v ?_)
    dsimp only
    rw [cp]
    by_cases c : u = v
    · refine br_t (by rw [c]) (nm_r (nI_1 v) (nx fl pl h1 (bf_keep h2 fun en' => absurd c en'.2.2.1)))
    · refine br_f (fun z => c ((nI_eq (by omega) (by omega)).mp z)) ⟨vp, ?_⟩
      by_cases c2 : fw (u * 5 + v) = 1000000
      · refine br_t c2 (nm_r (nI_1 v) (nx fl pl h1 (bf_keep h2 fun en' => absurd ?_ en'.2.2.2)))
        show (fw (u * 5 + v)).toInt = 1000000
        rw [c2]; rfl
      · have way : rt_M fw u v ≠ 1000000 := fun z => c2 (it_eq.mpr z)
        refine br_f c2 ⟨vp, ?_⟩
        by_cases c3 : sl (u * 5 + v) ≤ x1
        · refine br_t c3 (xw_66 hn (fun a b ha hb => (hW a b ha hb).1) ⟨hu, hv, c, way⟩ ((hW u v hu hv).2 way) hβ ha0 ?_ h1 h2 nx)
          have c4 : ¬ x1.toInt < rt_M sl u v := by have : rt_M sl u v ≤ x1.toInt := it_le.mp c3; omega
          rw [if_neg c4]; rfl
        · refine br_f c3 (xw_66 hn (fun a b ha hb => (hW a b ha hb).1) ⟨hu, hv, c, way⟩ ((hW u v hu hv).2 way) hβ ha0 ?_ h1 h2 nx)
          have c4 : x1.toInt < rt_M sl u v := by have : ¬ rt_M sl u v ≤ x1.toInt := fun z => c3 (it_le.mpr z); omega
          rw [if_pos c4]; rfl
theorem xw_pass {post : Int32 → SX → Prop} {x1 : Int32} {n : Nat} {β : Int} (hn : n ≤ 5) (hW : ∀ a b, a < n → b < n → 0 ≤ rt_M fw a b ∧ (rt_M fw a b ≠ 1000000 → rt_M fw a b ≤ 256000)) (hβ : -1000 ≤ β)
    (ha0 : bf_0 n (rt_I pl)) (hb : ∀ v, v < n → β ≤ rt_I pl v)
    (h : ∀ (fl : Int32) (pl' : Nat → Int32), (fl = 0 ∨ fl = 1) → bf_Ps n (rt_M fw) (rt_M sl) x1.toInt (rt_I pl) (rt_I pl') (fl = 1) → (∀ v, v < n → β - 30 ≤ rt_I pl' v) → post fl (nI n, wc, dl, st, en, rg, fw, sl, pl')) :
    wpX_lowerLags post (nI n, wc, dl, st, en, rg, fw, sl, pl) x1 := by
  refine loop_0 (fun f u (q : Int32 × (Nat → Int32)) => wX_lowerLags_4 post x1 (nI n) wc f q.1 (nI u) dl st en rg fw sl q.2)
    (fun u q => (q.1 = 0 ∨ q.1 = 1) ∧ bf_In n (rt_M fw) (rt_M sl) x1.toInt u 0 β (rt_I pl) (rt_I q.2) (q.1 = 1)) n (0, pl) ⟨Or.inl rfl, bf_start (by show ¬ (0 : Int32) = 1; decide) hb⟩ ?_ ?_
  · intro f q hq
    obtain ⟨fl, pl'⟩ := q
    obtain ⟨h1, h2⟩ := hq
    have h1 : fl = 0 ∨ fl = 1 := h1
    have h2 : bf_In n (rt_M fw) (rt_M sl) x1.toInt n 0 β (rt_I pl) (rt_I pl') (fl = 1) := h2
    refine br_t (nI_le (Nat.le_refl _) (by omega)) ⟨xn_b h1, h fl pl' h1 (bf_end h2) fun v hv => ?_⟩
    have := h2.2.2.2.2.2 v hv
    omega
  · intro f u q hu hq next
    refine br_f (nI_ge hu (by omega)) (xw_15 hn hW hu hβ ha0 hq.1 hq.2 ?_)
    intro fl pl' a b
    exact next (fl, pl') ⟨a, bf_row hn b⟩
theorem xw_for {post : Int32 → SX → Prop} {x1 : Int32} {n : Nat} (hn : n ≤ 5) (hW : ∀ a b, a < n → b < n → 0 ≤ rt_M fw a b ∧ (rt_M fw a b ≠ 1000000 → rt_M fw a b ≤ 256000))
    (h1 : ∀ pl' : Nat → Int32, (∀ v, v < n → rt_I dl v ≤ x1.toInt) → bf_Gr n (rt_M fw) (rt_M sl) x1.toInt (rt_I pl') → post 1 (nI n, wc, dl, st, en, rg, fw, sl, pl'))
    (h0 : ∀ pl' : Nat → Int32, (∀ L, bf_0 n L → ¬ bf_ok n (rt_M fw) (rt_M sl) (rt_I dl) x1.toInt L) → post 0 (nI n, wc, dl, st, en, rg, fw, sl, pl')) :
    wpX_planFor post (nI n, wc, dl, st, en, rg, fw, sl, pl) x1 := by
  have rounds : ∀ pl : Nat → Int32, (∀ v, v < n → rt_I pl v = 0) → (∀ v, v < n → rt_I dl v ≤ x1.toInt) → ∃ f, wX_planFor_37 post x1 f 0 (nI n) wc dl st en rg fw sl pl := by
    intro pl hz hd
    refine loop_0 (fun f i (q : Nat → Int32) => wX_planFor_37 post x1 f (nI i) (nI n) wc dl st en rg fw sl q)
      (fun i q => bf_R n (rt_M fw) (rt_M sl) x1.toInt i (rt_I q) ∧ ∀ v, v < n → -(30 * (i : Int)) ≤ rt_I q v) n pl ⟨bf_R0 hz, fun v hv => by have := hz v hv; omega⟩ ?_ ?_
    · intro f q hq
      obtain ⟨g1, g2⟩ := hq
      refine br_t (nI_le (Nat.le_refl _) (by omega)) (xw_pass (β := -(30 * (n : Int))) hn hW (by omega) g1.1 g2 ?_)
      intro fl pl' a b _
      obtain ⟨k1, k2⟩ := bf_fin g1 b
      rcases a with e | e
      · refine br_t e (h1 pl' hd (k1 (by rw [e]; decide)))
      · refine br_f (by rw [e]; decide) (h0 pl' fun L l0 ok => k2 e L ok.2 l0)
    · intro f i q hi hq next
      obtain ⟨g1, g2⟩ := hq
      refine br_f (nI_ge hi (by omega)) (xw_pass (β := -(30 * (i : Int))) hn hW (by omega) g1.1 g2 ?_)
      intro fl pl' a b c
      refine nm_r (nI_1 i) (next pl' ⟨bf_Rs g1 b, fun v hv => ?_⟩)
      have := c v hv
      omega
  refine loop_0 (fun f i (q : Nat → Int32) => wX_planFor_2 post x1 (nI n) wc f (nI i) dl st en rg fw sl q)
    (fun i q => (∀ v, v < i → rt_I q v = 0) ∧ ∀ v, v < i → rt_I dl v ≤ x1.toInt) n pl ⟨fun v hv => absurd hv (by omega), fun v hv => absurd hv (by omega)⟩ ?_ ?_
  · intro f q hq
    exact br_t (nI_le (Nat.le_refl _) (by omega)) (rounds q hq.1 hq.2)
  · intro f i q hi hq next
    have ci : (nI i).toNatClampNeg = i := nI_clamp (by omega)
    have vi : vp_in (nI i) 5 := vp_in_nI (by omega) (by omega)
    refine br_f (nI_ge hi (by omega)) ⟨vi, nm_r (e' := upd q i 0) (by rw [ci]) ⟨vi, ?_⟩⟩
    rw [ci]
    by_cases c : dl i ≤ x1
    · refine br_t c (nm_r (nI_1 i) (next _ ⟨fun v hv => ?_, fun v hv => ?_⟩))
      · by_cases e : v = i
        · rw [e, it_ui]; rfl
        · rw [it_un e]; exact hq.1 v (by omega)
      · by_cases e : v = i
        · rw [e]; exact it_le.mp c
        · exact hq.2 v (by omega)
    · refine br_f c (h0 _ fun L _ ok => c (it_le.mpr (ok.1 i hi)))
theorem xw_prop {post : Int32 → SX → Prop} {n m : Nat} {s t : Nat → Nat} {r : Nat → Int} {B : Int} (hK : rb_K n m (rt_I dl) s t r B (rt_M fw) (rt_M sl))
    (h : ∀ (y : Int32) (pl' : Nat → Int32), se_l n (rt_M fw) (rt_M sl) (rt_I dl) y.toInt (rt_I pl') → post y (nI n, wc, dl, st, en, rg, fw, sl, pl')) :
    wpX_proposePlan post (nI n, wc, dl, st, en, rg, fw, sl, pl) := by
  have hn1 : 1 ≤ n := hK.1.1.1
  have hn : n ≤ 5 := hK.1.1.2.1
  have hd := hK.1.2.1
  have hW : ∀ a b, a < n → b < n → 0 ≤ rt_M fw a b ∧ (rt_M fw a b ≠ 1000000 → rt_M fw a b ≤ 256000) := fun a b ha hb => ⟨(hK.2.1.1 a b ha hb).1, fun q => ((hK.2.1.1 a b ha hb).2.2 q).1⟩
  have hW0 : bf_W n (rt_M fw) := rb_W hK.2.1
  have sea : ∀ (i : Nat) (pl' : Nat → Int32), (∀ j : Nat, j < i → ∀ L, bf_0 n L → ¬ bf_ok n (rt_M fw) (rt_M sl) (rt_I dl) (j : Int) L) → (∀ v, v < n → rt_I dl v ≤ (i : Int)) →
      bf_Gr n (rt_M fw) (rt_M sl) (i : Int) (rt_I pl') → se_l n (rt_M fw) (rt_M sl) (rt_I dl) (i : Int) (rt_I pl') := by
    intro i pl' no hdi hG
    refine se_of hn hW0 hdi hG ?_
    intro L q l0 ok
    apply Classical.byContradiction
    intro z
    have a1 := ok.1 0 (by omega)
    have a2 := hd 0 (by omega)
    have eq : ((q.toNat : Nat) : Int) = q := by omega
    exact no q.toNat (by omega) L l0 (by rw [eq]; exact ok)
  refine loop_0 (fun f i (q : Nat → Int32) => wX_proposePlan_2 post f (nI i) (nI n) wc dl st en rg fw sl q)
    (fun i q => ∀ j : Nat, j < i → ∀ L, bf_0 n L → ¬ bf_ok n (rt_M fw) (rt_M sl) (rt_I dl) (j : Int) L) 45 pl (fun j hj => absurd hj (by omega)) ?_ ?_
  · intro f q hq
    refine br_t (nI_le (a := 45) (b := 45) (Nat.le_refl _) (by decide)) (xw_for hn hW ?_ ?_)
    · intro pl' a b
      exact h 45 pl' (sea 45 pl' hq a b)
    · intro pl' no
      exact absurd (lo_45 hK) (no (fun _ => 0) (fun _ _ => Int.le_refl 0))
  · intro f i q hi hq next
    have ti : (nI i).toInt = (i : Int) := nI_toInt (by omega)
    refine br_f (nI_ge (b := 45) hi (by decide)) (xw_for hn hW ?_ ?_)
    · intro pl' a b
      rw [ti] at a b
      refine br_f (by decide) (h (nI i) pl' ?_)
      rw [ti]
      exact sea i pl' hq a b
    · intro pl' no
      rw [ti] at no
      refine br_t rfl (nm_r (nI_1 i) (next pl' ?_))
      intro j hj
      by_cases e : j = i
      · rw [e]; exact no
      · exact hq j (by omega)
