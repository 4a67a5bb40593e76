theorem i_up {k : Nat} {u : SX} {v : SY} (h : i_Rel k u v) : i_Rel (k + 4) u v := by
  obtain ⟨n, m, dl, st, en, rg, fw, sl, pl, la, le, pn, re, kn, bp, rfl, rfl, hc, hk⟩ := h
  exact rl_m4 hc hk
theorem rl_ini (n : Nat) (h1 : 1 ≤ n) (h5 : n ≤ 5) : i_Rel 1 (nI n, 0, (fun _ => 0), (fun _ => 0), (fun _ => 0), (fun _ => 0), (fun _ => 0), (fun _ => 0), (fun _ => 0))
    (nI n, 0, 0, 0, (fun _ => 0), (fun _ => 0), (fun _ => 0), (fun _ => 0), (fun _ => 0), (fun _ => 0), (fun _ => 0), (fun _ => 0)) := by
  refine rl_mk (m := 0) ⟨⟨⟨h1, h5, by omega⟩, fun v _ => ?_, fun i hi => absurd hi (by omega)⟩, fun i hi => absurd hi (by omega)⟩ (Or.inl rfl)
  show 0 ≤ (0 : Int32).toInt ∧ (0 : Int32).toInt ≤ 9
  exact ⟨by decide, by decide⟩
theorem i_vc0 (k0 : Int32) : wpX_init (fun u => wpY_init (fun v => i_Rel 1 u v) k0) k0 := by
  by_cases c1 : 1 ≤ k0
  · by_cases c2 : k0 ≤ 5
    · have c3 : ¬ k0 < 0 := by
        rw [it_le, it_1] at c1
        rw [it_lt, it_0]
        omega
      obtain ⟨j, hj, rfl⟩ := nI_of c3
      have d1 : 1 ≤ j := (nI_leI (a := 1) (b := j) (by decide) hj).mp c1
      have d2 : j ≤ 5 := (nI_leI (a := j) (b := 5) hj (by decide)).mp c2
      exact br_t c1 (br_t c2 (br_t c1 (br_t c2 (rl_ini j d1 d2))))
    · exact br_t c1 (br_f c2 (br_t c1 (br_f c2 (rl_ini 5 (by omega) (by omega)))))
  · exact br_f c1 (br_f c1 (rl_ini 1 (by omega) (by omega)))
theorem dl_C {n m j : Nat} {B : Int} {dl st en rg : Nat → Int32} {x : Int32} (hc : rl_C n m dl st en rg B) (h0 : 0 ≤ x.toInt) (h9 : x.toInt ≤ 9) : rl_C n m (upd dl j x) st en rg B := by
  obtain ⟨⟨h1, h2, h3⟩, h4⟩ := hc
  refine ⟨⟨h1, fun v hv => ?_, h3⟩, h4⟩
  by_cases e : v = j
  · rw [e, it_ui]; exact ⟨h0, h9⟩
  · rw [it_un e]; exact h2 v hv
theorem i_vc_delay {k : Nat} {u : SX} {v : SY} (I : i_Rel k u v) (hk : k + 4 ≤ 2049) (v1 : Int32) (v2 : Int32) : wpX_delay (fun r u' => wpY_delay (fun r' v' => r' = r ∧ i_Rel (k + 4) u' v') v v1 v2) u v1 v2 := by
  obtain ⟨n, m, dl, st, en, rg, fw, sl, pl, la, le, pn, re, kn, bp, rfl, rfl, hc, hkn⟩ := I
  have hn := hc.1.1.2.1
  unfold wpX_delay
  refine xi_blk hn (fun b => br_f (by decide) ?_) (fun b => br_t rfl ?_)
  · by_cases c1 : v2 < 0
    · refine br_t c1 ?_
      unfold wpY_delay
      exact yi_blk hn (fun _ => br_f (by decide) (br_t c1 ⟨rfl, rl_m4 hc hkn⟩)) (fun z => absurd b z)
    · refine br_f c1 ?_
      by_cases c2 : v2 ≤ 9
      · obtain ⟨j, hj, rfl⟩ := b
        have cj : (nI j).toNatClampNeg = j := nI_clamp (by omega)
        have vj : vp_in (nI j) 5 := vp_in_nI (by omega) (by omega)
        refine br_t c2 ⟨vj, nm_r (e' := upd dl j v2) (by rw [cj]) ?_⟩
        unfold wpY_delay
        refine yi_blk hn (fun _ => br_f (by decide) (br_f c1 (br_t c2 ⟨vj, nm_r (e' := upd dl j v2) (by rw [cj]) ⟨rfl, rl_m4 (dl_C hc ?_ ?_) (Or.inl rfl)⟩⟩))) (fun z => absurd ⟨j, hj, rfl⟩ z)
        · rw [it_lt, it_0] at c1
          omega
        · exact it_le.mp c2
      · refine br_f c2 ?_
        unfold wpY_delay
        exact yi_blk hn (fun _ => br_f (by decide) (br_f c1 (br_f c2 ⟨rfl, rl_m4 hc hkn⟩))) (fun z => absurd b z)
  · unfold wpY_delay
    exact yi_blk hn (fun z => absurd z b) (fun _ => br_t rfl ⟨rfl, rl_m4 hc hkn⟩)
theorem wi_C {n m a b : Nat} {B : Int} {dl st en rg : Nat → Int32} {x : Int32} (hm : m < 12) (hc : rl_C n m dl st en rg B) (hB : 3 ≤ B) (ha : a < n) (hb : b < n) (h0 : 0 ≤ x.toInt) (h9 : x.toInt ≤ 3) :
    rl_C n (m + 1) dl (upd st m (nI a)) (upd en m (nI b)) (upd rg m x) B := by
  obtain ⟨⟨h1, h2, h3⟩, h4⟩ := hc
  refine ⟨⟨⟨h1.1, h1.2.1, by omega⟩, h2, fun i hi => ?_⟩, fun i hi => ?_⟩
  · show (upd st m (nI a) i).toNatClampNeg < n ∧ (upd en m (nI b) i).toNatClampNeg < n ∧ 0 ≤ (upd rg m x i).toInt ∧ (upd rg m x i).toInt ≤ B
    by_cases e : i = m
    · rw [e, pk_us, pk_us, pk_us, nI_clamp (by omega), nI_clamp (by omega)]
      exact ⟨ha, hb, h0, by omega⟩
    · rw [pk_un e, pk_un e, pk_un e]
      exact h3 i (by omega)
  · show upd st m (nI a) i = nI (upd st m (nI a) i).toNatClampNeg ∧ upd en m (nI b) i = nI (upd en m (nI b) i).toNatClampNeg
    by_cases e : i = m
    · rw [e, pk_us, pk_us, nI_clamp (by omega), nI_clamp (by omega)]
      exact ⟨rfl, rfl⟩
    · rw [pk_un e, pk_un e]
      exact h4 i (by omega)
theorem i_vc_wire {k : Nat} {u : SX} {v : SY} (I : i_Rel k u v) (hk : k + 4 ≤ 2049) (v1 : Int32) (v2 : Int32) (v3 : Int32) : wpX_wire (fun r u' => wpY_wire (fun r' v' => r' = r ∧ i_Rel (k + 4) u' v') v v1 v2 v3) u v1 v2 v3 := by
  obtain ⟨n, m, dl, st, en, rg, fw, sl, pl, la, le, pn, re, kn, bp, rfl, rfl, hc, hkn⟩ := I
  have hn := hc.1.1.2.1
  have hm := hc.1.1.2.2
  unfold wpX_wire
  by_cases c0 : m < 12
  · have lt : nI m < 12 := nI_lt (b := 12) c0 (by decide)
    have ne : ¬ nI m = 12 := fun z => by have := (nI_eq (a := m) (b := 12) (by omega) (by decide)).mp z; omega
    refine br_t lt (xi_blk hn (fun b1 => br_f (by decide) ?_) (fun b1 => br_t rfl ?_))
    · refine xi_blk hn (fun b2 => br_f (by decide) ?_) (fun b2 => br_t rfl ?_)
      · by_cases c1 : v3 < 0
        · refine br_t c1 ?_
          unfold wpY_wire
          exact br_f ne (yi_blk hn (fun _ => br_f (by decide) (yi_blk hn (fun _ => br_f (by decide) (br_t c1 ⟨rfl, rl_m4 hc hkn⟩)) (fun z => absurd b2 z))) (fun z => absurd b1 z))
        · refine br_f c1 ?_
          by_cases c2 : v3 ≤ 3
          · obtain ⟨a, ha, rfl⟩ := b1
            obtain ⟨b, hb, rfl⟩ := b2
            have cj : (nI m).toNatClampNeg = m := nI_clamp (by omega)
            have vj : vp_in (nI m) 12 := vp_in_nI (by omega) (by omega)
            refine br_t c2 ⟨vj, nm_r (e' := upd st m (nI a)) (by rw [cj]) ⟨vj, nm_r (e' := upd en m (nI b)) (by rw [cj]) ⟨vj, nm_r (e' := upd rg m v3) (by rw [cj]) (nm_r (nI_1 m) ?_)⟩⟩⟩
            unfold wpY_wire
            refine br_f ne (yi_blk hn (fun _ => br_f (by decide) (yi_blk hn (fun _ => br_f (by decide) (br_f c1 (br_t c2 ?_))) (fun z => absurd ⟨b, hb, rfl⟩ z))) (fun z => absurd ⟨a, ha, rfl⟩ z))
            refine ⟨vj, nm_r (e' := upd st m (nI a)) (by rw [cj]) ⟨vj, nm_r (e' := upd en m (nI b)) (by rw [cj]) ⟨vj, nm_r (e' := upd rg m v3) (by rw [cj]) (nm_r (nI_1 m) ⟨nI_pred m, rl_m4 (wi_C c0 hc (by omega) ha hb ?_ ?_) (Or.inl rfl)⟩)⟩⟩⟩
            · rw [it_lt, it_0] at c1
              omega
            · exact it_le.mp c2
          · refine br_f c2 ?_
            unfold wpY_wire
            exact br_f ne (yi_blk hn (fun _ => br_f (by decide) (yi_blk hn (fun _ => br_f (by decide) (br_f c1 (br_f c2 ⟨rfl, rl_m4 hc hkn⟩))) (fun z => absurd b2 z))) (fun z => absurd b1 z))
      · unfold wpY_wire
        exact br_f ne (yi_blk hn (fun _ => br_f (by decide) (yi_blk hn (fun z => absurd z b2) (fun _ => br_t rfl ⟨rfl, rl_m4 hc hkn⟩))) (fun z => absurd b1 z))
    · unfold wpY_wire
      exact br_f ne (yi_blk hn (fun z => absurd z b1) (fun _ => br_t rfl ⟨rfl, rl_m4 hc hkn⟩))
  · have em : m = 12 := by omega
    have nlt : ¬ nI m < 12 := nI_nlt (a := m) (b := 12) (by omega) (by omega)
    refine br_f nlt ?_
    unfold wpY_wire
    exact br_t (by rw [em]; rfl) ⟨rfl, rl_m4 hc hkn⟩
theorem i_vc_cut {k : Nat} {u : SX} {v : SY} (I : i_Rel k u v) (hk : k + 4 ≤ 2049) (v1 : Int32) : wpX_cut (fun r u' => wpY_cut (fun r' v' => r' = r ∧ i_Rel (k + 4) u' v') v v1) u v1 := by
  obtain ⟨n, m, dl, st, en, rg, fw, sl, pl, la, le, pn, re, kn, bp, rfl, rfl, hc, hkn⟩ := I
  have hm := hc.1.1.2.2
  unfold wpX_cut
  refine xi_wir hm (fun b => br_f (by decide) ?_) (fun b => br_t rfl ?_)
  · obtain ⟨i, hi, rfl⟩ := b
    obtain ⟨m, rfl⟩ : ∃ q, m = q + 1 := ⟨m - 1, by omega⟩
    refine nm_r (nI_1 i) (xc_cut hm hi ?_)
    unfold wpY_cut
    refine br_f (nI_pos (by omega)) (br_t (nI_lt hi (by omega)) (yc_cut hm hi ⟨rfl, rl_m4 (sh_C hc) (Or.inl rfl)⟩))
  · unfold wpY_cut
    by_cases c : v1 < 0
    · exact br_t c ⟨rfl, rl_m4 hc hkn⟩
    · refine br_f c (br_f (fun z => b ?_) ⟨rfl, rl_m4 hc hkn⟩)
      obtain ⟨j, hj, rfl⟩ := nI_of c
      exact ⟨j, (nI_ltI hj (by omega)).mp z, rfl⟩
theorem i_vc_sound {k : Nat} {u : SX} {v : SY} (I : i_Rel k u v) (hk : k + 4 ≤ 2049) : wpX_sound (fun r u' => wpY_sound (fun r' v' => r' = r ∧ i_Rel (k + 4) u' v') v) u := by
  obtain ⟨n, m, dl, st, en, rg, fw, sl, pl, la, le, pn, re, kn, bp, rfl, rfl, hc, hkn⟩ := I
  have hn := hc.1.1.2.1
  unfold wpX_sound
  refine xm_ways hc (by omega) (by omega) ?_
  intro fw' sl' hF
  refine xe_cir hn (fun so => ⟨xn_b (Or.inr rfl), ?_⟩) (fun so => ⟨xn_b (Or.inl rfl), ?_⟩)
  · exact ys_so hc hF (fun la' le' _ _ => ⟨rfl, rl_m4 hc hkn⟩) (fun la' le' z => absurd so z)
  · exact ys_so hc hF (fun la' le' _ z => absurd z so) (fun la' le' _ => ⟨rfl, rl_m4 hc hkn⟩)
theorem lo_uq {n : Nat} {W D : Nat → Nat → Int} {d L : Nat → Int} {x y : Int} (h : lo_V n W D d L x) (h' : lo_V n W D d L y) : x = y := by
  have a := (h'.2.2 x).mp ((h.2.2 x).mpr (Int.le_refl _))
  have b := (h.2.2 y).mp ((h'.2.2 y).mpr (Int.le_refl _))
  omega
theorem la_0 {n m : Nat} {B : Int} {dl st en rg la : Nat → Int32} (hc : rl_C n m dl st en rg B) (h : ∀ v, v < 5 → rt_I la v = 0) :
    yl_b n la ∧ lo_g m (rt_N st) (rt_N en) (rt_I rg) (rt_I la) ∧ ∀ v, v < n → rt_I la v = 0 := by
  have hn := hc.1.1.2.1
  have z : ∀ v, v < n → rt_I la v = 0 := fun v hv => h v (by omega)
  refine ⟨fun v hv => by have := z v hv; omega, fun i hi => ?_, z⟩
  obtain ⟨s1, s2, s3, _⟩ := hc.1.2.2 i hi
  rw [z _ s1, z _ s2]
  omega
theorem i_vc_period {k : Nat} {u : SX} {v : SY} (I : i_Rel k u v) (hk : k + 4 ≤ 2049) : wpX_period (fun r u' => wpY_period (fun r' v' => r' = r ∧ i_Rel (k + 4) u' v') v) u := by
  obtain ⟨n, m, dl, st, en, rg, fw, sl, pl, la, le, pn, re, kn, bp, rfl, rfl, hc, hkn⟩ := I
  have hn := hc.1.1.2.1
  unfold wpX_period
  refine xm_ways hc (by omega) (by omega) ?_
  intro fw' sl' hF
  refine xe_cir hn (fun so => br_f (by decide) ?_) (fun so => br_t rfl ?_)
  · have hK : rb_K n m (rt_I dl) (rt_N st) (rt_N en) (rt_I rg) _ (rt_M fw') (rt_M sl') := ⟨hc.1, hF, so⟩
    refine xl_run hn ?_
    intro y hy
    have vy := xl_val hK hy
    unfold wpY_period
    refine ys_so hc hF (fun la' le' hla _ => br_f (by decide) ?_) (fun la' le' z => absurd so z)
    obtain ⟨l1, l2, l3⟩ := la_0 hc hla
    refine yl_long hc (by omega) l1 hK l2 ?_
    intro y' le'' hy'
    refine ⟨it_eq.mpr (lo_uq (lo_VC l3 hy') vy), rl_m4 hc hkn⟩
  · unfold wpY_period
    exact ys_so hc hF (fun la' le' _ z => absurd z so) (fun la' le' _ => br_t rfl ⟨rfl, rl_m4 hc hkn⟩)
theorem rl_kn {n m : Nat} {dl st en rg pn : Nat → Int32} {kn bp : Int32} {W D : Nat → Nat → Int} (hk : rl_K n m dl st en rg kn bp pn)
    (hF : mw_F n m (rt_I dl) (rt_N st) (rt_N en) (rt_I rg) W D) (so : mw_so n W) : kn = 0 ∨ (kn = 1 ∧ se_l n W D (rt_I dl) bp.toInt (rt_I pn)) := by
  rcases hk with z | ⟨z, h⟩
  · exact Or.inl z
  · exact Or.inr ⟨z, h W D hF so⟩
theorem i_vc_best {k : Nat} {u : SX} {v : SY} (I : i_Rel k u v) (hk : k + 4 ≤ 2049) : wpX_best (fun r u' => wpY_best (fun r' v' => r' = r ∧ i_Rel (k + 4) u' v') v) u := by
  obtain ⟨n, m, dl, st, en, rg, fw, sl, pl, la, le, pn, re, kn, bp, rfl, rfl, hc, hkn⟩ := I
  have hn := hc.1.1.2.1
  unfold wpX_best
  refine xm_ways hc (by omega) (by omega) ?_
  intro fw' sl' hF
  refine xe_cir hn (fun so => br_f (by decide) ?_) (fun so => br_t rfl ?_)
  · have hK : rb_K n m (rt_I dl) (rt_N st) (rt_N en) (rt_I rg) _ (rt_M fw') (rt_M sl') := ⟨hc.1, hF, so⟩
    refine xw_prop hK ?_
    intro y pl' hs
    unfold wpY_best
    refine ys_so hc hF (fun la' le' _ _ => br_f (by decide) ?_) (fun la' le' z => absurd so z)
    refine yf_fi hc (by omega) hK (rl_kn hkn hF so) ?_
    intro bp' la'' le'' pn' hs'
    exact ⟨it_eq.mpr (se_uniq hs' hs).1, rl_m4 hc (rl_K1 hc hF so hs')⟩
  · unfold wpY_best
    exact ys_so hc hF (fun la' le' _ z => absurd z so) (fun la' le' _ => br_t rfl ⟨rfl, rl_m4 hc hkn⟩)
theorem i_vc_lag {k : Nat} {u : SX} {v : SY} (I : i_Rel k u v) (hk : k + 4 ≤ 2049) (v1 : Int32) : wpX_lag (fun r u' => wpY_lag (fun r' v' => r' = r ∧ i_Rel (k + 4) u' v') v v1) u v1 := by
  obtain ⟨n, m, dl, st, en, rg, fw, sl, pl, la, le, pn, re, kn, bp, rfl, rfl, hc, hkn⟩ := I
  have hn := hc.1.1.2.1
  unfold wpX_lag
  refine xi_blk hn (fun b => br_f (by decide) ?_) (fun b => br_t rfl ?_)
  · refine xm_ways hc (by omega) (by omega) ?_
    intro fw' sl' hF
    refine xe_cir hn (fun so => br_f (by decide) ?_) (fun so => br_t rfl ?_)
    · have hK : rb_K n m (rt_I dl) (rt_N st) (rt_N en) (rt_I rg) _ (rt_M fw') (rt_M sl') := ⟨hc.1, hF, so⟩
      refine xw_prop hK ?_
      intro y pl' hs
      obtain ⟨j, hj, rfl⟩ := b
      have cj : (nI j).toNatClampNeg = j := nI_clamp (by omega)
      have vj : vp_in (nI j) 5 := vp_in_nI (by omega) (by omega)
      refine ⟨vj, ?_⟩
      unfold wpY_lag
      refine yi_blk hn (fun _ => br_f (by decide) ?_) (fun z => absurd ⟨j, hj, rfl⟩ z)
      refine ys_so hc hF (fun la' le' _ _ => br_f (by decide) ?_) (fun la' le' z => absurd so z)
      refine yf_fi hc (by omega) hK (rl_kn hkn hF so) ?_
      intro bp' la'' le'' pn' hs'
      refine ⟨vj, ?_, rl_m4 hc (rl_K1 hc hF so hs')⟩
      rw [cj]
      exact it_eq.mpr ((se_uniq hs' hs).2 j hj)
    · unfold wpY_lag
      refine yi_blk hn (fun _ => br_f (by decide) ?_) (fun z => absurd b z)
      exact ys_so hc hF (fun la' le' _ z => absurd z so) (fun la' le' _ => br_t rfl ⟨rfl, rl_m4 hc hkn⟩)
  · unfold wpY_lag
    exact yi_blk hn (fun z => absurd z b) (fun _ => br_t rfl ⟨rfl, rl_m4 hc hkn⟩)
theorem i_vc_reachable {k : Nat} {u : SX} {v : SY} (I : i_Rel k u v) (hk : k + 4 ≤ 2049) (v1 : Int32) : wpX_reachable (fun r u' => wpY_reachable (fun r' v' => r' = r ∧ i_Rel (k + 4) u' v') v v1) u v1 := by
  obtain ⟨n, m, dl, st, en, rg, fw, sl, pl, la, le, pn, re, kn, bp, rfl, rfl, hc, hkn⟩ := I
  have hn := hc.1.1.2.1
  unfold wpX_reachable
  refine xm_ways hc (by omega) (by omega) ?_
  intro fw' sl' hF
  refine xe_cir hn (fun so => br_f (by decide) ?_) (fun so => br_t rfl ?_)
  · have hK : rb_K n m (rt_I dl) (rt_N st) (rt_N en) (rt_I rg) _ (rt_M fw') (rt_M sl') := ⟨hc.1, hF, so⟩
    have hW : ∀ a b, a < n → b < n → 0 ≤ rt_M fw' a b ∧ (rt_M fw' a b ≠ 1000000 → rt_M fw' a b ≤ 256000) := fun a b ha hb => ⟨(hF.1 a b ha hb).1, fun q => ((hF.1 a b ha hb).2.2 q).1⟩
    refine xw_for hn hW ?_ ?_
    · intro pl' hd hG
      refine br_f (by decide) ?_
      unfold wpY_reachable
      refine ys_so hc hF (fun la' le' _ _ => br_f (by decide) ?_) (fun la' le' z => absurd so z)
      refine yf_fi hc (by omega) hK (rl_kn hkn hF so) ?_
      intro bp' la'' le'' pn' hs'
      refine br_f (fun z => ?_) ⟨rfl, rl_m4 hc (rl_K1 hc hF so hs')⟩
      have := hs'.2.2.1 (rt_I pl') v1.toInt hG.2.1 ⟨hd, hG.1⟩
      rw [it_lt] at z
      omega
    · intro pl' no
      refine br_t rfl ?_
      unfold wpY_reachable
      refine ys_so hc hF (fun la' le' _ _ => br_f (by decide) ?_) (fun la' le' z => absurd so z)
      refine yf_fi hc (by omega) hK (rl_kn hkn hF so) ?_
      intro bp' la'' le'' pn' hs'
      refine br_t ?_ ⟨rfl, rl_m4 hc (rl_K1 hc hF so hs')⟩
      apply Classical.byContradiction
      intro z
      rw [it_lt] at z
      exact no (rt_I pn') (fun v hv => (hs'.2.1 v hv).2) (bf_mono (by omega) hs'.1)
  · unfold wpY_reachable
    exact ys_so hc hF (fun la' le' _ z => absurd z so) (fun la' le' _ => br_t rfl ⟨rfl, rl_m4 hc hkn⟩)
theorem i_vc_apply {k : Nat} {u : SX} {v : SY} (I : i_Rel k u v) (hk : k + 4 ≤ 2049) : wpX_apply (fun r u' => wpY_apply (fun r' v' => r' = r ∧ i_Rel (k + 4) u' v') v) u := by
  obtain ⟨n, m, dl, st, en, rg, fw, sl, pl, la, le, pn, re, kn, bp, rfl, rfl, hc, hkn⟩ := I
  have hn := hc.1.1.2.1
  unfold wpX_apply
  refine xm_ways hc (by omega) (by omega) ?_
  intro fw' sl' hF
  refine xe_cir hn (fun so => br_f (by decide) ?_) (fun so => br_t rfl ?_)
  · have hK : rb_K n m (rt_I dl) (rt_N st) (rt_N en) (rt_I rg) _ (rt_M fw') (rt_M sl') := ⟨hc.1, hF, so⟩
    refine xw_prop hK ?_
    intro y pl' hs
    refine xa_app hc ?_
    unfold wpY_apply
    refine ys_so hc hF (fun la' le' _ _ => br_f (by decide) ?_) (fun la' le' z => absurd so z)
    refine yf_fi hc (by omega) hK (rl_kn hkn hF so) ?_
    intro bp' la'' le'' pn' hs'
    refine ya_app (pl := pl') hc (fun v hv => it_eq.mpr ((se_uniq hs' hs).2 v hv)) ⟨rfl, rl_mk ?_ (Or.inl rfl)⟩
    exact rl_up (by omega) (ap_C hc (by omega) hF hs)
  · unfold wpY_apply
    exact ys_so hc hF (fun la' le' _ z => absurd z so) (fun la' le' _ => br_t rfl ⟨rfl, rl_m4 hc hkn⟩)
theorem i_vc_registers {k : Nat} {u : SX} {v : SY} (I : i_Rel k u v) (hk : k + 4 ≤ 2049) (v1 : Int32) : wpX_registers (fun r => wpY_registers (fun r' => r' = r ∧ i_Rel (k + 4) u v) v v1) u v1 := by
  obtain ⟨n, m, dl, st, en, rg, fw, sl, pl, la, le, pn, re, kn, bp, rfl, rfl, hc, hkn⟩ := I
  have hm := hc.1.1.2.2
  unfold wpX_registers
  refine xi_wir hm (fun b => br_f (by decide) ?_) (fun b => br_t rfl ?_)
  · obtain ⟨i, hi, rfl⟩ := b
    have vi : vp_in (nI i) 12 := vp_in_nI (by omega) (by omega)
    refine ⟨vi, bk_c (n := m) (by omega) (fun _ => ⟨vi, rfl, rl_m4 hc hkn⟩) (fun z => absurd ⟨i, hi, rfl⟩ z) (fun z => absurd ⟨i, hi, rfl⟩ z)⟩
  · exact bk_c (n := m) (by omega) (fun z => absurd z b) (fun _ => ⟨rfl, rl_m4 hc hkn⟩) (fun _ => ⟨rfl, rl_m4 hc hkn⟩)
theorem i_vc_fewest {k : Nat} {u : SX} {v : SY} (I : i_Rel k u v) (hk : k + 4 ≤ 2049) (v1 : Int32) (v2 : Int32) : wpX_fewest (fun r u' => wpY_fewest (fun r' v' => r' = r ∧ i_Rel (k + 4) u' v') v v1 v2) u v1 v2 := by
  obtain ⟨n, m, dl, st, en, rg, fw, sl, pl, la, le, pn, re, kn, bp, rfl, rfl, hc, hkn⟩ := I
  have hn := hc.1.1.2.1
  unfold wpX_fewest
  refine xi_blk hn (fun b1 => br_f (by decide) ?_) (fun b1 => br_t rfl ?_)
  · refine xi_blk hn (fun b2 => br_f (by decide) ?_) (fun b2 => br_t rfl ?_)
    · refine xm_ways hc (by omega) (by omega) ?_
      intro fw' sl' hF
      obtain ⟨a, ha, rfl⟩ := b1
      obtain ⟨b, hb, rfl⟩ := b2
      have cp : (nI (a * 5 + b)).toNatClampNeg = a * 5 + b := nI_clamp (by omega)
      refine xp_pr a b ⟨vp_in_nI (by omega) (by omega), nm_r (e' := fw' (a * 5 + b)) (by rw [cp]) ?_⟩
      have both : (rt_M fw' a b = 1000000 ∨ rt_M fw' a b ≠ 1000000) := Classical.em _
      refine br_c (fun c => ?_) (fun c => ?_)
      · have c' : rt_M fw' a b = 1000000 := it_eq.mp c
        unfold wpY_fewest
        refine yi_blk hn (fun _ => br_f (by decide) (yi_blk hn (fun _ => br_f (by decide) ?_) (fun z => absurd ⟨b, hb, rfl⟩ z))) (fun z => absurd ⟨a, ha, rfl⟩ z)
        exact yr_few hc (by omega) ha hb hF (fun re' _ => ⟨rfl, rl_m4 hc hkn⟩) (fun y re' z => absurd c' z)
      · have c' : rt_M fw' a b ≠ 1000000 := fun z => c (it_eq.mpr z)
        unfold wpY_fewest
        refine yi_blk hn (fun _ => br_f (by decide) (yi_blk hn (fun _ => br_f (by decide) ?_) (fun z => absurd ⟨b, hb, rfl⟩ z))) (fun z => absurd ⟨a, ha, rfl⟩ z)
        exact yr_few hc (by omega) ha hb hF (fun re' z => absurd z c') (fun y re' _ ey => ⟨it_eq.mpr ey, rl_m4 hc hkn⟩)
    · unfold wpY_fewest
      exact yi_blk hn (fun _ => br_f (by decide) (yi_blk hn (fun z => absurd z b2) (fun _ => br_t rfl ⟨rfl, rl_m4 hc hkn⟩))) (fun z => absurd b1 z)
  · unfold wpY_fewest
    exact yi_blk hn (fun z => absurd z b1) (fun _ => br_t rfl ⟨rfl, rl_m4 hc hkn⟩)
