theorem i_vc_add {k : Nat} {u : SX} {v : SY} (I : i_Rel k u v) (hk : k + 5 ≤ 2560) (v1 : Int32) (v2 : Int32) : wpX_add (fun r u' => wpY_add (fun r' v' => r' = r ∧ i_Rel (k + 5) u' v') v v1 v2) u v1 v2 := by
  obtain ⟨ai, ac, am⟩ := u
  obtain ⟨f, bi, bc, br⟩ := v
  obtain ⟨c, R⟩ := I
  have R : jt_R ai ac bi bc c := R
  unfold wpX_add wpY_add
  rcases jt_cases v1 with hb | ⟨s, hs, e⟩
  · exact jx_isF hb (br_t rfl (jy_isF hb (br_t rfl (And.intro rfl (jt_rel ⟨c, R⟩)))))
  · subst e
    obtain ⟨hac, hbc, h20, hS, hP⟩ := R s hs
    refine jx_isT hs (br_f (by decide) (jx_small hs hac h20 v2 (jx_holdL hs hac h20 hS v2 (fun hx => ?_) (fun hx => ?_))))
    · refine br_f (by decide) (jy_isT hs (br_f (by decide) (jy_has hs hbc h20 v2 (fun _ => ?_) (fun hn => absurd (hP.mem_iff.mpr hx) hn))))
      exact br_f (by decide) (And.intro rfl (jt_rel ⟨c, R⟩))
    · have hnM : ¬ v2 ∈ jt_sg bi (s * 20) (c s) := fun q => hx (hP.mem_iff.mp q)
      have lt20 : ac (nI s).toNatClampNeg < 20 ↔ c s < 20 := by
        rw [jt_sc hs, hac]
        exact nI_ltI (b := 20) (by omega) (by decide)
      have eq20 : bc (nI s).toNatClampNeg = 20 ↔ c s = 20 := by
        rw [jt_sc hs, hbc]
        exact nI_eq (b := 20) (by omega) (by decide)
      by_cases h19 : c s < 20
      · refine br_t rfl (And.intro (jt_sv hs) (br_t (lt20.mpr h19) (jx_ins hs hac h19 (jt_cntL _ _ _ _) v2 (fun a' hI => ?_))))
        have e1 : upd bi (nI s * 20 + bc (nI s).toNatClampNeg).toNatClampNeg v2 = upd bi (s * 20 + c s) v2 := by rw [jt_sc hs, hbc, jt_ixc (by omega)]
        have e2 : upd bc (nI s).toNatClampNeg (bc (nI s).toNatClampNeg + 1) = upd bc s (nI (c s + 1)) := by rw [jt_sc hs, hbc, nI_1]
        have vx : vp_in (nI s * 20 + bc (nI s).toNatClampNeg) 80 := by
          rw [jt_sc hs, hbc]
          exact jt_ixv (by omega)
        have n20 : ¬ bc (nI s).toNatClampNeg = 20 := fun q => by
          have := eq20.mp q
          omega
        exact jy_isT hs (br_f (by decide) (jy_has hs hbc h20 v2 (fun q => absurd q hnM) (fun _ => br_t rfl (And.intro (jt_sv hs) (br_f n20 (And.intro (jt_sv hs) (And.intro vx (nm_r e1 (And.intro (jt_sv hs) (And.intro (jt_sv hs) (nm_r e2 (And.intro rfl (jt_rel (jt_insR R hs h19 hx rfl hI))))))))))))))
      · refine br_t rfl (And.intro (jt_sv hs) (br_f (fun q => h19 (lt20.mp q)) ?_))
        exact jy_isT hs (br_f (by decide) (jy_has hs hbc h20 v2 (fun q => absurd q hnM) (fun _ => br_t rfl (And.intro (jt_sv hs) (br_t (eq20.mpr (by omega)) (And.intro rfl (jt_rel ⟨c, R⟩)))))))
theorem i_vc_remove {k : Nat} {u : SX} {v : SY} (I : i_Rel k u v) (hk : k + 5 ≤ 2560) (v1 : Int32) (v2 : Int32) : wpX_remove (fun r u' => wpY_remove (fun r' v' => r' = r ∧ i_Rel (k + 5) u' v') v v1 v2) u v1 v2 := by
  obtain ⟨ai, ac, am⟩ := u
  obtain ⟨f, bi, bc, br⟩ := v
  obtain ⟨c, R⟩ := I
  have R : jt_R ai ac bi bc c := R
  unfold wpX_remove wpY_remove
  rcases jt_cases v1 with hb | ⟨s, hs, e⟩
  · exact jx_isF hb (br_t rfl (jy_rrN hb (And.intro rfl (jt_rel ⟨c, R⟩))))
  · subst e
    obtain ⟨hac, hbc, h20, hS, hP⟩ := R s hs
    refine jx_isT hs (br_f (by decide) (jx_small hs hac h20 v2 (jx_holdL hs hac h20 hS v2 (fun hx => ?_) (fun hx => ?_))))
    · have hle := (jt_cle1 hS hx).symm
      have htc := jt_cntL (jt_le v2) ai (s * 20) (c s)
      rw [← hle] at htc
      refine br_f (by decide) ?_
      rw [nI_1 (List.countP (jt_l v2) (jt_sg ai (s * 20) (c s)))]
      refine jx_cut _ _ hs hac h20 (Nat.le_succ _) htc (fun a' hC => jy_rr hs hbc h20 v2 v2 (fun k' b' hF => ?_))
      obtain ⟨ek, hR⟩ := jt_rem R hs (Int32.le_refl v2) rfl hle hC hF
      have e1 : nI (c s - k') = 1 := by
        rw [show c s - k' = 1 by omega]
        rfl
      exact And.intro e1 (jt_rel hR)
    · refine br_t rfl (jy_rr hs hbc h20 v2 v2 (fun k' b' hF => ?_))
      obtain ⟨ek, hR⟩ := jt_remN R hs (fun y hy => jt_outi.mpr (Int32.lt_or_lt_of_ne (fun q => hx (by rw [← q]; exact hy)))) hF
      have e1 : nI (c s - k') = 0 := by
        rw [show c s - k' = 0 by omega]
        rfl
      exact And.intro e1 (jt_rel hR)
theorem i_vc_has {k : Nat} {u : SX} {v : SY} (I : i_Rel k u v) (hk : k + 5 ≤ 2560) (v1 : Int32) (v2 : Int32) : wpX_has (fun r => wpY_has (fun r' => r' = r ∧ i_Rel (k + 5) u v) v v1 v2) u v1 v2 := by
  obtain ⟨ai, ac, am⟩ := u
  obtain ⟨f, bi, bc, br⟩ := v
  obtain ⟨c, R⟩ := I
  have R : jt_R ai ac bi bc c := R
  unfold wpX_has
  rcases jt_cases v1 with hb | ⟨s, hs, e⟩
  · exact jx_isF hb (br_t rfl (jy_hasN hb (And.intro rfl (jt_rel ⟨c, R⟩))))
  · subst e
    obtain ⟨hac, hbc, h20, hS, hP⟩ := R s hs
    refine jx_isT hs (br_f (by decide) (jx_small hs hac h20 v2 (jx_holdL hs hac h20 hS v2 (fun hx => And.intro rfl ?_) (fun hx => And.intro rfl ?_))))
    · exact jy_has hs hbc h20 v2 (fun _ => And.intro rfl (jt_rel ⟨c, R⟩)) (fun hn => absurd (hP.mem_iff.mpr hx) hn)
    · exact jy_has hs hbc h20 v2 (fun hn => absurd (hP.mem_iff.mp hn) hx) (fun _ => And.intro rfl (jt_rel ⟨c, R⟩))
theorem i_vc_size {k : Nat} {u : SX} {v : SY} (I : i_Rel k u v) (hk : k + 5 ≤ 2560) (v1 : Int32) : wpX_size (fun r => wpY_size (fun r' => r' = r ∧ i_Rel (k + 5) u v) v v1) u v1 := by
  obtain ⟨ai, ac, am⟩ := u
  obtain ⟨f, bi, bc, br⟩ := v
  obtain ⟨c, R⟩ := I
  have R : jt_R ai ac bi bc c := R
  unfold wpX_size wpY_size
  rcases jt_cases v1 with hb | ⟨s, hs, e⟩
  · exact jx_isF hb (br_t rfl (jy_isF hb (br_t rfl (And.intro rfl (jt_rel ⟨c, R⟩)))))
  · subst e
    obtain ⟨hac, hbc, h20, hS, hP⟩ := R s hs
    have e1 : bc (nI s).toNatClampNeg = ac (nI s).toNatClampNeg := by rw [jt_sc hs, hac, hbc]
    exact jx_isT hs (br_f (by decide) (And.intro (jt_sv hs) (jy_isT hs (br_f (by decide) (And.intro (jt_sv hs) (And.intro e1 (jt_rel ⟨c, R⟩)))))))
theorem i_vc_at {k : Nat} {u : SX} {v : SY} (I : i_Rel k u v) (hk : k + 5 ≤ 2560) (v1 : Int32) (v2 : Int32) : wpX_at (fun r => wpY_at (fun r' => r' = r ∧ i_Rel (k + 5) u v) v v1 v2) u v1 v2 := by
  obtain ⟨ai, ac, am⟩ := u
  obtain ⟨f, bi, bc, br⟩ := v
  obtain ⟨c, R⟩ := I
  have R : jt_R ai ac bi bc c := R
  unfold wpX_at
  rcases jt_cases v1 with hb | ⟨s, hs, e⟩
  · exact jx_isF hb (br_t rfl (jy_atN hb (And.intro rfl (jt_rel ⟨c, R⟩))))
  · subst e
    obtain ⟨hac, hbc, h20, hS, hP⟩ := R s hs
    refine jx_isT hs (br_f (by decide) ?_)
    by_cases h0 : v2 < 0
    · refine br_t h0 (jy_at hs hbc h20 v2 0 (fun t ht q => ?_) (fun _ => rfl) (And.intro rfl (jt_rel ⟨c, R⟩)))
      rw [← q] at h0
      have hl := jt_cntL (jt_l (bi (s * 20 + t))) bi (s * 20) (c s)
      exact absurd h0 (nI_pos (by omega))
    · obtain ⟨j, hj, e⟩ := nI_of h0
      subst e
      have lt : nI j < ac (nI s).toNatClampNeg ↔ j < c s := by
        rw [jt_sc hs, hac]
        exact nI_ltI hj (by omega)
      refine br_f h0 (And.intro (jt_sv hs) ?_)
      by_cases hjc : j < c s
      · refine br_t (lt.mpr hjc) (And.intro (jt_ixv (by omega)) ?_)
        rw [jt_ixc (s := s) (k := j) (by omega)]
        refine jy_at hs hbc h20 (nI j) (ai (s * 20 + j)) (fun t ht q => ?_) (fun hall => ?_) (And.intro rfl (jt_rel ⟨c, R⟩))
        · have hl := jt_cntL (jt_l (bi (s * 20 + t))) bi (s * 20) (c s)
          exact ((jt_rkB hS hP ht).mp ((nI_eq (by omega) hj).mp q)).2.symm
        · obtain ⟨t, ht, e⟩ := jt_mem.mp (hP.mem_iff.mpr (jt_mem.mpr ⟨j, hjc, rfl⟩))
          exact absurd (congrArg nI ((jt_rkB hS hP ht).mpr ⟨hjc, e.symm⟩)) (hall t ht)
      · refine br_f (fun q => hjc (lt.mp q)) (jy_at hs hbc h20 (nI j) 0 (fun t ht q => ?_) (fun _ => rfl) (And.intro rfl (jt_rel ⟨c, R⟩)))
        have hl := jt_cntL (jt_l (bi (s * 20 + t))) bi (s * 20) (c s)
        exact absurd ((jt_rkB hS hP ht).mp ((nI_eq (by omega) hj).mp q)).1 hjc
theorem i_vc_rank {k : Nat} {u : SX} {v : SY} (I : i_Rel k u v) (hk : k + 5 ≤ 2560) (v1 : Int32) (v2 : Int32) : wpX_rank (fun r => wpY_rank (fun r' => r' = r ∧ i_Rel (k + 5) u v) v v1 v2) u v1 v2 := by
  obtain ⟨ai, ac, am⟩ := u
  obtain ⟨f, bi, bc, br⟩ := v
  obtain ⟨c, R⟩ := I
  have R : jt_R ai ac bi bc c := R
  unfold wpX_rank
  rcases jt_cases v1 with hb | ⟨s, hs, e⟩
  · exact jx_isF hb (br_t rfl (jy_rankN hb (And.intro rfl (jt_rel ⟨c, R⟩))))
  · subst e
    obtain ⟨hac, hbc, h20, hS, hP⟩ := R s hs
    refine jx_isT hs (br_f (by decide) (jx_small hs hac h20 v2 (jy_rank hs hbc h20 v2 (And.intro ?_ (jt_rel ⟨c, R⟩)))))
    rw [hP.countP_eq]
