theorem i_vc_combine {k : Nat} {u : SX} {v : SY} (I : i_Rel k u v) (hk : k + 5 ≤ 2560) (v1 : Int32) (v2 : Int32) (v3 : Int32) (v4 : Int32) : wpX_combine (fun r u' => wpY_combine (fun r' v' => r' = r ∧ i_Rel (k + 5) u' v') v v1 v2 v3 v4) u v1 v2 v3 v4 := by
  obtain ⟨ai, ac, am⟩ := u
  obtain ⟨f, bi, bc, br⟩ := v
  obtain ⟨c, R⟩ := I
  have R : jt_R ai ac bi bc c := R
  unfold wpX_combine wpY_combine
  rcases pk_ix v1 (n := 4) (by decide) with h0 | h4 | ⟨h, hh, e⟩
  · exact br_t h0 (br_t h0 (And.intro rfl (jt_rel ⟨c, R⟩)))
  · have h4' : (4 : Int32) ≤ v1 := h4
    have h0 : ¬ v1 < 0 := Int32.not_lt.mpr (Int32.le_trans (by decide) h4')
    have h3 : 3 < v1 := Int32.lt_of_lt_of_le (by decide) h4'
    exact br_f h0 (br_t h3 (br_f h0 (br_t h3 (And.intro rfl (jt_rel ⟨c, R⟩)))))
  · subst e
    have h0 : ¬ nI h < 0 := nI_pos (by omega)
    have h3 : ¬ (3 : Int32) < nI h := nI_nlt (a := 3) (by omega) (by decide)
    refine br_f h0 (br_f h3 ?_)
    rcases jt_cases v2 with hb | ⟨d, hd, e⟩
    · exact jx_isF hb (br_t rfl (br_f h0 (br_f h3 (jy_isF hb (br_t rfl (And.intro rfl (jt_rel ⟨c, R⟩)))))))
    · subst e
      refine jx_isT hd (br_f (by decide) ?_)
      rcases jt_cases v3 with hb | ⟨a, ha, e⟩
      · exact jx_isF hb (br_t rfl (br_f h0 (br_f h3 (jy_isT hd (br_f (by decide) (jy_isF hb (br_t rfl (And.intro rfl (jt_rel ⟨c, R⟩)))))))))
      · subst e
        refine jx_isT ha (br_f (by decide) ?_)
        rcases jt_cases v4 with hb | ⟨b, hb, e⟩
        · exact jx_isF hb (br_t rfl (br_f h0 (br_f h3 (jy_isT hd (br_f (by decide) (jy_isT ha (br_f (by decide) (jy_isF hb (br_t rfl (And.intro rfl (jt_rel ⟨c, R⟩)))))))))))
        · subst e
          obtain ⟨aac, abc, a20, aS, aP⟩ := R a ha
          obtain ⟨bac, bbc, b20, bS, bP⟩ := R b hb
          refine jx_isT hb (br_f (by decide) (jx_merge h ha hb aac bac a20 b20 hh aS bS (fun m n h40 hm => ?_)))
          by_cases n20 : n ≤ 20
          · refine br_t (nI_le (b := 20) n20 (by decide)) (jx_take hd n20 (fun a' hX => ?_))
            refine br_f h0 (br_f h3 (jy_isT hd (br_f (by decide) (jy_isT ha (br_f (by decide) (jy_isT hb (br_f (by decide) ?_)))))))
            refine jy_co 0 ha ha hb hh abc abc bbc a20 a20 b20 List.nodup_nil (by omega) (fun f1 r1 h1 => ?_)
            have q1 := h1.1
            rw [jt_len] at q1
            refine jy_co f1 hb ha hb hh bbc abc bbc b20 a20 b20 h1.2.1 (by omega) (fun f2 r2 h2 => ?_)
            have hP2 := jt_comb hm aP bP rfl rfl h1 h2
            have ef := jt_lenP hP2
            subst ef
            exact br_t (nI_le (b := 20) n20 (by decide)) (jy_st hd n20 (fun b' hY => And.intro rfl (jt_rel (jt_coR R n20 hm.1 hP2 hX hY))))
          · have g : ¬ nI n ≤ 20 := nI_ge (a := 20) (by omega) (by omega)
            refine br_f g ?_
            refine br_f h0 (br_f h3 (jy_isT hd (br_f (by decide) (jy_isT ha (br_f (by decide) (jy_isT hb (br_f (by decide) ?_)))))))
            refine jy_co 0 ha ha hb hh abc abc bbc a20 a20 b20 List.nodup_nil (by omega) (fun f1 r1 h1 => ?_)
            have q1 := h1.1
            rw [jt_len] at q1
            refine jy_co f1 hb ha hb hh bbc abc bbc b20 a20 b20 h1.2.1 (by omega) (fun f2 r2 h2 => ?_)
            have hP2 := jt_comb hm aP bP rfl rfl h1 h2
            have ef := jt_lenP hP2
            subst ef
            exact br_f g (And.intro rfl (jt_rel ⟨c, R⟩))
theorem i_vc_split {k : Nat} {u : SX} {v : SY} (I : i_Rel k u v) (hk : k + 5 ≤ 2560) (v1 : Int32) (v2 : Int32) (v3 : Int32) : wpX_split (fun r u' => wpY_split (fun r' v' => r' = r ∧ i_Rel (k + 5) u' v') v v1 v2 v3) u v1 v2 v3 := by
  obtain ⟨ai, ac, am⟩ := u
  obtain ⟨f, bi, bc, br⟩ := v
  obtain ⟨c, R⟩ := I
  have R : jt_R ai ac bi bc c := R
  unfold wpX_split wpY_split
  rcases jt_cases v1 with hb | ⟨s, hs, e⟩
  · exact jx_isF hb (br_t rfl (jy_isF hb (br_t rfl (And.intro rfl (jt_rel ⟨c, R⟩)))))
  · subst e
    refine jx_isT hs (br_f (by decide) ?_)
    rcases jt_cases v3 with hb | ⟨d, hd, e⟩
    · exact jx_isF hb (br_t rfl (jy_isT hs (br_f (by decide) (jy_isF hb (br_t rfl (And.intro rfl (jt_rel ⟨c, R⟩)))))))
    · subst e
      obtain ⟨hac, hbc, h20, hS, hP⟩ := R s hs
      refine jx_isT hd (br_f (by decide) (jx_small hs hac h20 v2 ?_))
      by_cases e : d = s
      · subst e
        refine br_t rfl (jx_cut 0 _ hs hac h20 (Nat.zero_le _) (jt_cntL _ _ _ _) (fun a' hC => And.intro (jt_sv hs) ?_))
        refine jy_isT hs (br_f (by decide) (jy_isT hs (br_f (by decide) (jy_sp hs hs hbc h20 v2 (fun f1 r1 k1 b' b'' hf hr hF hD => ?_)))))
        obtain ⟨ef, hR⟩ := jt_spS R hs rfl hC hr hF hD
        refine And.intro ?_ (jt_rel hR)
        rw [jt_sc hs, pk_us, ef]
      · have ne : ¬ nI d = nI s := fun q => e ((nI_eq (by omega) (by omega)).mp q)
        refine br_f ne (jx_tail hs hd (fun q => e q.symm) hac h20 (jt_cntL _ _ _ _) (fun a' hC => And.intro (jt_sv hd) ?_))
        refine jy_isT hs (br_f (by decide) (jy_isT hd (br_f (by decide) (jy_sp hs hd hbc h20 v2 (fun f1 r1 k1 b' b'' hf hr hF hD => ?_)))))
        obtain ⟨ef, hR⟩ := jt_spD R hs hd (fun q => e q.symm) rfl hC hr hF hD
        refine And.intro ?_ (jt_rel hR)
        rw [jt_sc hd, pk_un e, pk_us, ef]
theorem i_vc_removeRange {k : Nat} {u : SX} {v : SY} (I : i_Rel k u v) (hk : k + 5 ≤ 2560) (v1 : Int32) (v2 : Int32) (v3 : Int32) : wpX_removeRange (fun r u' => wpY_removeRange (fun r' v' => r' = r ∧ i_Rel (k + 5) u' v') v v1 v2 v3) u v1 v2 v3 := by
  obtain ⟨ai, ac, am⟩ := u
  obtain ⟨f, bi, bc, br⟩ := v
  obtain ⟨c, R⟩ := I
  have R : jt_R ai ac bi bc c := R
  unfold wpX_removeRange
  rcases jt_cases v1 with hb | ⟨s, hs, e⟩
  · exact jx_isF hb (br_t rfl (jy_rrN hb (And.intro rfl (jt_rel ⟨c, R⟩))))
  · subst e
    obtain ⟨hac, hbc, h20, hS, hP⟩ := R s hs
    refine jx_isT hs (br_f (by decide) ?_)
    by_cases hl : v2 ≤ v3
    · have fin : ∀ to, to = (jt_sg ai (s * 20) (c s)).countP (jt_le v3) → wX_removeRange_46 (fun r u' => wpY_removeRange (fun r' v' => r' = r ∧ i_Rel (k + 5) u' v') (f, bi, bc, br) (nI s) v2 v3) (nI s) (nI ((jt_sg ai (s * 20) (c s)).countP (jt_l v2))) (nI to) ai ac am := by
        intro to et
        have hft : (jt_sg ai (s * 20) (c s)).countP (jt_l v2) ≤ to := by
          rw [et]
          exact List.countP_mono_left (fun y _ hy => jt_lei.mpr (Int32.le_of_lt (Int32.lt_of_lt_of_le (jt_li.mp hy) hl)))
        have htc : to ≤ c s := by
          rw [et]
          exact jt_cntL _ _ _ _
        unfold wX_removeRange_46
        refine jx_cut _ _ hs hac h20 hft htc (fun a' hC => jy_rr hs hbc h20 v2 v3 (fun k' b' hF => ?_))
        obtain ⟨ek, hR⟩ := jt_rem R hs hl rfl et hC hF
        refine And.intro ?_ (jt_rel hR)
        rw [pk_sub hft]
        exact congrArg nI (by omega)
      refine br_t hl (jx_small hs hac h20 v2 (jx_small hs hac h20 v3 (jx_holdL hs hac h20 hS v3 (fun hx => ?_) (fun hx => ?_))))
      · exact br_f (by decide) (nm_r (nI_1 _) (fin _ (jt_cle1 hS hx).symm))
      · exact br_t rfl (fin _ (jt_cle0 hS hx).symm)
    · refine br_f hl (jy_rr hs hbc h20 v2 v3 (fun k' b' hF => ?_))
      obtain ⟨ek, hR⟩ := jt_remN R hs (fun y hy => jt_outi.mpr ((Int32.lt_or_le y v2).imp id (fun q => Int32.lt_of_lt_of_le (Int32.not_le.mp hl) q))) hF
      have e1 : nI (c s - k') = 0 := by
        rw [show c s - k' = 0 by omega]
        rfl
      exact And.intro e1 (jt_rel hR)
theorem i_vc_same {k : Nat} {u : SX} {v : SY} (I : i_Rel k u v) (hk : k + 5 ≤ 2560) (v1 : Int32) (v2 : Int32) : wpX_same (fun r u' => wpY_same (fun r' => r' = r ∧ i_Rel (k + 5) u' v) v v1 v2) u v1 v2 := by
  obtain ⟨ai, ac, am⟩ := u
  obtain ⟨f, bi, bc, br⟩ := v
  obtain ⟨c, R⟩ := I
  have R : jt_R ai ac bi bc c := R
  unfold wpX_same wpY_same
  rcases jt_cases v1 with hb | ⟨a, ha, e⟩
  · exact jx_isF hb (br_t rfl (jy_wiN1 hb (br_t rfl (And.intro rfl (jt_rel ⟨c, R⟩)))))
  · subst e
    refine jx_isT ha (br_f (by decide) ?_)
    rcases jt_cases v2 with hb | ⟨b, hb, e⟩
    · exact jx_isF hb (br_t rfl (jy_wiN2 ha hb (br_t rfl (And.intro rfl (jt_rel ⟨c, R⟩)))))
    · subst e
      obtain ⟨aac, abc, a20, aS, aP⟩ := R a ha
      obtain ⟨bac, bbc, b20, bS, bP⟩ := R b hb
      refine jx_isT hb (br_f (by decide) (jx_merge 3 ha hb aac bac a20 b20 (by decide) aS bS (fun m n h40 hm => ?_)))
      have hz := jt_eith hm
      rw [jt_len] at hz
      by_cases hn : n = 0
      · have h2 := hz.mp hn
        subst hn
        refine br_t rfl (jy_wi ha hb abc bbc a20 b20 (fun _ => br_f (by decide) (jy_wi hb ha bbc abc b20 a20 (fun _ => br_f (by decide) (And.intro rfl (jt_rel ⟨c, R⟩))) (fun q => absurd ?_ q))) (fun q => absurd ?_ q))
        · exact fun z y => aP.mem_iff.mpr (h2.2 z (bP.mem_iff.mp y))
        · exact fun z y => bP.mem_iff.mpr (h2.1 z (aP.mem_iff.mp y))
      · refine br_f (nI_ne0 (by omega) (by omega)) (jy_wi ha hb abc bbc a20 b20 (fun q1 => br_f (by decide) (jy_wi hb ha bbc abc b20 a20 (fun q2 => absurd (hz.mpr ⟨?_, ?_⟩) hn) (fun _ => br_t rfl (And.intro rfl (jt_rel ⟨c, R⟩))))) (fun _ => br_t rfl (And.intro rfl (jt_rel ⟨c, R⟩))))
        · exact fun z y => bP.mem_iff.mp (q1 z (aP.mem_iff.mpr y))
        · exact fun z y => aP.mem_iff.mp (q2 z (bP.mem_iff.mpr y))
theorem i_vc_within {k : Nat} {u : SX} {v : SY} (I : i_Rel k u v) (hk : k + 5 ≤ 2560) (v1 : Int32) (v2 : Int32) : wpX_within (fun r u' => wpY_within (fun r' => r' = r ∧ i_Rel (k + 5) u' v) v v1 v2) u v1 v2 := by
  obtain ⟨ai, ac, am⟩ := u
  obtain ⟨f, bi, bc, br⟩ := v
  obtain ⟨c, R⟩ := I
  have R : jt_R ai ac bi bc c := R
  unfold wpX_within
  rcases jt_cases v1 with hb | ⟨a, ha, e⟩
  · exact jx_isF hb (br_t rfl (jy_wiN1 hb (And.intro rfl (jt_rel ⟨c, R⟩))))
  · subst e
    refine jx_isT ha (br_f (by decide) ?_)
    rcases jt_cases v2 with hb | ⟨b, hb, e⟩
    · exact jx_isF hb (br_t rfl (jy_wiN2 ha hb (And.intro rfl (jt_rel ⟨c, R⟩))))
    · subst e
      obtain ⟨aac, abc, a20, aS, aP⟩ := R a ha
      obtain ⟨bac, bbc, b20, bS, bP⟩ := R b hb
      refine jx_isT hb (br_f (by decide) (jx_merge 2 ha hb aac bac a20 b20 (by decide) aS bS (fun m n h40 hm => ?_)))
      have hz := jt_less hm
      rw [jt_len] at hz
      by_cases hn : n = 0
      · have h2 := hz.mp hn
        subst hn
        refine br_t rfl (jy_wi ha hb abc bbc a20 b20 (fun _ => And.intro rfl (jt_rel ⟨c, R⟩)) (fun q => absurd ?_ q))
        exact fun z y => bP.mem_iff.mpr (h2 z (aP.mem_iff.mp y))
      · refine br_f (nI_ne0 (by omega) (by omega)) (jy_wi ha hb abc bbc a20 b20 (fun q1 => absurd (hz.mpr ?_) hn) (fun _ => And.intro rfl (jt_rel ⟨c, R⟩)))
        exact fun z y => bP.mem_iff.mp (q1 z (aP.mem_iff.mpr y))
theorem i_vc_ceiling {k : Nat} {u : SX} {v : SY} (I : i_Rel k u v) (hk : k + 5 ≤ 2560) (v1 : Int32) (v2 : Int32) : wpX_ceiling (fun r => wpY_ceiling (fun r' => r' = r ∧ i_Rel (k + 5) u v) v v1 v2) u v1 v2 := by
  obtain ⟨ai, ac, am⟩ := u
  obtain ⟨f, bi, bc, br⟩ := v
  obtain ⟨c, R⟩ := I
  have R : jt_R ai ac bi bc c := R
  unfold wpX_ceiling wpY_ceiling
  rcases jt_cases v1 with hb | ⟨s, hs, e⟩
  · exact jx_isF hb (br_t rfl (jy_isF hb (br_t rfl (And.intro rfl (jt_rel ⟨c, R⟩)))))
  · subst e
    obtain ⟨hac, hbc, h20, hS, hP⟩ := R s hs
    have hl := jt_cntL (jt_l v2) ai (s * 20) (c s)
    have lX : ac (nI s).toNatClampNeg ≤ nI ((jt_sg ai (s * 20) (c s)).countP (jt_l v2)) ↔ c s ≤ (jt_sg ai (s * 20) (c s)).countP (jt_l v2) := by
      rw [jt_sc hs, hac]
      exact nI_leI (by omega) (by omega)
    have ek : (jt_sg bi (s * 20) (c s)).countP (jt_l v2) = (jt_sg ai (s * 20) (c s)).countP (jt_l v2) := hP.countP_eq _
    have lY : bc (nI s).toNatClampNeg ≤ nI ((jt_sg bi (s * 20) (c s)).countP (jt_l v2)) ↔ c s ≤ (jt_sg ai (s * 20) (c s)).countP (jt_l v2) := by
      rw [jt_sc hs, hbc, ek]
      exact nI_leI (by omega) (by omega)
    refine jx_isT hs (br_f (by decide) (jx_small hs hac h20 v2 (And.intro (jt_sv hs) ?_)))
    by_cases hk2 : c s ≤ (jt_sg ai (s * 20) (c s)).countP (jt_l v2)
    · exact br_t (lX.mpr hk2) (jy_isT hs (br_f (by decide) (jy_rank hs hbc h20 v2 (And.intro (jt_sv hs) (br_t (lY.mpr hk2) (And.intro rfl (jt_rel ⟨c, R⟩)))))))
    · exact br_f (fun q => hk2 (lX.mp q)) (jy_isT hs (br_f (by decide) (jy_rank hs hbc h20 v2 (And.intro (jt_sv hs) (br_f (fun q => hk2 (lY.mp q)) (And.intro (congrArg nI ek) (jt_rel ⟨c, R⟩)))))))
theorem i_vc_clear {k : Nat} {u : SX} {v : SY} (I : i_Rel k u v) (hk : k + 5 ≤ 2560) (v1 : Int32) : wpX_clear (fun r u' => wpY_clear (fun r' v' => r' = r ∧ i_Rel (k + 5) u' v') v v1) u v1 := by
  obtain ⟨ai, ac, am⟩ := u
  obtain ⟨f, bi, bc, br⟩ := v
  obtain ⟨c, R⟩ := I
  have R : jt_R ai ac bi bc c := R
  unfold wpX_clear wpY_clear
  rcases jt_cases v1 with hb | ⟨s, hs, e⟩
  · exact jx_isF hb (br_t rfl (jy_isF hb (br_t rfl (And.intro rfl (jt_rel ⟨c, R⟩)))))
  · subst e
    obtain ⟨hac, hbc, h20, hS, hP⟩ := R s hs
    have e1 : ac (nI s).toNatClampNeg = nI (c s) := by rw [jt_sc hs, hac]
    have e2 : upd ac (nI s).toNatClampNeg 0 = upd ac s 0 := by rw [jt_sc hs]
    have e3 : bc (nI s).toNatClampNeg = nI (c s) := by rw [jt_sc hs, hbc]
    have e4 : upd bc (nI s).toNatClampNeg 0 = upd bc s 0 := by rw [jt_sc hs]
    exact jx_isT hs (br_f (by decide) (And.intro (jt_sv hs) (nm_r e1 (And.intro (jt_sv hs) (nm_r e2 (jy_isT hs (br_f (by decide) (And.intro (jt_sv hs) (nm_r e3 (And.intro (jt_sv hs) (nm_r e4 (And.intro rfl (jt_rel (jt_clR R s))))))))))))))
